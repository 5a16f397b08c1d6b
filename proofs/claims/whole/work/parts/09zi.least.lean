/-! the order with least wood -/
theorem zws_c {a : Nat → Int32} {o o' : Nat → Nat} : ∀ i, (∀ k, k < i → o' k = o k) → zwo a o' i = zwo a o i := by
  intro i
  induction i with
  | zero => intro _; rfl
  | succ i ih =>
    intro h
    unfold zwo
    rw [ih (fun k hk => h k (by omega)), h i (by omega), zhp_c i (fun k hk => h k (by omega))]
theorem zws_mono {a : Nat → Int32} {o : Nat → Nat} {i : Nat} : ∀ j, i ≤ j → zwo a o i ≤ zwo a o j := by
  intro j
  induction j with
  | zero => intro h; rw [show i = 0 by omega]; exact Nat.le_refl _
  | succ j ih =>
    intro h
    by_cases c : i = j + 1
    · rw [c]; exact Nat.le_refl _
    · have := ih (by omega)
      unfold zwo
      cases i with
      | zero => exact Nat.zero_le _
      | succ i => exact Nat.le_trans this (Nat.le_add_right _ _)
def zR2 (n : Nat) (S T : zSt) : Prop := ∃ w : Nat, w ≤ 9000 ∧ S.1 128 4 = nI w ∧ T.1 0 30 = nI w ∧ ∀ k, k < n → S.1 130 k = T.1 14 k
theorem kMAX : (2147483647 : Int32) = nI 2147483647 := rfl
theorem zs_least {a : Nat → Int32} {n : Nat} (B : zBd a n) : ∀ (e d1 d2 i s : Nat) (o : Nat → Nat) (S T : zSt), i + e = n → e < d1 → e < d2 → s < 512 → zct s n = i → zSx S a n i s o → T.1 1 = a → (∀ k, k < i → T.1 11 k = nI (o k) ∧ o k < n) → ((S.1 128 4 = 2147483647 ∧ T.1 0 30 = -1) ∨ zR2 n S T) → ∃ (S' T' : zSt), fx_Lineup_searchLeastWood_c d1 S (nI i) (nI (zwo a o i)) = some ((), S') ∧ fm_goesThrough_c d2 T (nI i) (nI s) = some ((), T') ∧ zSx S' a n i s o ∧ zFx S S' ∧ zFr T T' ∧ (∀ k, k < i → T'.1 11 k = T.1 11 k) ∧ zR2 n S' T' := by
  have hn := B.n9
  -- where the class stops, the reference finds nothing better
  have prune : ∀ (e d1 d2 i s : Nat) (o : Nat → Nat) (S T : zSt), i + e = n → e < d1 → e < d2 → s < 512 → zct s n = i → zSx S a n i s o → T.1 1 = a → (∀ k, k < i → T.1 11 k = nI (o k) ∧ o k < n) → ((S.1 128 4 = 2147483647 ∧ T.1 0 30 = -1) ∨ zR2 n S T) → ¬ nI (zwo a o i) < S.1 128 4 → ∃ (S' T' : zSt), fx_Lineup_searchLeastWood_c d1 S (nI i) (nI (zwo a o i)) = some ((), S') ∧ fm_goesThrough_c d2 T (nI i) (nI s) = some ((), T') ∧ zSx S' a n i s o ∧ zFx S S' ∧ zFr T T' ∧ (∀ k, k < i → T'.1 11 k = T.1 11 k) ∧ zR2 n S' T' := by
    intro e d1 d2 i s o S T he hd1 hd2 hs hct hS hT ho hr hlt
    obtain ⟨d1, rfl⟩ : ∃ k, d1 = k + 1 := ⟨d1 - 1, by omega⟩
    have wle := zws_le B i (fun k hk => (ho k hk).2)
    have wle2 : 999 * i ≤ 999 * 9 := Nat.mul_le_mul_left _ (by omega)
    rcases hr with ⟨r1, _⟩ | ⟨w, w1, w2, w3, w4⟩
    · exact absurd (by rw [r1, kMAX]; exact nI_lt (by omega) (by omega)) hlt
    · have hw : w ≤ zwo a o i := by
        rw [w2, nI_ltI (by omega) (by omega)] at hlt
        omega
      obtain ⟨T', t1, t2, t3, t4⟩ := fm_sub B (fun U => U.1 0 30 = nI w ∧ U.1 14 = T.1 14) (fun U U' _ u2 _ u4 hu => ⟨by rw [u4]; exact hu.1, by rw [u2]; exact hu.2⟩) e d2 i s o T he hd2 hs hct hT ho (fun o' q1 q2 U U' hu hl => by
        have b1 : zwo a o i ≤ zwo a o' n := by
          rw [← zws_c i q1]
          exact zws_mono n (by omega)
        have b2 := zws_le B n q2
        have b3 : 999 * n ≤ 999 * 9 := Nat.mul_le_mul_left _ (by omega)
        rcases hl.1 with ⟨q, _⟩ | ⟨_, q3, q4⟩
        · rw [hu.1] at q
          rcases q with q | q
          · exact absurd q (nI_m1 (by omega))
          · exact absurd (nI_le (by omega) (by omega)) q
        · exact ⟨by rw [q3]; exact hu.1, by rw [q4]; exact hu.2⟩) ⟨w3, rfl⟩
      refine ⟨S, T', ?_, t1, hS, zFx.rf S, t2, t3, w, w1, w2, t4.1, fun k hk => by rw [t4.2]; exact w4 k hk⟩
      rw [fx_Lineup_searchLeastWood_c]
      unfold fx_Lineup_searchLeastWood
      rw [if_neg hlt]
  intro e
  induction e with
  | zero =>
    intro d1 d2 i s o S T he hd1 hd2 hs hct hS hT ho hr
    by_cases hlt : nI (zwo a o i) < S.1 128 4
    rotate_left 1
    · exact prune 0 d1 d2 i s o S T he hd1 hd2 hs hct hS hT ho hr hlt
    obtain ⟨d1, rfl⟩ : ∃ k, d1 = k + 1 := ⟨d1 - 1, by omega⟩
    obtain ⟨d2, rfl⟩ : ∃ k, d2 = k + 1 := ⟨d2 - 1, by omega⟩
    obtain rfl : i = n := by omega
    have wle := zws_le B i (fun k hk => (ho k hk).2)
    have wle2 : 999 * i ≤ 999 * 9 := Nat.mul_le_mul_left _ (by omega)
    rw [fm_goesThrough_c, fx_Lineup_searchLeastWood_c]
    obtain ⟨T', t1, t2, t3, t4, t5⟩ := fm_leaf (rec := fm_goesThrough_c d2) (u := nI s) B hT ho
    unfold fx_Lineup_searchLeastWood
    rw [if_pos hlt, hS.ox.ct, znm_q, if_neg (nI_nlt (Nat.le_refl _) (by omega)), znm_q, znm_q]
    refine ⟨_, T', rfl, t1, ⟨hS.ox.c (fun q hq => by rw [zcI_ne (by omega), zI_ne (by omega)]), fun k hk => by rw [zcI_ne (by omega), zI_ne (by omega)]; exact hS.od k hk, fun k hk => by rw [zcI_ne (by omega), zI_ne (by omega)]; exact hS.ht k hk, fun g hg => by rw [zcI_ne (by omega), zI_ne (by omega)]; exact hS.pl g hg⟩, ⟨fun q q1 q2 q3 q4 q5 => by rw [zcI_ne q3, zI_ne q1], rfl⟩, t2, fun k _ => by rw [t3], zwo a o i, by omega, by rw [zcI_ne (by omega), zI_at], ?_, fun k hk => ?_⟩
    all_goals
      have better : T.1 0 30 = -1 ∨ ¬ T.1 0 30 ≤ nI (zwo a o i) := by
        rcases hr with ⟨_, r⟩ | ⟨w, w1, w2, w3, _⟩
        · exact Or.inl r
        · rw [w2, nI_ltI (by omega) (by omega)] at hlt
          exact Or.inr (by rw [w3]; exact nI_ge hlt (by omega))
    · rcases t4 with ⟨_, q, _⟩ | ⟨q, _⟩
      · exact q
      · exact absurd better q
    · rcases t4 with ⟨_, _, q⟩ | ⟨q, _⟩
      · rw [zcI_eq, z_cp (by omega), zI_ne (by omega), q k hk]
        exact hS.od k hk
      · exact absurd better q
  | succ e ih =>
    intro d1 d2 i s o S T he hd1 hd2 hs hct hS hT ho hr
    by_cases hlt : nI (zwo a o i) < S.1 128 4
    rotate_left 1
    · exact prune (e + 1) d1 d2 i s o S T he hd1 hd2 hs hct hS hT ho hr hlt
    obtain ⟨d1, rfl⟩ : ∃ k, d1 = k + 1 := ⟨d1 - 1, by omega⟩
    obtain ⟨d2, rfl⟩ : ∃ k, d2 = k + 1 := ⟨d2 - 1, by omega⟩
    have hin : i < n := by omega
    rw [fm_goesThrough_c, fx_Lineup_searchLeastWood_c]
    unfold fm_goesThrough fx_Lineup_searchLeastWood
    rw [if_pos hlt, hT, B.a4, hS.ox.ct, znm_q, if_pos (nI_lt hin (by omega)), znm_q, if_neg (nI_ge hin (by omega))]
    have key : ∀ (f h : Nat) (Y Z : zSt), h ≤ n → n < h + f → zSx Y a n i s o → zFx S Y → Z.1 1 = a → zFr T Z → (∀ k, k < i → Z.1 11 k = T.1 11 k) → (((Y.1 128 4 = 2147483647 ∧ Z.1 0 30 = -1) ∧ ∀ h', h' < h → s.testBit h' = true) ∨ zR2 n Y Z) → ∃ (S' T' : zSt), fx_Lineup_searchLeastWood_L49 (fx_Lineup_searchLeastWood_c d1) (nI i) (nI (zwo a o i)) (nI n) f (nI h) Y = some ((), S') ∧ fm_goesThrough_L15 (fm_goesThrough_c d2) (nI i) (nI s) (nI n) f (nI h) Z = some ((), T') ∧ zSx S' a n i s o ∧ zFx S S' ∧ zFr T T' ∧ (∀ k, k < i → T'.1 11 k = T.1 11 k) ∧ zR2 n S' T' := by
      intro f
      induction f with
      | zero => intro h Y Z a b; omega
      | succ f ihf =>
        intro h Y Z h1 h2 hY hfx hZ hfr hpre hr1
        rw [fm_goesThrough_L15, fx_Lineup_searchLeastWood_L49]
        by_cases e1 : h = n
        · subst e1
          rw [if_pos (nI_le (Nat.le_refl _) (by omega)), if_pos (nI_le (Nat.le_refl _) (by omega))]
          refine ⟨Y, Z, rfl, rfl, hY, hfx, hfr, hpre, ?_⟩
          rcases hr1 with ⟨_, hall⟩ | hr1
          · exfalso
            have full : ∀ m, m ≤ h → zct s m = m := by
              intro m
              induction m with
              | zero => intro _; rfl
              | succ m ihm =>
                intro hm
                unfold zct
                rw [ihm (by omega), if_pos (hall m (by omega))]
            have := full h (Nat.le_refl _)
            omega
          · exact hr1
        have hh : h < n := by omega
        rw [if_neg (nI_ge hh (by omega)), if_neg (nI_ge hh (by omega)), zix_n (show h < 9 by omega) (by omega), zck_t]
        simp only [znm_q, zck_q]
        rw [nI_1 h, nI_1 i, nI_clamp (n := h) (by omega), hY.pl h (by omega)]
        by_cases b : s.testBit h = true
        · rw [if_pos b, if_neg (show ¬ (1 : Int32) = 0 by decide), if_pos ((zmb9 s hs h (by omega)).mpr b)]
          refine ihf (h + 1) Y Z (by omega) (by omega) hY hfx hZ hfr hpre (hr1.imp (fun q => ⟨q.1, fun h' hh' => ?_⟩) id)
          by_cases c : h' = h
          · rw [c]; exact b
          · exact q.2 h' (by omega)
        · have bf : s.testBit h = false := by simpa using b
          obtain ⟨z1, z2⟩ := zor9 s hs h (by omega)
          rw [if_neg b, if_pos rfl, if_neg (fun q => b ((zmb9 s hs h (by omega)).mp q)), zix_n (show i < 9 by omega) (by omega), zck_t, nI_clamp (n := i) (by omega), z1]
          have hoz : ∀ k, k < i + 1 → (zpI Z 11 i (nI h)).1 11 k = nI (zup o i h k) ∧ zup o i h k < n := fun k hk => by
            unfold zup
            by_cases c : k = i
            · subst c
              rw [zI_at, if_pos rfl]
              exact ⟨rfl, hh⟩
            · rw [zI_nk c, if_neg c, hpre k (by omega)]
              exact ho k (by omega)
          obtain ⟨Y1, y1, y2, y3, y4, y5⟩ := fx_step_eq B hY (fun k hk => (ho k hk).2) hin hh
          have hp := zhp_le B i (fun k hk => (ho k hk).2)
          have hz : zhp a (zup o i h) i = zhp a o i := zhp_c i (fun l hl => by unfold zup; rw [if_neg (by omega)])
          have y135 : Y1.1 135 i = nI (zhp a o i) := by rw [y2.ht i (by omega), hz]
          have wsum : zwo a (zup o i h) (i + 1) = zwo a o i + zwd a h (zhp a o i) := by
            rw [zwo, hz, show zup o i h i = h from by unfold zup; rw [if_pos rfl], zws_c i (fun l hl => by unfold zup; rw [if_neg (by omega)])]
          obtain ⟨S2, T2, k1, k2, k3, k4, k5, k6, k7⟩ := ih d1 d2 (i + 1) (s ||| 2 ^ h) (zup o i h) Y1 (zpI Z 11 i (nI h)) (by omega) (by omega) (by omega) z2 (by rw [zct_or bf, if_pos hh, hct]) y2 (by rw [zI_ne (by omega)]; exact hZ) hoz (by
            rw [y4, zI_ne (by omega)]
            rcases hr1 with ⟨q, _⟩ | ⟨w, w1, w2, w3, w4⟩
            · exact Or.inl q
            · exact Or.inr ⟨w, w1, by rw [y4]; exact w2, by rw [zI_ne (by omega)]; exact w3, fun k hk => by rw [y5, zI_ne (by omega)]; exact w4 k hk⟩)
          rw [y1, zbd_s, zix_n (show i < 10 by omega) (by omega), zck_t, y135, fx_wood_eq B y2.ox hh hp, zbd_s, nI_add, ← wsum, k1, zbd_s, k2, zbd_s]
          obtain ⟨w, w1, w2, w3, w4⟩ := k7
          exact ihf (h + 1) (zpI S2 136 h 0) T2 (by omega) (by omega) (zSx_back k3 bf) ((hfx.tr y3).tr (k4.tr ⟨fun q q1 q2 q3 q4 q5 => zI_ne q5, rfl⟩)) (by rw [k5.1 1 (by omega) (by omega) (by omega) (by omega) (by omega), zI_ne (by omega)]; exact hZ) (hfr.tr ⟨fun q a b c d e => by rw [k5.1 q a b c d e, zI_ne b], fun k a b c => by rw [k5.2 k a b c, zI_ne (by omega)]⟩) (fun k hk => by rw [k6 k (by omega), zI_nk (by omega)]; exact hpre k hk) (Or.inr ⟨w, w1, by rw [zI_ne (by omega)]; exact w2, w3, fun k hk => by rw [zI_ne (by omega)]; exact w4 k hk⟩)
    rw [← nI_0]
    exact key zFU 0 S T (by omega) (by unfold zFU; omega) hS (zFx.rf S) hT (zFr.rf T) (fun _ _ => rfl) (hr.imp (fun q => ⟨q, fun h' hh' => by omega⟩) id)
/-- both begin -/
theorem fx_begin_eq {X M : zSt} {n : Nat} (hH : rH X.1 3 (M.1 1) n) (hTi : rT X.1 11 (M.1 1) n) (hS : rS X.1 3 (M.1 1)) (B : zBd (M.1 1) n) (Z : zSt) (hz : ∀ q, q ≠ 128 → Z.1 q = X.1 q) (hz2 : Z.2 = X.2) : ∃ Y : zSt, fx_Lineup_beginSearch Z = some ((), Y) ∧ zSx Y (M.1 1) n 0 0 (fun _ => 0) ∧ Y.1 128 = Z.1 128 ∧ (∀ q, q ≠ 128 → q ≠ 134 → q ≠ 135 → q ≠ 136 → Y.1 q = X.1 q) ∧ Y.2 = X.2 := by
  obtain ⟨W, w1, w2, w3, w4⟩ := fx_weigh_eq (X := Z) B (by rw [hz _ (by omega)]; exact hH.1) (fun h hh => by rw [hz _ (by omega)]; exact (hH.2.2.2.1 h hh).1) (fun h hh => by rw [hz _ (by omega)]; exact (hTi.2.2.2.2.2.1 h hh).1)
  obtain ⟨V, v1, v2, v3, v4⟩ := fx_clear_eq (X := W)
  unfold fx_Lineup_beginSearch
  rw [w1, zbd_s, v1, zbd_s, znm_q]
  refine ⟨_, rfl, ⟨zOx_of B hH hS (fun h hh => by rw [zI_ne (by omega), v3 _ (by omega)]; exact w2 h hh) (fun q hq => by rw [zI_ne (by omega), v3 _ (by omega), w3 _ (by omega), hz _ (by omega)]), fun k hk => by omega, fun k hk => ?_, fun h hh => ?_⟩, by rw [zI_ne (by omega), v3 _ (by omega), w3 _ (by omega)], fun q a b c d => by rw [zI_ne c, v3 q d, w3 q b, hz q a], by show V.2 = X.2; rw [v4, w4, hz2]⟩
  · obtain rfl : k = 0 := by omega
    rw [zI_at]; rfl
  · rw [zI_ne (by omega), v2 h hh]; simp
theorem fx_can_eq {X M : zSt} {n : Nat} {a1 : Int32} (ex : X.1 4 0 = nI n) (hn : n ≤ 9) : (fx_canSearch X a1 = some (0, X) ∧ (7 < n ∨ (¬ a1 = 0 ∧ ¬ ∃ k : Nat, k < n ∧ a1 = nI (10 + k)))) ∨ (fx_canSearch X a1 = some (1, X) ∧ n ≤ 7 ∧ (a1 = 0 ∨ (¬ a1 = 0 ∧ ∃ k : Nat, k < n ∧ a1 = nI (10 + k)))) := by
  unfold fx_canSearch
  simp only [znm_q]
  rw [ex]
  by_cases h7 : 7 < n
  · rw [if_pos (show (7 : Int32) < nI n from nI_lt (a := 7) h7 (by omega)), zbo_0, zck_t]
    exact Or.inl ⟨rfl, Or.inl h7⟩
  rw [if_neg (show ¬ (7 : Int32) < nI n from nI_nlt (a := 7) (by omega) (by omega))]
  by_cases h0 : a1 = 0
  · rw [if_pos h0, zbo_1, zck_t]
    exact Or.inr ⟨rfl, by omega, Or.inl h0⟩
  rw [if_neg h0]
  by_cases ho : a1 - 10 < 0 ∨ nI n ≤ a1 - 10
  · rw [fx_has_lo ex ho, zbd_s, z_i0, zbo_0, zck_t]
    refine Or.inl ⟨rfl, Or.inr ⟨h0, fun ⟨k, k1, k2⟩ => ?_⟩⟩
    rw [k2, show nI (10 + k) - (10 : Int32) = nI k from by rw [show (10 : Int32) = nI 10 from rfl, pk_sub (by omega), show 10 + k - 10 = k by omega]] at ho
    exact ho.elim (nI_pos (by omega)) (nI_ge k1 (by omega))
  · obtain ⟨k, k1, k2⟩ := zpos (by omega) ho
    rw [k2, fx_has_in ex hn k1, zbd_s, z_i1, zbo_1, zck_t]
    refine Or.inr ⟨rfl, by omega, Or.inr ⟨h0, k, k1, ?_⟩⟩
    rw [show a1 = a1 - 10 + 10 from (Int32.sub_add_cancel a1 10).symm, k2, show (10 : Int32) = nI 10 from rfl, nI_add, Nat.add_comm]
theorem fm_can_eq {M : zSt} {n : Nat} {a1 : Int32} (em : M.1 1 4 = nI n) (hn : n ≤ 9) : ((7 < n ∨ (¬ a1 = 0 ∧ ¬ ∃ k : Nat, k < n ∧ a1 = nI (10 + k))) → fm_isTold M a1 = some (0, M)) ∧ ((n ≤ 7 ∧ (a1 = 0 ∨ (¬ a1 = 0 ∧ ∃ k : Nat, k < n ∧ a1 = nI (10 + k)))) → fm_isTold M a1 = zbd (fm_goesThrough_c 16 (zpI (zpI M 0 29 0) 0 30 (-1)) 0 0) fun _ S_6 => some (1, S_6)) := by
  constructor
  · intro h
    unfold fm_isTold
    simp only [znm_q]
    rw [em]
    by_cases h7 : 7 < n
    · rw [if_pos (show (7 : Int32) < nI n from nI_lt (a := 7) h7 (by omega))]
    rw [if_neg (show ¬ (7 : Int32) < nI n from nI_nlt (a := 7) (by omega) (by omega))]
    obtain ⟨h0, h1⟩ := h.resolve_left h7
    rw [if_neg h0, show (9 : Int32) + nI n = nI (9 + n) from by rw [show (9 : Int32) = nI 9 from rfl, nI_add]]
    have : a1 < 10 ∨ nI (9 + n) < a1 := by
      refine Classical.byContradiction (fun q => h1 ?_)
      have q1 : ¬ a1 < 10 := fun z => q (Or.inl z)
      have q2 : ¬ nI (9 + n) < a1 := fun z => q (Or.inr z)
      rw [zlt, show (10 : Int32).toInt = 10 from rfl] at q1
      rw [zlt, nI_toInt (by omega)] at q2
      obtain ⟨j, j1, j2, j3⟩ := z_nat (v := a1) (by omega)
      exact ⟨j - 10, by omega, by rw [show 10 + (j - 10) = j by omega]; exact j2⟩
    rw [fm_isIn_lo this, zbd_s, z_i0]
  · intro ⟨h7, h⟩
    unfold fm_isTold
    simp only [znm_q]
    rw [em, if_neg (show ¬ (7 : Int32) < nI n from nI_nlt (a := 7) (by omega) (by omega))]
    rcases h with h | ⟨h0, k, k1, k2⟩
    · rw [if_pos h]
    · rw [if_neg h0, k2, show (9 : Int32) + nI n = nI (9 + n) from by rw [show (9 : Int32) = nI 9 from rfl, nI_add], fm_isIn_in (show ¬ nI (10 + k) < (10 : Int32) from nI_nlt (b := 10) (by omega) (by omega)) (nI_nlt (by omega) (by omega)), zbd_s, z_i1]
section ops18
variable {RR : (Nat → Int32) → Int32 → Int32 → (Nat → Int32) → Prop}
theorem zI_lin (hRR : zRok RR) {X M X' M' : zSt} (h1 : ∀ q, (q < 128 ∨ 138 ≤ q) → X'.1 q = X.1 q) (h2 : X'.2 27 = X.2 27 ∧ X'.2 55 = X.2 55) (h3 : zFr M M') (hI : zInv RR X M) : zInv RR X' M' :=
  zI_same hRR (fun q _ b => h1 q (by omega)) h2 ⟨by rw [h1 _ (by omega)], by rw [h1 _ (by omega)], by rw [h1 _ (by omega)], by rw [h1 _ (by omega)]⟩ (fun q hq => h3.1 q (by omega) (by omega) (by omega) (by omega) (by omega)) (fun k hk => h3.2 k (by omega) (by omega) (by omega)) (Or.inl ⟨by rw [h1 _ (by omega)], h3.2 12 (by omega) (by omega) (by omega)⟩) hI
theorem zct_0 : ∀ k, zct 0 k = 0 := by
  intro k
  induction k with
  | zero => rfl
  | succ k ih => unfold zct; rw [ih]; simp
theorem zp_orders (hRR : zRok RR) : zo_orders (zInv RR) := by
  intro X M hI a1
  obtain ⟨t, n, m, c, o, hT, hF, hC, hU, hK⟩ := id hI
  obtain ⟨hH, hTi, hS, hR, hL, hRi⟩ := id hC
  have B := zBd_of hH hTi hS
  have hn : n ≤ 9 := hH.2.2.1
  have ex : X.1 4 0 = nI n := hH.1
  have em : M.1 1 4 = nI n := hH.2.1
  unfold fx_orders fm_orders
  rcases fx_can_eq (M := M) (a1 := a1) ex hn with ⟨c1, c2⟩ | ⟨c1, h7, c2⟩
  · rw [c1, (fm_can_eq em hn).1 c2, zbd_s, zbd_s, z_i0, znm_q, z_i0]
    exact ⟨_, _, _, rfl, rfl, hI⟩
  rw [c1, (fm_can_eq em hn).2 ⟨h7, c2⟩, zbd_s, z_i1]
  obtain ⟨Y, y1, y2, y3, y4, y5⟩ := fx_begin_eq hH hTi hS B (zpI X 128 3 0) (fun q hq => zI_ne hq) rfl
  have p7 : 9 ^ n ≤ 9 ^ 7 := Nat.pow_le_pow_right (by omega) h7
  obtain ⟨S', T', c', k1, k2, k3, k4, k5, k6, k7, k8⟩ := zs_orders B h7 n 16 16 0 0 0 (fun _ => 0) Y (zpI (zpI M 0 29 0) 0 30 (-1)) (by omega) (by omega) (by omega) (by omega) (zct_0 n) y2 (by rw [zI_ne (by omega), zI_ne (by omega)]) (fun k hk => by omega) (fun p hp => by omega) ⟨by rw [y3, zI_at]; rfl, by rw [zI_nk (by omega), zI_at]; rfl, fun q => absurd rfl q⟩ (by omega)
  rw [nI_0] at k1 k2
  have fs : fx_Lineup_findSettled X = some ((), S') := by
    unfold fx_Lineup_findSettled
    rw [znm_q, y1, zbd_s, k1, zbd_s]
  rw [fs, zbd_s, k2, zbd_s, zbd_s, znm_q, znm_q, z_i1, k7.1, k7.2.1]
  have inv : zInv RR S' T' := zI_lin hRR (fun q hq => by rw [k4.1 q (by omega) (by omega) (by omega) (by omega) (by omega), y4 q (by omega) (by omega) (by omega) (by omega)]) ⟨by rw [k4.2, y5], by rw [k4.2, y5]⟩ ⟨fun q a b c d e => by rw [k5.1 q a b c d e, zI_ne a, zI_ne a], fun k a b c => by rw [k5.2 k a b c, zI_nk c, zI_nk b]⟩ hI
  rcases c2 with h0 | ⟨h0, k, kk, ek⟩
  · rw [if_pos h0, if_pos h0]
    exact ⟨_, _, _, rfl, rfl, inv⟩
  · rw [if_neg h0, if_neg h0]
    by_cases cz : c' = 0
    · rw [if_pos (show nI c' ≤ 0 by rw [cz]; decide), if_pos (show nI c' = 0 by rw [cz]; rfl)]
      exact ⟨_, _, _, rfl, rfl, inv⟩
    · rw [if_neg (nI_nle (by omega) (by omega)), if_neg (nI_ne0 (by omega) (by omega)), ek, show nI (10 + k) - (10 : Int32) = nI k from by rw [show (10 : Int32) = nI 10 from rfl, pk_sub (by omega), show 10 + k - 10 = k by omega], zix_n (by omega) (by omega), zck_t, zck_t, nI_clamp (by omega)]
      exact ⟨_, _, _, rfl, by rw [k7.2.2 cz k kk], inv⟩
theorem zp_least (hRR : zRok RR) : zo_least (zInv RR) := by
  intro X M hI a1
  obtain ⟨t, n, m, c, o, hT, hF, hC, hU, hK⟩ := id hI
  obtain ⟨hH, hTi, hS, hR, hL, hRi⟩ := id hC
  have B := zBd_of hH hTi hS
  have hn : n ≤ 9 := hH.2.2.1
  have ex : X.1 4 0 = nI n := hH.1
  have em : M.1 1 4 = nI n := hH.2.1
  unfold fx_least fm_least
  rcases fx_can_eq (M := M) (a1 := a1) ex hn with ⟨c1, c2⟩ | ⟨c1, h7, c2⟩
  · rw [c1, (fm_can_eq em hn).1 c2, zbd_s, zbd_s, z_i0, znm_q, z_i0]
    exact ⟨_, _, _, rfl, rfl, hI⟩
  rw [c1, (fm_can_eq em hn).2 ⟨h7, c2⟩, zbd_s, z_i1]
  obtain ⟨Y, y1, y2, y3, y4, y5⟩ := fx_begin_eq hH hTi hS B (zpI X 128 4 2147483647) (fun q hq => zI_ne hq) rfl
  obtain ⟨S', T', k1, k2, k3, k4, k5, k6, k7⟩ := zs_least B n 16 16 0 0 (fun _ => 0) Y (zpI (zpI M 0 29 0) 0 30 (-1)) (by omega) (by omega) (by omega) (by omega) (zct_0 n) y2 (by rw [zI_ne (by omega), zI_ne (by omega)]) (fun k hk => by omega) (Or.inl ⟨by rw [y3, zI_at], by rw [zI_at]⟩)
  rw [show zwo (M.1 1) (fun _ => 0) 0 = 0 from rfl, nI_0] at k1
  rw [nI_0] at k2
  have fs : fx_Lineup_findLeastWood X = some ((), S') := by
    unfold fx_Lineup_findLeastWood
    rw [znm_q, y1, zbd_s, k1, zbd_s]
  obtain ⟨w, w1, w2, w3, w4⟩ := k7
  rw [fs, zbd_s, k2, zbd_s, zbd_s, znm_q, znm_q, z_i1, w2, w3]
  have inv : zInv RR S' T' := zI_lin hRR (fun q hq => by rw [k4.1 q (by omega) (by omega) (by omega) (by omega) (by omega), y4 q (by omega) (by omega) (by omega) (by omega)]) ⟨by rw [k4.2, y5], by rw [k4.2, y5]⟩ ⟨fun q a b c d e => by rw [k5.1 q a b c d e, zI_ne a, zI_ne a], fun k a b c => by rw [k5.2 k a b c, zI_nk c, zI_nk b]⟩ hI
  rcases c2 with h0 | ⟨h0, k, kk, ek⟩
  · rw [if_pos h0, if_pos h0]
    exact ⟨_, _, _, rfl, rfl, inv⟩
  · rw [if_neg h0, if_neg h0, ek, show nI (10 + k) - (10 : Int32) = nI k from by rw [show (10 : Int32) = nI 10 from rfl, pk_sub (by omega), show 10 + k - 10 = k by omega], zix_n (by omega) (by omega), zck_t, zck_t, nI_clamp (by omega)]
    exact ⟨_, _, _, rfl, by rw [w4 k kk], inv⟩
end ops18
