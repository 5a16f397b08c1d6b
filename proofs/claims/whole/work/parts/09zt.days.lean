/-! days -/
theorem zdloop {X M : zSt} {n N : Nat} (hn : n ≤ 9) (hN : N ≤ 400) (hR0 : X.1 20 2 = M.1 1 590 ∧ zRR (X.1 21) (X.1 20 1) (X.1 20 2) (M.1 1)) (hH0 : rH X.1 3 (M.1 1) n) (hS0 : rS X.1 3 (M.1 1)) : ∀ (f i cx cm o : Nat) (x5 : Int32) (S T : zSt), i ≤ N → N < i + f → rT S.1 11 (T.1 1) n → (T.1 1 5).toInt + ((N - i : Nat) : Int) ≤ 9999 → rUK S.1 T.1 n cx cm o (8 - min 8 (N - i)) → (∀ q, (q < 11 ∨ 19 ≤ q) → q ≠ 59 → (q < 61 ∨ 125 ≤ q) → (q < 129 ∨ 136 ≤ q) → S.1 q = X.1 q) → S.2 = X.2 → (∀ q, q ≠ 0 → q ≠ 1 → q ≠ 3 → (q < 7 ∨ 11 ≤ q) → T.1 q = M.1 q) → (∀ k, k ≠ 3 → k ≠ 24 → T.1 0 k = M.1 0 k) → (∀ k, k < 5 → T.1 1 k = M.1 1 k) → (∀ h, h < n → ∀ k, (k < 3 ∨ 9 ≤ k) → k < 15 → T.1 1 (20 + 16 * h + k) = M.1 1 (20 + 16 * h + k)) → (∀ k, 180 ≤ k → T.1 1 k = M.1 1 k) →
    ∃ (r : Int32) (S' T' : zSt) (cx' o' : Nat), fx_days_L35 (nI N) f x5 (nI i) S = some (r, S') ∧ fm_days_L31 (nI N) f x5 (nI i) T = some (r, T') ∧ rT S'.1 11 (T'.1 1) n ∧ rU S'.1 T'.1 n cx' o' ∧ (∀ q, (q < 11 ∨ 19 ≤ q) → q ≠ 59 → (q < 61 ∨ 125 ≤ q) → (q < 129 ∨ 136 ≤ q) → S'.1 q = X.1 q) ∧ S'.2 = X.2 ∧ (∀ q, q ≠ 0 → q ≠ 1 → q ≠ 3 → (q < 7 ∨ 11 ≤ q) → T'.1 q = M.1 q) ∧ (∀ k, k ≠ 3 → k ≠ 24 → T'.1 0 k = M.1 0 k) ∧ (∀ k, k < 5 → T'.1 1 k = M.1 1 k) ∧ (∀ h, h < n → ∀ k, (k < 3 ∨ 9 ≤ k) → k < 15 → T'.1 1 (20 + 16 * h + k) = M.1 1 (20 + 16 * h + k)) ∧ (∀ k, 180 ≤ k → T'.1 1 k = M.1 1 k) := by
  intro f
  induction f with
  | zero => intro i cx cm o x5 S T a b; omega
  | succ f ih =>
    intro i cx cm o x5 S T h1 h2 hT hday hU fx fxl fm fm0 st5 sth st180
    by_cases e : i = N
    · subst e
      rw [fx_days_L35, fm_days_L31, if_pos (nI_le (Nat.le_refl _) (by omega)), if_pos (nI_le (Nat.le_refl _) (by omega))]
      rw [Nat.sub_self] at hU
      exact ⟨x5, S, T, cx, o, rfl, rfl, hT, rUK_8 hU, fx, fxl, fm, fm0, st5, sth, st180⟩
    have hi : i < N := by omega
    obtain ⟨u1, u2, u3, u4, u5, u6, u7, u8⟩ := id hU
    obtain ⟨Z, z1, z2, z3, z4, z5, z6⟩ := zpush (S := T) (a1 := nI N) (x5 := x5) (x6 := nI i) u4 u2
    -- the class keeps the day or not
    obtain ⟨Y, cy, oy, y1, y2, y3, y4, y5, y6, y7⟩ : ∃ (Y : zSt) (cy oy : Nat), (∀ j : zSt → Option (Int32 × zSt), (if (8 : Int32) < nI N - nI i then j S else zbd (fx_History_keep S) fun _ S_18 => j S_18) = j Y) ∧ Y.1 59 2 = nI cy ∧ cy ≤ 8 ∧ Y.1 59 1 = nI oy ∧ oy < 8 ∧ ((∀ q, q ≠ 59 → (q < 61 ∨ 125 ≤ q) → Y.1 q = S.1 q) ∧ Y.2 = S.2) ∧ ((∀ k, k < 8 - min 8 (N - (i + 1)) → (k < cy ↔ k < min (cm + 1) 8)) ∧ (∀ k, k < 8 - min 8 (N - (i + 1)) → k < cy → k < min (cm + 1) 8 → rT Y.1 (61 + 8 * ((oy + (cy - 1 - k)) % 8)) (fun l => Z.1 3 (180 * (min (cm + 1) 8 - 1 - k) + l)) n ∧ zStat (T.1 1) (fun l => Z.1 3 (180 * (min (cm + 1) 8 - 1 - k) + l)) n)) := by
      by_cases c8 : 8 < N - i
      · have cond : (8 : Int32) < nI N - nI i := by
          rw [pk_sub (by omega)]; exact nI_lt (a := 8) c8 (by omega)
        have k0 : 8 - min 8 (N - (i + 1)) = 0 := by omega
        exact ⟨S, cx, o, fun j => by rw [if_pos cond], u1, u3, u5, u6, ⟨fun _ _ _ => rfl, rfl⟩, fun k hk => by omega, fun k hk => by omega⟩
      · have cond : ¬ (8 : Int32) < nI N - nI i := by
          rw [pk_sub (by omega)]; exact nI_nlt (a := 8) (by omega) (by omega)
        obtain ⟨Y, oy, w1, w2, w3, w4, w5, w6, w7, w8, w9⟩ := zkeep u3 u6 u5 u1
        have hk8 : 8 - min 8 (N - (i + 1)) = (8 - min 8 (N - i)) + 1 := by omega
        have hsl : (oy + (min (cx + 1) 8 - 1)) % 8 < 8 := Nat.mod_lt _ (by omega)
        refine ⟨Y, min (cx + 1) 8, oy, fun j => by rw [if_neg cond, w1, zbd_s], w4, Nat.min_le_right _ _, w3, w2, ⟨fun q h1 h2 => w7 q (by omega) h1, w8⟩, fun k hk => ?_, fun k hk kx km => ?_⟩
        · by_cases kz : k = 0
          · subst kz; omega
          · have := u7 (k - 1) (by omega)
            omega
        · by_cases kz : k = 0
          · subst kz
            rw [Nat.sub_zero, Nat.sub_zero]
            refine ⟨rT_tr hn (T := 11) (x := S.1) (a := T.1 1) (fun k h1 h2 => w5 k h1 h2) (fun d h1 h2 k hk => w6 d h1 h2 k hk) (fun k hk => z3 k hk) hT, ?_⟩
            refine ⟨fun k hk => z3 k (by omega), fun h hh => ⟨z3 _ (by omega), z3 _ (by omega), z3 _ (by omega), fun k hk => z3 _ (by omega)⟩⟩
          · obtain ⟨p1, p2⟩ := u8 (k - 1) (by omega) (by omega) (by omega)
            obtain ⟨q1, q2⟩ := w9 (k - 1) (by omega)
            rw [show k - 1 + 1 = k by omega] at q1
            rw [q1]
            have hz : ∀ l, l < 180 → Z.1 3 (180 * (min (cm + 1) 8 - 1 - k) + l) = T.1 3 (180 * (cm - 1 - (k - 1)) + l) := fun l hl => by
              have := z4 (k - 1) (by omega) l hl
              rw [show k - 1 + 1 = k by omega] at this
              exact this
            have hlt2 : (o + (cx - 1 - (k - 1))) % 8 < 8 := Nat.mod_lt _ (by omega)
            refine ⟨rT_tr hn (T := 61 + 8 * ((o + (cx - 1 - (k - 1))) % 8)) (x := S.1) (a := fun l => T.1 3 (180 * (cm - 1 - (k - 1)) + l)) (fun l _ _ => by rw [w7 _ (by omega) (by omega)]) (fun d h1 h2 l _ => by rw [w7 _ (by omega) (by omega)]) hz p1, ?_⟩
            exact zStat_c hn (fun _ _ => rfl) (fun _ _ _ _ _ => rfl) hz p2
    -- the day itself
    have zy : ∀ k, (zpI Z 0 3 (Z.1 0 3 + 1)).1 1 k = T.1 1 k := fun k => by rw [zI_ne (by omega), z5 1 (by omega) (by omega)]
    have zy1 : (zpI Z 0 3 (Z.1 0 3 + 1)).1 1 = T.1 1 := funext zy
    have xy : ∀ q, (q < 11 ∨ 19 ≤ q) → q ≠ 59 → (q < 61 ∨ 125 ≤ q) → (q < 129 ∨ 136 ≤ q) → Y.1 q = X.1 q := fun q a b c d => by rw [y6.1 q b c]; exact fx q a b c d
    have hHy : rH Y.1 3 (T.1 1) n := rH_c (fun q a b => xy q (by omega) (by omega) (by omega) (by omega)) (st5 4 (by omega)) sth (fun k a b => st180 k a) hH0
    have hSy : rS Y.1 3 (T.1 1) := rS_c (xy _ (by omega) (by omega) (by omega) (by omega)) (fun k hk => st5 k (by omega)) hS0
    have hTy : rT Y.1 11 (T.1 1) n := rT_c (fun q a b => y6.1 q (by omega) (by omega)) (fun _ _ => rfl) (fun _ _ _ _ _ => rfl) hT
    have hRy : Y.1 20 2 = T.1 1 590 ∧ zRR (Y.1 21) (Y.1 20 1) (Y.1 20 2) (T.1 1) := by
      rw [xy 20 (by omega) (by omega) (by omega) (by omega), xy 21 (by omega) (by omega) (by omega) (by omega), st180 590 (by omega)]
      exact ⟨hR0.1, zRR_ok _ _ _ _ _ _ (fun _ _ => rfl) (fun k a _ => st180 k (by omega)) hR0.2⟩
    obtain ⟨r, S1, T1, d1, d2, d3, d4, d5, d6, d7, d8, d9, d10, d11, d12⟩ := zday (X := Y) (M := zpI Z 0 3 (Z.1 0 3 + 1)) (n := n) (by rw [zy1]; exact hHy) (by rw [zy1]; exact hTy) (by rw [zy1]; exact hSy) (by rw [zy1]; exact hRy) (by rw [zy1]; omega)
    have stepX : fx_days_L35 (nI N) (f + 1) x5 (nI i) S = fx_days_L35 (nI N) f (x5 + r) (nI (i + 1)) S1 := by
      rw [fx_days_L35, if_neg (nI_ge hi (by omega))]
      simp only [znm_q]
      refine (y1 (fun S_8 => zbd (fx_Lineup_passDay S_8) fun r_9 S_10 => if r_9 = 0 then fx_days_L35 (nI N) f x5 (nI i + 1) S_10 else fx_days_L35 (nI N) f (x5 + 1) (nI i + 1) S_10)).trans ?_
      rw [d1, zbd_s, nI_1]
      rcases d3 with rfl | rfl
      · rw [if_pos rfl, Int32.add_zero]
      · rw [if_neg (show ¬ (1 : Int32) = 0 by decide)]
    have stepM : fm_days_L31 (nI N) (f + 1) x5 (nI i) T = fm_days_L31 (nI N) f (x5 + r) (nI (i + 1)) T1 := by
      rw [fm_days_L31, if_neg (nI_ge hi (by omega))]
      simp only [znm_q]
      refine (z1 (fun S_9 => zbd (fm_aDay (zpI S_9 0 3 (S_9.1 0 3 + 1))) fun r_11 S_12 => fm_days_L31 (nI N) f (x5 + r_11) (nI i + 1) S_12)).trans ?_
      rw [d2, zbd_s, nI_1]
    rw [zy1] at d5 d10 d11 d12
    have z03 : (zpI Z 0 3 (Z.1 0 3 + 1)).1 0 3 = nI (min (cm + 1) 8) := by
      rw [zI_at, z2, nI_1, show min (cm + 1) 8 - 1 + 1 = min (cm + 1) 8 by omega]
    have hU1 : rUK S1.1 T1.1 n cy (min (cm + 1) 8) oy (8 - min 8 (N - (i + 1))) := by
      refine rUK_c hn (x := Y.1) (M := (zpI Z 0 3 (Z.1 0 3 + 1)).1) (d6 59 (by omega) (by omega)) (fun q a b => d6 q (by omega) (by omega)) (d9 3 (by omega)) (d8 3 (by omega) (by omega) (by omega)) (fun k hk => by rw [zy1]; exact d10 k hk) (fun h hh k a b => by rw [zy1]; exact d11 h hh k a b) ?_
      refine ⟨y2, z03, y3, Nat.min_le_right _ _, y4, y5, y7.1, fun k a b c => ?_⟩
      rw [zy1, zI_ne (show (3 : Nat) ≠ 0 by omega)]
      exact y7.2 k a b c
    have day1 : (T1.1 1 5).toInt = (T.1 1 5).toInt + 1 := by
      have := hT.2.2.2.1
      rw [d5, fb_addI] <;> rw [show (1 : Int32).toInt = 1 from rfl] <;> omega
    rw [stepX, stepM]
    exact ih (i + 1) cy (min (cm + 1) 8) oy (x5 + r) S1 T1 (by omega) (by omega) d4 (by rw [day1]; omega) hU1 (fun q a b c d => by rw [d6 q a d]; exact xy q a b c d) (by rw [d7, y6.2]; exact fxl) (fun q a b c d => by rw [d8 q a b d, zI_ne a, z5 q a c]; exact fm q a b c d) (fun k a b => by rw [d9 k b, zI_nk a, z6 k a]; exact fm0 k a b) (fun k hk => by rw [d10 k hk]; exact st5 k hk) (fun h hh k a b => by rw [d11 h hh k a b]; exact sth h hh k a b) (fun k hk => by rw [d12 k hk]; exact st180 k hk)
theorem zp_days : zo_days (zInv zRR) := by
  intro X M hI a1
  obtain ⟨t, n, m, c, o, hT, hF, hC, hU, hK1, hK2, hK3⟩ := id hI
  obtain ⟨hH, hTi, hS, hR, hL, hRi⟩ := id hC
  have hn : n ≤ 9 := hH.2.2.1
  unfold fx_days fm_days
  simp only [znm_q]
  by_cases hv : a1 < 1 ∨ (400 : Int32) < a1
  · rw [fx_in_lo hv, fm_isIn_lo hv, zbd_s, zbd_s, z_i0, z_i0]
    exact ⟨_, _, _, rfl, rfl, hI⟩
  rw [fx_in_in (fun q => hv (Or.inl q)) (fun q => hv (Or.inr q)), fm_isIn_in (fun q => hv (Or.inl q)) (fun q => hv (Or.inr q)), zbd_s, zbd_s, z_i1, z_i1]
  have b1 : ¬ a1.toInt < 1 := fun q => hv (Or.inl (by rw [zlt]; exact q))
  have b2 : ¬ (400 : Int) < a1.toInt := fun q => hv (Or.inr (by rw [zlt]; exact q))
  obtain ⟨N, N1, rfl, N3⟩ := z_nat (v := a1) (by omega)
  obtain ⟨D, D1, eD, D3⟩ := z_nat (v := M.1 1 5) hTi.2.2.2.1
  have dl : D ≤ 9999 := by have := hTi.2.2.2.2.1; omega
  rw [show X.1 11 1 = M.1 1 5 from hTi.2.1, eD, show (9999 : Int32) = nI 9999 from rfl, pk_sub (by omega), nI_add]
  by_cases hd : D + N ≤ 9999
  · rw [if_pos (nI_le (by omega) (by omega)), if_pos (nI_le hd (by omega))]
    obtain ⟨r, S', T', cx', o', k1, k2, k3, k4, k5, k6, k7, k8, k9, k10, k11⟩ := zdloop (X := X) (M := M) (n := n) (N := N) hn (by omega) hR hH hS zFU 0 c c o 0 X M (by omega) (by unfold zFU; omega) hTi (by omega) (rUK_of hU) (fun _ _ _ _ _ => rfl) rfl (fun _ _ _ _ _ => rfl) (fun _ _ _ => rfl) (fun _ _ => rfl) (fun _ _ _ _ _ => rfl) (fun _ _ => rfl)
    rw [nI_0] at k1 k2
    rw [k1, k2]
    have xo : ∀ q, (q < 11 ∨ 19 ≤ q) → q ≠ 59 → (q < 61 ∨ 125 ≤ q) → (q < 129 ∨ 136 ≤ q) → S'.1 q = X.1 q := k5
    refine ⟨_, _, _, rfl, rfl, t, n, m, cx', o', rTape_c (xo _ (by omega) (by omega) (by omega) (by omega)) (xo _ (by omega) (by omega) (by omega) (by omega)) (k8 12 (by omega) (by omega)) (k7 6 (by omega) (by omega) (by omega) (by omega)) hT, ?_, ⟨rH_c (fun q a b => xo q (by omega) (by omega) (by omega) (by omega)) (k9 4 (by omega)) k10 (fun k a b => k11 k a) hH, k3, rS_c (xo _ (by omega) (by omega) (by omega) (by omega)) (fun k hk => k9 k (by omega)) hS, rR_c zRR_ok (xo _ (by omega) (by omega) (by omega) (by omega)) (xo _ (by omega) (by omega) (by omega) (by omega)) (fun k a b => k11 k (by omega)) hR, rL_c (fun q a b => xo q (by omega) (by omega) (by omega) (by omega)) (by rw [k6]) (fun k a b => k11 k (by omega)) hL, rI_c (xo _ (by omega) (by omega) (by omega) (by omega)) (fun k a b => k11 k (by omega)) hRi⟩, k4, ?_, ?_, ?_⟩
    · rw [xo 125 (by omega) (by omega) (by omega) (by omega), xo 140 (by omega) (by omega) (by omega) (by omega), xo 141 (by omega) (by omega) (by omega) (by omega), k8 19 (by omega) (by omega), k8 21 (by omega) (by omega)]; exact hF
    · rw [xo _ (by omega) (by omega) (by omega) (by omega), k8 4 (by omega) (by omega)]; exact hK1
    · rw [k8 4 (by omega) (by omega)]; exact hK2
    · rw [k8 4 (by omega) (by omega), k7 2 (by omega) (by omega) (by omega) (by omega)]
      intro h
      obtain ⟨n', m', hC'⟩ := hK3 h
      exact ⟨n', m', rC_same zRR_ok (fun q a b => xo q (by omega) (by omega) (by omega) (by omega)) (by rw [k6]) (fun k _ => rfl) hC'⟩
  · rw [if_neg (nI_ge (by omega) (by omega)), if_neg (nI_ge (by omega) (by omega))]
    exact ⟨_, _, _, rfl, rfl, hI⟩
