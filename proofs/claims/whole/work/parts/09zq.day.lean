/-! draws -/
theorem zush8 (x : Int32) : ∃ k : Nat, k < 2 ^ 24 ∧ (x.toUInt32 >>> ((8 : Int32).toUInt32 &&& Int32.toUInt32 31)).toInt32 = nI k := by
  refine ⟨x.toBitVec.toNat / 256, ?_, ?_⟩
  · have := x.toBitVec.isLt
    omega
  · apply Int32.toBitVec_inj.mp
    apply BitVec.eq_of_toNat_eq
    have h1 : ((x.toUInt32 >>> ((8 : Int32).toUInt32 &&& Int32.toUInt32 31)).toInt32).toBitVec = x.toBitVec >>> (8 : Nat) := by
      show x.toBitVec >>> ((((8 : Int32).toUInt32 &&& Int32.toUInt32 31).toBitVec) % 32) = _
      rw [show ((((8 : Int32).toUInt32 &&& Int32.toUInt32 31).toBitVec) % 32) = 8#32 from by decide, BitVec.ushiftRight_eq']
      rfl
    rw [h1, BitVec.toNat_ushiftRight, Nat.shiftRight_eq_div_pow]
    show _ = (BitVec.ofNat 32 (x.toBitVec.toNat / 2 ^ 8)).toNat
    rw [BitVec.toNat_ofNat, Nat.mod_eq_of_lt (by have := x.toBitVec.isLt; omega)]
theorem zdraw {S T : zSt} {m : Nat} (h0 : 0 < m) (hm : m < 2 ^ 30) (e : S.1 11 0 = T.1 1 6) : ∃ (r : Nat) (st : Int32), r < m ∧ fx_Times_draw S (nI m) = some (nI r, zpI S 11 0 st) ∧ fm_draw T (nI m) = some (nI r, zpI T 1 6 st) := by
  obtain ⟨k, k1, k2⟩ := zush8 ((1664525 : Int32) * T.1 1 6 + (1013904223 : Int32))
  refine ⟨k % m, (1664525 : Int32) * T.1 1 6 + (1013904223 : Int32), Nat.mod_lt _ h0, ?_, ?_⟩
  · unfold fx_Times_draw
    simp only [znm_q]
    rw [e, zI_at, k2, if_neg (nI_nle h0 (by omega)), show znz (nI m) = true from decide_eq_true (nI_ne0 h0 (by omega)), zck_t, pk_rem (by omega) h0 (by omega)]
  · unfold fm_draw
    rw [znm_q, show znz (nI m) = true from decide_eq_true (nI_ne0 h0 (by omega)), zck_t, zI_at, k2, pk_rem (by omega) h0 (by omega)]
theorem zburn {S T : zSt} {n : Nat} (hn : n ≤ 9) (ct : S.1 4 0 = nI n) (e : S.1 11 0 = T.1 1 6) (e3 : S.1 19 3 = T.1 1 3) : ∃ (bp : Option Nat) (S' T' : zSt), fx_Lineup_drawBurntPlace S = some (zbh bp, S') ∧ (∀ j : Int32 → zSt → Option (Int32 × zSt), (if T.1 1 3 ≤ 0 then j (-1) T else if nI n ≤ 0 then j (-1) T else zbd (fm_draw T 100) fun r_74 S_75 => if S_75.1 1 3 ≤ r_74 then j (-1) S_75 else zbd (fm_draw S_75 (nI n)) fun r_77 S_78 => j r_77 S_78) = j (zbh bp) T') ∧ (∀ g, bp = some g → g < n) ∧ (∀ q, q ≠ 11 → S'.1 q = S.1 q) ∧ (∀ k, k ≠ 0 → S'.1 11 k = S.1 11 k) ∧ S'.2 = S.2 ∧ (∀ q, q ≠ 1 → T'.1 q = T.1 q) ∧ (∀ k, k ≠ 6 → T'.1 1 k = T.1 1 k) ∧ S'.1 11 0 = T'.1 1 6 := by
  unfold fx_Lineup_drawBurntPlace
  simp only [znm_q]
  rw [e3, ct]
  by_cases c1 : T.1 1 3 ≤ 0
  · rw [if_pos c1]
    exact ⟨none, S, T, rfl, fun j => by rw [if_pos c1]; rfl, fun g q => (by cases q), fun _ _ => rfl, fun _ _ => rfl, rfl, fun _ _ => rfl, fun _ _ => rfl, e⟩
  rw [if_neg c1]
  by_cases c2 : n = 0
  · have c2' : nI n ≤ 0 := by rw [c2]; decide
    rw [if_pos c2']
    exact ⟨none, S, T, rfl, fun j => by rw [if_neg c1, if_pos c2']; rfl, fun g q => (by cases q), fun _ _ => rfl, fun _ _ => rfl, rfl, fun _ _ => rfl, fun _ _ => rfl, e⟩
  have c2' : ¬ nI n ≤ 0 := nI_nle (by omega) (by omega)
  obtain ⟨r, st, r1, r2, r3⟩ := zdraw (S := S) (T := T) (m := 100) (by omega) (by omega) e
  have r2' : fx_Times_draw S 100 = some (nI r, zpI S 11 0 st) := r2
  have r3' : fm_draw T 100 = some (nI r, zpI T 1 6 st) := r3
  rw [if_neg c2', r2', zbd_s]
  have t3 : (zpI T 1 6 st).1 1 3 = T.1 1 3 := zI_nk (by omega)
  by_cases c3 : nI r < T.1 1 3
  · obtain ⟨u, st2, u1, u2, u3⟩ := zdraw (S := zpI S 11 0 st) (T := zpI T 1 6 st) (m := n) (by omega) (by omega) (by rw [zI_at, zI_at])
    rw [if_pos c3, zI_ne (by omega), ct, u2, zbd_s]
    refine ⟨some u, _, zpI (zpI T 1 6 st) 1 6 st2, rfl, fun j => ?_, fun g q => (by cases q; exact u1), fun q hq => by rw [zI_ne hq, zI_ne hq], fun k hk => by rw [zI_nk hk, zI_nk hk], rfl, fun q hq => by rw [zI_ne hq, zI_ne hq], fun k hk => by rw [zI_nk hk, zI_nk hk], by rw [zI_at, zI_at]⟩
    rw [if_neg c1, if_neg c2', r3', zbd_s, t3, if_neg (fun q => (znlt.mpr q) c3), u3, zbd_s]
    rfl
  · rw [if_neg c3]
    refine ⟨none, _, zpI T 1 6 st, rfl, fun j => ?_, fun g q => (by cases q), fun q hq => zI_ne hq, fun k hk => zI_nk hk, rfl, fun q hq => zI_ne hq, fun k hk => zI_nk hk, by rw [zI_at, zI_at]⟩
    rw [if_neg c1, if_neg c2', r3', zbd_s, t3, if_pos (znlt.mp c3)]
    rfl
/-- all houses bake -/
theorem zbakes {a : Nat → Int32} {n : Nat} {o : Nat → Nat} (B : zBd a n) (hO : zPm o n) {bp : Option Nat} (hbp : ∀ g, bp = some g → g < n) {X M : zSt} {x2 : Int32} : ∀ (f i : Nat) (S T : zSt), i ≤ n → n < i + f → zOx S a n → (∀ k, k < n → S.1 129 k = nI (o k) ∧ T.1 9 k = nI (o k)) → S.1 135 i = nI (zhp a o i) → T.1 0 24 = nI (zhp a o i) → (∀ h, h < n → S.1 12 h = T.1 1 (23 + 16 * h) ∧ S.1 13 h = T.1 1 (24 + 16 * h) ∧ S.1 14 h = T.1 1 (25 + 16 * h) ∧ S.1 17 h = T.1 1 (28 + 16 * h)) → S.1 11 2 = T.1 1 8 → (∀ h, h < n → (∀ k, k < i → o k ≠ h) → T.1 1 (23 + 16 * h) = a (23 + 16 * h)) → (∀ h, h < n → 0 ≤ (T.1 1 (23 + 16 * h)).toInt ∧ (T.1 1 (23 + 16 * h)).toInt ≤ 999999) → (∀ k, k < i → T.1 1 (170 + k) = nI (o k)) → (∀ k, k ≠ 8 → (k < 170 ∨ 179 ≤ k) → (∀ h, h < n → k ≠ 23 + 16 * h ∧ k ≠ 24 + 16 * h ∧ k ≠ 25 + 16 * h ∧ k ≠ 28 + 16 * h) → T.1 1 k = a k) → (∀ q, q ≠ 11 → q ≠ 12 → q ≠ 13 → q ≠ 14 → q ≠ 17 → q ≠ 135 → S.1 q = X.1 q) → (∀ k, k ≠ 2 → S.1 11 k = X.1 11 k) → S.2 = X.2 → (∀ h, n ≤ h → S.1 12 h = X.1 12 h ∧ S.1 13 h = X.1 13 h ∧ S.1 14 h = X.1 14 h ∧ S.1 17 h = X.1 17 h) → (∀ q, q ≠ 0 → q ≠ 1 → T.1 q = M.1 q) → (∀ k, k ≠ 24 → T.1 0 k = M.1 0 k) →
    ∃ S' T' : zSt, (∀ j : zSt → Option (Int32 × zSt), fx_Lineup_passDay_L42 (nI n) (zbh bp) j f (nI i) S = j S') ∧ (∀ j : zSt → Option (Int32 × zSt), fm_aDay_L104 (nI n) x2 (zbh bp) j f (nI i) T = j T') ∧ (∀ h, h < n → S'.1 12 h = T'.1 1 (23 + 16 * h) ∧ S'.1 13 h = T'.1 1 (24 + 16 * h) ∧ S'.1 14 h = T'.1 1 (25 + 16 * h) ∧ S'.1 17 h = T'.1 1 (28 + 16 * h)) ∧ S'.1 11 2 = T'.1 1 8 ∧ (∀ h, h < n → 0 ≤ (T'.1 1 (23 + 16 * h)).toInt ∧ (T'.1 1 (23 + 16 * h)).toInt ≤ 999999) ∧ (∀ k, k < n → T'.1 1 (170 + k) = nI (o k)) ∧ (∀ k, k ≠ 8 → (k < 170 ∨ 179 ≤ k) → (∀ h, h < n → k ≠ 23 + 16 * h ∧ k ≠ 24 + 16 * h ∧ k ≠ 25 + 16 * h ∧ k ≠ 28 + 16 * h) → T'.1 1 k = a k) ∧ (∀ q, q ≠ 11 → q ≠ 12 → q ≠ 13 → q ≠ 14 → q ≠ 17 → q ≠ 135 → S'.1 q = X.1 q) ∧ (∀ k, k ≠ 2 → S'.1 11 k = X.1 11 k) ∧ S'.2 = X.2 ∧ (∀ h, n ≤ h → S'.1 12 h = X.1 12 h ∧ S'.1 13 h = X.1 13 h ∧ S'.1 14 h = X.1 14 h ∧ S'.1 17 h = X.1 17 h) ∧ (∀ q, q ≠ 0 → q ≠ 1 → T'.1 q = M.1 q) ∧ (∀ k, k ≠ 24 → T'.1 0 k = M.1 0 k) := by
  have hn := B.n9
  intro f
  induction f with
  | zero => intro i S T a b; omega
  | succ f ih =>
    intro i S T h1 h2 hS hA h135 h24 hm hlost hun hrg hbk hot fx fx11 fx2 fxn fm fm0
    by_cases e : i = n
    · subst e
      exact ⟨S, T, fun j => by rw [fx_Lineup_passDay_L42, if_pos (nI_le (Nat.le_refl _) (by omega))], fun j => by rw [fm_aDay_L104, if_pos (nI_le (Nat.le_refl _) (by omega))], hm, hlost, hrg, hbk, hot, fx, fx11, fx2, fxn, fm, fm0⟩
    have hin : i < n := by omega
    have hh := hO.1 i hin
    have hp := zhp_le B i (fun k hk => hO.1 k (by omega))
    have hg : 0 < i → o (i - 1) < n ∧ o (i - 1) ≠ o i := fun _ => ⟨hO.1 _ (by omega), fun q => by have := hO.2.1 (i - 1) i (by omega) hin q; omega⟩
    have stat : ∀ k, k < 5 → T.1 1 k = a k := fun k hk => hot k (by omega) (by omega) (fun h hh => by omega)
    have sth : ∀ h, h < n → ∀ k, k < 3 → T.1 1 (20 + k + 16 * h) = a (20 + k + 16 * h) := fun h hh k hk => hot _ (by omega) (by omega) (fun g hg => by omega)
    have BT : zBd (T.1 1) n := zBd_c B stat sth hrg
    have dsame : T.1 1 (23 + 16 * o i) = a (23 + 16 * o i) := hun (o i) hh (fun k hk q => by have := hO.2.1 k i (by omega) hin q; omega)
    have wz := zwd_c (a := a) (a' := T.1 1) (h := o i) (t := zhp a o i) (fun k hk => stat k (by omega)) (sth _ hh 0 (by omega)) (sth _ hh 1 (by omega)) (sth _ hh 2 (by omega)) dsame
    have lz : zlo (T.1 1) (o i) = zlo a (o i) := zlo_c (sth _ hh 0 (by omega)) dsame
    obtain ⟨b, hb⟩ : ∃ b : Bool, b = true ↔ nI i = zbh bp := by
      by_cases c : nI i = zbh bp
      · exact ⟨true, ⟨fun _ => c, fun _ => rfl⟩⟩
      · exact ⟨false, ⟨fun q => (by cases q), fun q => absurd q c⟩⟩
    obtain ⟨S1, s1, s2, s3, s4, s5, s6, s7, s8, s9⟩ := fx_bake_eq (b := b) (g := o (i - 1)) B hS (by omega) hh hp (hA i hin).1 h135 (fun q => ⟨(hg q).1, (hA _ (by omega)).1, (hg q).2⟩)
    obtain ⟨T1, t1, t2, t3, t4, t5, t6, t7, t8, t9, t10, t11⟩ := fm_bake_eq (b := b) (g := o (i - 1)) (x2 := x2) (x7 := zbh bp) BT rfl hin hh hp (hA i hin).2 h24 hb (fun q => ⟨(hg q).1, (hA _ (by omega)).2, (hg q).2⟩)
    rw [wz.2] at t2
    rw [wz.1] at t5
    rw [lz] at t6 t7 t8 t9
    have t9' : ∀ k, k < n → T1.1 1 (24 + 16 * k) = S1.1 13 k := fun k hk => by
      rw [t9 k hk, s7 k, (hm k hk).2.1]
      by_cases c : b = true
      · rw [if_pos c, if_pos c]
      · rw [if_neg c, if_neg c]
        by_cases d : k = o i
        · rw [if_pos d, if_pos d, (hm (o i) hh).2.1]
        · rw [if_neg d, if_neg d]
          by_cases z : 0 < i ∧ k = o (i - 1)
          · rw [if_pos z, if_pos z, (hm _ (hg z.1).1).2.1]
          · rw [if_neg z, if_neg z]
    have t23 : ∀ k, k < n → T1.1 1 (23 + 16 * k) = if k = o i then T.1 1 (23 + 16 * o i) + -nI (zlo a (o i)) else T.1 1 (23 + 16 * k) := fun k hk => by
      by_cases c : k = o i
      · rw [if_pos c, c, t6]
      · rw [if_neg c, t10 _ (by omega) (by omega) (by omega) (by omega) (by omega) (fun g hg => by omega)]
    obtain ⟨S', T', k1, k2, k3⟩ := ih (i + 1) S1 T1 (by omega) (by omega) (hS.c (fun q hq => s8 q (by omega) (by omega) (by omega) (by omega) (by omega) (by omega))) (fun k hk => by rw [s8 129 (by omega) (by omega) (by omega) (by omega) (by omega) (by omega), t11 9 (by omega) (by omega)]; exact hA k hk) s3 t2 (fun h hh' => by
      refine ⟨?_, (t9' h hh').symm, ?_, ?_⟩
      · rw [s4 h, t23 h hh', (hm h hh').1, (hm (o i) hh).1]
        by_cases c : h = o i
        · rw [if_pos c, if_pos c, Int32.sub_eq_add_neg]
        · rw [if_neg c, if_neg c]
      · rw [s2 h]
        by_cases c : h = o i
        · rw [if_pos c, c, t5, (hm (o i) hh).2.2.1]
        · rw [if_neg c, t10 _ (by omega) (by omega) (by omega) (by omega) (by omega) (fun g hg => by omega)]
          exact (hm h hh').2.2.1
      · rw [s5 h]
        by_cases c : h = o i
        · rw [if_pos c, c, t7, (hm (o i) hh).2.2.2]
        · rw [if_neg c, t10 _ (by omega) (by omega) (by omega) (by omega) (by omega) (fun g hg => by omega)]
          exact (hm h hh').2.2.2) (by
      rw [s6 2, t8]
      by_cases c : b = true
      · rw [if_pos ⟨c, rfl⟩, if_pos c, hlost]
      · rw [if_neg (fun q => c q.1), if_neg c, hlost]) (fun h hh' hno => by
      rw [t23 h hh', if_neg (fun q => hno i (by omega) q.symm)]
      exact hun h hh' (fun k hk => hno k (by omega))) (fun h hh' => by
      rw [t23 h hh']
      by_cases c : h = o i
      · rw [if_pos c, dsame]
        obtain ⟨_, d, s, d1, d2, d3, d4, d5⟩ := B.lo (o i) hh
        rw [d3, ← Int32.sub_eq_add_neg, pk_sub (by omega), nI_toInt (by omega)]
        omega
      · rw [if_neg c]; exact hrg h hh') (fun k hk => by
      by_cases c : k = i
      · rw [c]; exact t4
      · rw [t10 _ (by omega) (by omega) (by omega) (by omega) (by omega) (fun g hg => by omega)]
        exact hbk k (by omega)) (fun k q1 q2 q3 => by
      rw [t10 k q1 (by omega) (q3 _ hh).1 (q3 _ hh).2.2.1 (q3 _ hh).2.2.2 (fun g hg => (q3 g hg).2.1)]
      exact hot k q1 q2 q3) (fun q a b c d e f => by rw [s8 q a b c d e f]; exact fx q a b c d e f) (fun k hk => by rw [s6 k, if_neg (fun q => hk q.2)]; exact fx11 k hk) (by rw [s9]; exact fx2) (fun h hh' => by
      rw [s4 h, if_neg (by omega), s2 h, if_neg (by omega), s5 h, if_neg (by omega), s7 h]
      obtain ⟨f1, f2, f3, f4⟩ := fxn h hh'
      refine ⟨f1, ?_, f3, f4⟩
      by_cases c : b = true
      · rw [if_pos c]; exact f2
      · rw [if_neg c, if_neg (by omega), if_neg (fun q => by have := (hg q.1).1; omega)]; exact f2) (fun q a b => by rw [t11 q a b]; exact fm q a b) (fun k hk => by rw [t3 k hk]; exact fm0 k hk)
    refine ⟨S', T', fun j => ?_, fun j => by rw [t1 f j]; exact k2 j, k3⟩
    rw [fx_Lineup_passDay_L42, if_neg (nI_ge hin (by omega))]
    simp only [znm_q]
    by_cases c : nI i = zbh bp
    · rw [if_pos c]
      rw [hb.mpr c, if_pos rfl] at s1
      rw [s1, zbd_s, nI_1]
      exact k1 j
    · have bf : b = false := by
        cases hbb : b with
        | true => exact absurd (hb.mp hbb) c
        | false => rfl
      rw [if_neg c]
      rw [bf, if_neg (show ¬ false = true by decide)] at s1
      rw [s1, zbd_s, nI_1]
      exact k1 j
