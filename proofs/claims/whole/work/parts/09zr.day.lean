/-! one day -/
def zbv (o : Nat → Nat) : Option Nat → Int32
  | none => -1
  | some g => nI (o g)
theorem znm_if {α : Type} {c : Prop} [Decidable c] (J : Int32 → zSt → α) (M : zSt) : znm J (fun j => if c then j 1 M else j 0 M) = J (if c then 1 else 0) M := by
  rw [znm_q]
  by_cases h : c
  · rw [if_pos h, if_pos h]
  · rw [if_neg h, if_neg h]
theorem zday {X M : zSt} {n : Nat} (hH : rH X.1 3 (M.1 1) n) (hT : rT X.1 11 (M.1 1) n) (hS : rS X.1 3 (M.1 1)) (hR : X.1 20 2 = M.1 1 590 ∧ zRR (X.1 21) (X.1 20 1) (X.1 20 2) (M.1 1)) (hd : (M.1 1 5).toInt ≤ 9998) : ∃ (r : Int32) (S' T' : zSt), fx_Lineup_passDay X = some (r, S') ∧ fm_aDay M = some (r, T') ∧ (r = 0 ∨ r = 1) ∧ rT S'.1 11 (T'.1 1) n ∧ T'.1 1 5 = M.1 1 5 + 1 ∧ (∀ q, (q < 11 ∨ 19 ≤ q) → (q < 129 ∨ 136 ≤ q) → S'.1 q = X.1 q) ∧ S'.2 = X.2 ∧ (∀ q, q ≠ 0 → q ≠ 1 → (q < 7 ∨ 11 ≤ q) → T'.1 q = M.1 q) ∧ (∀ k, k ≠ 24 → T'.1 0 k = M.1 0 k) ∧ (∀ k, k < 5 → T'.1 1 k = M.1 1 k) ∧ (∀ h, h < n → ∀ k, (k < 3 ∨ 9 ≤ k) → k < 15 → T'.1 1 (20 + 16 * h + k) = M.1 1 (20 + 16 * h + k)) ∧ (∀ k, 180 ≤ k → T'.1 1 k = M.1 1 k) := by
  have hn : n ≤ 9 := hH.2.2.1
  have em : M.1 1 4 = nI n := hH.2.1
  have B := zBd_of hH hT hS
  obtain ⟨S1, T1, o, s1, s2, hO, s4, s5, s6, s7⟩ := ztoday hH hT hR
  have s1q : ∀ q, (q < 129 ∨ 134 ≤ q) → S1.1 q = X.1 q := fun q hq => s5 q (by omega) (by omega) (by omega) (by omega)
  have t1m : T1.1 1 = M.1 1 := s7 1 (by omega) (by omega) (by omega) (by omega)
  obtain ⟨S2, w1, w2, w3, w4⟩ := fx_weigh_eq (X := S1) B (by rw [s1q 4 (by omega)]; exact hH.1) (fun h hh => by rw [s1q 5 (by omega)]; exact (hH.2.2.2.1 h hh).1) (fun h hh => by rw [s1q 12 (by omega)]; exact (hT.2.2.2.2.2.1 h hh).1)
  have s2q : ∀ q, (q < 129 ∨ 135 ≤ q) → S2.1 q = X.1 q := fun q hq => by rw [w3 q (by omega), s1q q (by omega)]
  obtain ⟨bp, S3, T3, b1, b2, b3, b4, b5, b6, b7, b8, b9⟩ := zburn (S := S2) (T := T1) hn (by rw [s2q 4 (by omega)]; exact hH.1) (by rw [s2q 11 (by omega), t1m]; exact hT.1) (by rw [s2q 19 (by omega), t1m]; exact hS.1 3 (by omega))
  have s3q : ∀ q, q ≠ 11 → (q < 129 ∨ 135 ≤ q) → S3.1 q = X.1 q := fun q h1 h2 => by rw [b4 q h1, s2q q h2]
  have s3k : ∀ k, k ≠ 0 → S3.1 11 k = X.1 11 k := fun k hk => by rw [b5 k hk, s2q 11 (by omega)]
  obtain ⟨bv, hbv⟩ : ∃ bv : Int32, bv = zbv o bp := ⟨_, rfl⟩
  generalize hT5 : zpI (zpI (zpI T3 0 24 0) 1 9 (nI n)) 1 10 bv = T5
  have t5k : ∀ k, k ≠ 6 → k ≠ 9 → k ≠ 10 → T5.1 1 k = M.1 1 k := fun k k6 k9 k10 => by rw [← hT5, zI_nk k10, zI_nk k9, zI_ne (by omega), b8 k k6, t1m]
  have t5q : ∀ q, q ≠ 0 → q ≠ 1 → T5.1 q = T1.1 q := fun q q0 q1 => by rw [← hT5, zI_ne q1, zI_ne q1, zI_ne q0, b7 q q1]
  have t50 : ∀ k, k ≠ 24 → T5.1 0 k = M.1 0 k := fun k hk => by rw [← hT5, zI_ne (by omega), zI_ne (by omega), zI_nk hk, b7 0 (by omega), s7 0 (by omega) (by omega) (by omega) (by omega)]
  have t524 : T5.1 0 24 = nI 0 := by rw [← hT5, zI_ne (by omega), zI_ne (by omega), zI_at]; rfl
  have t56 : T5.1 1 6 = S3.1 11 0 := by rw [← hT5, zI_nk (by omega), zI_nk (by omega), zI_ne (by omega), b9]
  have t59 : T5.1 1 9 = nI n := by rw [← hT5, zI_nk (by omega), zI_at]
  have t510 : T5.1 1 10 = bv := by rw [← hT5, zI_at]
  have Ba : zBd (T5.1 1) n := zBd_c B (fun k hk => t5k k (by omega) (by omega) (by omega)) (fun h hh k hk => t5k _ (by omega) (by omega) (by omega)) (fun h hh => by rw [t5k _ (by omega) (by omega) (by omega)]; exact hT.2.2.2.2.2.2.1 h hh)
  have hHa : rH X.1 3 (T5.1 1) n := rH_c (fun _ _ _ => rfl) (t5k 4 (by omega) (by omega) (by omega)) (fun h hh k _ hk => t5k _ (by omega) (by omega) (by omega)) (fun k _ _ => t5k k (by omega) (by omega) (by omega)) hH
  have hSa : rS X.1 3 (T5.1 1) := rS_c rfl (fun k hk => t5k k (by omega) (by omega) (by omega)) hS
  generalize hSL : zpI S3 135 0 0 = SL
  have slq : ∀ q, q ≠ 135 → SL.1 q = S3.1 q := fun q hq => by rw [← hSL, zI_ne hq]
  have OS : zOx SL (T5.1 1) n := zOx_of Ba hHa hSa (fun h hh => by
    rw [slq 134 (by omega), b4 134 (by omega), w2 h hh, zlo_c (t5k _ (by omega) (by omega) (by omega)) (t5k _ (by omega) (by omega) (by omega))]) (fun q hq => by rw [slq q (by omega), s3q q (by omega) (by omega)])
  have ord : ∀ k, k < n → SL.1 129 k = nI (o k) ∧ T5.1 9 k = nI (o k) := fun k hk => by
    rw [slq 129 (by omega), b4 129 (by omega), w3 129 (by omega), t5q 9 (by omega) (by omega)]
    exact s4 k hk
  have xh := hT.2.2.2.2.2.1
  obtain ⟨x2, hx2⟩ : ∃ x2 : Int32, x2 = (if M.1 1 5 - M.1 1 5 / 7 * 7 = 0 then 1 else 0) := ⟨_, rfl⟩
  obtain ⟨S4, T6, l1, l2, l3, l4, l5, l6, l7, l8, l9, l10, l11, l12, l13⟩ := zbakes (a := T5.1 1) (o := o) Ba hO (bp := bp) b3 (X := SL) (M := T5) (x2 := x2) zFU 0 SL T5 (by omega) (by unfold zFU; omega) OS ord (by rw [← hSL, zI_at]; rfl) t524 (fun h hh => by
    rw [slq 12 (by omega), slq 13 (by omega), slq 14 (by omega), slq 17 (by omega), s3q 12 (by omega) (by omega), s3q 13 (by omega) (by omega), s3q 14 (by omega) (by omega), s3q 17 (by omega) (by omega), t5k (23 + 16 * h) (by omega) (by omega) (by omega), t5k (24 + 16 * h) (by omega) (by omega) (by omega), t5k (25 + 16 * h) (by omega) (by omega) (by omega), t5k (28 + 16 * h) (by omega) (by omega) (by omega)]
    obtain ⟨p1, p2, p3, p4, p5, p6⟩ := xh h hh
    exact ⟨p1, p2, p3, p6⟩) (by rw [slq 11 (by omega), s3k 2 (by omega), t5k 8 (by omega) (by omega) (by omega)]; exact hT.2.2.1) (fun h _ _ => rfl) (fun h hh => by rw [t5k _ (by omega) (by omega) (by omega)]; exact hT.2.2.2.2.2.2.1 h hh) (fun k hk => by omega) (fun _ _ _ _ => rfl) (fun _ _ _ _ _ _ _ => rfl) (fun _ _ => rfl) rfl (fun _ _ => ⟨rfl, rfl, rfl, rfl⟩) (fun _ _ _ => rfl) (fun _ _ => rfl)
  rw [nI_0] at l1 l2
  have s4q : ∀ q, (q < 11 ∨ 19 ≤ q) → (q < 129 ∨ 136 ≤ q) → S4.1 q = X.1 q := fun q h1 h2 => by rw [l8 q (by omega) (by omega) (by omega) (by omega) (by omega) (by omega), slq q (by omega), s3q q (by omega) (by omega)]
  have s4o : ∀ k, k < n → S4.1 129 k = nI (o k) := fun k hk => by rw [l8 129 (by omega) (by omega) (by omega) (by omega) (by omega) (by omega)]; exact (ord k hk).1
  have s415 : S4.1 15 = X.1 15 := by rw [l8 15 (by omega) (by omega) (by omega) (by omega) (by omega) (by omega), slq 15 (by omega), s3q 15 (by omega) (by omega)]
  have s416 : S4.1 16 = X.1 16 := by rw [l8 16 (by omega) (by omega) (by omega) (by omega) (by omega) (by omega), slq 16 (by omega), s3q 16 (by omega) (by omega)]
  have s4t : ∀ k, k ≠ 0 → k ≠ 2 → S4.1 11 k = X.1 11 k := fun k k0 k2 => by rw [l9 k k2, slq 11 (by omega), s3k k k0]
  have s40 : S4.1 11 0 = T5.1 1 6 := by rw [l9 0 (by omega), slq 11 (by omega), t56]
  have s4l : S4.2 = X.2 := by rw [l10, ← hSL]; show S3.2 = X.2; rw [b6, w4, s6]
  have t6k : ∀ k, (∀ h, h < n → k ≠ 23 + 16 * h ∧ k ≠ 24 + 16 * h ∧ k ≠ 25 + 16 * h ∧ k ≠ 28 + 16 * h) → k ≠ 8 → (k < 170 ∨ 179 ≤ k) → T6.1 1 k = T5.1 1 k := fun k h1 h2 h3 => l7 k h2 h3 h1
  -- behind the oven: the first house, the book, the day
  have hmon : ∀ Z : zSt, Z.1 11 1 = M.1 1 5 → fx_Times_isMonday Z = some (x2, Z) := fun Z hZ => by
    unfold fx_Times_isMonday
    simp only [znm_q]
    rw [hZ, hx2]
    by_cases c : M.1 1 5 - M.1 1 5 / 7 * 7 = 0
    · rw [if_pos c, if_pos c, zbo_1, zck_t]
    · rw [if_neg c, if_neg c, zbo_0, zck_t]
  have x2b : x2 = 0 ∨ x2 = 1 := by
    rw [hx2]
    by_cases c : M.1 1 5 - M.1 1 5 / 7 * 7 = 0
    · rw [if_pos c]; exact Or.inr rfl
    · rw [if_neg c]; exact Or.inl rfl
  obtain ⟨S5, T7, e1, e2, f15, f16, g15, g16, fo, fl, go, gq⟩ : ∃ S5 T7 : zSt, (∀ j : zSt → Option (Int32 × zSt), (if nI n ≤ 0 then (if nI n ≤ 0 then j S4 else zbd (fx_Times_isMonday S4) fun r_27 S_28 => if r_27 = 0 then j S_28 else zck (zix (S_28.1 129 0) 9) (zck (zix (S_28.1 129 0) 9) (j (zpI S_28 16 (S_28.1 129 0).toNatClampNeg (S_28.1 16 (S_28.1 129 0).toNatClampNeg + 1))))) else zck (zix (S4.1 129 0) 9) (zck (zix (S4.1 129 0) 9) (if nI n ≤ 0 then j (zpI S4 15 (S4.1 129 0).toNatClampNeg (S4.1 15 (S4.1 129 0).toNatClampNeg + 1)) else zbd (fx_Times_isMonday (zpI S4 15 (S4.1 129 0).toNatClampNeg (S4.1 15 (S4.1 129 0).toNatClampNeg + 1))) fun r_27 S_28 => if r_27 = 0 then j S_28 else zck (zix (S_28.1 129 0) 9) (zck (zix (S_28.1 129 0) 9) (j (zpI S_28 16 (S_28.1 129 0).toNatClampNeg (S_28.1 16 (S_28.1 129 0).toNatClampNeg + 1))))))) = j S5) ∧ (∀ j : zSt → Option (Int32 × zSt), (if nI n ≤ 0 then j T6 else zbd (fm_adds T6 (T6.1 9 0) 6 1) fun _ S_21 => if x2 = 0 then zbd (fm_adds S_21 (S_21.1 9 0) 7 0) (fun _ S_26 => j S_26) else zbd (fm_adds S_21 (S_21.1 9 0) 7 1) (fun _ S_26 => j S_26)) = j T7) ∧ (∀ h, h < n → S5.1 15 h = T7.1 1 (26 + 16 * h)) ∧ (∀ h, h < n → S5.1 16 h = T7.1 1 (27 + 16 * h)) ∧ (∀ h, n ≤ h → S5.1 15 h = X.1 15 h) ∧ (∀ h, n ≤ h → S5.1 16 h = X.1 16 h) ∧ (∀ q, q ≠ 15 → q ≠ 16 → S5.1 q = S4.1 q) ∧ S5.2 = S4.2 ∧ (∀ k, (∀ h, h < n → k ≠ 26 + 16 * h ∧ k ≠ 27 + 16 * h) → T7.1 1 k = T6.1 1 k) ∧ (∀ q, q ≠ 1 → T7.1 q = T6.1 q) := by
    have m15 : ∀ h, h < n → S4.1 15 h = T6.1 1 (26 + 16 * h) := fun h hh => by
      rw [s415, t6k _ (fun g hg => by omega) (by omega) (by omega), t5k _ (by omega) (by omega) (by omega)]
      exact (xh h hh).2.2.2.1
    have m16 : ∀ h, h < n → S4.1 16 h = T6.1 1 (27 + 16 * h) := fun h hh => by
      rw [s416, t6k _ (fun g hg => by omega) (by omega) (by omega), t5k _ (by omega) (by omega) (by omega)]
      exact (xh h hh).2.2.2.2.1
    by_cases n0 : n = 0
    · have c : nI n ≤ 0 := by rw [n0]; decide
      exact ⟨S4, T6, fun j => by rw [if_pos c, if_pos c], fun j => by rw [if_pos c], fun h hh => by omega, fun h hh => by omega, fun h _ => by rw [s415], fun h _ => by rw [s416], fun _ _ _ => rfl, rfl, fun _ _ => rfl, fun _ _ => rfl⟩
    · have c : ¬ nI n ≤ 0 := nI_nle (by omega) (by omega)
      have h0 := hO.1 0 (by omega)
      have so := s4o 0 (by omega)
      have to9 : T6.1 9 0 = nI (o 0) := by rw [l12 9 (by omega) (by omega)]; exact (ord 0 (by omega)).2
      have ad : ∀ (Z : zSt) (j c : Nat) (v : Int32), j < 16 → c = 20 + j + 16 * o 0 → fm_adds Z (nI (o 0)) (nI j) v = some ((), zpI Z 1 c (Z.1 1 c + v)) := fun Z j c v hj e => by
        rw [fm_adds_eq (by omega) hj, show 20 + 16 * o 0 + j = c by omega]
      have a6 := ad T6 6 (26 + 16 * o 0) 1 (by omega) (by omega)
      generalize hU : zpI T6 1 (26 + 16 * o 0) (T6.1 1 (26 + 16 * o 0) + 1) = U at a6
      have uo9 : U.1 9 0 = nI (o 0) := by rw [← hU, zI_ne (by omega)]; exact to9
      have uk : ∀ k, k ≠ 26 + 16 * o 0 → U.1 1 k = T6.1 1 k := fun k hk => by rw [← hU, zI_nk hk]
      generalize hV : zpI S4 15 (o 0) (S4.1 15 (o 0) + 1) = V
      have vq : ∀ q, q ≠ 15 → V.1 q = S4.1 q := fun q hq => by rw [← hV, zI_ne hq]
      have v15 : ∀ h, h < n → V.1 15 h = U.1 1 (26 + 16 * h) := fun h hh => by
        by_cases d : h = o 0
        · rw [d, ← hV, ← hU, zI_at, zI_at, m15 _ h0]
        · rw [← hV, ← hU, zI_nk d, zI_nk (by omega), m15 h hh]
      have v15n : ∀ h, n ≤ h → V.1 15 h = X.1 15 h := fun h hh => by rw [← hV, zI_nk (by omega), s415]
      have vm := hmon V (by rw [vq 11 (by omega), s4t 1 (by omega) (by omega)]; exact hT.2.1)
      have hx : ∀ j : zSt → Option (Int32 × zSt), (if nI n ≤ 0 then (if nI n ≤ 0 then j S4 else zbd (fx_Times_isMonday S4) fun r_27 S_28 => if r_27 = 0 then j S_28 else zck (zix (S_28.1 129 0) 9) (zck (zix (S_28.1 129 0) 9) (j (zpI S_28 16 (S_28.1 129 0).toNatClampNeg (S_28.1 16 (S_28.1 129 0).toNatClampNeg + 1))))) else zck (zix (S4.1 129 0) 9) (zck (zix (S4.1 129 0) 9) (if nI n ≤ 0 then j (zpI S4 15 (S4.1 129 0).toNatClampNeg (S4.1 15 (S4.1 129 0).toNatClampNeg + 1)) else zbd (fx_Times_isMonday (zpI S4 15 (S4.1 129 0).toNatClampNeg (S4.1 15 (S4.1 129 0).toNatClampNeg + 1))) fun r_27 S_28 => if r_27 = 0 then j S_28 else zck (zix (S_28.1 129 0) 9) (zck (zix (S_28.1 129 0) 9) (j (zpI S_28 16 (S_28.1 129 0).toNatClampNeg (S_28.1 16 (S_28.1 129 0).toNatClampNeg + 1))))))) = if x2 = 0 then j V else j (zpI V 16 (o 0) (V.1 16 (o 0) + 1)) := fun j => by
        rw [if_neg c, if_neg c, so, zix_n (show o 0 < 9 by omega) (by omega), zck_t, zck_t, nI_clamp (by omega), hV, vm, zbd_s, vq 129 (by omega), so, zix_n (show o 0 < 9 by omega) (by omega), zck_t, zck_t, nI_clamp (by omega)]
      have hmm : ∀ j : zSt → Option (Int32 × zSt), (if nI n ≤ 0 then j T6 else zbd (fm_adds T6 (T6.1 9 0) 6 1) fun _ S_21 => if x2 = 0 then zbd (fm_adds S_21 (S_21.1 9 0) 7 0) (fun _ S_26 => j S_26) else zbd (fm_adds S_21 (S_21.1 9 0) 7 1) (fun _ S_26 => j S_26)) = if x2 = 0 then j (zpI U 1 (27 + 16 * o 0) (U.1 1 (27 + 16 * o 0) + 0)) else j (zpI U 1 (27 + 16 * o 0) (U.1 1 (27 + 16 * o 0) + 1)) := fun j => by
        rw [if_neg c, to9, show (6 : Int32) = nI 6 from rfl, a6, zbd_s, uo9, show (7 : Int32) = nI 7 from rfl, ad U 7 (27 + 16 * o 0) 0 (by omega) (by omega), ad U 7 (27 + 16 * o 0) 1 (by omega) (by omega), zbd_s, zbd_s]
      have u27 : ∀ h, h < n → U.1 1 (27 + 16 * h) = S4.1 16 h := fun h hh => by rw [uk _ (by omega), m16 h hh]
      rcases x2b with z | z
      · refine ⟨V, zpI U 1 (27 + 16 * o 0) (U.1 1 (27 + 16 * o 0) + 0), fun j => by rw [hx, if_pos z], fun j => by rw [hmm, if_pos z], fun h hh => by rw [zI_nk (by omega)]; exact v15 h hh, fun h hh => ?_, v15n, fun h hh => by rw [vq 16 (by omega), s416], fun q q1 q2 => vq q q1, by rw [← hV]; rfl, fun k hk => by rw [zI_nk (hk _ h0).2, uk k (hk _ h0).1], fun q hq => by rw [zI_ne hq, ← hU, zI_ne hq]⟩
        by_cases d : h = o 0
        · rw [d, zI_at, Int32.add_zero, u27 _ h0, vq 16 (by omega)]
        · rw [zI_nk (by omega), u27 h hh, vq 16 (by omega)]
      · have z' : ¬ x2 = 0 := by rw [z]; decide
        refine ⟨zpI V 16 (o 0) (V.1 16 (o 0) + 1), zpI U 1 (27 + 16 * o 0) (U.1 1 (27 + 16 * o 0) + 1), fun j => by rw [hx, if_neg z'], fun j => by rw [hmm, if_neg z'], fun h hh => by rw [zI_nk (by omega), zI_ne (by omega)]; exact v15 h hh, fun h hh => ?_, fun h hh => by rw [zI_ne (by omega)]; exact v15n h hh, fun h hh => by rw [zI_nk (by omega), vq 16 (by omega), s416], fun q q1 q2 => by rw [zI_ne q2, vq q q1], by rw [← hV]; rfl, fun k hk => by rw [zI_nk (hk _ h0).2, uk k (hk _ h0).1], fun q hq => by rw [zI_ne hq, ← hU, zI_ne hq]⟩
        by_cases d : h = o 0
        · rw [d, zI_at, zI_at, u27 _ h0, vq 16 (by omega)]
        · rw [zI_nk d, zI_nk (by omega), u27 h hh, vq 16 (by omega)]
  have s5q : ∀ q, (q < 11 ∨ 19 ≤ q) → (q < 129 ∨ 136 ≤ q) → S5.1 q = X.1 q := fun q h1 h2 => by rw [fo q (by omega) (by omega)]; exact s4q q h1 h2
  generalize hS6 : zpI (zcI S5 18 (va_cpy (S5.1 129) (S5.1 18) 0 0 9)) 11 10 (nI n) = S6
  have s6q : ∀ q, q ≠ 11 → q ≠ 18 → S6.1 q = S5.1 q := fun q q1 q2 => by rw [← hS6, zI_ne q1, zcI_ne q2]
  have s6k : ∀ k, k ≠ 10 → S6.1 11 k = S4.1 11 k := fun k hk => by rw [← hS6, zI_nk hk, zcI_ne (by omega), fo 11 (by omega) (by omega)]
  have s618 : ∀ k, k < n → S6.1 18 k = nI (o k) := fun k hk => by rw [← hS6, zI_ne (by omega), zcI_eq, z_cp (by omega), fo 129 (by omega) (by omega)]; exact s4o k hk
  have bvx : ∀ (j : Int32 → zSt → Option (Int32 × zSt)), (if zbh bp = -1 then j (-1) S6 else zck (zix (zbh bp) 9) (j (S6.1 129 (zbh bp).toNatClampNeg) S6)) = j bv S6 := fun j => by
    cases hbp : bp with
    | none => rw [hbp] at hbv; rw [show zbh none = -1 from rfl, if_pos rfl, hbv]; rfl
    | some g =>
      rw [hbp] at hbv
      have hg := b3 g hbp
      have og := hO.1 g hg
      rw [show zbh (some g) = nI g from rfl, if_neg (nI_m1 (by omega)), zix_n (by omega) (by omega), zck_t, nI_clamp (by omega), s6q 129 (by omega) (by omega), fo 129 (by omega) (by omega), s4o g hg, hbv]
      rfl
  obtain ⟨rr, hrr⟩ : ∃ rr : Int32, rr = (if zbh bp = -1 then 0 else 1) := ⟨_, rfl⟩
  have rrb : rr = 0 ∨ rr = 1 := by
    rw [hrr]
    by_cases c : zbh bp = -1
    · rw [if_pos c]; exact Or.inl rfl
    · rw [if_neg c]; exact Or.inr rfl
  have flag : ∀ Z : zSt, (if zbh bp = -1 then zck (zbo 0) (some ((0 : Int32), Z)) else zck (zbo 1) (some ((1 : Int32), Z))) = some (rr, Z) := fun Z => by
    rw [hrr]
    by_cases c : zbh bp = -1
    · rw [if_pos c, if_pos c, zbo_0, zck_t]
    · rw [if_neg c, if_neg c, zbo_1, zck_t]
  have flagm : ∀ Z : zSt, (if zbh bp = -1 then some ((0 : Int32), Z) else some ((1 : Int32), Z)) = some (rr, Z) := fun Z => by
    rw [hrr]
    by_cases c : zbh bp = -1
    · rw [if_pos c, if_pos c]
    · rw [if_neg c, if_neg c]
  have hx : fx_Lineup_passDay X = some (rr, zpI (zpI S6 11 11 bv) 11 1 ((zpI S6 11 11 bv).1 11 1 + 1)) := by
    unfold fx_Lineup_passDay
    rw [hH.1, znm_q, s1, zbd_s, w1, zbd_s, b1, zbd_s, znm_q, hSL]
    simp only [znm_q]
    rw [l1]
    refine (e1 (fun S_14 => if zbh bp = -1 then (if zbh bp = -1 then zck (zbo 0) (some (0, (zpI (zpI (zpI (zcI S_14 18 (va_cpy (S_14.1 129) (S_14.1 18) 0 0 9)) 11 10 (nI n)) 11 11 (-1)) 11 1 ((zpI (zpI (zcI S_14 18 (va_cpy (S_14.1 129) (S_14.1 18) 0 0 9)) 11 10 (nI n)) 11 11 (-1)).1 11 1 + 1)))) else zck (zbo 1) (some (1, (zpI (zpI (zpI (zcI S_14 18 (va_cpy (S_14.1 129) (S_14.1 18) 0 0 9)) 11 10 (nI n)) 11 11 (-1)) 11 1 ((zpI (zpI (zcI S_14 18 (va_cpy (S_14.1 129) (S_14.1 18) 0 0 9)) 11 10 (nI n)) 11 11 (-1)).1 11 1 + 1))))) else zck (zix (zbh bp) 9) (if zbh bp = -1 then zck (zbo 0) (some (0, (zpI (zpI (zpI (zcI S_14 18 (va_cpy (S_14.1 129) (S_14.1 18) 0 0 9)) 11 10 (nI n)) 11 11 ((zpI (zcI S_14 18 (va_cpy (S_14.1 129) (S_14.1 18) 0 0 9)) 11 10 (nI n)).1 129 (zbh bp).toNatClampNeg)) 11 1 ((zpI (zpI (zcI S_14 18 (va_cpy (S_14.1 129) (S_14.1 18) 0 0 9)) 11 10 (nI n)) 11 11 ((zpI (zcI S_14 18 (va_cpy (S_14.1 129) (S_14.1 18) 0 0 9)) 11 10 (nI n)).1 129 (zbh bp).toNatClampNeg)).1 11 1 + 1)))) else zck (zbo 1) (some (1, (zpI (zpI (zpI (zcI S_14 18 (va_cpy (S_14.1 129) (S_14.1 18) 0 0 9)) 11 10 (nI n)) 11 11 ((zpI (zcI S_14 18 (va_cpy (S_14.1 129) (S_14.1 18) 0 0 9)) 11 10 (nI n)).1 129 (zbh bp).toNatClampNeg)) 11 1 ((zpI (zpI (zcI S_14 18 (va_cpy (S_14.1 129) (S_14.1 18) 0 0 9)) 11 10 (nI n)) 11 11 ((zpI (zcI S_14 18 (va_cpy (S_14.1 129) (S_14.1 18) 0 0 9)) 11 10 (nI n)).1 129 (zbh bp).toNatClampNeg)).1 11 1 + 1))))))).trans ?_
    rw [hS6]
    exact (bvx (fun v Z => (if zbh bp = -1 then zck (zbo 0) (some (0, (zpI (zpI Z 11 11 v) 11 1 ((zpI Z 11 11 v).1 11 1 + 1)))) else zck (zbo 1) (some (1, (zpI (zpI Z 11 11 v) 11 1 ((zpI Z 11 11 v).1 11 1 + 1))))))).trans (flag _)
  have hm : fm_aDay M = some (rr, zpI T7 1 5 (T7.1 1 5 + 1)) := by
    have bvm : ∀ (j : Int32 → zSt → Option (Int32 × zSt)), (if zbh bp = -1 then j (-1) (zpI (zpI T3 0 24 0) 1 9 (nI n)) else zck (zix (zbh bp) 9) (j ((zpI (zpI T3 0 24 0) 1 9 (nI n)).1 9 (zbh bp).toNatClampNeg) (zpI (zpI T3 0 24 0) 1 9 (nI n)))) = j bv (zpI (zpI T3 0 24 0) 1 9 (nI n)) := fun j => by
      cases hbp : bp with
      | none => rw [hbp] at hbv; rw [show zbh none = -1 from rfl, if_pos rfl, hbv]; rfl
      | some g =>
        rw [hbp] at hbv
        have hg := b3 g hbp
        have og := hO.1 g hg
        rw [show zbh (some g) = nI g from rfl, if_neg (nI_m1 (by omega)), zix_n (by omega) (by omega), zck_t, nI_clamp (by omega), zI_ne (by omega), zI_ne (by omega), b7 9 (by omega), (s4 g hg).2, hbv]
        rfl
    unfold fm_aDay
    rw [em, znm_q (nI n), znm_if, ← hx2]
    simp only [znm_q]
    rw [s2, zbd_s]
    refine (b2 (fun x_7 S_8 => if x_7 = -1 then fm_aDay_L104 (nI n) x2 x_7 (fun S_14 => if nI n ≤ 0 then (if x_7 = -1 then some (0, zpI S_14 1 5 (S_14.1 1 5 + 1)) else some (1, zpI S_14 1 5 (S_14.1 1 5 + 1))) else zbd (fm_adds S_14 (S_14.1 9 0) 6 1) fun _ S_21 => if x2 = 0 then zbd (fm_adds S_21 (S_21.1 9 0) 7 0) (fun _ S_26 => if x_7 = -1 then some (0, zpI S_26 1 5 (S_26.1 1 5 + 1)) else some (1, zpI S_26 1 5 (S_26.1 1 5 + 1))) else zbd (fm_adds S_21 (S_21.1 9 0) 7 1) (fun _ S_26 => if x_7 = -1 then some (0, zpI S_26 1 5 (S_26.1 1 5 + 1)) else some (1, zpI S_26 1 5 (S_26.1 1 5 + 1)))) zFU 0 (zpI (zpI (zpI S_8 0 24 0) 1 9 (nI n)) 1 10 (-1)) else zck (zix x_7 9) (fm_aDay_L104 (nI n) x2 x_7 (fun S_14 => if nI n ≤ 0 then (if x_7 = -1 then some (0, zpI S_14 1 5 (S_14.1 1 5 + 1)) else some (1, zpI S_14 1 5 (S_14.1 1 5 + 1))) else zbd (fm_adds S_14 (S_14.1 9 0) 6 1) fun _ S_21 => if x2 = 0 then zbd (fm_adds S_21 (S_21.1 9 0) 7 0) (fun _ S_26 => if x_7 = -1 then some (0, zpI S_26 1 5 (S_26.1 1 5 + 1)) else some (1, zpI S_26 1 5 (S_26.1 1 5 + 1))) else zbd (fm_adds S_21 (S_21.1 9 0) 7 1) (fun _ S_26 => if x_7 = -1 then some (0, zpI S_26 1 5 (S_26.1 1 5 + 1)) else some (1, zpI S_26 1 5 (S_26.1 1 5 + 1)))) zFU 0 (zpI (zpI (zpI S_8 0 24 0) 1 9 (nI n)) 1 10 ((zpI (zpI S_8 0 24 0) 1 9 (nI n)).1 9 x_7.toNatClampNeg))))).trans ?_
    refine (bvm (fun v Z => fm_aDay_L104 (nI n) x2 (zbh bp) (fun S_14 => if nI n ≤ 0 then (if zbh bp = -1 then some (0, zpI S_14 1 5 (S_14.1 1 5 + 1)) else some (1, zpI S_14 1 5 (S_14.1 1 5 + 1))) else zbd (fm_adds S_14 (S_14.1 9 0) 6 1) fun _ S_21 => if x2 = 0 then zbd (fm_adds S_21 (S_21.1 9 0) 7 0) (fun _ S_26 => if zbh bp = -1 then some (0, zpI S_26 1 5 (S_26.1 1 5 + 1)) else some (1, zpI S_26 1 5 (S_26.1 1 5 + 1))) else zbd (fm_adds S_21 (S_21.1 9 0) 7 1) (fun _ S_26 => if zbh bp = -1 then some (0, zpI S_26 1 5 (S_26.1 1 5 + 1)) else some (1, zpI S_26 1 5 (S_26.1 1 5 + 1)))) zFU 0 (zpI Z 1 10 v))).trans ?_
    rw [hT5, l2]
    refine (e2 (fun S_26 => if zbh bp = -1 then some (0, zpI S_26 1 5 (S_26.1 1 5 + 1)) else some (1, zpI S_26 1 5 (S_26.1 1 5 + 1)))).trans ?_
    exact flagm _
  have t7k : ∀ k, (∀ h, h < n → k ≠ 23 + 16 * h ∧ k ≠ 24 + 16 * h ∧ k ≠ 25 + 16 * h ∧ k ≠ 28 + 16 * h ∧ k ≠ 26 + 16 * h ∧ k ≠ 27 + 16 * h) → k ≠ 8 → (k < 170 ∨ 179 ≤ k) → T7.1 1 k = T5.1 1 k := fun k h1 h2 h3 => by
    rw [go k (fun h hh => ⟨(h1 h hh).2.2.2.2.1, (h1 h hh).2.2.2.2.2⟩), t6k k (fun h hh => ⟨(h1 h hh).1, (h1 h hh).2.1, (h1 h hh).2.2.1, (h1 h hh).2.2.2.1⟩) h2 h3]
  have t75 : T7.1 1 5 = M.1 1 5 := by rw [t7k 5 (fun h hh => by omega) (by omega) (by omega), t5k 5 (by omega) (by omega) (by omega)]
  have d5 : (M.1 1 5 + 1).toInt = (M.1 1 5).toInt + 1 := by
    have := hT.2.2.2.1
    rw [fb_addI] <;> rw [show (1 : Int32).toInt = 1 from rfl] <;> omega
  rw [hx, hm]
  generalize hS8 : zpI (zpI S6 11 11 bv) 11 1 ((zpI S6 11 11 bv).1 11 1 + 1) = S8
  generalize hT8 : zpI T7 1 5 (T7.1 1 5 + 1) = T8
  have s8q : ∀ q, q ≠ 11 → q ≠ 18 → S8.1 q = S5.1 q := fun q q1 q2 => by rw [← hS8, zI_ne q1, zI_ne q1, s6q q q1 q2]
  have s8k : ∀ k, k ≠ 1 → k ≠ 10 → k ≠ 11 → S8.1 11 k = S4.1 11 k := fun k k1 k2 k3 => by rw [← hS8, zI_nk k1, zI_nk k3, s6k k k2]
  have t8k : ∀ k, k ≠ 5 → T8.1 1 k = T7.1 1 k := fun k hk => by rw [← hT8, zI_nk hk]
  have t85 : T8.1 1 5 = M.1 1 5 + 1 := by rw [← hT8, zI_at, t75]
  have t8q : ∀ q, q ≠ 1 → T8.1 q = T6.1 q := fun q hq => by rw [← hT8, zI_ne hq, gq q hq]
  have t8s : ∀ k, (∀ h, h < n → k ≠ 23 + 16 * h ∧ k ≠ 24 + 16 * h ∧ k ≠ 25 + 16 * h ∧ k ≠ 28 + 16 * h ∧ k ≠ 26 + 16 * h ∧ k ≠ 27 + 16 * h) → k ≠ 5 → k ≠ 8 → (k < 170 ∨ 179 ≤ k) → T8.1 1 k = T5.1 1 k := fun k h1 h2 h3 h4 => by rw [t8k k h2, t7k k h1 h3 h4]
  refine ⟨rr, S8, T8, rfl, rfl, rrb, ⟨?_, ?_, ?_, ?_, ?_, fun h hh => ?_, fun h hh => ?_, fun h k1 k2 => ?_, Or.inr ⟨n, hn, ?_, ?_, ?_, fun i hi => ?_⟩⟩, t85, fun q h1 h2 => by rw [s8q q (by omega) (by omega)]; exact s5q q h1 h2, by rw [← hS8, ← hS6]; show S5.2 = X.2; rw [fl, s4l], fun q q0 q1 h2 => by rw [t8q q q1, l12 q q0 q1, t5q q q0 q1, s7 q (by omega) (by omega) (by omega) (by omega)], fun k hk => by rw [t8q 0 (by omega), l13 k hk, t50 k hk], fun k hk => by rw [t8s k (fun h hh => by omega) (by omega) (by omega) (by omega), t5k k (by omega) (by omega) (by omega)], fun h hh k hk hk2 => by rw [t8s _ (fun g hg => by omega) (by omega) (by omega) (by omega), t5k _ (by omega) (by omega) (by omega)], fun k hk => by rw [t8s k (fun h hh => by omega) (by omega) (by omega) (by omega), t5k k (by omega) (by omega) (by omega)]⟩
  · rw [s8k 0 (by omega) (by omega) (by omega), s40, t8s 6 (fun h hh => by omega) (by omega) (by omega) (by omega)]
  · rw [t85, ← hS8, zI_at, zI_nk (by omega), s6k 1 (by omega), s4t 1 (by omega) (by omega), show X.1 11 1 = M.1 1 5 from hT.2.1]
  · rw [s8k 2 (by omega) (by omega) (by omega), l4, t8k 8 (by omega), go 8 (fun h hh => by omega)]
  · rw [t85, d5]; have := hT.2.2.2.1; omega
  · rw [t85, d5]; omega
  · rw [s8q (11 + 1) (by omega) (by omega), s8q (11 + 2) (by omega) (by omega), s8q (11 + 3) (by omega) (by omega), s8q (11 + 4) (by omega) (by omega), s8q (11 + 5) (by omega) (by omega), s8q (11 + 6) (by omega) (by omega), fo (11 + 1) (by omega) (by omega), fo (11 + 2) (by omega) (by omega), fo (11 + 3) (by omega) (by omega), fo (11 + 6) (by omega) (by omega), t8k (23 + 16 * h) (by omega), t8k (24 + 16 * h) (by omega), t8k (25 + 16 * h) (by omega), t8k (26 + 16 * h) (by omega), t8k (27 + 16 * h) (by omega), t8k (28 + 16 * h) (by omega), go (23 + 16 * h) (fun g hg => by omega), go (24 + 16 * h) (fun g hg => by omega), go (25 + 16 * h) (fun g hg => by omega), go (28 + 16 * h) (fun g hg => by omega)]
    obtain ⟨m1, m2, m3, m4⟩ := l3 h hh
    exact ⟨m1, m2, m3, f15 h hh, f16 h hh, m4⟩
  · rw [t8k (23 + 16 * h) (by omega), go (23 + 16 * h) (fun g hg => by omega)]
    exact l5 h hh
  · rw [s8q (11 + 1) (by omega) (by omega), s8q (11 + 2) (by omega) (by omega), s8q (11 + 3) (by omega) (by omega), s8q (11 + 4) (by omega) (by omega), s8q (11 + 5) (by omega) (by omega), s8q (11 + 6) (by omega) (by omega), fo (11 + 1) (by omega) (by omega), fo (11 + 2) (by omega) (by omega), fo (11 + 3) (by omega) (by omega), fo (11 + 6) (by omega) (by omega)]
    obtain ⟨z1, z2, z3, z4, z5, z6⟩ := hT.2.2.2.2.2.2.2.1 h k1 k2
    obtain ⟨m1, m2, m3, m4⟩ := l11 h k1
    rw [slq 12 (by omega), s3q 12 (by omega) (by omega)] at m1
    rw [slq 13 (by omega), s3q 13 (by omega) (by omega)] at m2
    rw [slq 14 (by omega), s3q 14 (by omega) (by omega)] at m3
    rw [slq 17 (by omega), s3q 17 (by omega) (by omega)] at m4
    exact ⟨m1.trans z1, m2.trans z2, m3.trans z3, (g15 h k1).trans z4, (g16 h k1).trans z5, m4.trans z6⟩
  · rw [t8s 9 (fun h hh => by omega) (by omega) (by omega) (by omega), t59]
  · rw [← hS8, zI_nk (by omega), zI_nk (by omega), ← hS6, zI_at]
  · rw [← hS8, zI_nk (by omega), zI_at, t8s 10 (fun h hh => by omega) (by omega) (by omega) (by omega), t510]
  · rw [show (11 + 7 : Nat) = 18 from rfl, ← hS8, zI_ne (by omega), zI_ne (by omega), s618 i hi, t8k _ (by omega), go _ (fun h hh => by omega), l6 i hi]
