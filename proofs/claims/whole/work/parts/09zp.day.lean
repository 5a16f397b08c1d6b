/-! one house bakes -/
theorem zlo_c {a a' : Nat → Int32} {h : Nat} (h0 : a' (20 + 16 * h) = a (20 + 16 * h)) (h3 : a' (23 + 16 * h) = a (23 + 16 * h)) : zlo a' h = zlo a h := by unfold zlo; rw [h0, h3]
theorem zwd_c {a a' : Nat → Int32} {h t : Nat} (hs : ∀ k, k = 0 ∨ k = 1 → a' k = a k) (h0 : a' (20 + 16 * h) = a (20 + 16 * h)) (h1 : a' (21 + 16 * h) = a (21 + 16 * h)) (h2 : a' (22 + 16 * h) = a (22 + 16 * h)) (h3 : a' (23 + 16 * h) = a (23 + 16 * h)) : zwd a' h t = zwd a h t ∧ zht a' h t = zht a h t := by
  have e1 := zlo_c h0 h3
  have e2 : znd a' h = znd a h := by unfold znd; rw [h1]
  have e3 : zmi a' h = zmi a h := by unfold zmi; rw [h2]
  have e4 : zpw a' = zpw a := by unfold zpw; rw [hs 0 (by omega)]
  have e5 : zcl a' = zcl a := by unfold zcl; rw [hs 1 (by omega)]
  have e6 : zwd a' h t = zwd a h t := by unfold zwd; rw [e1, e2, e4]
  refine ⟨e6, ?_⟩
  unfold zht
  rw [e1, e3, e4, e5, e6]
theorem zBd_c {a a' : Nat → Int32} {n : Nat} (B : zBd a n) (hs : ∀ k, k < 5 → a' k = a k) (hh : ∀ h, h < n → ∀ k, k < 3 → a' (20 + k + 16 * h) = a (20 + k + 16 * h)) (hd : ∀ h, h < n → 0 ≤ (a' (23 + 16 * h)).toInt ∧ (a' (23 + 16 * h)).toInt ≤ 999999) : zBd a' n := by
  have e4 : zpw a' = zpw a := by unfold zpw; rw [hs 0 (by omega)]
  have e5 : zcl a' = zcl a := by unfold zcl; rw [hs 1 (by omega)]
  have e6 : zpr a' = zpr a := by unfold zpr; rw [hs 2 (by omega)]
  refine ⟨B.n9, by rw [hs 4 (by omega)]; exact B.a4, by rw [e4, hs 0 (by omega)]; exact B.pw, by rw [e5, hs 1 (by omega)]; exact B.cl, by rw [e6, hs 2 (by omega)]; exact B.pr, fun h hh' => ?_, fun h hh' => ?_, fun h hh' => ?_⟩
  · have e1 : a' (21 + 16 * h) = a (21 + 16 * h) := hh h hh' 1 (by omega)
    have e2 : znd a' h = znd a h := by unfold znd; rw [e1]
    rw [e2, e1]; exact B.nd h hh'
  · have e1 : a' (22 + 16 * h) = a (22 + 16 * h) := hh h hh' 2 (by omega)
    have e2 : zmi a' h = zmi a h := by unfold zmi; rw [e1]
    rw [e2, e1]; exact B.mi h hh'
  · obtain ⟨_, d, s, _, k2, _, k4, _⟩ := B.lo h hh'
    have e0 : a' (20 + 16 * h) = nI s := by rw [show a' (20 + 16 * h) = a (20 + 16 * h) from hh h hh' 0 (by omega)]; exact k4
    obtain ⟨l1, l2, l3⟩ := z_nat' (l := 0) (u := 999999) (hd h hh').1 (hd h hh').2
    have es : (a' (20 + 16 * h)).toNatClampNeg = s := by rw [e0, nI_clamp (by omega)]
    exact ⟨by unfold zlo; rw [es]; omega, _, s, l3, k2, l1, e0, by unfold zlo; rw [es]⟩
theorem fx_bake_eq {S : zSt} {a : Nat → Int32} {n i h t g : Nat} {b : Bool} (B : zBd a n) (H : zOx S a n) (hi : i < 9) (hh : h < n) (ht : t ≤ 1097) (e1 : S.1 129 i = nI h) (e2 : S.1 135 i = nI t) (hg : 0 < i → g < n ∧ S.1 129 (i - 1) = nI g ∧ g ≠ h) : ∃ S' : zSt, fx_Lineup_bake S (nI i) (if b then 1 else 0) = some ((), S') ∧ (∀ k, S'.1 14 k = if k = h then S.1 14 h + nI (zwd a h t) else S.1 14 k) ∧ S'.1 135 (i + 1) = nI (zht a h t) ∧ (∀ k, S'.1 12 k = if k = h then S.1 12 h - nI (zlo a h) else S.1 12 k) ∧ (∀ k, S'.1 17 k = if k = h then (if zlo a h = 0 then S.1 17 h + 1 else 0) else S.1 17 k) ∧ (∀ k, S'.1 11 k = if b = true ∧ k = 2 then S.1 11 2 + nI (zlo a h) else S.1 11 k) ∧ (∀ k, S'.1 13 k = if b = true then S.1 13 k else if k = h then S.1 13 h + (nI (zlo a h) - (if i = 0 then 0 else nI (zlo a h / 9))) else if 0 < i ∧ k = g then S.1 13 g + nI (zlo a h / 9) else S.1 13 k) ∧ (∀ q, q ≠ 11 → q ≠ 12 → q ≠ 13 → q ≠ 14 → q ≠ 17 → q ≠ 135 → S'.1 q = S.1 q) ∧ S'.2 = S.2 := by
  have hn := B.n9
  have hl := (B.lo h hh).1
  have L : S.1 134 h = nI (zlo a h) := H.lo h hh
  generalize hA1 : zpI S 14 h (S.1 14 h + nI (zwd a h t)) = A1
  have a1q : ∀ q, q ≠ 14 → A1.1 q = S.1 q := fun q hq => by rw [← hA1, zI_ne hq]
  have HA1 : zOx A1 a n := H.c (fun q hq => a1q q (by omega))
  generalize hA4 : zpI (zpI (zpI A1 135 (i + 1) (nI (zht a h t))) 12 h (S.1 12 h - nI (zlo a h))) 17 h (if zlo a h = 0 then S.1 17 h + 1 else 0) = A4
  have core : fx_Lineup_bake S (nI i) (if b then 1 else 0) = (if (if b = true then (1 : Int32) else 0) = 0 then (if nI i ≤ 0 then some ((), zpI A4 13 h (A4.1 13 h + (nI (zlo a h) - 0))) else zck (zix (nI i - 1) 9) (zck (zix ((zpI A4 13 h (A4.1 13 h + (nI (zlo a h) - nI (zlo a h) / 9))).1 129 (nI i - 1).toNatClampNeg) 9) (zck (zix ((zpI A4 13 h (A4.1 13 h + (nI (zlo a h) - nI (zlo a h) / 9))).1 129 (nI i - 1).toNatClampNeg) 9) (some ((), zpI (zpI A4 13 h (A4.1 13 h + (nI (zlo a h) - nI (zlo a h) / 9))) 13 ((zpI A4 13 h (A4.1 13 h + (nI (zlo a h) - nI (zlo a h) / 9))).1 129 (nI i - 1).toNatClampNeg).toNatClampNeg ((zpI A4 13 h (A4.1 13 h + (nI (zlo a h) - nI (zlo a h) / 9))).1 13 ((zpI A4 13 h (A4.1 13 h + (nI (zlo a h) - nI (zlo a h) / 9))).1 129 (nI i - 1).toNatClampNeg).toNatClampNeg + nI (zlo a h) / 9)))))) else some ((), zpI A4 11 2 (A4.1 11 2 + nI (zlo a h)))) := by
    have a4q : ∀ q, q ≠ 12 → q ≠ 14 → q ≠ 17 → q ≠ 135 → A4.1 q = S.1 q := fun q q1 q2 q3 q4 => by rw [← hA4, zI_ne q3, zI_ne q1, zI_ne q4, a1q q q2]
    unfold fx_Lineup_bake
    simp only [znm_q]
    rw [zix_n hi (by omega), zck_t, nI_clamp (n := i) (by omega), e1, zix_n (show h < 9 by omega) (by omega), zck_t, zix_n (show i < 10 by omega) (by omega), zck_t, e2, fx_wood_eq B H hh ht, zbd_s, zck_t, nI_clamp (n := h) (by omega), hA1, zck_t, a1q 135 (by omega), e2, fx_heat_eq B HA1 hh ht, zbd_s, nI_1, zix_n (show i + 1 < 10 by omega) (by omega), zck_t, nI_clamp (n := i + 1) (by omega)]
    simp only [zck_q]
    rw [show (zpI A1 135 (i + 1) (nI (zht a h t))).1 12 h = S.1 12 h from by rw [zI_ne (by omega), a1q 12 (by omega)], show (zpI A1 135 (i + 1) (nI (zht a h t))).1 134 h = nI (zlo a h) from by rw [zI_ne (by omega), a1q 134 (by omega), L]]
    rw [show (zpI (zpI A1 135 (i + 1) (nI (zht a h t))) 12 h (S.1 12 h - nI (zlo a h))).1 134 h = nI (zlo a h) from by rw [zI_ne (by omega), zI_ne (by omega), a1q 134 (by omega), L], show (zpI (zpI A1 135 (i + 1) (nI (zht a h t))) 12 h (S.1 12 h - nI (zlo a h))).1 17 h = S.1 17 h from by rw [zI_ne (by omega), zI_ne (by omega), a1q 17 (by omega)]]
    have l4 : A4.1 134 h = nI (zlo a h) := by rw [a4q 134 (by omega) (by omega) (by omega) (by omega), L]
    by_cases c : zlo a h = 0
    · rw [if_pos c] at hA4
      rw [if_pos (show nI (zlo a h) = 0 by rw [c]; rfl), hA4, l4]
      by_cases i0 : nI i ≤ 0
      · simp only [if_pos i0]
      · simp only [if_neg i0]
    · rw [if_neg c] at hA4
      rw [if_neg (nI_ne0 (by omega) (by omega)), hA4, l4]
      by_cases i0 : nI i ≤ 0
      · simp only [if_pos i0]
      · simp only [if_neg i0]
  have a4q : ∀ q, q ≠ 12 → q ≠ 14 → q ≠ 17 → q ≠ 135 → A4.1 q = S.1 q := fun q q1 q2 q3 q4 => by rw [← hA4, zI_ne q3, zI_ne q1, zI_ne q4, a1q q q2]
  have a14 : ∀ k, A4.1 14 k = if k = h then S.1 14 h + nI (zwd a h t) else S.1 14 k := fun k => by
    rw [← hA4, zI_ne (by omega), zI_ne (by omega), zI_ne (by omega), ← hA1, z1, if_pos rfl]
  have a12 : ∀ k, A4.1 12 k = if k = h then S.1 12 h - nI (zlo a h) else S.1 12 k := fun k => by
    rw [← hA4, zI_ne (by omega), z1, if_pos rfl, zI_ne (by omega), a1q 12 (by omega)]
  have a17 : ∀ k, A4.1 17 k = if k = h then (if zlo a h = 0 then S.1 17 h + 1 else 0) else S.1 17 k := fun k => by
    rw [← hA4, z1, if_pos rfl, zI_ne (by omega), zI_ne (by omega), a1q 17 (by omega)]
  have a135 : A4.1 135 (i + 1) = nI (zht a h t) := by rw [← hA4, zI_ne (by omega), zI_ne (by omega), zI_at]
  have al : A4.2 = S.2 := by rw [← hA4, ← hA1]; rfl
  rw [core]
  cases b with
  | true =>
    rw [if_pos rfl, if_neg (by decide)]
    refine ⟨_, rfl, fun k => by rw [zI_ne (by omega)]; exact a14 k, by rw [zI_ne (by omega)]; exact a135, fun k => by rw [zI_ne (by omega)]; exact a12 k, fun k => by rw [zI_ne (by omega)]; exact a17 k, fun k => ?_, fun k => by rw [zI_ne (by omega), if_pos rfl, a4q 13 (by omega) (by omega) (by omega) (by omega)], fun q q1 q2 q3 q4 q5 q6 => by rw [zI_ne q1, a4q q q2 q4 q5 q6], al⟩
    rw [z1, if_pos rfl, a4q 11 (by omega) (by omega) (by omega) (by omega)]
    by_cases c : k = 2
    · rw [if_pos c, if_pos ⟨rfl, c⟩]
    · rw [if_neg c, if_neg (fun q => c q.2)]
  | false =>
    rw [if_neg (show ¬ false = true by decide), if_pos rfl]
    by_cases i0 : i = 0
    · rw [if_pos (show nI i ≤ 0 by rw [i0]; decide)]
      refine ⟨_, rfl, fun k => by rw [zI_ne (by omega)]; exact a14 k, by rw [zI_ne (by omega)]; exact a135, fun k => by rw [zI_ne (by omega)]; exact a12 k, fun k => by rw [zI_ne (by omega)]; exact a17 k, fun k => by rw [zI_ne (by omega), a4q 11 (by omega) (by omega) (by omega) (by omega), if_neg (fun q => by cases q.1)], fun k => ?_, fun q q1 q2 q3 q4 q5 q6 => by rw [zI_ne q3, a4q q q2 q4 q5 q6], al⟩
      rw [z1, if_pos rfl, a4q 13 (by omega) (by omega) (by omega) (by omega), if_neg (show ¬ false = true by decide), if_pos i0]
      by_cases c : k = h
      · rw [if_pos c, if_pos c]
      · rw [if_neg c, if_neg c, if_neg (by omega)]
    · obtain ⟨g1, g2, g3⟩ := hg (by omega)
      have gv : (zpI A4 13 h (A4.1 13 h + (nI (zlo a h) - nI (zlo a h) / 9))).1 129 (i - 1) = nI g := by rw [zI_ne (by omega), a4q 129 (by omega) (by omega) (by omega) (by omega)]; exact g2
      rw [if_neg (nI_nle (by omega) (by omega)), show nI i - (1 : Int32) = nI (i - 1) from by rw [show (1 : Int32) = nI 1 from rfl, pk_sub (by omega)], zix_n (show i - 1 < 9 by omega) (by omega), zck_t, nI_clamp (n := i - 1) (by omega), gv, zix_n (show g < 9 by omega) (by omega), zck_t, zck_t, nI_clamp (n := g) (by omega), show (9 : Int32) = nI 9 from rfl, pk_div (by omega) (by omega) (by omega), zI_nk g3, a4q 13 (by omega) (by omega) (by omega) (by omega)]
      refine ⟨_, rfl, fun k => by rw [zI_ne (by omega), zI_ne (by omega)]; exact a14 k, by rw [zI_ne (by omega), zI_ne (by omega)]; exact a135, fun k => by rw [zI_ne (by omega), zI_ne (by omega)]; exact a12 k, fun k => by rw [zI_ne (by omega), zI_ne (by omega)]; exact a17 k, fun k => by rw [zI_ne (by omega), zI_ne (by omega), a4q 11 (by omega) (by omega) (by omega) (by omega), if_neg (fun q => by cases q.1)], fun k => ?_, fun q q1 q2 q3 q4 q5 q6 => by rw [zI_ne q3, zI_ne q3, a4q q q2 q4 q5 q6], al⟩
      rw [if_neg (show ¬ false = true by decide), if_neg i0]
      by_cases c : k = h
      · rw [if_pos c, c, zI_nk (fun q => g3 q.symm), zI_at]
      · rw [if_neg c]
        by_cases d : k = g
        · rw [if_pos ⟨by omega, d⟩, d, zI_at]
        · rw [if_neg (fun q => d q.2), zI_nk d, zI_nk c, a4q 13 (by omega) (by omega) (by omega) (by omega)]
/-- the reference: one house -/
theorem fm_bake_eq {T : zSt} {a : Nat → Int32} {n i h t g : Nat} {x2 x7 : Int32} {b : Bool} (B : zBd a n) (hT : T.1 1 = a) (hin : i < n) (hh : h < n) (ht : t ≤ 1097) (e1 : T.1 9 i = nI h) (e2 : T.1 0 24 = nI t) (hb : b = true ↔ nI i = x7) (hg : 0 < i → g < n ∧ T.1 9 (i - 1) = nI g ∧ g ≠ h) : ∃ T' : zSt, (∀ (f : Nat) (j : zSt → Option (Int32 × zSt)), fm_aDay_L104 (nI n) x2 x7 j (f + 1) (nI i) T = fm_aDay_L104 (nI n) x2 x7 j f (nI (i + 1)) T') ∧ T'.1 0 24 = nI (zht a h t) ∧ (∀ k, k ≠ 24 → T'.1 0 k = T.1 0 k) ∧ T'.1 1 (170 + i) = nI h ∧ T'.1 1 (25 + 16 * h) = a (25 + 16 * h) + nI (zwd a h t) ∧ T'.1 1 (23 + 16 * h) = a (23 + 16 * h) + -nI (zlo a h) ∧ T'.1 1 (28 + 16 * h) = (if zlo a h = 0 then a (28 + 16 * h) + 1 else 0) ∧ T'.1 1 8 = (if b = true then a 8 + nI (zlo a h) else a 8) ∧ (∀ k, k < n → T'.1 1 (24 + 16 * k) = if b = true then a (24 + 16 * k) else if k = h then a (24 + 16 * h) + (nI (zlo a h) - (if i = 0 then 0 else nI (zlo a h / 9))) else if 0 < i ∧ k = g then a (24 + 16 * g) + nI (zlo a h / 9) else a (24 + 16 * k)) ∧ (∀ k, k ≠ 8 → k ≠ 170 + i → k ≠ 23 + 16 * h → k ≠ 25 + 16 * h → k ≠ 28 + 16 * h → (∀ g, g < n → k ≠ 24 + 16 * g) → T'.1 1 k = a k) ∧ (∀ q, q ≠ 0 → q ≠ 1 → T'.1 q = T.1 q) := by
  have hn := B.n9
  have hl := (B.lo h hh).1
  have ad : ∀ (Z : zSt) (k j c : Nat) (v : Int32), k < n → j < 16 → c = 20 + j + 16 * k → fm_adds Z (nI k) (nI j) v = some ((), zpI Z 1 c (Z.1 1 c + v)) := fun Z k j c v hk hj e => by
    rw [fm_adds_eq (by omega) hj, show 20 + 16 * k + j = c by omega]
  -- the row of the day, the loaf, the wood
  generalize hC0 : zpI T 1 (170 + i) (nI h) = C0
  have c0q : ∀ q, q ≠ 1 → C0.1 q = T.1 q := fun q hq => by rw [← hC0, zI_ne hq]
  have c0k : ∀ k, k ≠ 170 + i → C0.1 1 k = a k := fun k hk => by rw [← hC0, zI_nk hk, hT]
  have B0 : zBd (C0.1 1) n := zBd_c B (fun k hk => c0k k (by omega)) (fun g hg k hk => c0k _ (by omega)) (fun g hg => by
    rw [c0k _ (by omega)]
    obtain ⟨_, d, s, k1, _, k3, _⟩ := B.lo g hg
    rw [k3, nI_toInt (by omega)]
    omega)
  have w0 := zwd_c (a := a) (a' := C0.1 1) (h := h) (t := t) (fun k hk => c0k k (by omega)) (c0k _ (by omega)) (c0k _ (by omega)) (c0k _ (by omega)) (c0k _ (by omega))
  have l0 : zlo (C0.1 1) h = zlo a h := zlo_c (c0k _ (by omega)) (c0k _ (by omega))
  have lf : fm_loaf C0 (nI h) = some (nI (zlo a h), C0) := by rw [fm_loaf_eq B0 rfl hh, l0]
  obtain ⟨C1, y1, y2, y3, y4⟩ := fm_heats_eq (S := C0) (t := t) B0 rfl hh (by rw [c0q 0 (by omega)]; exact e2) ht
  rw [w0.1] at y1
  rw [w0.2] at y2
  have c1k : ∀ k, C1.1 1 k = C0.1 1 k := fun k => by rw [y4 1 (by omega)]
  generalize hC3 : zpI (zpI C1 1 (25 + 16 * h) (a (25 + 16 * h) + nI (zwd a h t))) 1 (23 + 16 * h) (a (23 + 16 * h) + -nI (zlo a h)) = C3
  have c3k : ∀ k, k ≠ 23 + 16 * h → k ≠ 25 + 16 * h → C3.1 1 k = C0.1 1 k := fun k k1 k2 => by rw [← hC3, zI_nk k1, zI_nk k2, c1k]
  generalize hC4 : zpI C3 1 (28 + 16 * h) (if zlo a h = 0 then a (28 + 16 * h) + 1 else 0) = C4
  have c4k : ∀ k, k ≠ 28 + 16 * h → k ≠ 23 + 16 * h → k ≠ 25 + 16 * h → k ≠ 170 + i → C4.1 1 k = a k := fun k k1 k2 k3 k4 => by rw [← hC4, zI_nk k1, c3k k k2 k3, c0k k k4]
  have c4q : ∀ q, q ≠ 1 → C4.1 q = C1.1 q := fun q hq => by rw [← hC4, zI_ne hq, ← hC3, zI_ne hq, zI_ne hq]
  have c4z : ∀ q, q ≠ 0 → q ≠ 1 → C4.1 q = T.1 q := fun q q0 q1 => by rw [c4q q q1, y4 q q0, c0q q q1]
  have c40 : ∀ k, k ≠ 24 → C4.1 0 k = T.1 0 k := fun k hk => by rw [c4q 0 (by omega), y3 k hk, c0q 0 (by omega)]
  have c424 : C4.1 0 24 = nI (zht a h t) := by rw [c4q 0 (by omega)]; exact y2
  have p170 : C4.1 1 (170 + i) = nI h := by rw [← hC4, zI_nk (by omega), c3k _ (by omega) (by omega), ← hC0, zI_at]
  have p25 : C4.1 1 (25 + 16 * h) = a (25 + 16 * h) + nI (zwd a h t) := by rw [← hC4, zI_nk (by omega), ← hC3, zI_nk (by omega), zI_at]
  have p23 : C4.1 1 (23 + 16 * h) = a (23 + 16 * h) + -nI (zlo a h) := by rw [← hC4, zI_nk (by omega), ← hC3, zI_at]
  have p28 : C4.1 1 (28 + 16 * h) = (if zlo a h = 0 then a (28 + 16 * h) + 1 else 0) := by rw [← hC4, zI_at]
  have n9 : C4.1 9 = T.1 9 := c4z 9 (by omega) (by omega)
  have core : ∀ (f : Nat) (j : zSt → Option (Int32 × zSt)), fm_aDay_L104 (nI n) x2 x7 j (f + 1) (nI i) T = (if nI i = x7 then fm_aDay_L104 (nI n) x2 x7 j f (nI (i + 1)) (zpI C4 1 8 (C4.1 1 8 + nI (zlo a h))) else (if nI i = 0 then zbd (fm_adds C4 (nI h) 4 (nI (zlo a h) - 0)) (fun _ S_57 => if nI i ≤ 0 then fm_aDay_L104 (nI n) x2 x7 j f (nI (i + 1)) S_57 else zck (zix (nI i - 1) 9) (zbd (fm_adds S_57 (S_57.1 9 (nI i - 1).toNatClampNeg) 4 0) fun _ S_61 => fm_aDay_L104 (nI n) x2 x7 j f (nI (i + 1)) S_61)) else zbd (fm_adds C4 (nI h) 4 (nI (zlo a h) - nI (zlo a h) / 9)) (fun _ S_57 => if nI i ≤ 0 then fm_aDay_L104 (nI n) x2 x7 j f (nI (i + 1)) S_57 else zck (zix (nI i - 1) 9) (zbd (fm_adds S_57 (S_57.1 9 (nI i - 1).toNatClampNeg) 4 (nI (zlo a h) / 9)) fun _ S_61 => fm_aDay_L104 (nI n) x2 x7 j f (nI (i + 1)) S_61)))) := fun f j => by
    have a5 := ad C1 h 5 (25 + 16 * h) (nI (zwd a h t)) hh (by omega) (by omega)
    have a3 := ad (zpI C1 1 (25 + 16 * h) (a (25 + 16 * h) + nI (zwd a h t))) h 3 (23 + 16 * h) (-nI (zlo a h)) hh (by omega) (by omega)
    rw [c1k, c0k _ (by omega)] at a5
    rw [zI_nk (by omega), c1k, c0k _ (by omega), hC3] at a3
    have o8 : fm_own C3 (nI h) 8 = some (a (28 + 16 * h), C3) := by
      rw [show (8 : Int32) = nI 8 from rfl, fm_own_eq (by omega) (by omega), show 20 + 16 * h + 8 = 28 + 16 * h by omega, c3k _ (by omega) (by omega), c0k _ (by omega)]
    have e28 : (20 : Int32) + (16 : Int32) * nI h + (8 : Int32) = nI (28 + 16 * h) := by
      rw [show (8 : Int32) = nI 8 from rfl, z_own, show 20 + 16 * h + 8 = 28 + 16 * h by omega]
    rw [fm_aDay_L104, if_neg (nI_ge hin (by omega)), zix_n (show i < 9 by omega) (by omega), zck_t, znm_q, nI_clamp (n := i) (by omega), e1, show (170 : Int32) + nI i = nI (170 + i) from by rw [show (170 : Int32) = nI 170 from rfl, nI_add], zix_n (show 170 + i < 1480 by omega) (by omega), zck_t, znm_q, nI_clamp (n := 170 + i) (by omega), hC0, lf, zbd_s, y1, zbd_s, show (5 : Int32) = nI 5 from rfl, a5, zbd_s, show (3 : Int32) = nI 3 from rfl, a3, zbd_s]
    simp only [znm_q]
    rw [o8, zbd_s, e28, zix_n (show 28 + 16 * h < 1480 by omega) (by omega), nI_clamp (n := 28 + 16 * h) (by omega), nI_1]
    simp only [zck_q]
    by_cases c : zlo a h = 0
    · rw [if_pos c] at hC4
      rw [if_pos (show nI (zlo a h) = 0 by rw [c]; rfl), hC4]
    · rw [if_neg c] at hC4
      rw [if_neg (nI_ne0 (by omega) (by omega)), hC4]
  cases hbb : b with
  | true =>
    have hx := hb.mp hbb
    refine ⟨zpI C4 1 8 (C4.1 1 8 + nI (zlo a h)), fun f j => by rw [core, if_pos hx], by rw [zI_ne (by omega)]; exact c424, fun k hk => by rw [zI_ne (by omega)]; exact c40 k hk, by rw [zI_nk (by omega)]; exact p170, by rw [zI_nk (by omega)]; exact p25, by rw [zI_nk (by omega)]; exact p23, by rw [zI_nk (by omega)]; exact p28, by rw [zI_at, if_pos rfl, c4k 8 (by omega) (by omega) (by omega) (by omega)], fun k hk => by rw [zI_nk (by omega), if_pos rfl, c4k _ (by omega) (by omega) (by omega) (by omega)], fun k k1 k2 k3 k4 k5 k6 => by rw [zI_nk k1, c4k k k5 k3 k4 k2], fun q q0 q1 => by rw [zI_ne q1]; exact c4z q q0 q1⟩
  | false =>
    have hx : ¬ nI i = x7 := fun q => by have := hb.mpr q; rw [hbb] at this; cases this
    by_cases i0 : i = 0
    · have a4 := ad C4 h 4 (24 + 16 * h) (nI (zlo a h) - 0) hh (by omega) (by omega)
      refine ⟨zpI C4 1 (24 + 16 * h) (C4.1 1 (24 + 16 * h) + (nI (zlo a h) - 0)), fun f j => ?_, by rw [zI_ne (by omega)]; exact c424, fun k hk => by rw [zI_ne (by omega)]; exact c40 k hk, by rw [zI_nk (by omega)]; exact p170, by rw [zI_nk (by omega)]; exact p25, by rw [zI_nk (by omega)]; exact p23, by rw [zI_nk (by omega)]; exact p28, by rw [zI_nk (by omega), if_neg (show ¬ false = true by decide), c4k 8 (by omega) (by omega) (by omega) (by omega)], fun k hk => ?_, fun k k1 k2 k3 k4 k5 k6 => by rw [zI_nk (k6 h hh), c4k k k5 k3 k4 k2], fun q q0 q1 => by rw [zI_ne q1]; exact c4z q q0 q1⟩
      · rw [core, if_neg hx, if_pos (show nI i = 0 by rw [i0]; rfl), show (4 : Int32) = nI 4 from rfl, a4, zbd_s, if_pos (show nI i ≤ 0 by rw [i0]; decide)]
      · rw [if_neg (show ¬ false = true by decide), if_pos i0]
        by_cases c : k = h
        · rw [if_pos c, c, zI_at, c4k _ (by omega) (by omega) (by omega) (by omega)]
        · rw [if_neg c, if_neg (by omega), zI_nk (by omega), c4k _ (by omega) (by omega) (by omega) (by omega)]
    · obtain ⟨g1, g2, g3⟩ := hg (by omega)
      have a4 := ad C4 h 4 (24 + 16 * h) (nI (zlo a h) - nI (zlo a h / 9)) hh (by omega) (by omega)
      generalize hC5 : zpI C4 1 (24 + 16 * h) (C4.1 1 (24 + 16 * h) + (nI (zlo a h) - nI (zlo a h / 9))) = C5
      rw [hC5] at a4
      have c5q : ∀ q, q ≠ 1 → C5.1 q = C4.1 q := fun q hq => by rw [← hC5, zI_ne hq]
      have c5k : ∀ k, k ≠ 24 + 16 * h → C5.1 1 k = C4.1 1 k := fun k hk => by rw [← hC5, zI_nk hk]
      have a4g := ad C5 g 4 (24 + 16 * g) (nI (zlo a h / 9)) g1 (by omega) (by omega)
      refine ⟨zpI C5 1 (24 + 16 * g) (C5.1 1 (24 + 16 * g) + nI (zlo a h / 9)), fun f j => ?_, by rw [zI_ne (by omega), c5q 0 (by omega)]; exact c424, fun k hk => by rw [zI_ne (by omega), c5q 0 (by omega)]; exact c40 k hk, by rw [zI_nk (by omega), c5k _ (by omega)]; exact p170, by rw [zI_nk (by omega), c5k _ (by omega)]; exact p25, by rw [zI_nk (by omega), c5k _ (by omega)]; exact p23, by rw [zI_nk (by omega), c5k _ (by omega)]; exact p28, by rw [zI_nk (by omega), c5k _ (by omega), if_neg (show ¬ false = true by decide), c4k 8 (by omega) (by omega) (by omega) (by omega)], fun k hk => ?_, fun k k1 k2 k3 k4 k5 k6 => by rw [zI_nk (k6 g g1), c5k k (k6 h hh), c4k k k5 k3 k4 k2], fun q q0 q1 => by rw [zI_ne q1, c5q q q1]; exact c4z q q0 q1⟩
      · rw [core, if_neg hx, if_neg (nI_ne0 (by omega) (by omega)), show (9 : Int32) = nI 9 from rfl, pk_div (by omega) (by omega) (by omega), show (4 : Int32) = nI 4 from rfl, a4, zbd_s, if_neg (nI_nle (by omega) (by omega)), show nI i - (1 : Int32) = nI (i - 1) from by rw [show (1 : Int32) = nI 1 from rfl, pk_sub (by omega)], zix_n (show i - 1 < 9 by omega) (by omega), zck_t, nI_clamp (n := i - 1) (by omega), c5q 9 (by omega), n9, g2, a4g, zbd_s]
      · rw [if_neg (show ¬ false = true by decide), if_neg i0]
        by_cases c : k = h
        · rw [if_pos c, c, zI_nk (by omega), ← hC5, zI_at, c4k _ (by omega) (by omega) (by omega) (by omega)]
        · rw [if_neg c]
          by_cases d : k = g
          · rw [if_pos ⟨by omega, d⟩, d, zI_at, c5k _ (by omega), c4k _ (by omega) (by omega) (by omega) (by omega)]
          · rw [if_neg (fun q => d q.2), zI_nk (by omega), c5k _ (by omega), c4k _ (by omega) (by omega) (by omega) (by omega)]
