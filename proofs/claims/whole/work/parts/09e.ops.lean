theorem zI_ne2 {S : zSt} {q k r j : Nat} {v w : Int32} {q' : Nat} (h : q' ≠ q) (h2 : q' ≠ r) : (zpI (zpI S q k v) r j w).1 q' = S.1 q' := (zI_ne h2).trans (zI_ne h)
theorem rS_put {x x' : Nat → Nat → Int32} {B : Nat} {a a' : Nat → Int32} {k : Nat} (hk : k < 4) {v : Int32} (hx : x' (B + 16) = upd (x (B + 16)) k v) (ha : ∀ j, j < 4 → a' j = if j = k then v else a j) (h1 : k = 0 → 1 ≤ v.toInt) (h2 : 0 ≤ v.toInt) (h3 : k ≠ 3 → v.toInt ≤ 99) (h4 : v.toInt ≤ 100) (H : rS x B a) : rS x' B a' := by
  obtain ⟨q1, q2, q3, q4, q5, q6, q7, q8, q9⟩ := H
  refine ⟨fun j hj => ?_, ?_⟩
  · rw [hx, ha j hj]
    by_cases e : j = k
    · subst e; simp [upd]
    · rw [if_neg e]; simp only [upd, if_neg e]; exact q1 j hj
  · rw [ha 0 (by omega), ha 1 (by omega), ha 2 (by omega), ha 3 (by omega)]
    rcases (show k = 0 ∨ k = 1 ∨ k = 2 ∨ k = 3 by omega) with rfl | rfl | rfl | rfl
    · simp only [if_true, if_neg (show ¬ (1 : Nat) = 0 by omega), if_neg (show ¬ (2 : Nat) = 0 by omega), if_neg (show ¬ (3 : Nat) = 0 by omega)]
      exact ⟨h1 rfl, h3 (by omega), q4, q5, q6, q7, q8, q9⟩
    · simp only [if_true, if_neg (show ¬ (0 : Nat) = 1 by omega), if_neg (show ¬ (2 : Nat) = 1 by omega), if_neg (show ¬ (3 : Nat) = 1 by omega)]
      exact ⟨q2, q3, h2, h3 (by omega), q6, q7, q8, q9⟩
    · simp only [if_true, if_neg (show ¬ (0 : Nat) = 2 by omega), if_neg (show ¬ (1 : Nat) = 2 by omega), if_neg (show ¬ (3 : Nat) = 2 by omega)]
      exact ⟨q2, q3, q4, q5, h2, h3 (by omega), q8, q9⟩
    · simp only [if_true, if_neg (show ¬ (0 : Nat) = 3 by omega), if_neg (show ¬ (1 : Nat) = 3 by omega), if_neg (show ¬ (2 : Nat) = 3 by omega)]
      exact ⟨q2, q3, q4, q5, q6, q7, h2, h4⟩
theorem rT_dough {x x' : Nat → Nat → Int32} {T : Nat} {a a' : Nat → Int32} {n h : Nat} {v : Int32} (hn : n ≤ 9) (hh : h < n) (hx : ∀ q, T ≤ q → q < T + 8 → q ≠ T + 1 → x' q = x q) (hd : x' (T + 1) = upd (x (T + 1)) h v) (ha : ∀ k, k ≠ 23 + 16 * h → k < 180 → a' k = a k) (hv : a' (23 + 16 * h) = v) (h1 : 0 ≤ v.toInt) (h2 : v.toInt ≤ 999999) (H : rT x T a n) : rT x' T a' n := by
  obtain ⟨q1, q2, q3, q4, q5, q6, q7, q8, q9⟩ := H
  refine ⟨?_, ?_, ?_, ?_, ?_, fun g hg => ?_, fun g hg => ?_, fun g ha1 hb1 => ?_, ?_⟩
  · rw [hx _ (by omega) (by omega) (by omega), ha _ (by omega) (by omega)]; exact q1
  · rw [hx _ (by omega) (by omega) (by omega), ha _ (by omega) (by omega)]; exact q2
  · rw [hx _ (by omega) (by omega) (by omega), ha _ (by omega) (by omega)]; exact q3
  · rw [ha _ (by omega) (by omega)]; exact q4
  · rw [ha _ (by omega) (by omega)]; exact q5
  · obtain ⟨p1, p2⟩ := q6 g hg
    rw [hx (T + 2) (by omega) (by omega) (by omega), hx (T + 3) (by omega) (by omega) (by omega), hx (T + 4) (by omega) (by omega) (by omega), hx (T + 5) (by omega) (by omega) (by omega), hx (T + 6) (by omega) (by omega) (by omega), ha (24 + 16 * g) (by omega) (by omega), ha (25 + 16 * g) (by omega) (by omega), ha (26 + 16 * g) (by omega) (by omega), ha (27 + 16 * g) (by omega) (by omega), ha (28 + 16 * g) (by omega) (by omega), hd]
    refine ⟨?_, p2⟩
    by_cases e : g = h
    · subst e; rw [hv]; simp [upd]
    · rw [ha (23 + 16 * g) (by omega) (by omega)]; simp only [upd, if_neg e]; exact p1
  · by_cases e : g = h
    · subst e; rw [hv]; exact ⟨h1, h2⟩
    · rw [ha (23 + 16 * g) (by omega) (by omega)]; exact q7 g hg
  · obtain ⟨p1, p2⟩ := q8 g ha1 hb1
    rw [hx (T + 2) (by omega) (by omega) (by omega), hx (T + 3) (by omega) (by omega) (by omega), hx (T + 4) (by omega) (by omega) (by omega), hx (T + 5) (by omega) (by omega) (by omega), hx (T + 6) (by omega) (by omega) (by omega), hd]
    refine ⟨?_, p2⟩
    simp only [upd, if_neg (show ¬ g = h by omega)]
    exact p1
  · rw [hx T (by omega) (by omega) (by omega), hx (T + 7) (by omega) (by omega) (by omega), ha 9 (by omega) (by omega), ha 10 (by omega) (by omega)]
    rcases q9 with q9 | ⟨d, d1, d2, d3, d4, d5⟩
    · exact Or.inl q9
    · exact Or.inr ⟨d, d1, d2, d3, d4, fun i hi => by rw [ha (170 + i) (by omega) (by omega)]; exact d5 i hi⟩
theorem kI99999 : (99999 : Int32).toInt = 99999 := by rw [show (99999 : Int32) = nI 99999 from rfl]; exact nI_toInt (by omega)
theorem kI999999 : (999999 : Int32).toInt = 999999 := by rw [show (999999 : Int32) = nI 999999 from rfl]; exact nI_toInt (by omega)
section ops3
variable {RR : (Nat → Int32) → Int32 → Int32 → (Nat → Int32) → Prop}
theorem zI_set (hRR : zRok RR) {X M : zSt} (hI : zInv RR X M) {k : Nat} (hk : k < 4) {v : Int32} (h1 : k = 0 → 1 ≤ v.toInt) (h2 : 0 ≤ v.toInt) (h3 : k ≠ 3 → v.toInt ≤ 99) (h4 : v.toInt ≤ 100) : zInv RR (zpI (zpI X 19 k v) 59 2 0) (zpI (zpI M 1 k v) 0 3 0) := by
  obtain ⟨t, n, m, c, o, hT, hF, ⟨hH, hTi, hS, hR, hL, hRi⟩, hU, hK1, hK2, hK3⟩ := hI
  have hn : n ≤ 9 := hH.2.2.1
  have ea : ∀ j, (zpI (zpI M 1 k v) 0 3 0).1 1 j = if j = k then v else M.1 1 j := fun j => by
    rw [zI_ne (by omega), zI_eq]; rfl
  have eb : ∀ j, j ≠ k → (zpI (zpI M 1 k v) 0 3 0).1 1 j = M.1 1 j := fun j hj => by rw [ea, if_neg hj]
  refine ⟨t, n, m, 0, o, rTape_c (zI_ne2 (by omega) (by omega)) (zI_ne2 (by omega) (by omega)) ((zI_nk (by omega)).trans (by rw [zI_ne (by omega)])) (zI_ne2 (by omega) (by omega)) hT, ?_, ⟨rH_c (fun q h1 h2 => zI_ne2 (by omega) (by omega)) (eb _ (by omega)) (fun h hh k _ hk => eb _ (by omega)) (fun k h1 h2 => eb _ (by omega)) hH, rT_c (fun q h1 h2 => zI_ne2 (by omega) (by omega)) (fun k hk => eb _ (by omega)) (fun h hh k h1 h2 => eb _ (by omega)) hTi, rS_put hk (by rw [zI_ne (by omega)]; exact zI_eq) (fun j hj => ea j) h1 h2 h3 h4 hS, rR_c hRR (zI_ne2 (by omega) (by omega)) (zI_ne2 (by omega) (by omega)) (fun k h1 h2 => eb _ (by omega)) hR, rL_c (fun q h1 h2 => zI_ne2 (by omega) (by omega)) rfl (fun k h1 h2 => eb _ (by omega)) hL, rI_c (zI_ne2 (by omega) (by omega)) (fun k h1 h2 => eb _ (by omega)) hRi⟩, rU_0 zI_at zI_at ((zI_nk (by omega)).trans ((by rw [zI_ne (by omega)]; exact hU.2.2.2.1))) hU.2.2.2.2.1, ?_, ?_, ?_⟩
  · rw [zI_ne2 (q' := 125) (by omega) (by omega), zI_ne2 (q' := 140) (by omega) (by omega), zI_ne2 (q' := 141) (by omega) (by omega), zI_nk (by omega), zI_nk (by omega), zI_ne (by omega)]; exact hF
  · rw [zI_ne2 (by omega) (by omega), zI_nk (by omega), zI_ne (by omega)]; exact hK1
  · rw [zI_nk (by omega), zI_ne (by omega)]; exact hK2
  · rw [zI_nk (by omega), zI_ne (by omega), zI_ne2 (by omega) (by omega)]
    intro h
    obtain ⟨n', m', hC⟩ := hK3 h
    exact ⟨n', m', rC_same hRR (fun q h1 h2 => zI_ne2 (by omega) (by omega)) rfl (fun k hk => rfl) hC⟩
theorem zp_set (hRR : zRok RR) : zo_set (zInv RR) := by
  intro X M hI a1 a2
  unfold fx_set fm_set fx_isSetting fx_History_forget fm_forgets
  simp only [znm]
  rcases pk_ix a1 (n := 4) (by omega) with h | h | ⟨k, hk, rfl⟩

  · have n0 : ¬ a1 = 0 := fun e => by rw [e] at h; exact absurd h (by decide)
    have n1 : ¬ a1 = 1 := fun e => by rw [e] at h; exact absurd h (by decide)
    have n2 : ¬ a1 = 2 := fun e => by rw [e] at h; exact absurd h (by decide)
    have n3 : ¬ a1 = 3 := fun e => by rw [e] at h; exact absurd h (by decide)
    rw [if_neg n0, if_neg n1, if_neg n2, if_neg n3, zbd_s, z_i0, fm_isIn_lo (Or.inl h), zbd_s, z_i0]
    exact ⟨_, _, _, rfl, rfl, hI⟩
  · have n0 : ¬ a1 = 0 := fun e => by rw [e] at h; exact absurd h (by decide)
    have n1 : ¬ a1 = 1 := fun e => by rw [e] at h; exact absurd h (by decide)
    have n2 : ¬ a1 = 2 := fun e => by rw [e] at h; exact absurd h (by decide)
    have n3 : ¬ a1 = 3 := fun e => by rw [e] at h; exact absurd h (by decide)
    have hi : (3 : Int32) < a1 := by
      rw [Int32.lt_iff_toInt_lt]
      rw [Int32.le_iff_toInt_le, nI_toInt (by omega)] at h
      have : (3 : Int32).toInt = 3 := by decide
      omega
    rw [if_neg n0, if_neg n1, if_neg n2, if_neg n3, zbd_s, z_i0, fm_isIn_lo (Or.inr hi), zbd_s, z_i0]
    exact ⟨_, _, _, rfl, rfl, hI⟩
  · rcases (show k = 0 ∨ k = 1 ∨ k = 2 ∨ k = 3 by omega) with rfl | rfl | rfl | rfl
    · rw [if_pos (show (nI 0 : Int32) = 0 from rfl), fm_isIn_in (show ¬ (nI 0 : Int32) < 0 by decide) (show ¬ (3 : Int32) < nI 0 by decide), zbd_s, z_i1]
      rw [if_pos (show (nI 0 : Int32) = 0 from rfl), if_neg (show ¬ (nI 0 : Int32) = 3 by decide)]
      by_cases hv : a2 < 1 ∨ (99 : Int32) < a2
      · rw [fx_in_lo hv, fm_isIn_lo hv, zbd_s, zbd_s, zbo_0, zck_t, zbd_s, z_i0, z_i0]
        exact ⟨_, _, _, rfl, rfl, hI⟩
      · rw [fx_in_in (fun q => hv (Or.inl q)) (fun q => hv (Or.inr q)), fm_isIn_in (fun q => hv (Or.inl q)) (fun q => hv (Or.inr q)), zbd_s, zbd_s, zbo_1, zck_t, zbd_s, z_i1, z_i1, zix_n (by omega) (by omega), zix_n (by omega) (by omega), zck_t, zck_t, nI_clamp (by omega), zbd_s, zbd_s]
        have b1 : ¬ a2.toInt < 1 := fun q => hv (Or.inl (by rw [Int32.lt_iff_toInt_lt]; exact q))
        have b2 : ¬ (99 : Int) < a2.toInt := fun q => hv (Or.inr (by rw [Int32.lt_iff_toInt_lt]; exact q))
        exact ⟨_, _, _, rfl, rfl, zI_set hRR hI (by omega) (by omega) (by omega) (by omega) (by omega)⟩
    · rw [if_neg (show ¬ (nI 1 : Int32) = 0 by decide), if_pos (show (nI 1 : Int32) = 1 from rfl), fm_isIn_in (show ¬ (nI 1 : Int32) < 0 by decide) (show ¬ (3 : Int32) < nI 1 by decide), zbd_s, z_i1]
      rw [if_neg (show ¬ (nI 1 : Int32) = 0 by decide), if_neg (show ¬ (nI 1 : Int32) = 3 by decide)]
      by_cases hv : a2 < 0 ∨ (99 : Int32) < a2
      · rw [fx_in_lo hv, fm_isIn_lo hv, zbd_s, zbd_s, zbo_0, zck_t, zbd_s, z_i0, z_i0]
        exact ⟨_, _, _, rfl, rfl, hI⟩
      · rw [fx_in_in (fun q => hv (Or.inl q)) (fun q => hv (Or.inr q)), fm_isIn_in (fun q => hv (Or.inl q)) (fun q => hv (Or.inr q)), zbd_s, zbd_s, zbo_1, zck_t, zbd_s, z_i1, z_i1, zix_n (by omega) (by omega), zix_n (by omega) (by omega), zck_t, zck_t, nI_clamp (by omega), zbd_s, zbd_s]
        have b1 : ¬ a2.toInt < 0 := fun q => hv (Or.inl (by rw [Int32.lt_iff_toInt_lt]; exact q))
        have b2 : ¬ (99 : Int) < a2.toInt := fun q => hv (Or.inr (by rw [Int32.lt_iff_toInt_lt]; exact q))
        exact ⟨_, _, _, rfl, rfl, zI_set hRR hI (by omega) (by omega) (by omega) (by omega) (by omega)⟩
    · rw [if_neg (show ¬ (nI 2 : Int32) = 0 by decide), if_neg (show ¬ (nI 2 : Int32) = 1 by decide), if_pos (show (nI 2 : Int32) = 2 from rfl), fm_isIn_in (show ¬ (nI 2 : Int32) < 0 by decide) (show ¬ (3 : Int32) < nI 2 by decide), zbd_s, z_i1]
      rw [if_neg (show ¬ (nI 2 : Int32) = 0 by decide), if_neg (show ¬ (nI 2 : Int32) = 3 by decide)]
      by_cases hv : a2 < 0 ∨ (99 : Int32) < a2
      · rw [fx_in_lo hv, fm_isIn_lo hv, zbd_s, zbd_s, zbo_0, zck_t, zbd_s, z_i0, z_i0]
        exact ⟨_, _, _, rfl, rfl, hI⟩
      · rw [fx_in_in (fun q => hv (Or.inl q)) (fun q => hv (Or.inr q)), fm_isIn_in (fun q => hv (Or.inl q)) (fun q => hv (Or.inr q)), zbd_s, zbd_s, zbo_1, zck_t, zbd_s, z_i1, z_i1, zix_n (by omega) (by omega), zix_n (by omega) (by omega), zck_t, zck_t, nI_clamp (by omega), zbd_s, zbd_s]
        have b1 : ¬ a2.toInt < 0 := fun q => hv (Or.inl (by rw [Int32.lt_iff_toInt_lt]; exact q))
        have b2 : ¬ (99 : Int) < a2.toInt := fun q => hv (Or.inr (by rw [Int32.lt_iff_toInt_lt]; exact q))
        exact ⟨_, _, _, rfl, rfl, zI_set hRR hI (by omega) (by omega) (by omega) (by omega) (by omega)⟩
    · rw [if_neg (show ¬ (nI 3 : Int32) = 0 by decide), if_neg (show ¬ (nI 3 : Int32) = 1 by decide), if_neg (show ¬ (nI 3 : Int32) = 2 by decide), if_pos (show (nI 3 : Int32) = 3 from rfl), fm_isIn_in (show ¬ (nI 3 : Int32) < 0 by decide) (show ¬ (3 : Int32) < nI 3 by decide), zbd_s, z_i1]
      rw [if_neg (show ¬ (nI 3 : Int32) = 0 by decide), if_pos (show (nI 3 : Int32) = 3 from rfl)]
      by_cases hv : a2 < 0 ∨ (100 : Int32) < a2
      · rw [fx_in_lo hv, fm_isIn_lo hv, zbd_s, zbd_s, zbo_0, zck_t, zbd_s, z_i0, z_i0]
        exact ⟨_, _, _, rfl, rfl, hI⟩
      · rw [fx_in_in (fun q => hv (Or.inl q)) (fun q => hv (Or.inr q)), fm_isIn_in (fun q => hv (Or.inl q)) (fun q => hv (Or.inr q)), zbd_s, zbd_s, zbo_1, zck_t, zbd_s, z_i1, z_i1, zix_n (by omega) (by omega), zix_n (by omega) (by omega), zck_t, zck_t, nI_clamp (by omega), zbd_s, zbd_s]
        have b1 : ¬ a2.toInt < 0 := fun q => hv (Or.inl (by rw [Int32.lt_iff_toInt_lt]; exact q))
        have b2 : ¬ (100 : Int) < a2.toInt := fun q => hv (Or.inr (by rw [Int32.lt_iff_toInt_lt]; exact q))
        exact ⟨_, _, _, rfl, rfl, zI_set hRR hI (by omega) (by omega) (by omega) (by omega) (by omega)⟩
theorem zI_give (hRR : zRok RR) {X M : zSt} {n m : Nat} (hI : zInv RR X M) (hn4 : M.1 1 4 = nI n) (hn : n ≤ 9) {h : Nat} (hh : h < n) {v : Int32} (h1 : 0 ≤ v.toInt) (h2 : v.toInt ≤ 999999) : zInv RR (zpI (zpI X 12 h v) 59 2 0) (zpI (zpI M 1 (23 + 16 * h) v) 0 3 0) := by
  obtain ⟨t, n', m, c, o, hT, hF, ⟨hH, hTi, hS, hR, hL, hRi⟩, hU, hK1, hK2, hK3⟩ := hI
  obtain rfl : n' = n := by
    have := hH.2.1
    rw [hn4] at this
    have h9 : n' ≤ 9 := hH.2.2.1
    exact ((nI_eq (by omega) (by omega)).mp this).symm
  have eb : ∀ j, j ≠ 23 + 16 * h → (zpI (zpI M 1 (23 + 16 * h) v) 0 3 0).1 1 j = M.1 1 j := fun j hj => by
    rw [zI_ne (by omega)]; exact zI_nk hj
  refine ⟨t, n', m, 0, o, rTape_c (zI_ne2 (by omega) (by omega)) (zI_ne2 (by omega) (by omega)) ((zI_nk (by omega)).trans (by rw [zI_ne (by omega)])) (zI_ne2 (by omega) (by omega)) hT, ?_, ⟨rH_c (fun q h1 h2 => zI_ne2 (by omega) (by omega)) (eb _ (by omega)) (fun g hg k _ hk => eb _ (by omega)) (fun k h1 h2 => eb _ (by omega)) hH, rT_dough hn hh (fun q h1 h2 h3 => zI_ne2 (by omega) (by omega)) (by rw [zI_ne (by omega)]; exact zI_eq) (fun k h1 h2 => eb k h1) (by rw [zI_ne (by omega)]; exact zI_at) h1 h2 hTi, rS_c (zI_ne2 (by omega) (by omega)) (fun k hk => eb _ (by omega)) hS, rR_c hRR (zI_ne2 (by omega) (by omega)) (zI_ne2 (by omega) (by omega)) (fun k h1 h2 => eb _ (by omega)) hR, rL_c (fun q h1 h2 => zI_ne2 (by omega) (by omega)) rfl (fun k h1 h2 => eb _ (by omega)) hL, rI_c (zI_ne2 (by omega) (by omega)) (fun k h1 h2 => eb _ (by omega)) hRi⟩, rU_0 zI_at zI_at ((zI_nk (by omega)).trans ((by rw [zI_ne (by omega)]; exact hU.2.2.2.1))) hU.2.2.2.2.1, ?_, ?_, ?_⟩
  · rw [zI_ne2 (q' := 125) (by omega) (by omega), zI_ne2 (q' := 140) (by omega) (by omega), zI_ne2 (q' := 141) (by omega) (by omega), zI_nk (by omega), zI_nk (by omega), zI_ne (by omega)]; exact hF
  · rw [zI_ne2 (by omega) (by omega), zI_nk (by omega), zI_ne (by omega)]; exact hK1
  · rw [zI_nk (by omega), zI_ne (by omega)]; exact hK2
  · rw [zI_nk (by omega), zI_ne (by omega), zI_ne2 (by omega) (by omega)]
    intro h
    obtain ⟨n', m', hC⟩ := hK3 h
    exact ⟨n', m', rC_same hRR (fun q h1 h2 => zI_ne2 (by omega) (by omega)) rfl (fun k hk => rfl) hC⟩
theorem zp_give (hRR : zRok RR) : zo_give (zInv RR) := by
  intro X M hI a1 a2
  obtain ⟨t, n, m, c, o, hT, hF, ⟨hH, hTi, hS, hR, hL, hRi⟩, hU, hK1, hK2, hK3⟩ := id hI
  have hn : n ≤ 9 := hH.2.2.1
  have ex : X.1 4 0 = nI n := hH.1
  have em : M.1 1 4 = nI n := hH.2.1
  unfold fx_give fm_give fx_History_forget fm_forgets
  simp only [znm]
  by_cases ho : a1 < 0 ∨ nI n ≤ a1
  · rw [fx_has_lo ex ho, fm_has_lo em hn ho]
    simp only [zbd_s, z_i0]
    exact ⟨_, _, _, rfl, rfl, hI⟩
  obtain ⟨h, hh, rfl⟩ : ∃ h : Nat, h < n ∧ a1 = nI h := by
    rcases pk_ix a1 (n := n) (by omega) with q | q | q
    · exact absurd (Or.inl q) ho
    · exact absurd (Or.inr q) ho
    · exact q
  rw [fx_has_in ex hn hh, fm_has_in em hn hh]
  simp only [zbd_s, z_i1]
  by_cases hv : a2 < 0 ∨ (99999 : Int32) < a2
  · rw [fx_in_lo hv, fm_isIn_lo hv]
    simp only [zbd_s, z_i0]
    exact ⟨_, _, _, rfl, rfl, hI⟩
  rw [fx_in_in (fun q => hv (Or.inl q)) (fun q => hv (Or.inr q)), fm_isIn_in (fun q => hv (Or.inl q)) (fun q => hv (Or.inr q))]
  simp only [zbd_s, z_i1]
  have k5 : (99999 : Int32).toInt = 99999 := kI99999
  have k0 : (0 : Int32).toInt = 0 := by decide
  have b1 : ¬ a2.toInt < 0 := fun q => hv (Or.inl (by rw [Int32.lt_iff_toInt_lt, k0]; exact q))
  have b2 : ¬ (99999 : Int) < a2.toInt := fun q => hv (Or.inr (by rw [Int32.lt_iff_toInt_lt, k5]; exact q))
  have ed : X.1 12 h = M.1 1 (23 + 16 * h) := (hTi.2.2.2.2.2.1 h hh).1
  have er := hTi.2.2.2.2.2.2.1 h hh
  have i3 : ∀ S : zSt, fm_own S (nI h) 3 = some (S.1 1 (23 + 16 * h), S) := fun S => by
    have := fm_own_eq (S := S) (h := h) (k := 3) (by omega) (by omega)
    rwa [show 20 + 16 * h + 3 = 23 + 16 * h by omega] at this
  have a3 : ∀ (S : zSt) (w : Int32), fm_adds S (nI h) 3 w = some ((), zpI S 1 (23 + 16 * h) (S.1 1 (23 + 16 * h) + w)) := fun S w => by
    have := fm_adds_eq (S := S) (h := h) (k := 3) (v := w) (by omega) (by omega)
    rwa [show 20 + 16 * h + 3 = 23 + 16 * h by omega] at this
  rw [zix_n (by omega) (by omega), zck_t, zck_t, zck_t, nI_clamp (by omega), i3, zbd_s, ed]
  have s1 : (M.1 1 (23 + 16 * h) + a2).toInt = (M.1 1 (23 + 16 * h)).toInt + a2.toInt := fb_addI (by omega) (by omega)
  have k9 : (999999 : Int32).toInt = 999999 := kI999999
  have s2 : ((999999 : Int32) - a2).toInt = 999999 - a2.toInt := by
    rw [fb_subI (x := 999999) (by omega) (by omega), k9]
  by_cases hc : M.1 1 (23 + 16 * h) ≤ 999999 - a2
  · have hc2 : M.1 1 (23 + 16 * h) + a2 ≤ 999999 := by
      rw [Int32.le_iff_toInt_le, s1]
      rw [Int32.le_iff_toInt_le, s2] at hc
      omega
    rw [if_pos hc, if_pos hc2, a3, zbd_s]
    rw [Int32.le_iff_toInt_le, s2] at hc
    exact ⟨_, _, _, rfl, rfl, zI_give (m := m) hRR hI em hn hh (by omega) (by omega)⟩
  · have hc2 : ¬ M.1 1 (23 + 16 * h) + a2 ≤ 999999 := by
      rw [Int32.le_iff_toInt_le, s1]
      rw [Int32.le_iff_toInt_le, s2] at hc
      omega
    rw [if_neg hc, if_neg hc2]
    exact ⟨_, _, _, rfl, rfl, hI⟩
end ops3
