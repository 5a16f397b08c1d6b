/-- nothing that is matched is touched but the length of the tape -/
theorem zI_same {RR : (Nat → Int32) → Int32 → Int32 → (Nat → Int32) → Prop} (hRR : zRok RR) {X M X' M' : zSt} (hx : ∀ q, q ≠ 1 → q < 125 → X'.1 q = X.1 q) (hy : X'.2 27 = X.2 27 ∧ X'.2 55 = X.2 55) (h125 : X'.1 125 4 = X.1 125 4 ∧ X'.1 125 5 = X.1 125 5 ∧ X'.1 140 0 = X.1 140 0 ∧ X'.1 141 0 = X.1 141 0) (hm : ∀ q, (q = 1 ∨ q = 2 ∨ q = 3 ∨ q = 6) → M'.1 q = M.1 q) (hm0 : ∀ k, (k = 3 ∨ k = 4 ∨ k = 19 ∨ k = 21) → M'.1 0 k = M.1 0 k) (ht : (X'.1 1 1 = X.1 1 1 ∧ M'.1 0 12 = M.1 0 12) ∨ (X'.1 1 1 = 0 ∧ M'.1 0 12 = 0)) (H : zInv RR X M) : zInv RR X' M' := by
  obtain ⟨t, n, m, c, o, hT, hF, hC, hU, hK1, hK2, hK3⟩ := H
  have hn : n ≤ 9 := hC.1.2.2.1
  obtain ⟨t', hT'⟩ : ∃ t', rTape X'.1 M'.1 t' := by
    obtain ⟨q1, q2, q3, q4, q5⟩ := hT
    rcases ht with ⟨e1, e2⟩ | ⟨e1, e2⟩
    · exact ⟨t, by rw [e1, q1], by rw [e2, q2], q3, fun k => by rw [hx 2 (by omega) (by omega), hm 6 (by omega)]; exact q4 k, fun k => by rw [hm 6 (by omega)]; exact q5 k⟩
    · exact ⟨0, e1, e2, by omega, fun k => by rw [hx 2 (by omega) (by omega), hm 6 (by omega)]; exact q4 k, fun k => by rw [hm 6 (by omega)]; exact q5 k⟩
  refine ⟨t', n, m, c, o, hT', by rw [h125.1, h125.2.1, h125.2.2.1, h125.2.2.2, hm0 19 (by omega), hm0 21 (by omega)]; exact hF, rC_same hRR (fun q h1 h2 => hx q (by omega) (by omega)) hy.1 (fun k _ => by rw [hm 1 (by omega)]) hC, rU_c hn (hx _ (by omega) (by omega)) (fun q h1 h2 => hx q (by omega) (by omega)) (hm0 3 (by omega)) (hm 3 (by omega)) (fun k _ => by rw [hm 1 (by omega)]) (fun h hh k _ hk => by rw [hm 1 (by omega)]) hU, ?_, ?_, ?_⟩
  · rw [hx 0 (by omega) (by omega), hm0 4 (by omega)]; exact hK1
  · rw [hm0 4 (by omega)]; exact hK2
  · rw [hm0 4 (by omega)]
    intro h
    obtain ⟨n', m', hC'⟩ := hK3 h
    exact ⟨n', m', rC_same hRR (fun q h1 h2 => hx q (by omega) (by omega)) hy.2 (fun k _ => by rw [hm 2 (by omega)]) hC'⟩
theorem rL_age {x : Nat → Nat → Int32} {y : Nat → Nat → Int64} {B : Nat} {a : Nat → Int32} {m n : Nat} (H : rL x y B a m n) (l : Nat) (hl : l < m) : ∃ u : Nat, u ≤ 30 ∧ a (343 + 4 * l) = nI u := by
  rcases H.2.2.2.2 l hl with ⟨_, _, q, _⟩ | ⟨_, i, j, u, v, _, _, _, _, _, _, q, q2, _⟩
  · exact ⟨0, by omega, q⟩
  · exact ⟨_, q2, q⟩
theorem fx_Ladd_full {S : zSt} {v1 v2 v3 v4 : Int32} {w : Int64} (hS : S.1 22 0 = nI 60) : fx_Leavens_add S v1 v2 v3 v4 w = some (-1, S) := by
  unfold fx_Leavens_add
  rw [hS, if_neg (show ¬ nI 60 < (60 : Int32) by decide)]
theorem nI_max (u v : Nat) (hu : u ≤ 30) (hv : v ≤ 30) : (1 : Int32) + (if nI u < nI v then nI v else nI u) = nI (1 + max u v) := by
  by_cases h : u < v
  · rw [if_pos (nI_lt h (by omega)), show (1 : Int32) = nI 1 from rfl, nI_add, show max u v = v by omega]
  · rw [if_neg (nI_nlt (by omega) (by omega)), show (1 : Int32) = nI 1 from rfl, nI_add, show max u v = u by omega]
theorem zpos {n : Nat} {a : Int32} (hn : n < 2 ^ 30) (h : ¬ (a < 0 ∨ nI n ≤ a)) : ∃ k : Nat, k < n ∧ a = nI k := by
  rcases pk_ix a (n := n) (by omega) with q | q | q
  · exact absurd (Or.inl q) h
  · exact absurd (Or.inr q) h
  · exact q
section ops8
variable {RR : (Nat → Int32) → Int32 → Int32 → (Nat → Int32) → Prop}
theorem zI_leav (hRR : zRok RR) {X M X' M' : zSt} {t n m c o : Nat} {v0 v1 v2 v3 : Int32} {w : Int64} (hT : rTape X.1 M.1 t) (hF : X.1 125 4 = M.1 0 19 ∧ X.1 125 5 = M.1 0 21 ∧ X.1 140 0 = 0 ∧ X.1 141 0 = 0) (hC : rC RR X.1 X.2 3 (M.1 1) n m) (hU : rU X.1 M.1 n c o) (hK : X.1 0 3 = M.1 0 4 ∧ (M.1 0 4 = 0 ∨ M.1 0 4 = 1) ∧ (M.1 0 4 = 1 → ∃ n' m' : Nat, rC RR X.1 X.2 31 (M.1 2) n' m')) (hm : m < 60)
    (x0 : X'.1 22 0 = nI (m + 1)) (x1 : X'.1 23 = upd (X.1 23) m v3) (x2 : X'.1 24 = upd (X.1 24) m v2) (x3 : X'.1 25 = upd (X.1 25) m v0) (x4 : X'.1 26 = upd (X.1 26) m v1) (x5 : X'.2 27 = vp_updL (X.2 27) m w) (xo : ∀ q, (q < 22 ∨ 27 ≤ q) → X'.1 q = X.1 q) (xl : ∀ q, q ≠ 27 → X'.2 q = X.2 q)
    (b0 : M'.1 1 585 = nI (m + 1)) (b1 : M'.1 1 (340 + 4 * m) = v0) (b2 : M'.1 1 (341 + 4 * m) = v1) (b3 : M'.1 1 (342 + 4 * m) = v2) (b4 : M'.1 1 (343 + 4 * m) = v3) (bo : ∀ k, k ≠ 585 → (k < 340 + 4 * m ∨ 344 + 4 * m ≤ k) → M'.1 1 k = M.1 1 k) (bq : ∀ q, q ≠ 1 → M'.1 q = M.1 q)
    (hnew : (v0 = -1 ∧ v1 = -1 ∧ v3 = 0 ∧ (∃ h : Nat, h < 9 ∧ v2 = nI h) ∧ w = 1 <<< ((nI m).toInt64 &&& 63)) ∨ (v2 = -1 ∧ ∃ i j u v : Nat, i < m ∧ j < m ∧ v0 = nI i ∧ v1 = nI j ∧ M.1 1 (343 + 4 * i) = nI u ∧ M.1 1 (343 + 4 * j) = nI v ∧ v3 = nI (1 + max u v) ∧ 1 + max u v ≤ 30 ∧ w = (X.2 27 i ||| X.2 27 j) ||| 1 <<< ((nI m).toInt64 &&& 63))) : zInv RR X' M' := by
  obtain ⟨hH, hTi, hS, hR, hL, hRi⟩ := hC
  have hn : n ≤ 9 := hH.2.2.1
  have bl : ∀ k, k < 340 ∨ 586 ≤ k → M'.1 1 k = M.1 1 k := fun k hk => bo k (by omega) (by omega)
  refine ⟨t, n, m + 1, c, o, rTape_c (xo _ (by omega)) (xo _ (by omega)) (by rw [bq 0 (by omega)]) (bq _ (by omega)) hT, ?_, ⟨rH_c (fun q h1 h2 => xo _ (by omega)) (bl _ (by omega)) (fun h hh k _ hk => bl _ (by omega)) (fun k h1 h2 => bl _ (by omega)) hH, rT_c (fun q h1 h2 => xo _ (by omega)) (fun k hk => bl _ (by omega)) (fun h hh k h1 h2 => bl _ (by omega)) hTi, rS_c (xo _ (by omega)) (fun k hk => bl _ (by omega)) hS, rR_c hRR (xo _ (by omega)) (xo _ (by omega)) (fun k h1 h2 => bl _ (by omega)) hR, rL_add hm x0 x1 x2 x3 x4 x5 b0 b1 b2 b3 b4 (fun k h1 h2 => bo k (by omega) (by omega)) hnew hL, rI_c (xo _ (by omega)) (fun k h1 h2 => bl _ (by omega)) hRi⟩, rU_c hn (xo _ (by omega)) (fun q h1 h2 => xo _ (by omega)) (by rw [bq 0 (by omega)]) (bq _ (by omega)) (fun k hk => bl _ (by omega)) (fun h hh k _ hk => bl _ (by omega)) hU, ?_, ?_, ?_⟩
  · rw [xo 125 (by omega), xo 140 (by omega), xo 141 (by omega), bq 0 (by omega)]; exact hF
  · rw [xo _ (by omega), bq 0 (by omega)]; exact hK.1
  · rw [bq 0 (by omega)]; exact hK.2.1
  · rw [bq 0 (by omega), bq 2 (by omega)]
    intro h
    obtain ⟨n', m', hC'⟩ := hK.2.2 h
    exact ⟨n', m', rC_same hRR (fun q h1 h2 => xo _ (by omega)) (xl _ (by omega)) (fun k _ => rfl) hC'⟩
theorem zp_leaven (hRR : zRok RR) : zo_leaven (zInv RR) := by
  intro X M hI a1 a2
  obtain ⟨t, n, m, c, o, hT, hF, hC, hU, hK⟩ := id hI
  obtain ⟨hH, hTi, hS, hR, hL, hRi⟩ := id hC
  have hn : n ≤ 9 := hH.2.2.1
  have ex : X.1 4 0 = nI n := hH.1
  have em : M.1 1 4 = nI n := hH.2.1
  have lx : X.1 22 0 = nI m := hL.1
  have lm : M.1 1 585 = nI m := hL.2.1
  have hm : m ≤ 60 := hL.2.2.1
  unfold fx_leaven fm_leaven fx_Leavens_addNew
  simp only [znm]
  by_cases m60 : m = 60
  · subst m60
    rw [if_pos (show M.1 1 585 = 60 from lm)]
    by_cases hb : a2 = -1
    · rw [if_pos hb]
      by_cases ho : a1 < 0 ∨ nI n ≤ a1
      · rw [fx_has_lo ex ho, zbd_s, z_i0]
        exact ⟨_, _, _, rfl, rfl, hI⟩
      · obtain ⟨h, hh, rfl⟩ := zpos (by omega) ho
        rw [fx_has_in ex hn hh, zbd_s, z_i1, fx_Ladd_full lx, zbd_s, zbd_s]
        exact ⟨_, _, _, rfl, rfl, hI⟩
    · rw [if_neg hb]
      by_cases ho : a1 < 0 ∨ nI 60 ≤ a1
      · rw [fx_lhas_lo lx ho, zbd_s, z_i0]
        exact ⟨_, _, _, rfl, rfl, hI⟩
      obtain ⟨i, hi, rfl⟩ := zpos (by omega) ho
      rw [fx_lhas_in lx (by omega) hi, zbd_s, z_i1]
      by_cases ho2 : a2 < 0 ∨ nI 60 ≤ a2
      · rw [fx_lhas_lo lx ho2, zbd_s, z_i0]
        exact ⟨_, _, _, rfl, rfl, hI⟩
      obtain ⟨j, hj, rfl⟩ := zpos (by omega) ho2
      rw [fx_lhas_in lx (by omega) hj, zbd_s, z_i1]
      unfold fx_Leavens_addMixed
      simp only [znm]
      rw [zix_n hi (by omega), zck_t, zix_n hj (by omega), zck_t, fx_Ladd_full lx, zck_t, zck_t, zbd_s]
      by_cases h30 : (1 : Int32) + (if X.1 23 (nI i).toNatClampNeg < X.1 23 (nI j).toNatClampNeg then X.1 23 (nI j).toNatClampNeg else X.1 23 (nI i).toNatClampNeg) ≤ 30
      · rw [if_pos h30, zbd_s]
        exact ⟨_, _, _, rfl, rfl, hI⟩
      · rw [if_neg h30, zbd_s]
        exact ⟨_, _, _, rfl, rfl, hI⟩
  have hm' : m < 60 := by omega
  rw [if_neg (show ¬ M.1 1 585 = 60 from by rw [lm]; exact fun q => m60 ((nI_eq (a := m) (b := 60) (by omega) (by omega)).mp q))]
  have eq0 : (340 : Int32) + (4 : Int32) * nI m = nI (340 + 4 * m) := by
    rw [show (4 : Int32) = nI 4 from rfl, show (340 : Int32) = nI 340 from rfl, pk_mul, nI_add]
  have eq1 : nI (340 + 4 * m) + (1 : Int32) = nI (341 + 4 * m) := by rw [nI_1, show 340 + 4 * m + 1 = 341 + 4 * m by omega]
  have eq2 : nI (340 + 4 * m) + (2 : Int32) = nI (342 + 4 * m) := by rw [show (2 : Int32) = nI 2 from rfl, nI_add, show 340 + 4 * m + 2 = 342 + 4 * m by omega]
  have eq3 : nI (340 + 4 * m) + (3 : Int32) = nI (343 + 4 * m) := by rw [show (3 : Int32) = nI 3 from rfl, nI_add, show 340 + 4 * m + 3 = 343 + 4 * m by omega]
  have fin : ∀ (v0 v1 v2 v3 : Int32), ∃ Y : zSt, zpI (zpI (zpI (zpI (zpI M 1 (340 + 4 * m) v0) 1 (341 + 4 * m) v1) 1 (342 + 4 * m) v2) 1 (343 + 4 * m) v3) 1 585 ((zpI (zpI (zpI (zpI M 1 (340 + 4 * m) v0) 1 (341 + 4 * m) v1) 1 (342 + 4 * m) v2) 1 (343 + 4 * m) v3).1 1 585 + 1) = Y ∧ Y.1 1 585 = nI (m + 1) ∧ Y.1 1 (340 + 4 * m) = v0 ∧ Y.1 1 (341 + 4 * m) = v1 ∧ Y.1 1 (342 + 4 * m) = v2 ∧ Y.1 1 (343 + 4 * m) = v3 ∧ (∀ k, k ≠ 585 → (k < 340 + 4 * m ∨ 344 + 4 * m ≤ k) → Y.1 1 k = M.1 1 k) ∧ (∀ q, q ≠ 1 → Y.1 q = M.1 q) := fun v0 v1 v2 v3 => by
    have e : (zpI (zpI (zpI (zpI M 1 (340 + 4 * m) v0) 1 (341 + 4 * m) v1) 1 (342 + 4 * m) v2) 1 (343 + 4 * m) v3).1 1 585 + 1 = nI (m + 1) := by
      rw [zI_nk (by omega), zI_nk (by omega), zI_nk (by omega), zI_nk (by omega), lm, nI_1]
    rw [e]
    exact zM4 hm'
  by_cases hb : a2 = -1
  · rw [if_pos hb, if_pos hb]
    by_cases ho : a1 < 0 ∨ nI n ≤ a1
    · rw [fx_has_lo ex ho, fm_has_lo em hn ho, zbd_s, z_i0, zbd_s, z_i0]
      exact ⟨_, _, _, rfl, rfl, hI⟩
    · obtain ⟨h, hh, rfl⟩ := zpos (by omega) ho
      obtain ⟨X', c0, c1, c2, c3, c4, c5, c6, c7, c8⟩ := fx_Ladd_eq (v1 := 0) (v2 := nI h) (v3 := -1) (v4 := -1) (w := 0) lx hm'
      rw [fx_has_in ex hn hh, fm_has_in em hn hh, zbd_s, z_i1, zbd_s, z_i1, c0, zbd_s, zbd_s, lm, eq0, eq1, eq2, eq3, zix_n (by omega) (by omega), zck_t, zix_n (by omega) (by omega), zck_t, zix_n (by omega) (by omega), zck_t, zix_n (by omega) (by omega), zck_t, nI_clamp (by omega), nI_clamp (by omega), nI_clamp (by omega), nI_clamp (by omega)]
      obtain ⟨Y, d0, d1, d2, d3, d4, d5, d6, d7⟩ := fin (-1) (-1) (nI h) 0
      rw [d0, d1, nI_pred]
      rw [show (0 : Int64) ||| 1 <<< ((nI m).toInt64 &&& 63) = 1 <<< ((nI m).toInt64 &&& 63) from Int64.zero_or] at c6
      exact ⟨_, _, _, rfl, rfl, zI_leav hRR hT hF hC hU hK hm' c1 c2 c3 c4 c5 c6 c7 c8 d1 d2 d3 d4 d5 d6 d7 (Or.inl ⟨rfl, rfl, rfl, ⟨h, by omega, rfl⟩, rfl⟩)⟩
  · rw [if_neg hb, if_neg hb]
    by_cases ho : a1 < 0 ∨ nI m ≤ a1
    · rw [fx_lhas_lo lx ho, fm_lhas_lo lm hm ho, zbd_s, z_i0, zbd_s, z_i0]
      exact ⟨_, _, _, rfl, rfl, hI⟩
    obtain ⟨i, hi, rfl⟩ := zpos (by omega) ho
    rw [fx_lhas_in lx (by omega) hi, fm_lhas_in lm hm hi, zbd_s, z_i1, zbd_s, z_i1]
    by_cases ho2 : a2 < 0 ∨ nI m ≤ a2
    · rw [fx_lhas_lo lx ho2, fm_lhas_lo lm hm ho2, zbd_s, z_i0, zbd_s, z_i0]
      exact ⟨_, _, _, rfl, rfl, hI⟩
    obtain ⟨j, hj, rfl⟩ := zpos (by omega) ho2
    obtain ⟨u, hu, eu⟩ := rL_age hL i hi
    obtain ⟨v, hv, ev⟩ := rL_age hL j hj
    have xu : X.1 23 i = nI u := (hL.2.2.2.1 i hi).1.trans eu
    have xv : X.1 23 j = nI v := (hL.2.2.2.1 j hj).1.trans ev
    have ou : fm_ofLeaven M (nI i) 3 = some (nI u, M) := by
      rw [show (3 : Int32) = nI 3 from rfl, fm_ofL_eq (by omega) (by omega), show 340 + 4 * i + 3 = 343 + 4 * i by omega, eu]
    have ov : fm_ofLeaven M (nI j) 3 = some (nI v, M) := by
      rw [show (3 : Int32) = nI 3 from rfl, fm_ofL_eq (by omega) (by omega), show 340 + 4 * j + 3 = 343 + 4 * j by omega, ev]
    rw [fx_lhas_in lx (by omega) hj, fm_lhas_in lm hm hj, zbd_s, z_i1, zbd_s, z_i1, ou, zbd_s, ov, zbd_s, ov, zbd_s, ou, zbd_s]
    unfold fx_Leavens_addMixed
    simp only [znm]
    rw [zix_n (show i < 60 by omega) (by omega), zck_t, zix_n (show j < 60 by omega) (by omega), zck_t, zck_t, zck_t, nI_clamp (n := i) (by omega), nI_clamp (n := j) (by omega), xu, xv, nI_max u v hu hv]
    by_cases h : u ≤ v
    all_goals first
      | rw [if_pos (nI_le h (by omega)), show (1 : Int32) + nI v = nI (1 + max u v) from by rw [show (1 : Int32) = nI 1 from rfl, nI_add, show max u v = v by omega]]
      | rw [if_neg (nI_ge (by omega) (by omega)), show (1 : Int32) + nI u = nI (1 + max u v) from by rw [show (1 : Int32) = nI 1 from rfl, nI_add, show max u v = u by omega]]
    all_goals
      by_cases h30 : 1 + max u v ≤ 30
      · obtain ⟨X', c0, c1, c2, c3, c4, c5, c6, c7, c8⟩ := fx_Ladd_eq (v1 := nI (1 + max u v)) (v2 := -1) (v3 := nI i) (v4 := nI j) (w := X.2 27 i ||| X.2 27 j) lx hm'
        rw [if_pos (show nI (1 + max u v) ≤ (30 : Int32) from nI_le (b := 30) h30 (by omega)), if_pos (show nI (1 + max u v) ≤ (30 : Int32) from nI_le (b := 30) h30 (by omega)), c0, zbd_s, zbd_s, lm, eq0, eq1, eq2, eq3, zix_n (show 340 + 4 * m < 1480 by omega) (by omega), zck_t, zix_n (show 341 + 4 * m < 1480 by omega) (by omega), zck_t, zix_n (show 342 + 4 * m < 1480 by omega) (by omega), zck_t, zix_n (show 343 + 4 * m < 1480 by omega) (by omega), zck_t, nI_clamp (n := 340 + 4 * m) (by omega), nI_clamp (n := 341 + 4 * m) (by omega), nI_clamp (n := 342 + 4 * m) (by omega), nI_clamp (n := 343 + 4 * m) (by omega)]
        obtain ⟨Y, d0, d1, d2, d3, d4, d5, d6, d7⟩ := fin (nI i) (nI j) (-1) (nI (1 + max u v))
        rw [d0, d1, nI_pred]
        exact ⟨_, _, _, rfl, rfl, zI_leav hRR hT hF hC hU hK hm' c1 c2 c3 c4 c5 c6 c7 c8 d1 d2 d3 d4 d5 d6 d7 (Or.inr ⟨rfl, i, j, u, v, hi, hj, rfl, rfl, eu, ev, rfl, h30, rfl⟩)⟩
      · rw [if_neg (show ¬ nI (1 + max u v) ≤ (30 : Int32) from nI_ge (a := 30) (by omega) (by omega)), if_neg (show ¬ nI (1 + max u v) ≤ (30 : Int32) from nI_ge (a := 30) (by omega) (by omega)), zbd_s]
        exact ⟨_, _, _, rfl, rfl, hI⟩
end ops8
