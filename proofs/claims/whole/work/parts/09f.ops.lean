theorem al1 (N p q v : Int32) : N + ((p + v) - q) = N + (p - q) + v := by
  first | grind | (rw [Int32.sub_eq_add_neg, Int32.sub_eq_add_neg]; ac_rfl)
theorem al2 (N p q v : Int32) : N + (p - (q + v)) = N + (p - q) - v := by
  first | grind | (rw [Int32.sub_eq_add_neg, Int32.sub_eq_add_neg, Int32.sub_eq_add_neg, Int32.neg_add]; ac_rfl)
theorem al3 (N r v : Int32) : N + v + r = N + r + v := by
  first | grind | ac_rfl
theorem al4 (N r v : Int32) : N - v + r = N + r - v := by
  first | grind | (rw [Int32.sub_eq_add_neg, Int32.sub_eq_add_neg]; ac_rfl)
/-- a debt from i to j grows by v -/
theorem zNet_owe {a a' : Nat → Int32} {i j : Nat} {v : Int32} (hi : i < 9) (hj : j < 9) (hij : i ≠ j) (ha : ∀ k, a' k = if k = 180 + 9 * i + j then a k + v else a k) (h : Nat) (hh : h < 9) : ∀ o, o ≤ 9 → zNet a' h o = if h = j ∧ i < o then zNet a h o + v else if h = i ∧ j < o then zNet a h o - v else zNet a h o := by
  intro o
  induction o with
  | zero =>
    intro _
    rw [if_neg (by omega), if_neg (by omega)]
    rfl
  | succ o ih =>
    intro ho
    have e1 : a' (180 + 9 * o + h) = if o = i ∧ h = j then a (180 + 9 * o + h) + v else a (180 + 9 * o + h) := by
      rw [ha]
      by_cases c : o = i ∧ h = j
      · rw [if_pos c, if_pos (by omega)]
      · rw [if_neg c, if_neg (by omega)]
    have e2 : a' (180 + 9 * h + o) = if h = i ∧ o = j then a (180 + 9 * h + o) + v else a (180 + 9 * h + o) := by
      rw [ha]
      by_cases c : h = i ∧ o = j
      · rw [if_pos c, if_pos (by omega)]
      · rw [if_neg c, if_neg (by omega)]
    show zNet a' h o + (a' (180 + 9 * o + h) - a' (180 + 9 * h + o)) = if h = j ∧ i < o + 1 then zNet a h o + (a (180 + 9 * o + h) - a (180 + 9 * h + o)) + v else if h = i ∧ j < o + 1 then zNet a h o + (a (180 + 9 * o + h) - a (180 + 9 * h + o)) - v else zNet a h o + (a (180 + 9 * o + h) - a (180 + 9 * h + o))
    rw [ih (by omega), e1, e2]
    by_cases c1 : h = j
    · have c2 : ¬ h = i := by omega
      rw [if_neg (show ¬ (h = i ∧ o = j) from fun q => c2 q.1), if_neg (show ¬ (h = i ∧ j < o) from fun q => c2 q.1), if_neg (show ¬ (h = i ∧ j < o + 1) from fun q => c2 q.1)]
      by_cases c3 : o = i
      · rw [if_neg (by omega), if_pos ⟨c3, c1⟩, if_pos (by omega)]
        exact al1 _ _ _ _
      · by_cases c4 : i < o
        · rw [if_pos ⟨c1, c4⟩, if_neg (by omega), if_pos (by omega)]
          exact al3 _ _ _
        · rw [if_neg (by omega), if_neg (by omega), if_neg (by omega)]
    · rw [if_neg (show ¬ (h = j ∧ i < o) from fun q => c1 q.1), if_neg (show ¬ (o = i ∧ h = j) from fun q => c1 q.2), if_neg (show ¬ (h = j ∧ i < o + 1) from fun q => c1 q.1)]
      by_cases c2 : h = i
      · by_cases c3 : o = j
        · rw [if_neg (by omega), if_pos ⟨c2, c3⟩, if_pos (by omega)]
          exact al2 _ _ _ _
        · by_cases c4 : j < o
          · rw [if_pos ⟨c2, c4⟩, if_neg (by omega), if_pos (by omega)]
            exact al4 _ _ _
          · rw [if_neg (by omega), if_neg (by omega), if_neg (by omega)]
      · rw [if_neg (by omega), if_neg (by omega), if_neg (by omega)]
theorem rH_owe {x x' : Nat → Nat → Int32} {B : Nat} {a a' : Nat → Int32} {n i j : Nat} {v : Int32} (hi : i < n) (hj : j < n) (hij : i ≠ j) (hx : ∀ q, B < q → q < B + 7 → x' q = x q) (hx7 : ∀ h, x' (B + 7) h = if h = j then x (B + 7) h + v else if h = i then x (B + 7) h - v else x (B + 7) h) (ha : ∀ k, a' k = if k = 180 + 9 * i + j then a k + v else a k) (H : rH x B a n) : rH x' B a' n := by
  obtain ⟨h1, h2, h3, h5, h6, h7, h8, h9, h10⟩ := H
  have eb : ∀ k, k < 180 → a' k = a k := fun k hk => by rw [ha, if_neg (by omega)]
  refine ⟨by rw [hx _ (by omega) (by omega)]; exact h1, by rw [eb _ (by omega)]; exact h2, h3, fun h hh => ?_, fun h hh k hk => ?_, fun h hh => ?_, fun h hh => ?_, fun h h1 h2 => ?_, fun p q hp hq hpq => ?_⟩
  · rw [hx _ (by omega) (by omega), hx _ (by omega) (by omega), hx _ (by omega) (by omega), hx _ (by omega) (by omega), eb _ (by omega), eb _ (by omega), eb _ (by omega), eb _ (by omega)]
    exact h5 h hh
  · rw [eb _ (by omega)] at hk
    have hk5 : k < 5 := by have := (h7 h hh).2.2.2.2.2.2.2; omega
    rw [hx _ (by omega) (by omega), eb _ (by omega)]
    exact h6 h hh k hk
  · rw [eb _ (by omega), eb _ (by omega), eb _ (by omega), eb _ (by omega)]
    exact h7 h hh
  · rw [hx7, zNet_owe (by omega) (by omega) hij ha h (by omega) n h3, h8 h hh]
    by_cases c1 : h = j
    · rw [if_pos c1, if_pos ⟨c1, hi⟩]
    · rw [if_neg c1, if_neg (show ¬ (h = j ∧ i < n) from fun q => c1 q.1)]
      by_cases c2 : h = i
      · rw [if_pos c2, if_pos ⟨c2, hj⟩]
      · rw [if_neg c2, if_neg (show ¬ (h = i ∧ j < n) from fun q => c2 q.1)]
  · rw [hx7, if_neg (by omega), if_neg (by omega)]
    exact h9 h h1 h2
  · rw [ha, if_neg (by omega)]
    exact h10 p q hp hq hpq
section ops4
variable {RR : (Nat → Int32) → Int32 → Int32 → (Nat → Int32) → Prop}
theorem zp_owe (hRR : zRok RR) : zo_owe (zInv RR) := by
  intro X M hI a1 a2 a3
  obtain ⟨t, n, m, c, o, hT, hF, ⟨hH, hTi, hS, hR, hL, hRi⟩, hU, hK1, hK2, hK3⟩ := id hI
  have hn : n ≤ 9 := hH.2.2.1
  have ex : X.1 4 0 = nI n := hH.1
  have em : M.1 1 4 = nI n := hH.2.1
  unfold fx_owe fm_owe
  simp only [znm]
  by_cases ho : a1 < 0 ∨ nI n ≤ a1
  · rw [fx_has_lo ex ho, fm_has_lo em hn ho, zbd_s, zbd_s, z_i0, z_i0]
    exact ⟨_, _, _, rfl, rfl, hI⟩
  obtain ⟨i, hi, rfl⟩ : ∃ h : Nat, h < n ∧ a1 = nI h := by
    rcases pk_ix a1 (n := n) (by omega) with q | q | q
    · exact absurd (Or.inl q) ho
    · exact absurd (Or.inr q) ho
    · exact q
  rw [fx_has_in ex hn hi, fm_has_in em hn hi, zbd_s, zbd_s, z_i1, z_i1]
  by_cases ho2 : a2 < 0 ∨ nI n ≤ a2
  · rw [fx_has_lo ex ho2, fm_has_lo em hn ho2, zbd_s, zbd_s, z_i0, z_i0]
    exact ⟨_, _, _, rfl, rfl, hI⟩
  obtain ⟨j, hj, rfl⟩ : ∃ h : Nat, h < n ∧ a2 = nI h := by
    rcases pk_ix a2 (n := n) (by omega) with q | q | q
    · exact absurd (Or.inl q) ho2
    · exact absurd (Or.inr q) ho2
    · exact q
  rw [fx_has_in ex hn hj, fm_has_in em hn hj, zbd_s, zbd_s, z_i1, z_i1]
  by_cases hij : i = j
  · subst hij
    rw [if_pos rfl, if_pos rfl]
    exact ⟨_, _, _, rfl, rfl, hI⟩
  have hne : ¬ nI i = nI j := fun q => hij ((nI_eq (by omega) (by omega)).mp q)
  rw [if_neg hne, if_neg hne]
  by_cases hv : a3 < -99999 ∨ (99999 : Int32) < a3
  · rw [fx_in_lo hv, fm_isIn_lo hv, zbd_s, zbd_s, z_i0, z_i0]
    exact ⟨_, _, _, rfl, rfl, hI⟩
  rw [fx_in_in (fun q => hv (Or.inl q)) (fun q => hv (Or.inr q)), fm_isIn_in (fun q => hv (Or.inl q)) (fun q => hv (Or.inr q)), zbd_s, zbd_s, z_i1, z_i1, z_deb, zix_n (k := i) (by omega) (by omega), zck_t, zck_t, zix_n (k := j) (by omega) (by omega), zck_t, zck_t, zix_n (k := 180 + 9 * i + j) (by omega) (by omega), zck_t, zck_t, nI_clamp (n := i) (by omega), nI_clamp (n := j) (by omega), nI_clamp (n := 180 + 9 * i + j) (by omega)]
  generalize hX : zpI (zpI X 10 i (X.1 10 i - a3)) 10 j ((zpI X 10 i (X.1 10 i - a3)).1 10 j + a3) = X2
  generalize hM : zpI M 1 (180 + 9 * i + j) (M.1 1 (180 + 9 * i + j) + a3) = M2
  have xn : ∀ q, q ≠ 10 → X2.1 q = X.1 q := fun q hq => by rw [← hX]; exact zI_ne2 hq hq
  have xl : X2.2 = X.2 := by rw [← hX]; rfl
  have x10 : ∀ h, X2.1 10 h = if h = j then X.1 10 h + a3 else if h = i then X.1 10 h - a3 else X.1 10 h := fun h => by
    rw [← hX, zI_eq, zI_eq]
    by_cases c1 : h = j
    · subst c1
      rw [if_pos rfl]
      simp only [upd, if_true, if_neg (show ¬ h = i from fun q => hij q.symm)]
    · rw [if_neg c1]
      simp only [upd, if_neg c1]
      by_cases c2 : h = i
      · subst c2; simp only [if_true]
      · rw [if_neg c2, if_neg c2]
  have mn : ∀ q, q ≠ 1 → M2.1 q = M.1 q := fun q hq => by rw [← hM]; exact zI_ne hq
  have m1 : ∀ k, M2.1 1 k = if k = 180 + 9 * i + j then M.1 1 k + a3 else M.1 1 k := fun k => by
    rw [← hM, zI_eq]
    by_cases c1 : k = 180 + 9 * i + j
    · subst c1; simp only [upd, if_true]
    · rw [if_neg c1]; simp only [upd, if_neg c1]
  have mb : ∀ k, k < 180 ∨ 261 ≤ k → M2.1 1 k = M.1 1 k := fun k hk => by rw [m1, if_neg (by omega)]
  refine ⟨_, _, _, rfl, rfl, t, n, m, c, o, rTape_c (xn _ (by omega)) (xn _ (by omega)) (by rw [mn _ (by omega)]) (mn _ (by omega)) hT, ?_, ⟨rH_owe hi hj hij (fun q h1 h2 => xn _ (by omega)) x10 m1 hH, rT_c (fun q h1 h2 => xn _ (by omega)) (fun k hk => mb _ (by omega)) (fun h hh k h1 h2 => mb _ (by omega)) hTi, rS_c (xn _ (by omega)) (fun k hk => mb _ (by omega)) hS, rR_c hRR (xn _ (by omega)) (xn _ (by omega)) (fun k h1 h2 => mb _ (by omega)) hR, rL_c (fun q h1 h2 => xn _ (by omega)) (by rw [xl]) (fun k h1 h2 => mb _ (by omega)) hL, rI_c (xn _ (by omega)) (fun k h1 h2 => mb _ (by omega)) hRi⟩, rU_c hn (xn _ (by omega)) (fun q h1 h2 => xn _ (by omega)) (by rw [mn _ (by omega)]) (mn _ (by omega)) (fun k hk => mb _ (by omega)) (fun h hh k _ hk => mb _ (by omega)) hU, ?_, ?_, ?_⟩
  · rw [xn 125 (by omega), xn 140 (by omega), xn 141 (by omega), mn _ (by omega)]; exact hF
  · rw [xn _ (by omega), mn _ (by omega)]; exact hK1
  · rw [mn _ (by omega)]; exact hK2
  · rw [mn _ (by omega), mn _ (by omega)]
    intro h
    obtain ⟨n', m', hC⟩ := hK3 h
    exact ⟨n', m', rC_same hRR (fun q h1 h2 => xn _ (by omega)) (by rw [xl]) (fun k hk => rfl) hC⟩
end ops4
