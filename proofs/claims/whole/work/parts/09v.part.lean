/-! lent, part -/
section ops12
variable {RR : (Nat → Int32) → Int32 → Int32 → (Nat → Int32) → Prop}
theorem zp_lent (hRR : zRok RR) : zo_lent (zInv RR) := by
  intro X M hI a1 a2
  obtain ⟨t, n, m, c, o, hT, hF, hC, hU, hK⟩ := id hI
  obtain ⟨hH, hTi, hS, hR, hL, hRi⟩ := id hC
  have lx : X.1 22 0 = nI m := hL.1
  have lm : M.1 1 585 = nI m := hL.2.1
  have hm : m ≤ 60 := hL.2.2.1
  unfold fx_lent fm_lent
  simp only [znm_q]
  by_cases ho : a1 < 0 ∨ nI m ≤ a1
  · rw [fx_lhas_lo lx ho, fm_lhas_lo lm hm ho, zbd_s, z_i0, zbd_s, z_i0]
    exact ⟨_, _, _, rfl, rfl, hI⟩
  obtain ⟨i, hi, rfl⟩ := zpos (by omega) ho
  obtain ⟨e1, e2, e3, e4⟩ := hL.2.2.2.1 i hi
  have of : ∀ (k j : Nat), k < 4 → j = 340 + k → fm_ofLeaven M (nI i) (nI k) = some (M.1 1 (j + 4 * i), M) := fun k j hk e => by
    rw [fm_ofL_eq (by omega) hk, show 340 + 4 * i + k = j + 4 * i by omega]
  rw [fx_lhas_in lx (by omega) hi, fm_lhas_in lm hm hi, zbd_s, z_i1, zbd_s, z_i1]
  rcases pk_ix a2 (n := 5) (by omega) with q | q | ⟨j, hj, rfl⟩
  rotate_left 2
  · rw [fm_isIn_in (nI_pos (by omega)) (show ¬ (4 : Int32) < nI j from nI_nlt (a := 4) (by omega) (by omega)), zbd_s, z_i1]
    rcases (show j = 0 ∨ j = 1 ∨ j = 2 ∨ j = 3 ∨ j = 4 by omega) with rfl | rfl | rfl | rfl | rfl
    · rw [if_pos (show (nI 0 : Int32) = 0 from rfl), zix_n (by omega) (by omega), zck_t, nI_clamp (by omega), if_neg (show ¬ (2 : Int32) ≤ nI 0 by decide), show (3 : Int32) - nI 0 = nI 3 by decide, of 3 343 (by omega) rfl, zbd_s]
      exact ⟨_, _, _, rfl, by rw [show X.1 23 i = M.1 1 (343 + 4 * i) from e1], hI⟩
    · rw [if_neg (show ¬ (nI 1 : Int32) = 0 by decide), if_pos (show (nI 1 : Int32) = 1 from rfl), zix_n (by omega) (by omega), zck_t, nI_clamp (by omega), if_neg (show ¬ (2 : Int32) ≤ nI 1 by decide), show (3 : Int32) - nI 1 = nI 2 by decide, of 2 342 (by omega) rfl, zbd_s]
      exact ⟨_, _, _, rfl, by rw [show X.1 24 i = M.1 1 (342 + 4 * i) from e2], hI⟩
    · rw [if_neg (show ¬ (nI 2 : Int32) = 0 by decide), if_neg (show ¬ (nI 2 : Int32) = 1 by decide), if_pos (show (nI 2 : Int32) = 2 from rfl), zix_n (by omega) (by omega), zck_t, nI_clamp (by omega), if_pos (show (2 : Int32) ≤ nI 2 by decide), if_neg (show ¬ (4 : Int32) ≤ nI 2 by decide), show nI 2 - (2 : Int32) = nI 0 by decide, of 0 340 (by omega) rfl, zbd_s]
      exact ⟨_, _, _, rfl, by rw [show X.1 25 i = M.1 1 (340 + 4 * i) from e3], hI⟩
    · rw [if_neg (show ¬ (nI 3 : Int32) = 0 by decide), if_neg (show ¬ (nI 3 : Int32) = 1 by decide), if_neg (show ¬ (nI 3 : Int32) = 2 by decide), if_pos (show (nI 3 : Int32) = 3 from rfl), zix_n (by omega) (by omega), zck_t, nI_clamp (by omega), if_pos (show (2 : Int32) ≤ nI 3 by decide), if_neg (show ¬ (4 : Int32) ≤ nI 3 by decide), show nI 3 - (2 : Int32) = nI 1 by decide, of 1 341 (by omega) rfl, zbd_s]
      exact ⟨_, _, _, rfl, by rw [show X.1 26 i = M.1 1 (341 + 4 * i) from e4], hI⟩
    · obtain ⟨r, Y, y1, y2, y3⟩ := zlent_eq hL hi
      rw [if_neg (show ¬ (nI 4 : Int32) = 0 by decide), if_neg (show ¬ (nI 4 : Int32) = 1 by decide), if_neg (show ¬ (nI 4 : Int32) = 2 by decide), if_neg (show ¬ (nI 4 : Int32) = 3 by decide), if_pos (show (nI 4 : Int32) = 4 from rfl), if_pos (show (2 : Int32) ≤ nI 4 by decide), if_pos (show (4 : Int32) ≤ nI 4 by decide), y1, zbd_s, y2]
      exact ⟨_, _, _, rfl, rfl, zI_m1 hRR y3 hI⟩
  all_goals
    have hne : ∀ k : Nat, k < 5 → ¬ a2 = nI k := fun k hk e => by
      rw [e] at q
      first
        | exact nI_pos (by omega) q
        | exact nI_ge hk (by omega) q
    have hlo : a2 < 0 ∨ (4 : Int32) < a2 := by
      first
        | exact Or.inl q
        | exact Or.inr (by
            rw [Int32.lt_iff_toInt_lt]
            rw [Int32.le_iff_toInt_le, nI_toInt (by omega)] at q
            have : (4 : Int32).toInt = 4 := by decide
            omega)
    rw [if_neg (show ¬ a2 = 0 from hne 0 (by omega)), if_neg (show ¬ a2 = 1 from hne 1 (by omega)), if_neg (show ¬ a2 = 2 from hne 2 (by omega)), if_neg (show ¬ a2 = 3 from hne 3 (by omega)), if_neg (show ¬ a2 = 4 from hne 4 (by omega)), fm_isIn_lo hlo, zbd_s, z_i0]
    exact ⟨_, _, _, rfl, rfl, hI⟩
end ops12
/-- the greatest common divisor -/
theorem fx_gcd_eq {j : Int64 → zSt → Option (Int64 × zSt)} {S : zSt} : ∀ (k f s x y : Nat), y < 2 ^ k → x < 2 ^ 63 → k ≤ 63 → s + 2 * k < 100 → 2 * k < f → fx_greatestCommonDivisor_L9 j f (lN x) (lN y) (nI s) S = j (lN (Nat.gcd y x)) S := by
  intro k
  induction k with
  | zero =>
    intro f s x y hy hx _ hs hf
    obtain ⟨f, rfl⟩ : ∃ g, f = g + 1 := ⟨f - 1, by omega⟩
    obtain rfl : y = 0 := by omega
    rw [fx_greatestCommonDivisor_L9, if_neg (show ¬ (100 : Int32) ≤ nI s from nI_ge (b := 100) (by omega) (by omega)), lg_lN0 (by omega), if_pos rfl, if_pos rfl, Nat.gcd_zero_left]
  | succ k ih =>
    intro f s x y hy hx hk hs hf
    obtain ⟨f, rfl⟩ : ∃ g, f = g + 1 := ⟨f - 1, by omega⟩
    have hy63 : y < 2 ^ 63 := Nat.lt_of_lt_of_le hy (Nat.pow_le_pow_right (by omega) hk)
    rw [fx_greatestCommonDivisor_L9, if_neg (show ¬ (100 : Int32) ≤ nI s from nI_ge (b := 100) (by omega) (by omega)), lg_lN0 hy63]
    by_cases h0 : y = 0
    · subst h0
      rw [if_pos rfl, if_pos rfl, Nat.gcd_zero_left]
    · have nz : znzL (lN y) = true := by
        unfold znzL
        exact decide_eq_true (fun q => h0 ((pk_lEQ hy63 (by omega)).mp (q : lN y = lN 0)))
      rw [if_neg h0, if_neg (by decide), nz, zck_t, znm_q, znm_q, pk_lRem hx (by omega) hy63, nI_1]
      obtain ⟨f, rfl⟩ : ∃ g, f = g + 1 := ⟨f - 1, by omega⟩
      have hr : x % y < y := Nat.mod_lt _ (by omega)
      rw [fx_greatestCommonDivisor_L9, if_neg (show ¬ (100 : Int32) ≤ nI (s + 1) from nI_ge (b := 100) (by omega) (by omega)), lg_lN0 (by omega)]
      by_cases h1 : x % y = 0
      · rw [if_pos h1, if_pos rfl, Nat.gcd_rec, h1, Nat.gcd_zero_left]
      · have nz2 : znzL (lN (x % y)) = true := by
          unfold znzL
          exact decide_eq_true (fun q => h1 ((pk_lEQ (by omega) (by omega)).mp (q : lN (x % y) = lN 0)))
        have hr2 : y % (x % y) < x % y := Nat.mod_lt _ (by omega)
        have hh : y % (x % y) < 2 ^ k := by
          have h3 := Nat.div_add_mod y (x % y)
          have h4 : 1 ≤ y / (x % y) := (Nat.le_div_iff_mul_le (by omega)).mpr (by omega)
          have h5 : (x % y) * 1 ≤ (x % y) * (y / (x % y)) := Nat.mul_le_mul_left _ h4
          have : 2 ^ (k + 1) = 2 * 2 ^ k := by rw [Nat.pow_succ, Nat.mul_comm]
          omega
        rw [if_neg h1, if_neg (by decide), nz2, zck_t, znm_q, znm_q, pk_lRem hy63 (by omega) (by omega), nI_1, ih f (s + 1 + 1) (x % y) (y % (x % y)) hh (by omega) (by omega) (by omega) (by omega), ← Nat.gcd_rec (x % y) y, ← Nat.gcd_rec y x]
theorem fx_gcd {S : zSt} {x y : Nat} (hx : x < 2 ^ 40) (hy : y < 2 ^ 40) : fx_greatestCommonDivisor S (lN y) (lN x) = some (lN (Nat.gcd y x), S) := by
  unfold fx_greatestCommonDivisor
  rw [znm_q, ← nI_0, fx_gcd_eq 40 zFU 0 x y hy (by omega) (by omega) (by omega) (by unfold zFU; omega)]
/-- the class lays the shares -/
theorem fx_share_eq {X M : zSt} {m n fr l : Nat} (H : rL X.1 X.2 3 (M.1 1) m n) (hfr : fr < m) (hnew : M.1 1 (340 + 4 * fr) = -1) (hl : l < m) : ∃ Y : zSt, fx_Leavens_shareOf X (nI l) (nI fr) = some (lN (zq (M.1 1) fr l * 2 ^ (30 - zg (M.1 1) l)), Y) ∧ Y.1 = X.1 ∧ (∀ q, q ≠ 28 → Y.2 q = X.2 q) := by
  have hm : m ≤ 60 := H.2.2.1
  have key : ∀ (f i : Nat) (S : zSt), i ≤ l + 1 → l + 1 < i + f → S.1 = X.1 → (∀ q, q ≠ 28 → S.2 q = X.2 q) → (∀ k, k < i → S.2 28 k = lN (zq (M.1 1) fr k * 2 ^ (30 - zg (M.1 1) k))) → ∃ Y : zSt, fx_Leavens_shareOf_L2 (nI l) (nI fr) f (nI i) S = some (lN (zq (M.1 1) fr l * 2 ^ (30 - zg (M.1 1) l)), Y) ∧ Y.1 = X.1 ∧ (∀ q, q ≠ 28 → Y.2 q = X.2 q) := by
    intro f
    induction f with
    | zero => intro i S a b; omega
    | succ f ih =>
      intro i S h1 h2 hS hS2 hP
      rw [fx_Leavens_shareOf_L2]
      by_cases e : i = l + 1
      · rw [if_pos (nI_lt (by omega) (by omega)), zix_n (by omega) (by omega), zck_t, nI_clamp (by omega), hP l (by omega)]
        exact ⟨S, rfl, hS, hS2⟩
      have hi : i < m := by omega
      obtain ⟨e1, e2, e3, e4⟩ := H.2.2.2.1 i hi
      have e2' : S.1 24 i = M.1 1 (342 + 4 * i) := by rw [hS]; exact e2
      have e3' : S.1 25 i = M.1 1 (340 + 4 * i) := by rw [hS]; exact e3
      have e4' : S.1 26 i = M.1 1 (341 + 4 * i) := by rw [hS]; exact e4
      rw [if_neg (nI_nlt (by omega) (by omega)), fx_isNew_eq (by omega), zbd_s, e2']
      simp only [znm_q]
      rw [zix_n (show i < 60 by omega) (by omega)]
      simp only [zck_t]
      rw [nI_clamp (n := i) (by omega), nI_1, e3', e4']
      have put : ∀ v : Int64, v = lN (zq (M.1 1) fr i * 2 ^ (30 - zg (M.1 1) i)) → ∀ k, k < i + 1 → (zpL S 28 i v).2 28 k = lN (zq (M.1 1) fr k * 2 ^ (30 - zg (M.1 1) k)) := fun v hv k hk => by
        rw [zL_eq]
        by_cases c : k = i
        · subst c
          simp only [vp_updL, if_true]
          exact hv
        · simp only [vp_updL, if_neg c]
          exact hP k (by omega)
      have go : ∀ v : Int64, v = lN (zq (M.1 1) fr i * 2 ^ (30 - zg (M.1 1) i)) → ∃ Y : zSt, fx_Leavens_shareOf_L2 (nI l) (nI fr) f (nI (i + 1)) (zpL S 28 i v) = some (lN (zq (M.1 1) fr l * 2 ^ (30 - zg (M.1 1) l)), Y) ∧ Y.1 = X.1 ∧ (∀ q, q ≠ 28 → Y.2 q = X.2 q) := fun v hv => ih (i + 1) _ (by omega) (by omega) hS (fun q hq => by rw [zL_ne hq]; exact hS2 q hq) (put v hv)
      rcases (rL_of H i hi).2.2 with ⟨q1, q2, ⟨h, hh, q3⟩, _⟩ | ⟨q1, q0, q2, q3, q4, q5, q6, _⟩
      · have ne : ¬ M.1 1 (342 + 4 * i) = -1 := fun q => by
          rw [q3] at q
          have := congrArg Int32.toInt q
          rw [nI_toInt (by omega), show (-1 : Int32).toInt = -1 from by decide] at this
          omega
        rw [if_neg ne, z_i1]
        by_cases ef : i = fr
        · rw [if_pos (by rw [ef])]
          refine go _ ?_
          rw [zq, if_pos ef, q2]
          rfl
        · rw [if_neg (fun q => ef ((nI_eq (by omega) (by omega)).mp q))]
          refine go _ ?_
          rw [zq, if_neg ef, if_pos q1, Nat.zero_mul]
          rfl
      · have lu : zg (M.1 1) (zu (M.1 1) i) + 1 ≤ zg (M.1 1) i := by
          rw [q6]; have := Nat.le_max_left (zg (M.1 1) (zu (M.1 1) i)) (zg (M.1 1) (zv (M.1 1) i)); omega
        have lv : zg (M.1 1) (zv (M.1 1) i) + 1 ≤ zg (M.1 1) i := by
          rw [q6]; have := Nat.le_max_right (zg (M.1 1) (zu (M.1 1) i)) (zg (M.1 1) (zv (M.1 1) i)); omega
        clear q6
        have gi := (rL_of H i hi).2.1
        have b1 := zq_le H fr (zu (M.1 1) i + 1) (zu (M.1 1) i) (by omega) (by omega)
        have b2 := zq_le H fr (zv (M.1 1) i + 1) (zv (M.1 1) i) (by omega) (by omega)
        have bi := zq_le H fr (i + 1) i (by omega) hi
        have ef : ¬ i = fr := fun q => q1 (by rw [q]; exact hnew)
        rw [if_pos q0, z_i0, q4, q5, zix_n (show zu (M.1 1) i < 60 by omega) (by omega), zck_t, zix_n (show zv (M.1 1) i < 60 by omega) (by omega), zck_t, nI_clamp (n := zu (M.1 1) i) (by omega), nI_clamp (n := zv (M.1 1) i) (by omega), hP _ q2, hP _ q3, lN_add]
        refine go _ ?_
        have eqz : zq (M.1 1) fr i = zq (M.1 1) fr (zu (M.1 1) i) * 2 ^ (zg (M.1 1) i - 1 - zg (M.1 1) (zu (M.1 1) i)) + zq (M.1 1) fr (zv (M.1 1) i) * 2 ^ (zg (M.1 1) i - 1 - zg (M.1 1) (zv (M.1 1) i)) := by
          conv => lhs; rw [zq, if_neg ef, if_neg q1, dif_pos ⟨q2, q3⟩]
        have es : zq (M.1 1) fr (zu (M.1 1) i) * 2 ^ (30 - zg (M.1 1) (zu (M.1 1) i)) + zq (M.1 1) fr (zv (M.1 1) i) * 2 ^ (30 - zg (M.1 1) (zv (M.1 1) i)) = zq (M.1 1) fr i * 2 ^ (30 - zg (M.1 1) i) * 2 := by
          rw [eqz, Nat.mul_assoc, ← Nat.pow_succ, Nat.add_mul, Nat.mul_assoc, ← Nat.pow_add, Nat.mul_assoc, ← Nat.pow_add, show zg (M.1 1) i - 1 - zg (M.1 1) (zu (M.1 1) i) + (30 - zg (M.1 1) i).succ = 30 - zg (M.1 1) (zu (M.1 1) i) by omega, show zg (M.1 1) i - 1 - zg (M.1 1) (zv (M.1 1) i) + (30 - zg (M.1 1) i).succ = 30 - zg (M.1 1) (zv (M.1 1) i) by omega]
        have bs : zq (M.1 1) fr i * 2 ^ (30 - zg (M.1 1) i) ≤ 2 ^ 30 := by
          have := Nat.mul_le_mul_right (2 ^ (30 - zg (M.1 1) i)) bi
          rw [← Nat.pow_add, show zg (M.1 1) i + (30 - zg (M.1 1) i) = 30 by omega] at this
          exact this
        rw [es, show (2 : Int64) = lN 2 from rfl, pk_lDiv (by omega) (by omega) (by omega), Nat.mul_div_cancel _ (by omega)]
  unfold fx_Leavens_shareOf
  rw [← nI_0]
  exact key zFU 0 X (by omega) (by unfold zFU; omega) rfl (fun _ _ => rfl) (fun k hk => by omega)
