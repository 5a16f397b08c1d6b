theorem z_nat {v : Int32} (h : 0 ≤ v.toInt) : ∃ k : Nat, k < 2 ^ 31 ∧ v = nI k ∧ v.toInt = k := by
  obtain ⟨k, hk, e⟩ := nI_of (x := v) (by rw [Int32.lt_iff_toInt_lt]; simp; omega)
  exact ⟨k, hk, e, by rw [e, nI_toInt hk]⟩
section ops5
variable {RR : (Nat → Int32) → Int32 → Int32 → (Nat → Int32) → Prop}
theorem zp_of : zo_of (zInv RR) := by
  intro X M hI a1 a2
  obtain ⟨t, n, m, c, o, hT, hF, ⟨hH, hTi, hS, hR, hL, hRi⟩, hU, hK1, hK2, hK3⟩ := id hI
  have hn : n ≤ 9 := hH.2.2.1
  have ex : X.1 4 0 = nI n := hH.1
  have em : M.1 1 4 = nI n := hH.2.1
  unfold fx_of fm_of
  simp only [znm]
  by_cases ho : a1 < 0 ∨ nI n ≤ a1
  · rw [fx_has_lo ex ho, fm_has_lo em hn ho, zbd_s, zbd_s, z_i0, z_i0]
    exact ⟨_, _, _, rfl, rfl, hI⟩
  obtain ⟨h, hh, rfl⟩ : ∃ h : Nat, h < n ∧ a1 = nI h := by
    rcases pk_ix a1 (n := n) (by omega) with q | q | q
    · exact absurd (Or.inl q) ho
    · exact absurd (Or.inr q) ho
    · exact q
  rw [fx_has_in ex hn hh, fm_has_in em hn hh, zbd_s, zbd_s, z_i1, z_i1]
  obtain ⟨p0, p1, p2, p9⟩ := hH.2.2.2.1 h hh
  obtain ⟨p3, p4, p5, p6, p7, p8⟩ := hTi.2.2.2.2.2.1 h hh
  have ow : ∀ (k j : Nat), k < 16 → j = 20 + k → fm_own M (nI h) (nI k) = some (M.1 1 (j + 16 * h), M) := fun k j hk e => by
    rw [fm_own_eq (by omega) hk, show 20 + 16 * h + k = j + 16 * h by omega]
  rcases pk_ix a2 (n := 10) (by omega) with q | q | ⟨j, hj, rfl⟩
  rotate_left 2
  · rcases (show j = 0 ∨ j = 1 ∨ j = 2 ∨ j = 3 ∨ j = 4 ∨ j = 5 ∨ j = 6 ∨ j = 7 ∨ j = 8 ∨ j = 9 by omega) with rfl | rfl | rfl | rfl | rfl | rfl | rfl | rfl | rfl | rfl
    · rw [if_pos (show (nI 0 : Int32) = 0 from rfl), zix_n (by omega) (by omega), zck_t, nI_clamp (by omega), fm_isIn_in (show ¬ (nI 0 : Int32) < 0 by decide) (show ¬ (8 : Int32) < nI 0 by decide), zbd_s, z_i1, ow 0 20 (by omega) rfl, zbd_s]
      exact ⟨_, _, _, rfl, by rw [show X.1 5 h = M.1 1 (20 + 16 * h) from p0], hI⟩
    · rw [if_neg (show ¬ (nI 1 : Int32) = 0 by decide), if_pos (show (nI 1 : Int32) = 1 from rfl), zix_n (by omega) (by omega), zck_t, nI_clamp (by omega), fm_isIn_in (show ¬ (nI 1 : Int32) < 0 by decide) (show ¬ (8 : Int32) < nI 1 by decide), zbd_s, z_i1, ow 1 21 (by omega) rfl, zbd_s]
      exact ⟨_, _, _, rfl, by rw [show X.1 6 h = M.1 1 (21 + 16 * h) from p1], hI⟩
    · rw [if_neg (show ¬ (nI 2 : Int32) = 0 by decide), if_neg (show ¬ (nI 2 : Int32) = 1 by decide), if_pos (show (nI 2 : Int32) = 2 from rfl), zix_n (by omega) (by omega), zck_t, nI_clamp (by omega), fm_isIn_in (show ¬ (nI 2 : Int32) < 0 by decide) (show ¬ (8 : Int32) < nI 2 by decide), zbd_s, z_i1, ow 2 22 (by omega) rfl, zbd_s]
      exact ⟨_, _, _, rfl, by rw [show X.1 7 h = M.1 1 (22 + 16 * h) from p2], hI⟩
    · rw [if_neg (show ¬ (nI 3 : Int32) = 0 by decide), if_neg (show ¬ (nI 3 : Int32) = 1 by decide), if_neg (show ¬ (nI 3 : Int32) = 2 by decide), if_pos (show (nI 3 : Int32) = 3 from rfl), zix_n (by omega) (by omega), zck_t, nI_clamp (by omega), fm_isIn_in (show ¬ (nI 3 : Int32) < 0 by decide) (show ¬ (8 : Int32) < nI 3 by decide), zbd_s, z_i1, ow 3 23 (by omega) rfl, zbd_s]
      exact ⟨_, _, _, rfl, by rw [show X.1 12 h = M.1 1 (23 + 16 * h) from p3], hI⟩
    · rw [if_neg (show ¬ (nI 4 : Int32) = 0 by decide), if_neg (show ¬ (nI 4 : Int32) = 1 by decide), if_neg (show ¬ (nI 4 : Int32) = 2 by decide), if_neg (show ¬ (nI 4 : Int32) = 3 by decide), if_pos (show (nI 4 : Int32) = 4 from rfl), zix_n (by omega) (by omega), zck_t, nI_clamp (by omega), fm_isIn_in (show ¬ (nI 4 : Int32) < 0 by decide) (show ¬ (8 : Int32) < nI 4 by decide), zbd_s, z_i1, ow 4 24 (by omega) rfl, zbd_s]
      exact ⟨_, _, _, rfl, by rw [show X.1 13 h = M.1 1 (24 + 16 * h) from p4], hI⟩
    · rw [if_neg (show ¬ (nI 5 : Int32) = 0 by decide), if_neg (show ¬ (nI 5 : Int32) = 1 by decide), if_neg (show ¬ (nI 5 : Int32) = 2 by decide), if_neg (show ¬ (nI 5 : Int32) = 3 by decide), if_neg (show ¬ (nI 5 : Int32) = 4 by decide), if_pos (show (nI 5 : Int32) = 5 from rfl), zix_n (by omega) (by omega), zck_t, nI_clamp (by omega), fm_isIn_in (show ¬ (nI 5 : Int32) < 0 by decide) (show ¬ (8 : Int32) < nI 5 by decide), zbd_s, z_i1, ow 5 25 (by omega) rfl, zbd_s]
      exact ⟨_, _, _, rfl, by rw [show X.1 14 h = M.1 1 (25 + 16 * h) from p5], hI⟩
    · rw [if_neg (show ¬ (nI 6 : Int32) = 0 by decide), if_neg (show ¬ (nI 6 : Int32) = 1 by decide), if_neg (show ¬ (nI 6 : Int32) = 2 by decide), if_neg (show ¬ (nI 6 : Int32) = 3 by decide), if_neg (show ¬ (nI 6 : Int32) = 4 by decide), if_neg (show ¬ (nI 6 : Int32) = 5 by decide), if_pos (show (nI 6 : Int32) = 6 from rfl), zix_n (by omega) (by omega), zck_t, nI_clamp (by omega), fm_isIn_in (show ¬ (nI 6 : Int32) < 0 by decide) (show ¬ (8 : Int32) < nI 6 by decide), zbd_s, z_i1, ow 6 26 (by omega) rfl, zbd_s]
      exact ⟨_, _, _, rfl, by rw [show X.1 15 h = M.1 1 (26 + 16 * h) from p6], hI⟩
    · rw [if_neg (show ¬ (nI 7 : Int32) = 0 by decide), if_neg (show ¬ (nI 7 : Int32) = 1 by decide), if_neg (show ¬ (nI 7 : Int32) = 2 by decide), if_neg (show ¬ (nI 7 : Int32) = 3 by decide), if_neg (show ¬ (nI 7 : Int32) = 4 by decide), if_neg (show ¬ (nI 7 : Int32) = 5 by decide), if_neg (show ¬ (nI 7 : Int32) = 6 by decide), if_pos (show (nI 7 : Int32) = 7 from rfl), zix_n (by omega) (by omega), zck_t, nI_clamp (by omega), fm_isIn_in (show ¬ (nI 7 : Int32) < 0 by decide) (show ¬ (8 : Int32) < nI 7 by decide), zbd_s, z_i1, ow 7 27 (by omega) rfl, zbd_s]
      exact ⟨_, _, _, rfl, by rw [show X.1 16 h = M.1 1 (27 + 16 * h) from p7], hI⟩
    · rw [if_neg (show ¬ (nI 8 : Int32) = 0 by decide), if_neg (show ¬ (nI 8 : Int32) = 1 by decide), if_neg (show ¬ (nI 8 : Int32) = 2 by decide), if_neg (show ¬ (nI 8 : Int32) = 3 by decide), if_neg (show ¬ (nI 8 : Int32) = 4 by decide), if_neg (show ¬ (nI 8 : Int32) = 5 by decide), if_neg (show ¬ (nI 8 : Int32) = 6 by decide), if_neg (show ¬ (nI 8 : Int32) = 7 by decide), if_pos (show (nI 8 : Int32) = 8 from rfl), zix_n (by omega) (by omega), zck_t, nI_clamp (by omega), fm_isIn_in (show ¬ (nI 8 : Int32) < 0 by decide) (show ¬ (8 : Int32) < nI 8 by decide), zbd_s, z_i1, ow 8 28 (by omega) rfl, zbd_s]
      exact ⟨_, _, _, rfl, by rw [show X.1 17 h = M.1 1 (28 + 16 * h) from p8], hI⟩
    · rw [if_neg (show ¬ (nI 9 : Int32) = 0 by decide), if_neg (show ¬ (nI 9 : Int32) = 1 by decide), if_neg (show ¬ (nI 9 : Int32) = 2 by decide), if_neg (show ¬ (nI 9 : Int32) = 3 by decide), if_neg (show ¬ (nI 9 : Int32) = 4 by decide), if_neg (show ¬ (nI 9 : Int32) = 5 by decide), if_neg (show ¬ (nI 9 : Int32) = 6 by decide), if_neg (show ¬ (nI 9 : Int32) = 7 by decide), if_neg (show ¬ (nI 9 : Int32) = 8 by decide), if_pos (show (nI 9 : Int32) = 9 from rfl), zix_n (by omega) (by omega), zck_t, nI_clamp (by omega), fm_isIn_lo (Or.inr (show (8 : Int32) < nI 9 by decide)), zbd_s, z_i0, if_pos (show (nI 9 : Int32) = 9 from rfl), fm_net_eq em hn (by omega), zbd_s]
      exact ⟨_, _, _, rfl, by rw [show X.1 10 h = zNet (M.1 1) h n from hH.2.2.2.2.2.2.1 h hh], hI⟩
  all_goals
    have hne : ∀ k : Nat, k < 10 → ¬ a2 = nI k := fun k hk e => by
      rw [e] at q
      first
        | exact nI_pos (by omega) q
        | exact nI_ge hk (by omega) q
    rw [if_neg (show ¬ a2 = 0 from hne 0 (by omega)), if_neg (show ¬ a2 = 1 from hne 1 (by omega)), if_neg (show ¬ a2 = 2 from hne 2 (by omega)), if_neg (show ¬ a2 = 3 from hne 3 (by omega)), if_neg (show ¬ a2 = 4 from hne 4 (by omega)), if_neg (show ¬ a2 = 5 from hne 5 (by omega)), if_neg (show ¬ a2 = 6 from hne 6 (by omega)), if_neg (show ¬ a2 = 7 from hne 7 (by omega)), if_neg (show ¬ a2 = 8 from hne 8 (by omega)), if_neg (show ¬ a2 = 9 from hne 9 (by omega))]
    have hlo : a2 < 0 ∨ (8 : Int32) < a2 := by
      first
        | exact Or.inl q
        | exact Or.inr (by
            rw [Int32.lt_iff_toInt_lt]
            rw [Int32.le_iff_toInt_le, nI_toInt (by omega)] at q
            have : (8 : Int32).toInt = 8 := by decide
            omega)
    rw [fm_isIn_lo hlo, zbd_s, z_i0, if_neg (show ¬ a2 = 9 from hne 9 (by omega)), show fm_own M (nI h) 9 = some (M.1 1 (29 + 16 * h), M) from ow 9 29 (by omega) rfl, zbd_s, zix_n (by omega) (by omega), zck_t, nI_clamp (by omega)]
    obtain ⟨L, hL1, eL, hL2⟩ := z_nat (v := M.1 1 (29 + 16 * h)) (by have := (hH.2.2.2.2.2.1 h hh).2.2.2.2.2.2.1; omega)
    have b1 := (hH.2.2.2.2.2.1 h hh).2.2.2.2.2.2.1
    have b2 := (hH.2.2.2.2.2.1 h hh).2.2.2.2.2.2.2
    rw [show X.1 9 h = M.1 1 (29 + 16 * h) from p9, eL, show (9 : Int32) + nI L = nI (10 + L - 1) from by rw [show (9 : Int32) = nI 9 from rfl, nI_add, show 9 + L = 10 + L - 1 by omega]]
    rcases z_off (b := 10) (w := L) (by omega) (by omega) a2 with ⟨i, hi, rfl⟩ | ⟨r1, r2⟩
    · have e : nI (10 + i) - (10 : Int32) = nI i := by
        rw [show (10 : Int32) = nI 10 from rfl, pk_sub (by omega), show 10 + i - 10 = i by omega]
      have e2 : (10 : Int32) + nI (10 + i) - (10 : Int32) = nI (10 + i) := by
        rw [show (10 : Int32) = nI 10 from rfl, nI_add, pk_sub (by omega), show 10 + (10 + i) - 10 = 10 + i by omega]
      have i1 : ¬ nI (10 + i) < (10 : Int32) := by
        rw [show (10 : Int32) = nI 10 from rfl]; exact nI_nlt (by omega) (by omega)
      have i2 : ¬ nI (10 + L - 1) < nI (10 + i) := nI_nlt (by omega) (by omega)
      have lt : fx_Houses_letterOf X (nI h) (nI i) = some (X.1 8 (5 * h + i), X) := by
        unfold fx_Houses_letterOf
        rw [show nI h * (5 : Int32) + nI i = nI (5 * h + i) from by rw [show (5 : Int32) = nI 5 from rfl, pk_mul, nI_add, Nat.mul_comm], zix_n (by omega) (by omega), zck_t, nI_clamp (by omega)]
      rw [e, e2, if_neg (nI_pos (by omega)), if_neg (nI_ge hi (by omega)), lt, zbd_s, fm_isIn_in i1 i2, zbd_s, z_i1, ow (10 + i) (30 + i) (by omega) (by omega), zbd_s]
      exact ⟨_, _, _, rfl, by rw [show X.1 8 (5 * h + i) = M.1 1 (30 + 16 * h + i) from (hH.2.2.2.2.1 h hh i (by omega)).1, show 30 + 16 * h + i = 30 + i + 16 * h by omega], hI⟩
    · rw [fm_isIn_lo (show a2 < 10 ∨ nI (10 + L - 1) < a2 from r1), zbd_s, z_i0]
      by_cases r3 : a2 - 10 < 0
      · rw [if_pos r3]
        exact ⟨_, _, _, rfl, rfl, hI⟩
      · rw [if_neg r3, if_pos (show nI L ≤ a2 - 10 from r2.resolve_left r3)]
        exact ⟨_, _, _, rfl, rfl, hI⟩
end ops5
