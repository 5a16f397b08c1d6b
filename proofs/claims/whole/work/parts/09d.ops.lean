theorem z_off {b w : Nat} (hw : 0 < w) (hb : b + w < 2 ^ 29) (a : Int32) : (∃ j : Nat, j < w ∧ a = nI (b + j)) ∨ ((a < nI b ∨ nI (b + w - 1) < a) ∧ (a - nI b < 0 ∨ nI w ≤ a - nI b)) := by
  by_cases h : nI b ≤ a ∧ a ≤ nI (b + w - 1)
  · left
    obtain ⟨h1, h2⟩ := h
    rw [Int32.le_iff_toInt_le, nI_toInt (by omega)] at h1 h2
    obtain ⟨k, hk, rfl⟩ := nI_of (x := a) (by rw [Int32.lt_iff_toInt_lt]; simp; omega)
    rw [nI_toInt hk] at h1 h2
    exact ⟨k - b, by omega, by rw [show b + (k - b) = k by omega]⟩
  · right
    have h0 : a < nI b ∨ nI (b + w - 1) < a := by
      rw [Int32.lt_iff_toInt_lt, Int32.lt_iff_toInt_lt]
      rw [Int32.le_iff_toInt_le, Int32.le_iff_toInt_le] at h
      omega
    refine ⟨h0, ?_⟩
    by_cases h1 : a - nI b < 0
    · exact Or.inl h1
    · by_cases h2 : nI w ≤ a - nI b
      · exact Or.inr h2
      · exfalso
        obtain ⟨j, hj, e⟩ := nI_of h1
        rw [e] at h2
        have hjw : j < w := by
          rw [nI_leI (by omega) hj] at h2
          omega
        have ea : a = nI (b + j) := by
          have : a - nI b + nI b = a := Int32.sub_add_cancel a (nI b)
          rw [← this, e, nI_add, Nat.add_comm]
        apply h
        rw [ea]
        exact ⟨nI_le (by omega) (by omega), nI_le (by omega) (by omega)⟩
section ops2
variable {RR : (Nat → Int32) → Int32 → Int32 → (Nat → Int32) → Prop}
theorem zp_look : zo_look (zInv RR) := by
  intro X M hI a1
  obtain ⟨t, n, m, c, o, hT, hF, ⟨hH, hTi, hS, hR, hL, hRi⟩, hU, hK⟩ := id hI
  unfold fx_look fm_look
  simp only [znm]
  by_cases h0 : a1 = 0
  · rw [if_pos h0, if_pos h0]
    exact ⟨_, _, _, rfl, by rw [show X.1 4 0 = nI n from hH.1, show M.1 1 4 = nI n from hH.2.1], hI⟩
  rw [if_neg h0, if_neg h0]
  by_cases h1 : a1 = 1
  · rw [if_pos h1, if_pos h1]
    exact ⟨_, _, _, rfl, by rw [show X.1 11 1 = M.1 1 5 from hTi.2.1], hI⟩
  rw [if_neg h1, if_neg h1]
  by_cases h2 : a1 = 2
  · rw [if_pos h2, if_pos h2]
    exact ⟨_, _, _, rfl, by rw [show X.1 11 0 = M.1 1 6 from hTi.1], hI⟩
  rw [if_neg h2, if_neg h2]
  by_cases h3 : a1 = 3
  · rw [if_pos h3, if_pos h3]
    exact ⟨_, _, _, rfl, by rw [show X.1 22 0 = nI m from hL.1, show M.1 1 585 = nI m from hL.2.1], hI⟩
  rw [if_neg h3, if_neg h3]
  by_cases h4 : a1 = 4
  · rw [if_pos h4, if_pos h4]
    exact ⟨_, _, _, rfl, by rw [show X.1 20 2 = M.1 1 590 from hR.1], hI⟩
  rw [if_neg h4, if_neg h4]
  by_cases h5 : a1 = 5
  · rw [if_pos h5, if_pos h5]
    exact ⟨_, _, _, rfl, by rw [show X.1 59 2 = nI c from hU.1, show M.1 0 3 = nI c from hU.2.1], hI⟩
  rw [if_neg h5, if_neg h5]
  by_cases h6 : a1 = 6
  · rw [if_pos h6, if_pos h6]
    exact ⟨_, _, _, rfl, by rw [show X.1 11 2 = M.1 1 8 from hTi.2.2.1], hI⟩
  rw [if_neg h6, if_neg h6]
  rcases z_off (b := 10) (w := 4) (by omega) (by omega) a1 with ⟨j, hj, rfl⟩ | ⟨h1, h2⟩
  · have e : nI (10 + j) - (10 : Int32) = nI j := by
      rw [show (10 : Int32) = nI 10 from rfl, pk_sub (by omega), show 10 + j - 10 = j by omega]
    have i1 : ¬ nI (10 + j) < (10 : Int32) := by
      rw [show (10 : Int32) = nI 10 from rfl]; exact nI_nlt (by omega) (by omega)
    have i2 : ¬ (13 : Int32) < nI (10 + j) := by
      rw [show (13 : Int32) = nI 13 from rfl]; exact nI_nlt (by omega) (by omega)
    rw [e, if_neg (nI_pos (by omega)), if_neg (show ¬ (4 : Int32) ≤ nI j from by rw [show (4 : Int32) = nI 4 from rfl]; exact nI_ge (by omega) (by omega)), zix_n (by omega) (by omega), zck_t, fm_isIn_in i1 i2, zbd_s, z_i1, zix_n (by omega) (by omega), zck_t, nI_clamp (by omega)]
    exact ⟨_, _, _, rfl, by rw [show X.1 19 j = M.1 1 j from hS.1 j (by omega)], hI⟩
  · rw [fm_isIn_lo (show a1 < 10 ∨ (13 : Int32) < a1 from h1), zbd_s, z_i0]
    rcases h2 with h2 | h2
    · rw [if_pos (show a1 - 10 < 0 from h2)]
      exact ⟨_, _, _, rfl, rfl, hI⟩
    · by_cases h3 : a1 - 10 < 0
      · rw [if_pos h3]
        exact ⟨_, _, _, rfl, rfl, hI⟩
      · rw [if_neg h3, if_pos (show (4 : Int32) ≤ a1 - 10 from h2)]
        exact ⟨_, _, _, rfl, rfl, hI⟩
theorem zp_book : zo_book (zInv RR) := by
  intro X M hI a1
  obtain ⟨t, n, m, c, o, hT, hF, ⟨hH, hTi, hS, hR, hL, hRi⟩, hU, hK⟩ := id hI
  obtain ⟨q1, q2, q3, q4, q5, q6, q7, q8, q9⟩ := hTi
  unfold fx_book fm_book
  simp only [znm]
  rcases q9 with ⟨d1, d2, d3⟩ | ⟨d, d1, d2, d3, d4, d5⟩
  · rw [if_pos d1]
    by_cases h : a1 = 100
    · rw [if_pos h]
      exact ⟨_, _, _, by rw [show X.1 11 11 = -1 from d3], rfl, hI⟩
    · rw [if_neg h, show X.1 11 10 = 0 from d2]
      by_cases h1 : a1 < 0
      · rw [if_pos h1]
        exact ⟨_, _, _, rfl, rfl, hI⟩
      · rw [if_neg h1, if_pos (show (0 : Int32) ≤ a1 from by rw [Int32.le_iff_toInt_le]; rw [Int32.lt_iff_toInt_lt] at h1; omega)]
        exact ⟨_, _, _, rfl, rfl, hI⟩
  · have hne : ¬ M.1 1 9 = -1 := by
      rw [d2]
      intro q
      have := congrArg Int32.toInt q
      rw [nI_toInt (by omega)] at this
      have h2 : (-1 : Int32).toInt = -1 := by decide
      omega
    rw [if_neg hne]
    by_cases h : a1 = 100
    · rw [if_pos h, if_pos h]
      exact ⟨_, _, _, rfl, by rw [show X.1 11 11 = M.1 1 10 from d4], hI⟩
    · rw [if_neg h, if_neg h, show X.1 11 10 = nI d from d3, d2]
      rcases pk_ix a1 (n := d) (by omega) with h1 | h1 | ⟨j, hj, rfl⟩
      · rw [if_pos h1, fm_isIn_lo (Or.inl h1), zbd_s, z_i0]
        exact ⟨_, _, _, rfl, rfl, hI⟩
      · rw [fm_isIn_lo (Or.inr ((z_lt1 (by omega) a1).mpr h1)), zbd_s, z_i0]
        by_cases h2 : a1 < 0
        · rw [if_pos h2]
          exact ⟨_, _, _, rfl, rfl, hI⟩
        · rw [if_neg h2, if_pos h1]
          exact ⟨_, _, _, rfl, rfl, hI⟩
      · rw [if_neg (nI_pos (by omega)), if_neg (nI_ge hj (by omega)), zix_n (by omega) (by omega), zck_t, fm_isIn_in (nI_pos (by omega)) (fun q => nI_ge hj (by omega) ((z_lt1 (by omega) _).mp q)), zbd_s, z_i1, show (170 : Int32) + nI j = nI (170 + j) from by rw [show (170 : Int32) = nI 170 from rfl, nI_add], zix_n (by omega) (by omega), zck_t, nI_clamp (by omega), nI_clamp (by omega)]
        exact ⟨_, _, _, rfl, by rw [show X.1 18 j = M.1 1 (170 + j) from d5 j hj], hI⟩
theorem zp_rise (hRR : zRok RR) : zo_rise (zInv RR) := by
  intro X M hI a1 a2 a3
  obtain ⟨t, n, m, c, o, hT, hF, ⟨hH, hTi, hS, hR, hL, hRi⟩, hU, hK1, hK2, hK3⟩ := id hI
  have hn : n ≤ 9 := hH.2.2.1
  unfold fx_rise fm_rise
  simp only [znm]
  by_cases h1 : a1 < 0 ∨ (7 : Int32) < a1
  · rw [fx_in_lo h1, fm_isIn_lo h1, zbd_s, zbd_s, z_i0, z_i0]
    exact ⟨_, _, _, rfl, rfl, hI⟩
  rw [fx_in_in (fun q => h1 (Or.inl q)) (fun q => h1 (Or.inr q)), fm_isIn_in (fun q => h1 (Or.inl q)) (fun q => h1 (Or.inr q)), zbd_s, zbd_s, z_i1, z_i1]
  by_cases h2 : a2 < 0 ∨ (7 : Int32) < a2
  · rw [fx_in_lo h2, fm_isIn_lo h2, zbd_s, zbd_s, z_i0, z_i0]
    exact ⟨_, _, _, rfl, rfl, hI⟩
  rw [fx_in_in (fun q => h2 (Or.inl q)) (fun q => h2 (Or.inr q)), fm_isIn_in (fun q => h2 (Or.inl q)) (fun q => h2 (Or.inr q)), zbd_s, zbd_s, z_i1, z_i1]
  by_cases h3 : a3 < 0 ∨ (9 : Int32) < a3
  · rw [fx_in_lo h3, fm_isIn_lo h3, zbd_s, zbd_s, z_i0, z_i0]
    exact ⟨_, _, _, rfl, rfl, hI⟩
  rw [fx_in_in (fun q => h3 (Or.inl q)) (fun q => h3 (Or.inr q)), fm_isIn_in (fun q => h3 (Or.inl q)) (fun q => h3 (Or.inr q)), zbd_s, zbd_s, z_i1, z_i1]
  obtain ⟨f, hf, rfl⟩ := z_rng (u := 7) (by omega) (fun q => h1 (Or.inl q)) (fun q => h1 (Or.inr q))
  obtain ⟨g, hg, rfl⟩ := z_rng (u := 7) (by omega) (fun q => h2 (Or.inl q)) (fun q => h2 (Or.inr q))
  obtain ⟨v, hv, rfl⟩ := z_rng (u := 9) (by omega) (fun q => h3 (Or.inl q)) (fun q => h3 (Or.inr q))
  rw [show nI f * (8 : Int32) + nI g = nI (8 * f + g) from by rw [show (8 : Int32) = nI 8 from rfl, pk_mul, nI_add, Nat.mul_comm], show (270 : Int32) + (8 : Int32) * nI f + nI g = nI (270 + (8 * f + g)) from by rw [show (8 : Int32) = nI 8 from rfl, show (270 : Int32) = nI 270 from rfl, pk_mul, nI_add, nI_add, Nat.add_assoc], zix_n (by omega) (by omega), zix_n (by omega) (by omega), zck_t, zck_t, nI_clamp (by omega), nI_clamp (by omega)]
  refine ⟨_, _, _, rfl, rfl, t, n, m, c, o, rTape_c (zI_ne (by omega)) (zI_ne (by omega)) (by rw [zI_ne (by omega)]) (zI_ne (by omega)) hT, ?_, ⟨rH_c (fun q h1 h2 => zI_ne (by omega)) (zI_nk (by omega)) (fun h hh k _ hk => zI_nk (by omega)) (fun k h1 h2 => zI_nk (by omega)) hH, rT_c (fun q h1 h2 => zI_ne (by omega)) (fun k hk => zI_nk (by omega)) (fun h hh k h1 h2 => zI_nk (by omega)) hTi, rS_c (zI_ne (by omega)) (fun k hk => zI_nk (by omega)) hS, rR_c hRR (zI_ne (by omega)) (zI_ne (by omega)) (fun k h1 h2 => zI_nk (by omega)) hR, rL_c (fun q h1 h2 => zI_ne (by omega)) rfl (fun k h1 h2 => zI_nk (by omega)) hL, ?_⟩, rU_c hn (zI_ne (by omega)) (fun q h1 h2 => zI_ne (by omega)) (by rw [zI_ne (by omega)]) (zI_ne (by omega)) (fun k hk => zI_nk (by omega)) (fun h hh k _ hk => zI_nk (by omega)) hU, ?_, ?_, ?_⟩
  · rw [zI_ne (q' := 125) (by omega), zI_ne (q' := 140) (by omega), zI_ne (q' := 141) (by omega), zI_ne (q' := 0) (by omega)]; exact hF
  · intro k hk
    by_cases e : k = 8 * f + g
    · subst e
      rw [show (zpI X 30 (8 * f + g) (nI v)).1 (3 + 27) (8 * f + g) = nI v from zI_at, show (zpI M 1 (270 + (8 * f + g)) (nI v)).1 1 (270 + (8 * f + g)) = nI v from zI_at, nI_toInt (by omega)]
      exact ⟨rfl, by omega, by omega⟩
    · rw [show (zpI X 30 (8 * f + g) (nI v)).1 (3 + 27) k = X.1 30 k from zI_nk e, zI_nk (by omega)]
      exact hRi k hk
  · rw [zI_ne (by omega), zI_ne (by omega)]; exact hK1
  · rw [zI_ne (by omega)]; exact hK2
  · rw [zI_ne (by omega)]
    intro h
    obtain ⟨n', m', hC⟩ := hK3 h
    exact ⟨n', m', rC_same hRR (fun q h1 h2 => zI_ne (by omega)) rfl (fun k hk => by rw [zI_ne (by omega)]) hC⟩
end ops2
