/-! small parts of both -/
theorem fm_isIn_lo {S : zSt} {v l u : Int32} (h : v < l ∨ u < v) : fm_isIn S v l u = some (0, S) := by
  unfold fm_isIn
  simp only [znm]
  by_cases h1 : v < l
  · rw [if_pos h1, zbo_0, zck_t]
  · rw [if_neg h1, if_pos (h.resolve_left h1), zbo_0, zck_t]
theorem fm_isIn_in {S : zSt} {v l u : Int32} (h1 : ¬ v < l) (h2 : ¬ u < v) : fm_isIn S v l u = some (1, S) := by
  unfold fm_isIn
  simp only [znm]
  rw [if_neg h1, if_neg h2, zbo_1, zck_t]
theorem fx_in_lo {S : zSt} {v l u : Int32} (h : v < l ∨ u < v) : fx_isWithin S v l u = some (0, S) := by
  unfold fx_isWithin
  simp only [znm]
  by_cases h1 : v < l
  · rw [if_pos h1, zbo_0, zck_t]
  · rw [if_neg h1, if_pos (h.resolve_left h1), zbo_0, zck_t]
theorem fx_in_in {S : zSt} {v l u : Int32} (h1 : ¬ v < l) (h2 : ¬ u < v) : fx_isWithin S v l u = some (1, S) := by
  unfold fx_isWithin
  simp only [znm]
  rw [if_neg h1, if_neg h2, zbo_1, zck_t]
theorem fx_has_lo {S : zSt} {a : Int32} {n : Nat} (hS : S.1 4 0 = nI n) (h : a < 0 ∨ nI n ≤ a) : fx_Houses_has S a = some (0, S) := by
  unfold fx_Houses_has
  simp only [znm]
  by_cases h1 : a < 0
  · rw [if_pos h1, zbo_0, zck_t]
  · rw [if_neg h1, hS, if_pos (h.resolve_left h1), zbo_0, zck_t]
theorem fx_has_in {S : zSt} {h n : Nat} (hS : S.1 4 0 = nI n) (hn : n ≤ 9) (hh : h < n) : fx_Houses_has S (nI h) = some (1, S) := by
  unfold fx_Houses_has
  simp only [znm]
  rw [if_neg (nI_pos (by omega)), hS, if_neg (nI_ge hh (by omega)), zbo_1, zck_t]
theorem fm_has_lo {S : zSt} {a : Int32} {n : Nat} (hS : S.1 1 4 = nI n) (hn : n ≤ 9) (h : a < 0 ∨ nI n ≤ a) : fm_isHouse S a = some (0, S) := by
  unfold fm_isHouse
  rw [hS, fm_isIn_lo (h.elim Or.inl (fun q => Or.inr ((z_lt1 (by omega) a).mpr q))), zbd_s, zbo_0, zck_t]
theorem fm_has_in {S : zSt} {h n : Nat} (hS : S.1 1 4 = nI n) (hn : n ≤ 9) (hh : h < n) : fm_isHouse S (nI h) = some (1, S) := by
  unfold fm_isHouse
  rw [hS, fm_isIn_in (nI_pos (by omega)) (fun q => nI_ge hh (by omega) ((z_lt1 (by omega) _).mp q)), zbd_s, zbo_1, zck_t]
theorem fm_own_eq {S : zSt} {h k : Nat} (hh : h < 9) (hk : k < 16) : fm_own S (nI h) (nI k) = some (S.1 1 (20 + 16 * h + k), S) := by
  unfold fm_own
  rw [z_own, zix_n (by omega) (by omega), zck_t, nI_clamp (by omega)]
theorem fm_adds_eq {S : zSt} {h k : Nat} {v : Int32} (hh : h < 9) (hk : k < 16) : fm_adds S (nI h) (nI k) v = some ((), zpI S 1 (20 + 16 * h + k) (S.1 1 (20 + 16 * h + k) + v)) := by
  unfold fm_adds
  simp only [znm]
  rw [z_own, zix_n (by omega) (by omega), zck_t, zck_t, nI_clamp (by omega)]
theorem fm_debt_eq {S : zSt} {i j : Nat} (hi : i < 9) (hj : j < 9) : fm_debt S (nI i) (nI j) = some (S.1 1 (180 + 9 * i + j), S) := by
  unfold fm_debt
  rw [z_deb, zix_n (by omega) (by omega), zck_t, nI_clamp (by omega)]
theorem fm_net_eq {S : zSt} {n h : Nat} (hS : S.1 1 4 = nI n) (hn : n ≤ 9) (hh : h < 9) : fm_net S (nI h) = some (zNet (S.1 1) h n, S) := by
  have key : ∀ (f o : Nat), o ≤ n → n < o + f → fm_net_L4 (nI h) f (zNet (S.1 1) h o) (nI o) S = some (zNet (S.1 1) h n, S) := by
    intro f
    induction f with
    | zero => intro o h1 h2; omega
    | succ f ih =>
      intro o h1 h2
      rw [fm_net_L4, hS]
      by_cases ho : o = n
      · subst ho
        rw [if_pos (nI_le (Nat.le_refl _) (by omega))]
      · rw [if_neg (nI_ge (by omega) (by omega)), fm_debt_eq (by omega) hh, zbd_s, fm_debt_eq hh (by omega), zbd_s]
        simp only [znm]
        rw [nI_1]
        exact ih (o + 1) (by omega) (by omega)
  unfold fm_net
  exact key zFU 0 (by omega) (by unfold zFU; omega)
section ops1
variable {RR : (Nat → Int32) → Int32 → Int32 → (Nat → Int32) → Prop}
theorem zp_fault : zo_fault (zInv RR) := by
  intro X M hI a1
  obtain ⟨t, n, m, c, o, hT, hF, hR⟩ := id hI
  unfold fx_fault fm_fault
  simp only [znm]
  by_cases h0 : a1 = 0
  · rw [if_pos h0, if_pos h0]
    exact ⟨_, _, _, rfl, by rw [hF.1], hI⟩
  · rw [if_neg h0, if_neg h0]
    by_cases h1 : a1 = 1
    · rw [if_pos h1, if_pos h1]
      exact ⟨_, _, _, rfl, by rw [hF.2.1], hI⟩
    · rw [if_neg h1, if_neg h1]
      exact ⟨_, _, _, rfl, rfl, hI⟩
theorem zp_state (hRR : zRok RR) : zo_state (zInv RR) := by
  intro X M hI a1
  obtain ⟨t, n, m, c, o, hT, hF, ⟨hH, hTi, hS, hR, hL, hRi⟩, hU, hK1, hK2, hK3⟩ := hI
  have hn : n ≤ 9 := hH.2.2.1
  unfold fx_state fm_state
  simp only [znm]
  have e0 : X.1 11 0 = M.1 1 6 := hTi.1
  refine ⟨_, _, _, rfl, by rw [e0], t, n, m, c, o, rTape_c (zI_ne (by omega)) (zI_ne (by omega)) (by rw [zI_ne (by omega)]) (zI_ne (by omega)) hT, ?_, ⟨rH_c (fun q h1 h2 => zI_ne (by omega)) (zI_nk (by omega)) (fun h hh k _ hk => zI_nk (by omega)) (fun k h1 h2 => zI_nk (by omega)) hH, ?_, rS_c (zI_ne (by omega)) (fun k hk => zI_nk (by omega)) hS, rR_c hRR (zI_ne (by omega)) (zI_ne (by omega)) (fun k h1 h2 => zI_nk (by omega)) hR, rL_c (fun q h1 h2 => zI_ne (by omega)) rfl (fun k h1 h2 => zI_nk (by omega)) hL, rI_c (zI_ne (by omega)) (fun k h1 h2 => zI_nk (by omega)) hRi⟩, rU_c hn (zI_ne (by omega)) (fun q h1 h2 => zI_ne (by omega)) (by rw [zI_ne (by omega)]) (zI_ne (by omega)) (fun k hk => zI_nk (by omega)) (fun h hh k _ hk => zI_nk (by omega)) hU, ?_, ?_, ?_⟩
  · rw [zI_ne (q' := 125) (by omega), zI_ne (q' := 140) (by omega), zI_ne (q' := 141) (by omega), zI_ne (q' := 0) (by omega)]; exact hF
  · exact rT_st (fun q h1 h2 => zI_ne (by omega)) (fun k hk => zI_nk hk) (by rw [zI_at]; exact zI_at.symm) (fun k hk => zI_nk (by omega)) (fun h hh k h1 h2 => zI_nk (by omega)) hTi
  · rw [zI_ne (by omega), zI_ne (by omega)]; exact hK1
  · rw [zI_ne (by omega)]; exact hK2
  · rw [zI_ne (by omega)]
    intro h
    obtain ⟨n', m', hC⟩ := hK3 h
    exact ⟨n', m', rC_same hRR (fun q h1 h2 => zI_ne (by omega)) rfl (fun k hk => by rw [zI_ne (by omega)]) hC⟩
theorem zp_end (hRR : zRok RR) : zo_end (zInv RR) := by
  intro X M hI a1
  obtain ⟨t, n, m, c, o, hT, hF, hC, hU, hK1, hK2, hK3⟩ := id hI
  have hn : n ≤ 9 := hC.1.2.2.1
  obtain ⟨e1, e2, e3, e4, e5⟩ := id hT
  unfold fx_end fm_end
  simp only [znm]
  rw [e1, e2]
  rcases pk_ix a1 (n := t + 1) (by omega) with h | h | ⟨k, hk, rfl⟩
  · rw [if_pos h, fm_isIn_lo (Or.inl h), zbd_s, z_i0]
    exact ⟨_, _, _, rfl, rfl, hI⟩
  · have h1 : ¬ a1 < 0 := fun q => by
      have := (Int32.lt_iff_toInt_lt).mp q
      have h2 := (Int32.le_iff_toInt_le).mp h
      rw [nI_toInt (by omega)] at h2
      simp at this
      omega
    have h2 : ¬ a1 ≤ nI t := fun q => by
      have h2 := (Int32.le_iff_toInt_le).mp h
      have h3 := (Int32.le_iff_toInt_le).mp q
      rw [nI_toInt (by omega)] at h2 h3
      omega
    have h3 : nI t < a1 := by
      rw [Int32.lt_iff_toInt_lt]
      rw [Int32.le_iff_toInt_le] at h2
      omega
    rw [if_neg h1, if_neg h2, fm_isIn_lo (Or.inr h3), zbd_s, z_i0]
    exact ⟨_, _, _, rfl, rfl, hI⟩
  · rw [if_neg (nI_pos (by omega)), if_pos (nI_le (by omega) (by omega)), fm_isIn_in (nI_pos (by omega)) (nI_nlt (by omega) (by omega)), zbd_s, z_i1]
    refine ⟨_, _, _, rfl, rfl, k, n, m, c, o, ⟨zI_at, zI_at, by omega, fun k => ?_, fun k => ?_⟩, ?_, rC_same hRR (fun q h1 h2 => zI_ne (by omega)) rfl (fun k hk => by rw [zI_ne (by omega)]) hC, rU_c hn (zI_ne (by omega)) (fun q h1 h2 => zI_ne (by omega)) (zI_nk (by omega)) (zI_ne (by omega)) (fun k hk => by rw [zI_ne (by omega)]) (fun h hh k _ hk => by rw [zI_ne (by omega)]) hU, ?_, ?_, ?_⟩
    · rw [zI_ne (by omega), zI_ne (by omega)]; exact e4 k
    · rw [zI_ne (by omega)]; exact e5 k
    · rw [zI_ne (q' := 125) (by omega), zI_ne (q' := 140) (by omega), zI_ne (q' := 141) (by omega), zI_nk (by omega), zI_nk (by omega)]; exact hF
    · rw [zI_ne (by omega), zI_nk (by omega)]; exact hK1
    · rw [zI_nk (by omega)]; exact hK2
    · rw [zI_nk (by omega), zI_ne (by omega)]
      intro h
      obtain ⟨n', m', hC⟩ := hK3 h
      exact ⟨n', m', rC_same hRR (fun q h1 h2 => zI_ne (by omega)) rfl (fun k hk => rfl) hC⟩
end ops1
