/-! marks on the tape -/
def zMk (b : Nat → Int32) (t : Nat) : Prop := 1 ≤ t ∧ t ≤ 5 ∧ ∀ k, k < t → 97 ≤ (b k).toInt ∧ (b k).toInt ≤ 104
theorem z97 {v : Int32} (h : 0 ≤ v.toInt ∧ v.toInt ≤ 255) : (v - 97).toInt = v.toInt - 97 := by
  rw [fb_subI]
  · rfl
  · rw [show (97 : Int32).toInt = 97 from rfl]; omega
  · rw [show (97 : Int32).toInt = 97 from rfl]; omega
theorem zlt {a b : Int32} : a < b ↔ a.toInt < b.toInt := Int32.lt_iff_toInt_lt
theorem zle {a b : Int32} : a ≤ b ↔ a.toInt ≤ b.toInt := Int32.le_iff_toInt_le
theorem fx_letter_eq {X : zSt} {k : Nat} (hk : k < 400) : fx_Tape_letterAt X (nI k) = some (X.1 2 k - 97, X) := by
  unfold fx_Tape_letterAt
  rw [zix_n hk (by omega), zck_t, nI_clamp (by omega)]
theorem fx_mark_y {X : zSt} {t : Nat} (hX : X.1 1 1 = nI t) (hb : ∀ k, 0 ≤ (X.1 2 k).toInt ∧ (X.1 2 k).toInt ≤ 255) (h : zMk (X.1 2) t) : fx_Tape_isMark X = some (1, X) := by
  obtain ⟨h1, h2, h3⟩ := h
  have key : ∀ (j : zSt → Option (Int32 × zSt)) (f i : Nat), i ≤ t → t < i + f → fx_Tape_isMark_L20 j f (nI i) X = some (1, X) := by
    intro j f
    induction f with
    | zero => intro i a b; omega
    | succ f ih =>
      intro i a b
      rw [fx_Tape_isMark_L20, hX]
      by_cases e : i = t
      · subst e
        rw [if_pos (nI_le (Nat.le_refl _) (by omega))]
      · have := h3 i (by omega)
        have h97 := z97 (hb i)
        rw [if_neg (nI_ge (by omega) (by omega)), fx_letter_eq (by omega), zbd_s, if_neg (by rw [zlt, h97, show (0 : Int32).toInt = 0 from rfl]; omega), fx_letter_eq (by omega), zbd_s, if_pos (by rw [zlt, h97, show (8 : Int32).toInt = 8 from rfl]; omega)]
        simp only [znm]
        rw [nI_1]
        exact ih (i + 1) (by omega) (by omega)
  unfold fx_Tape_isMark
  simp only [znm]
  rw [hX, if_neg (show ¬ nI t < (1 : Int32) from nI_nlt (b := 1) (by omega) (by omega)), if_pos (show nI t ≤ (5 : Int32) from nI_le (b := 5) h2 (by omega))]
  exact key _ zFU 0 (by omega) (by unfold zFU; omega)
theorem fx_mark_n {X : zSt} {t : Nat} (hX : X.1 1 1 = nI t) (ht : t ≤ 400) (hb : ∀ k, 0 ≤ (X.1 2 k).toInt ∧ (X.1 2 k).toInt ≤ 255) (h : ¬ zMk (X.1 2) t) : fx_Tape_isMark X = some (0, X) := by
  unfold fx_Tape_isMark
  simp only [znm]
  rw [hX]
  by_cases h1 : 1 ≤ t
  · rw [if_neg (show ¬ nI t < (1 : Int32) from nI_nlt (b := 1) (by omega) (by omega))]
    by_cases h2 : t ≤ 5
    · rw [if_pos (show nI t ≤ (5 : Int32) from nI_le (b := 5) h2 (by omega))]
      have key : ∀ (f i : Nat), i ≤ t → t < i + f → (∃ k, i ≤ k ∧ k < t ∧ ¬ (97 ≤ (X.1 2 k).toInt ∧ (X.1 2 k).toInt ≤ 104)) → fx_Tape_isMark_L20 (fun S_2 => some (0, S_2)) f (nI i) X = some (0, X) := by
        intro f
        induction f with
        | zero => intro i a b; omega
        | succ f ih =>
          intro i a b ⟨k, k1, k2, k3⟩
          have h97 := z97 (hb i)
          rw [fx_Tape_isMark_L20, hX, if_neg (nI_ge (by omega) (by omega)), fx_letter_eq (by omega), zbd_s]
          by_cases c1 : X.1 2 i - 97 < 0
          · rw [if_pos c1]
          · rw [if_neg c1, fx_letter_eq (by omega), zbd_s]
            by_cases c2 : X.1 2 i - 97 < 8
            · rw [if_pos c2]
              simp only [znm]
              rw [nI_1]
              rw [zlt, h97, show (0 : Int32).toInt = 0 from rfl] at c1
              rw [zlt, h97, show (8 : Int32).toInt = 8 from rfl] at c2
              have : k ≠ i := fun e => by subst e; omega
              exact ih (i + 1) (by omega) (by omega) ⟨k, by omega, k2, k3⟩
            · rw [if_neg c2]
      refine key zFU 0 (by omega) (by unfold zFU; omega) ?_
      refine Classical.byContradiction (fun q => h ⟨h1, h2, fun k hk => Classical.byContradiction (fun q2 => q ⟨k, by omega, hk, q2⟩)⟩)
    · rw [if_neg (show ¬ nI t ≤ (5 : Int32) from nI_ge (a := 5) (by omega) (by omega))]
  · rw [if_pos (show nI t < (1 : Int32) from nI_lt (b := 1) (by omega) (by omega))]
theorem fm_mark_y {M : zSt} {t : Nat} (hM : M.1 0 12 = nI t) (h : zMk (M.1 6) t) : fm_takesRow M = some (nI t, zpI M 0 12 0) := by
  obtain ⟨h1, h2, h3⟩ := h
  have key : ∀ (f i : Nat), i ≤ t → t < i + f → fm_takesRow_L23 (nI t) f (nI i) (zpI M 0 12 0) = some (nI t, zpI M 0 12 0) := by
    intro f
    induction f with
    | zero => intro i a b; omega
    | succ f ih =>
      intro i a b
      rw [fm_takesRow_L23]
      by_cases e : i = t
      · subst e
        rw [if_pos (nI_le (Nat.le_refl _) (by omega))]
      · have := h3 i (by omega)
        rw [if_neg (nI_ge (by omega) (by omega)), zix_n (by omega) (by omega), zck_t, nI_clamp (by omega), zI_ne (show (6 : Nat) ≠ 0 by omega), fm_isIn_in (by rw [zlt, show (97 : Int32).toInt = 97 from rfl]; omega) (by rw [zlt, show (104 : Int32).toInt = 104 from rfl]; omega), zbd_s, z_i1]
        simp only [znm]
        rw [nI_1]
        exact ih (i + 1) (by omega) (by omega)
  unfold fm_takesRow
  simp only [znm]
  rw [hM, fm_isIn_in (show ¬ nI t < (1 : Int32) from nI_nlt (b := 1) (by omega) (by omega)) (show ¬ (5 : Int32) < nI t from nI_nlt (a := 5) (by omega) (by omega)), zbd_s, z_i1]
  exact key zFU 0 (by omega) (by unfold zFU; omega)
theorem fm_mark_n {M : zSt} {t : Nat} (hM : M.1 0 12 = nI t) (ht : t ≤ 400) (h : ¬ zMk (M.1 6) t) : fm_takesRow M = some (-1, zpI M 0 12 0) := by
  unfold fm_takesRow
  simp only [znm]
  rw [hM]
  by_cases h1 : 1 ≤ t ∧ t ≤ 5
  · rw [fm_isIn_in (show ¬ nI t < (1 : Int32) from nI_nlt (b := 1) (by omega) (by omega)) (show ¬ (5 : Int32) < nI t from nI_nlt (a := 5) (by omega) (by omega)), zbd_s, z_i1]
    have key : ∀ (f i : Nat), i ≤ t → t < i + f → (∃ k, i ≤ k ∧ k < t ∧ ¬ (97 ≤ (M.1 6 k).toInt ∧ (M.1 6 k).toInt ≤ 104)) → fm_takesRow_L23 (nI t) f (nI i) (zpI M 0 12 0) = some (-1, zpI M 0 12 0) := by
      intro f
      induction f with
      | zero => intro i a b; omega
      | succ f ih =>
        intro i a b ⟨k, k1, k2, k3⟩
        rw [fm_takesRow_L23, if_neg (nI_ge (by omega) (by omega)), zix_n (by omega) (by omega), zck_t, nI_clamp (by omega), zI_ne (show (6 : Nat) ≠ 0 by omega)]
        by_cases c : M.1 6 i < 97 ∨ (104 : Int32) < M.1 6 i
        · rw [fm_isIn_lo c, zbd_s, z_i0]
        · rw [fm_isIn_in (fun q => c (Or.inl q)) (fun q => c (Or.inr q)), zbd_s, z_i1]
          simp only [znm]
          rw [nI_1]
          rw [zlt, zlt, show (97 : Int32).toInt = 97 from rfl, show (104 : Int32).toInt = 104 from rfl] at c
          have : k ≠ i := fun e => by subst e; omega
          exact ih (i + 1) (by omega) (by omega) ⟨k, by omega, k2, k3⟩
    refine key zFU 0 (by omega) (by unfold zFU; omega) ?_
    refine Classical.byContradiction (fun q => h ⟨h1.1, h1.2, fun k hk => Classical.byContradiction (fun q2 => q ⟨k, by omega, hk, q2⟩)⟩)
  · have : nI t < (1 : Int32) ∨ (5 : Int32) < nI t := by
      rw [zlt, zlt, nI_toInt (by omega), show (1 : Int32).toInt = 1 from rfl, show (5 : Int32).toInt = 5 from rfl]; omega
    rw [fm_isIn_lo this, zbd_s, z_i0]
