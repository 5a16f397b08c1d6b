/-! tokens: both read them alike -/
theorem zpI_id {S : zSt} {q k : Nat} {v : Int32} (h : S.1 q k = v) : zpI S q k v = S := by
  unfold zpI
  refine Prod.ext ?_ rfl
  funext a
  by_cases d : a = q
  · subst d
    simp only [if_true]
    funext j
    by_cases d2 : j = k
    · subst d2; simp [upd, h]
    · simp [upd, d2]
  · simp only [if_neg d]
theorem zpI_2 {S : zSt} {q k : Nat} {v w : Int32} : zpI (zpI S q k v) q k w = zpI S q k w := by
  unfold zpI
  refine Prod.ext ?_ rfl
  funext a
  by_cases d : a = q
  · subst d
    simp only [if_true]
    funext j
    by_cases d2 : j = k
    · subst d2; simp [upd]
    · simp [upd, d2]
  · simp only [if_neg d]
/-- class and reference at place q of the tape b, t long -/
def zAx (S : zSt) (b : Nat → Int32) (t q : Nat) : Prop := S.1 1 1 = nI t ∧ S.1 2 = b ∧ S.1 125 12 = nI q
def zAm (T : zSt) (b : Nat → Int32) (t q : Nat) : Prop := T.1 0 12 = nI t ∧ T.1 6 = b ∧ T.1 0 13 = nI q
theorem fm_see_lo {T : zSt} {b : Nat → Int32} {t q k : Nat} (H : zAm T b t q) (ht : t ≤ 400) (hk : k < t) : fm_see T (nI k) = some (b k, T) := by
  unfold fm_see
  simp only [znm_q]
  rw [H.1, if_neg (nI_ge hk (by omega)), zix_n (by omega) (by omega), zck_t, nI_clamp (by omega), H.2.1]
theorem fm_see_hi {T : zSt} {b : Nat → Int32} {t q k : Nat} (H : zAm T b t q) (ht : t ≤ 400) (hk : t ≤ k) (hk2 : k < 1000) : fm_see T (nI k) = some (-1, T) := by
  unfold fm_see
  simp only [znm_q]
  rw [H.1, if_pos (nI_le hk (by omega))]
theorem zskip {b : Nat → Int32} {t : Nat} (ht : t ≤ 400) : ∀ (e q : Nat), q + e = t → ∃ p, q ≤ p ∧ p ≤ t ∧ (p < t → ¬ b p = 32 ∧ ¬ b p = 10) ∧ (∀ (S : zSt) (f : Nat) (j : zSt → Option (Unit × zSt)), zAx S b t q → e < f → fx_Reader_skipBlanks_L0 j f S = j (zpI S 125 12 (nI p))) ∧ (∀ (T : zSt) (f : Nat) (j : zSt → Option (Unit × zSt)), zAm T b t q → e < f → fm_next0_L0 j f T = j (zpI T 0 13 (nI p))) := by
  intro e
  induction e with
  | zero =>
    intro q hq
    obtain rfl : q = t := by omega
    refine ⟨q, Nat.le_refl _, Nat.le_refl _, fun h => by omega, fun S f j hS hf => ?_, fun T f j hT hf => ?_⟩
    · obtain ⟨f, rfl⟩ : ∃ g, f = g + 1 := ⟨f - 1, by omega⟩
      rw [fx_Reader_skipBlanks_L0, hS.1, hS.2.2, if_pos (nI_le (Nat.le_refl _) (by omega)), zpI_id hS.2.2]
    · obtain ⟨f, rfl⟩ : ∃ g, f = g + 1 := ⟨f - 1, by omega⟩
      rw [fm_next0_L0, hT.2.2, fm_see_hi hT ht (Nat.le_refl _) (by omega), zbd_s, znm_q, if_neg (by decide), hT.2.2, fm_see_hi hT ht (Nat.le_refl _) (by omega), zbd_s, if_neg (by decide), zpI_id hT.2.2]
  | succ e ih =>
    intro q hq
    have hqt : q < t := by omega
    have sx : ∀ (S : zSt) (f : Nat) (j : zSt → Option (Unit × zSt)), zAx S b t q → fx_Reader_skipBlanks_L0 j (f + 1) S = if b q = 32 then fx_Reader_skipBlanks_L0 j f (zpI S 125 12 (nI (q + 1))) else if b q = 10 then fx_Reader_skipBlanks_L0 j f (zpI S 125 12 (nI (q + 1))) else j S := fun S f j hS => by
      rw [fx_Reader_skipBlanks_L0, hS.1, hS.2.2, if_neg (nI_ge hqt (by omega)), zix_n (show q < 400 by omega) (by omega), zck_t]
      simp only [znm_q, zck_q]
      rw [nI_clamp (by omega), hS.2.1, hS.2.2, nI_1]
    have sm : ∀ (T : zSt) (f : Nat) (j : zSt → Option (Unit × zSt)), zAm T b t q → fm_next0_L0 j (f + 1) T = if b q = 32 then fm_next0_L0 j f (zpI T 0 13 (nI (q + 1))) else if b q = 10 then fm_next0_L0 j f (zpI T 0 13 (nI (q + 1))) else j T := fun T f j hT => by
      rw [fm_next0_L0, hT.2.2, fm_see_lo hT ht hqt, zbd_s]
      simp only [znm_q]
      rw [hT.2.2, fm_see_lo hT ht hqt, zbd_s, nI_1, hT.2.2, nI_1]
    by_cases c : b q = 32 ∨ b q = 10
    · obtain ⟨p, p1, p2, p3, p4, p5⟩ := ih (q + 1) (by omega)
      refine ⟨p, by omega, p2, p3, fun S f j hS hf => ?_, fun T f j hT hf => ?_⟩
      · obtain ⟨f, rfl⟩ : ∃ g, f = g + 1 := ⟨f - 1, by omega⟩
        have hS' : zAx (zpI S 125 12 (nI (q + 1))) b t (q + 1) := ⟨by rw [zI_ne (by omega)]; exact hS.1, by rw [zI_ne (by omega)]; exact hS.2.1, zI_at⟩
        have := p4 (zpI S 125 12 (nI (q + 1))) f j hS' (by omega)
        rw [zpI_2] at this
        rw [sx S f j hS]
        by_cases c1 : b q = 32
        · rw [if_pos c1]; exact this
        · rw [if_neg c1, if_pos (c.resolve_left c1)]; exact this
      · obtain ⟨f, rfl⟩ : ∃ g, f = g + 1 := ⟨f - 1, by omega⟩
        have hT' : zAm (zpI T 0 13 (nI (q + 1))) b t (q + 1) := ⟨by rw [zI_nk (by omega)]; exact hT.1, by rw [zI_ne (by omega)]; exact hT.2.1, zI_at⟩
        have := p5 (zpI T 0 13 (nI (q + 1))) f j hT' (by omega)
        rw [zpI_2] at this
        rw [sm T f j hT]
        by_cases c1 : b q = 32
        · rw [if_pos c1]; exact this
        · rw [if_neg c1, if_pos (c.resolve_left c1)]; exact this
    · have c1 : ¬ b q = 32 := fun q => c (Or.inl q)
      have c2 : ¬ b q = 10 := fun q => c (Or.inr q)
      refine ⟨q, Nat.le_refl _, by omega, fun _ => ⟨c1, c2⟩, fun S f j hS hf => ?_, fun T f j hT hf => ?_⟩
      · obtain ⟨f, rfl⟩ : ∃ g, f = g + 1 := ⟨f - 1, by omega⟩
        rw [sx S f j hS, if_neg c1, if_neg c2, zpI_id hS.2.2]
      · obtain ⟨f, rfl⟩ : ∃ g, f = g + 1 := ⟨f - 1, by omega⟩
        rw [sm T f j hT, if_neg c1, if_neg c2, zpI_id hT.2.2]
def zLt (c : Int32) : Prop := (97 ≤ c.toInt ∧ c.toInt ≤ 122) ∨ (65 ≤ c.toInt ∧ c.toInt ≤ 90)
def zDg (c : Int32) : Prop := 48 ≤ c.toInt ∧ c.toInt ≤ 57
theorem fm_isLetter_y {T : zSt} {c : Int32} (h : zLt c) : fm_isLetter T c = some (1, T) := by
  unfold fm_isLetter
  simp only [znm_q]
  by_cases h1 : 97 ≤ c.toInt ∧ c.toInt ≤ 122
  · rw [fm_isIn_in (by rw [zlt, show (97 : Int32).toInt = 97 from rfl]; omega) (by rw [zlt, show (122 : Int32).toInt = 122 from rfl]; omega), zbd_s, z_i1, zbo_1, zck_t]
  · have h2 := h.resolve_left h1
    rw [fm_isIn_lo (by rw [zlt, zlt, show (97 : Int32).toInt = 97 from rfl, show (122 : Int32).toInt = 122 from rfl]; omega), zbd_s, z_i0, fm_isIn_in (by rw [zlt, show (65 : Int32).toInt = 65 from rfl]; omega) (by rw [zlt, show (90 : Int32).toInt = 90 from rfl]; omega), zbd_s, z_i1, zbo_1, zck_t]
theorem fm_isLetter_n {T : zSt} {c : Int32} (h : ¬ zLt c) : fm_isLetter T c = some (0, T) := by
  unfold zLt at h
  unfold fm_isLetter
  simp only [znm_q]
  rw [fm_isIn_lo (by rw [zlt, zlt, show (97 : Int32).toInt = 97 from rfl, show (122 : Int32).toInt = 122 from rfl]; omega), zbd_s, z_i0, fm_isIn_lo (by rw [zlt, zlt, show (65 : Int32).toInt = 65 from rfl, show (90 : Int32).toInt = 90 from rfl]; omega), zbd_s, z_i0, zbo_0, zck_t]
theorem fx_isLetter_y {S : zSt} {k : Nat} (hk : k < 400) (h : zLt (S.1 2 k)) : fx_Reader_isLetter S (nI k) = some (1, S) := by
  unfold fx_Reader_isLetter
  simp only [znm_q]
  rw [zix_n hk (by omega), zck_t, nI_clamp (by omega)]
  by_cases h1 : 97 ≤ (S.1 2 k).toInt ∧ (S.1 2 k).toInt ≤ 122
  · rw [fx_in_in (by rw [zlt, show (97 : Int32).toInt = 97 from rfl]; omega) (by rw [zlt, show (122 : Int32).toInt = 122 from rfl]; omega), zbd_s, z_i1, zbo_1, zck_t]
  · have h2 := h.resolve_left h1
    rw [fx_in_lo (by rw [zlt, zlt, show (97 : Int32).toInt = 97 from rfl, show (122 : Int32).toInt = 122 from rfl]; omega), zbd_s, z_i0, zck_t, fx_in_in (by rw [zlt, show (65 : Int32).toInt = 65 from rfl]; omega) (by rw [zlt, show (90 : Int32).toInt = 90 from rfl]; omega), zbd_s, z_i1, zbo_1, zck_t]
theorem fx_isLetter_n {S : zSt} {k : Nat} (hk : k < 400) (h : ¬ zLt (S.1 2 k)) : fx_Reader_isLetter S (nI k) = some (0, S) := by
  unfold zLt at h
  unfold fx_Reader_isLetter
  simp only [znm_q]
  rw [zix_n hk (by omega), zck_t, nI_clamp (by omega), fx_in_lo (by rw [zlt, zlt, show (97 : Int32).toInt = 97 from rfl, show (122 : Int32).toInt = 122 from rfl]; omega), zbd_s, z_i0, zck_t, fx_in_lo (by rw [zlt, zlt, show (65 : Int32).toInt = 65 from rfl, show (90 : Int32).toInt = 90 from rfl]; omega), zbd_s, z_i0, zbo_0, zck_t]
theorem fm_isDigit_y {T : zSt} {c : Int32} (h : zDg c) : fm_isDigit T c = some (1, T) := by
  unfold zDg at h
  unfold fm_isDigit
  rw [fm_isIn_in (by rw [zlt, show (48 : Int32).toInt = 48 from rfl]; omega) (by rw [zlt, show (57 : Int32).toInt = 57 from rfl]; omega), zbd_s, zbo_1, zck_t]
theorem fm_isDigit_n {T : zSt} {c : Int32} (h : ¬ zDg c) : fm_isDigit T c = some (0, T) := by
  unfold zDg at h
  unfold fm_isDigit
  rw [fm_isIn_lo (by rw [zlt, zlt, show (48 : Int32).toInt = 48 from rfl, show (57 : Int32).toInt = 57 from rfl]; omega), zbd_s, zbo_0, zck_t]
theorem fx_isDigit_y {S : zSt} {k : Nat} (hk : k < 400) (h : zDg (S.1 2 k)) : fx_Reader_isDigit S (nI k) = some (1, S) := by
  unfold zDg at h
  unfold fx_Reader_isDigit
  rw [zix_n hk (by omega), zck_t, nI_clamp (by omega), fx_in_in (by rw [zlt, show (48 : Int32).toInt = 48 from rfl]; omega) (by rw [zlt, show (57 : Int32).toInt = 57 from rfl]; omega), zbd_s, zbo_1, zck_t]
theorem fx_isDigit_n {S : zSt} {k : Nat} (hk : k < 400) (h : ¬ zDg (S.1 2 k)) : fx_Reader_isDigit S (nI k) = some (0, S) := by
  unfold zDg at h
  unfold fx_Reader_isDigit
  rw [zix_n hk (by omega), zck_t, nI_clamp (by omega), fx_in_lo (by rw [zlt, zlt, show (48 : Int32).toInt = 48 from rfl, show (57 : Int32).toInt = 57 from rfl]; omega), zbd_s, zbo_0, zck_t]
theorem zLt_m1 : ¬ zLt (-1) := by unfold zLt; decide
theorem zDg_m1 : ¬ zDg (-1) := by unfold zDg; decide
theorem zlets {b : Nat → Int32} {t : Nat} (ht : t ≤ 400) : ∀ (e q : Nat), q + e = t → ∃ p, q ≤ p ∧ p ≤ t ∧ (∀ k, q ≤ k → k < p → zLt (b k)) ∧ (q < t → zLt (b q) → q < p) ∧ (∀ (S : zSt) (f : Nat) (j : zSt → Option (Unit × zSt)), zAx S b t q → e < f → fx_Reader_readKeyword_L0 j f S = j (zpI S 125 12 (nI p))) ∧ (∀ (T : zSt) (f : Nat) (j : zSt → Option (Unit × zSt)), zAm T b t q → e < f → fm_next0_L76 j f T = j (zpI T 0 13 (nI p))) := by
  intro e
  induction e with
  | zero =>
    intro q hq
    obtain rfl : q = t := by omega
    refine ⟨q, Nat.le_refl _, Nat.le_refl _, fun k a b => by omega, fun h => by omega, fun S f j hS hf => ?_, fun T f j hT hf => ?_⟩
    · obtain ⟨f, rfl⟩ : ∃ g, f = g + 1 := ⟨f - 1, by omega⟩
      rw [fx_Reader_readKeyword_L0, hS.1, hS.2.2, if_pos (nI_le (Nat.le_refl _) (by omega)), zpI_id hS.2.2]
    · obtain ⟨f, rfl⟩ : ∃ g, f = g + 1 := ⟨f - 1, by omega⟩
      rw [fm_next0_L76, hT.2.2, fm_see_hi hT ht (Nat.le_refl _) (by omega), zbd_s, fm_isLetter_n zLt_m1, zbd_s, z_i0, zpI_id hT.2.2]
  | succ e ih =>
    intro q hq
    have hqt : q < t := by omega
    by_cases c : zLt (b q)
    · obtain ⟨p, p1, p2, p3, _, p4, p5⟩ := ih (q + 1) (by omega)
      refine ⟨p, by omega, p2, fun k k1 k2 => ?_, fun _ _ => by omega, fun S f j hS hf => ?_, fun T f j hT hf => ?_⟩
      · by_cases d : k = q
        · rw [d]; exact c
        · exact p3 k (by omega) k2
      · obtain ⟨f, rfl⟩ : ∃ g, f = g + 1 := ⟨f - 1, by omega⟩
        have hS' : zAx (zpI S 125 12 (nI (q + 1))) b t (q + 1) := ⟨by rw [zI_ne (by omega)]; exact hS.1, by rw [zI_ne (by omega)]; exact hS.2.1, zI_at⟩
        have := p4 (zpI S 125 12 (nI (q + 1))) f j hS' (by omega)
        rw [zpI_2] at this
        rw [fx_Reader_readKeyword_L0, hS.1, hS.2.2, if_neg (nI_ge hqt (by omega)), fx_isLetter_y (by omega) (by rw [hS.2.1]; exact c), zbd_s, z_i1, znm_q, hS.2.2, nI_1]
        exact this
      · obtain ⟨f, rfl⟩ : ∃ g, f = g + 1 := ⟨f - 1, by omega⟩
        have hT' : zAm (zpI T 0 13 (nI (q + 1))) b t (q + 1) := ⟨by rw [zI_nk (by omega)]; exact hT.1, by rw [zI_ne (by omega)]; exact hT.2.1, zI_at⟩
        have := p5 (zpI T 0 13 (nI (q + 1))) f j hT' (by omega)
        rw [zpI_2] at this
        rw [fm_next0_L76, hT.2.2, fm_see_lo hT ht hqt, zbd_s, fm_isLetter_y c, zbd_s, z_i1, znm_q, hT.2.2, nI_1]
        exact this
    · refine ⟨q, Nat.le_refl _, by omega, fun k a b => by omega, fun _ h => absurd h c, fun S f j hS hf => ?_, fun T f j hT hf => ?_⟩
      · obtain ⟨f, rfl⟩ : ∃ g, f = g + 1 := ⟨f - 1, by omega⟩
        rw [fx_Reader_readKeyword_L0, hS.1, hS.2.2, if_neg (nI_ge hqt (by omega)), fx_isLetter_n (by omega) (by rw [hS.2.1]; exact c), zbd_s, z_i0, zpI_id hS.2.2]
      · obtain ⟨f, rfl⟩ : ∃ g, f = g + 1 := ⟨f - 1, by omega⟩
        rw [fm_next0_L76, hT.2.2, fm_see_lo hT ht hqt, zbd_s, fm_isLetter_n c, zbd_s, z_i0, zpI_id hT.2.2]
/-- the digits from place q on; o: where the number began, w: what stands before -/
theorem zdigs {b : Nat → Int32} {t o : Nat} (ht : t ≤ 400) : ∀ (e q w : Nat), q + e = t → o ≤ q → (q ≤ o + 4 → w < 10 ^ (q - o)) → ∃ p v, q ≤ p ∧ p ≤ t ∧ (q < t → zDg (b q) → q < p) ∧ (p ≤ o + 4 → v ≤ 9999) ∧ (∀ (S : zSt) (f : Nat), zAx S b t q → (q ≤ o + 4 → S.1 125 15 = nI w) → e < f → ∃ S' : zSt, (∀ j : zSt → Option (Unit × zSt), fx_Reader_readNumber_L5 j f S = j S') ∧ S'.1 125 12 = nI p ∧ (p ≤ o + 4 → S'.1 125 15 = nI v) ∧ (∀ k, k ≠ 12 → k ≠ 15 → S'.1 125 k = S.1 125 k) ∧ (∀ q, q ≠ 125 → S'.1 q = S.1 q) ∧ S'.2 = S.2) ∧ (∀ (T : zSt) (f : Nat), zAm T b t q → T.1 0 15 = nI o → (q ≤ o + 4 → T.1 0 16 = nI w) → e < f → ∃ T' : zSt, (∀ j : zSt → Option (Unit × zSt), fm_next0_L126 j f T = j T') ∧ T'.1 0 13 = nI p ∧ (p ≤ o + 4 → T'.1 0 16 = nI v) ∧ (∀ k, k ≠ 13 → k ≠ 16 → T'.1 0 k = T.1 0 k) ∧ (∀ q, q ≠ 0 → T'.1 q = T.1 q)) := by
  intro e
  induction e with
  | zero =>
    intro q w hq ho hw
    obtain rfl : q = t := by omega
    refine ⟨q, w, Nat.le_refl _, Nat.le_refl _, fun h => by omega, fun h => ?_, fun S f hS hv hf => ?_, fun T f hT h15 hv hf => ?_⟩
    · have h1 := hw h
      have h2 : 10 ^ (q - o) ≤ 10 ^ 4 := Nat.pow_le_pow_right (by omega) (by omega)
      omega
    · obtain ⟨f, rfl⟩ : ∃ g, f = g + 1 := ⟨f - 1, by omega⟩
      exact ⟨S, fun j => by rw [fx_Reader_readNumber_L5, hS.1, hS.2.2, if_pos (nI_le (Nat.le_refl _) (by omega))], hS.2.2, hv, fun _ _ _ => rfl, fun _ _ => rfl, rfl⟩
    · obtain ⟨f, rfl⟩ : ∃ g, f = g + 1 := ⟨f - 1, by omega⟩
      exact ⟨T, fun j => by rw [fm_next0_L126, hT.2.2, fm_see_hi hT ht (Nat.le_refl _) (by omega), zbd_s, fm_isDigit_n zDg_m1, zbd_s, z_i0], hT.2.2, hv, fun _ _ _ => rfl, fun _ _ => rfl⟩
  | succ e ih =>
    intro q w hq ho hw
    have hqt : q < t := by omega
    by_cases c : zDg (b q)
    · obtain ⟨d, hd1, hd2⟩ : ∃ d : Nat, d ≤ 9 ∧ b q = nI (48 + d) := by
        unfold zDg at c
        obtain ⟨j, j1, j2, j3⟩ := z_nat (v := b q) (by omega)
        exact ⟨j - 48, by omega, by rw [show 48 + (j - 48) = j by omega]; exact j2⟩
      obtain ⟨p, v, p1, p2, _, p3, p4, p5⟩ := ih (q + 1) (10 * w + d) (by omega) (by omega) (fun h => by
        have := hw (by omega)
        rw [show q + 1 - o = (q - o) + 1 by omega, Nat.pow_succ]
        omega)
      refine ⟨p, v, by omega, p2, fun _ _ => by omega, p3, fun S f hS hv hf => ?_, fun T f hT h15 hv hf => ?_⟩
      · obtain ⟨f, rfl⟩ : ∃ g, f = g + 1 := ⟨f - 1, by omega⟩
        generalize hS1 : zpI (zpI S 125 15 (S.1 125 15 * 10 + b q - 48)) 125 12 (nI (q + 1)) = S1
        have hS1' : zAx S1 b t (q + 1) := ⟨by rw [← hS1, zI_ne (by omega), zI_ne (by omega)]; exact hS.1, by rw [← hS1, zI_ne (by omega), zI_ne (by omega)]; exact hS.2.1, by rw [← hS1, zI_at]⟩
        obtain ⟨S', s1, s2, s3, s4, s5, s6⟩ := p4 S1 f hS1' (fun h => by
          rw [← hS1, zI_nk (by omega), zI_at, hv (by omega), hd2, show (10 : Int32) = nI 10 from rfl, pk_mul, nI_add, show (48 : Int32) = nI 48 from rfl, pk_sub (by omega), show w * 10 + (48 + d) - 48 = 10 * w + d by omega]) (by omega)
        refine ⟨S', fun j => ?_, s2, s3, fun k k1 k2 => by rw [s4 k k1 k2, ← hS1, zI_nk k1, zI_nk k2], fun q hq => by rw [s5 q hq, ← hS1, zI_ne hq, zI_ne hq], by rw [s6, ← hS1]; rfl⟩
        rw [fx_Reader_readNumber_L5, hS.1, hS.2.2, if_neg (nI_ge hqt (by omega)), fx_isDigit_y (by omega) (by rw [hS.2.1]; exact c), zbd_s, z_i1, hS.2.2, zix_n (show q < 400 by omega) (by omega), zck_t, znm_q, znm_q, nI_clamp (by omega), hS.2.1, zI_nk (by omega), hS.2.2, nI_1, hS1]
        exact s1 j
      · obtain ⟨f, rfl⟩ : ∃ g, f = g + 1 := ⟨f - 1, by omega⟩
        by_cases c4 : q < o + 4
        · generalize hT1 : zpI (zpI T 0 16 (10 * T.1 0 16 + b q - 48)) 0 13 (nI (q + 1)) = T1
          have hT1' : zAm T1 b t (q + 1) := ⟨by rw [← hT1, zI_nk (by omega), zI_nk (by omega)]; exact hT.1, by rw [← hT1, zI_ne (by omega), zI_ne (by omega)]; exact hT.2.1, by rw [← hT1, zI_at]⟩
          obtain ⟨T', s1, s2, s3, s4, s5⟩ := p5 T1 f hT1' (by rw [← hT1, zI_nk (by omega), zI_nk (by omega)]; exact h15) (fun h => by
            rw [← hT1, zI_nk (by omega), zI_at, hv (by omega), hd2, show (10 : Int32) = nI 10 from rfl, pk_mul, nI_add, show (48 : Int32) = nI 48 from rfl, pk_sub (by omega), show 10 * w + (48 + d) - 48 = 10 * w + d by omega]) (by omega)
          refine ⟨T', fun j => ?_, s2, s3, fun k k1 k2 => by rw [s4 k k1 k2, ← hT1, zI_nk k1, zI_nk k2], fun q hq => by rw [s5 q hq, ← hT1, zI_ne hq, zI_ne hq]⟩
          rw [fm_next0_L126, hT.2.2, fm_see_lo hT ht hqt, zbd_s, fm_isDigit_y c, zbd_s, z_i1]
          simp only [znm_q]
          rw [h15, hT.2.2, show nI o + (4 : Int32) = nI (o + 4) from nI_add o 4, if_neg (nI_ge c4 (by omega)), fm_see_lo hT ht hqt, zbd_s, zI_nk (by omega), hT.2.2, nI_1, hT1]
          exact s1 j
        · generalize hT1 : zpI T 0 13 (nI (q + 1)) = T1
          have hT1' : zAm T1 b t (q + 1) := ⟨by rw [← hT1, zI_nk (by omega)]; exact hT.1, by rw [← hT1, zI_ne (by omega)]; exact hT.2.1, by rw [← hT1, zI_at]⟩
          obtain ⟨T', s1, s2, s3, s4, s5⟩ := p5 T1 f hT1' (by rw [← hT1, zI_nk (by omega)]; exact h15) (fun h => by omega) (by omega)
          refine ⟨T', fun j => ?_, s2, s3, fun k k1 k2 => by rw [s4 k k1 k2, ← hT1, zI_nk k1], fun q hq => by rw [s5 q hq, ← hT1, zI_ne hq]⟩
          rw [fm_next0_L126, hT.2.2, fm_see_lo hT ht hqt, zbd_s, fm_isDigit_y c, zbd_s, z_i1]
          simp only [znm_q]
          rw [h15, hT.2.2, show nI o + (4 : Int32) = nI (o + 4) from nI_add o 4, if_pos (nI_le (by omega) (by omega)), nI_1, hT1]
          exact s1 j
    · refine ⟨q, w, Nat.le_refl _, by omega, fun _ h => absurd h c, fun h => ?_, fun S f hS hv hf => ?_, fun T f hT h15 hv hf => ?_⟩
      · have h1 := hw h
        have h2 : 10 ^ (q - o) ≤ 10 ^ 4 := Nat.pow_le_pow_right (by omega) (by omega)
        omega
      · obtain ⟨f, rfl⟩ : ∃ g, f = g + 1 := ⟨f - 1, by omega⟩
        exact ⟨S, fun j => by rw [fx_Reader_readNumber_L5, hS.1, hS.2.2, if_neg (nI_ge hqt (by omega)), fx_isDigit_n (by omega) (by rw [hS.2.1]; exact c), zbd_s, z_i0], hS.2.2, hv, fun _ _ _ => rfl, fun _ _ => rfl, rfl⟩
      · obtain ⟨f, rfl⟩ : ∃ g, f = g + 1 := ⟨f - 1, by omega⟩
        exact ⟨T, fun j => by rw [fm_next0_L126, hT.2.2, fm_see_lo hT ht hqt, zbd_s, fm_isDigit_n c, zbd_s, z_i0], hT.2.2, hv, fun _ _ _ => rfl, fun _ _ => rfl⟩
