/-! a token -/
def zmk (c : Nat) : Nat := if c = 301 then 0 else if c = 302 then 1 else if c = 300 then 2 else if c = 257 then 3 else if c = 258 then 4 else if c = 259 then 5 else if c = 260 then 6 else if c = 256 then 20 else if 261 ≤ c ∧ c ≤ 270 then c - 220 else 100 + c
def zTk (c : Nat) : Prop := c = 300 ∨ c = 301 ∨ c = 302 ∨ (256 ≤ c ∧ c ≤ 270) ∨ zSg c
theorem zTk_lt {c : Nat} (h : zTk c) : c < 400 := by unfold zTk zSg at h; omega
/-- which keyword a word is -/
theorem zwhich (b : Nat → Int32) (p r : Nat) : (∃ k, k < 15 ∧ zIs b p r k ∧ ∀ l, l < 15 → l ≠ k → ¬ zIs b p r l) ∨ (∀ k, k < 15 → ¬ zIs b p r k) := by
  by_cases h : ∃ k, k < 15 ∧ zIs b p r k
  · obtain ⟨k, k1, k2⟩ := h
    refine Or.inl ⟨k, k1, k2, fun l l1 l2 q => l2 ?_⟩
    refine (zkw4 k k1 l l1 ⟨by have := k2.1; have := q.1; omega, fun i hi => ?_⟩).symm
    have e : zKl k = zKl l := by have := k2.1; have := q.1; omega
    rw [← k2.2 i hi, q.2 i (by omega)]
  · exact Or.inr (fun k hk q => h ⟨k, hk, q⟩)
theorem fx_kw_eq {S : zSt} {b : Nat → Int32} {p r : Nat} (hb : S.1 2 = b) (h13 : S.1 125 13 = nI p) (h12 : S.1 125 12 = nI r) (h14 : S.1 125 14 = 302) (hpr : p ≤ r) (hr : r ≤ 400) (h5 : r ≤ p + 5) (hl : ∀ i, p ≤ i → i < r → ¬ b i = 32) : (∀ k, k < 15 → zIs b p r k → (∀ l, l < 15 → l ≠ k → ¬ zIs b p r l) → fx_Reader_readKeyword_L61 zFU 0 S = some ((), zpI S 125 14 (nI (256 + k)))) ∧ ((∀ k, k < 15 → ¬ zIs b p r k) → fx_Reader_readKeyword_L61 zFU 0 S = some ((), S)) := by
  have no : ∀ (Z : zSt), Z.1 2 = b → Z.1 125 13 = nI p → Z.1 125 12 = nI r → ∀ (f i : Nat), i ≤ 15 → 15 < i + f → (∀ k, k < 15 → i ≤ k → ¬ zIs b p r k) → fx_Reader_readKeyword_L61 f (nI i) Z = some ((), Z) := by
    intro Z z1 z2 z3 f
    induction f with
    | zero => intro i a b; omega
    | succ f ih =>
      intro i h1 h2 hn
      rw [fx_Reader_readKeyword_L61]
      by_cases e : i = 15
      · subst e
        rw [if_pos (by decide)]
      · rw [if_neg (show ¬ (15 : Int32) ≤ nI i from nI_ge (b := 15) (by omega) (by omega)), (fx_isK_eq z1 z2 z3 hpr hr h5 hl (show i < 15 by omega)).2 (hn i (by omega) (Nat.le_refl _)), zbd_s]
        simp only [znm_q]
        rw [if_pos trivial, nI_1]
        exact ih (i + 1) (by omega) (by omega) (fun k k1 k2 => hn k k1 (by omega))
  refine ⟨fun k hk hI hu => ?_, fun hn => ?_⟩
  · have key : ∀ (f i : Nat), i ≤ k → 15 < i + f → fx_Reader_readKeyword_L61 f (nI i) S = some ((), zpI S 125 14 (nI (256 + k))) := by
      intro f
      induction f with
      | zero => intro i a b; omega
      | succ f ih =>
        intro i h1 h2
        rw [fx_Reader_readKeyword_L61, if_neg (show ¬ (15 : Int32) ≤ nI i from nI_ge (b := 15) (by omega) (by omega))]
        by_cases e : i = k
        · subst e
          rw [(fx_isK_eq hb h13 h12 hpr hr h5 hl hk).1 hI, zbd_s]
          simp only [znm_q]
          rw [if_neg (by decide), nI_1, show (256 : Int32) + nI i = nI (256 + i) from by rw [show (256 : Int32) = nI 256 from rfl, nI_add]]
          exact no _ (by rw [zI_ne (by omega)]; exact hb) (by rw [zI_nk (by omega)]; exact h13) (by rw [zI_nk (by omega)]; exact h12) f (i + 1) (by omega) (by omega) (fun l l1 l2 => hu l l1 (by omega))
        · rw [(fx_isK_eq hb h13 h12 hpr hr h5 hl (show i < 15 by omega)).2 (hu i (by omega) e), zbd_s]
          simp only [znm_q]
          rw [if_pos trivial, nI_1]
          exact ih (i + 1) (by omega) (by omega)
    have := key zFU 0 (by omega) (by unfold zFU; omega)
    rw [nI_0] at this
    exact this
  · have := no S hb h13 h12 zFU 0 (by omega) (by unfold zFU; omega) (fun k k1 _ => hn k k1)
    rw [nI_0] at this
    exact this
theorem fm_word_eq {T : zSt} {b : Nat → Int32} {p r : Nat} (hb : T.1 6 = b) (h15 : T.1 0 15 = nI p) (h13 : T.1 0 13 = nI r) (hpr : p ≤ r) (hr : r ≤ 400) : (∀ k, k < 15 → zIs b p r k → (∀ l, l < 15 → l ≠ k → ¬ zIs b p r l) → fm_word T = some (nI (zmk (256 + k)), T)) ∧ ((∀ k, k < 15 → ¬ zIs b p r k) → fm_word T = some (1, T)) := by
  have q := fun k hk => fm_is_eq (T := T) (k := k) hb h15 h13 hpr hr hk
  refine ⟨fun k hk hI hu => ?_, fun hn => ?_⟩
  · have y : fm_is (zKi k) T = some (1, T) := (q k hk).1 hI
    have n : ∀ l, l < 15 → l ≠ k → fm_is (zKi l) T = some (0, T) := fun l l1 l2 => (q l l1).2 (hu l l1 l2)
    unfold fm_word fm_nameWord
    rcases (show k = 0 ∨ k = 1 ∨ k = 2 ∨ k = 3 ∨ k = 4 ∨ k = 5 ∨ k = 6 ∨ k = 7 ∨ k = 8 ∨ k = 9 ∨ k = 10 ∨ k = 11 ∨ k = 12 ∨ k = 13 ∨ k = 14 by omega) with rfl | rfl | rfl | rfl | rfl | rfl | rfl | rfl | rfl | rfl | rfl | rfl | rfl | rfl | rfl
    · rw [show (2 : Nat) = zKi 1 from rfl, n 1 (by omega) (by omega), zbd_s, z_i0, show (3 : Nat) = zKi 2 from rfl, n 2 (by omega) (by omega), zbd_s, z_i0, show (4 : Nat) = zKi 3 from rfl, n 3 (by omega) (by omega), zbd_s, z_i0, show (5 : Nat) = zKi 4 from rfl, n 4 (by omega) (by omega), zbd_s, z_i0, show (6 : Nat) = zKi 0 from rfl, y, zbd_s, znm_q, z_i1]
      rfl
    · rw [show (2 : Nat) = zKi 1 from rfl, y, zbd_s, z_i1]
      rfl
    · rw [show (2 : Nat) = zKi 1 from rfl, n 1 (by omega) (by omega), zbd_s, z_i0, show (3 : Nat) = zKi 2 from rfl, y, zbd_s, z_i1]
      rfl
    · rw [show (2 : Nat) = zKi 1 from rfl, n 1 (by omega) (by omega), zbd_s, z_i0, show (3 : Nat) = zKi 2 from rfl, n 2 (by omega) (by omega), zbd_s, z_i0, show (4 : Nat) = zKi 3 from rfl, y, zbd_s, z_i1]
      rfl
    · rw [show (2 : Nat) = zKi 1 from rfl, n 1 (by omega) (by omega), zbd_s, z_i0, show (3 : Nat) = zKi 2 from rfl, n 2 (by omega) (by omega), zbd_s, z_i0, show (4 : Nat) = zKi 3 from rfl, n 3 (by omega) (by omega), zbd_s, z_i0, show (5 : Nat) = zKi 4 from rfl, y, zbd_s, z_i1]
      rfl
    all_goals
      rw [show (2 : Nat) = zKi 1 from rfl, n 1 (by omega) (by omega), zbd_s, z_i0, show (3 : Nat) = zKi 2 from rfl, n 2 (by omega) (by omega), zbd_s, z_i0, show (4 : Nat) = zKi 3 from rfl, n 3 (by omega) (by omega), zbd_s, z_i0, show (5 : Nat) = zKi 4 from rfl, n 4 (by omega) (by omega), zbd_s, z_i0, show (6 : Nat) = zKi 0 from rfl, n 0 (by omega) (by omega), zbd_s, znm_q, z_i0]
    · rw [show (7 : Nat) = zKi 5 from rfl, y, zbd_s, z_i1, zbd_s]; rfl
    · rw [show (7 : Nat) = zKi 5 from rfl, n 5 (by omega) (by omega), zbd_s, z_i0, show (8 : Nat) = zKi 6 from rfl, y, zbd_s, z_i1, zbd_s]; rfl
    · rw [show (7 : Nat) = zKi 5 from rfl, n 5 (by omega) (by omega), zbd_s, z_i0, show (8 : Nat) = zKi 6 from rfl, n 6 (by omega) (by omega), zbd_s, z_i0, show (9 : Nat) = zKi 7 from rfl, y, zbd_s, z_i1, zbd_s]; rfl
    · rw [show (7 : Nat) = zKi 5 from rfl, n 5 (by omega) (by omega), zbd_s, z_i0, show (8 : Nat) = zKi 6 from rfl, n 6 (by omega) (by omega), zbd_s, z_i0, show (9 : Nat) = zKi 7 from rfl, n 7 (by omega) (by omega), zbd_s, z_i0, show (10 : Nat) = zKi 8 from rfl, y, zbd_s, z_i1, zbd_s]; rfl
    · rw [show (7 : Nat) = zKi 5 from rfl, n 5 (by omega) (by omega), zbd_s, z_i0, show (8 : Nat) = zKi 6 from rfl, n 6 (by omega) (by omega), zbd_s, z_i0, show (9 : Nat) = zKi 7 from rfl, n 7 (by omega) (by omega), zbd_s, z_i0, show (10 : Nat) = zKi 8 from rfl, n 8 (by omega) (by omega), zbd_s, z_i0, show (11 : Nat) = zKi 9 from rfl, y, zbd_s, z_i1, zbd_s]; rfl
    · rw [show (7 : Nat) = zKi 5 from rfl, n 5 (by omega) (by omega), zbd_s, z_i0, show (8 : Nat) = zKi 6 from rfl, n 6 (by omega) (by omega), zbd_s, z_i0, show (9 : Nat) = zKi 7 from rfl, n 7 (by omega) (by omega), zbd_s, z_i0, show (10 : Nat) = zKi 8 from rfl, n 8 (by omega) (by omega), zbd_s, z_i0, show (11 : Nat) = zKi 9 from rfl, n 9 (by omega) (by omega), zbd_s, z_i0, show (12 : Nat) = zKi 10 from rfl, y, zbd_s, z_i1, zbd_s]; rfl
    · rw [show (7 : Nat) = zKi 5 from rfl, n 5 (by omega) (by omega), zbd_s, z_i0, show (8 : Nat) = zKi 6 from rfl, n 6 (by omega) (by omega), zbd_s, z_i0, show (9 : Nat) = zKi 7 from rfl, n 7 (by omega) (by omega), zbd_s, z_i0, show (10 : Nat) = zKi 8 from rfl, n 8 (by omega) (by omega), zbd_s, z_i0, show (11 : Nat) = zKi 9 from rfl, n 9 (by omega) (by omega), zbd_s, z_i0, show (12 : Nat) = zKi 10 from rfl, n 10 (by omega) (by omega), zbd_s, z_i0, show (13 : Nat) = zKi 11 from rfl, y, zbd_s, z_i1, zbd_s]; rfl
    · rw [show (7 : Nat) = zKi 5 from rfl, n 5 (by omega) (by omega), zbd_s, z_i0, show (8 : Nat) = zKi 6 from rfl, n 6 (by omega) (by omega), zbd_s, z_i0, show (9 : Nat) = zKi 7 from rfl, n 7 (by omega) (by omega), zbd_s, z_i0, show (10 : Nat) = zKi 8 from rfl, n 8 (by omega) (by omega), zbd_s, z_i0, show (11 : Nat) = zKi 9 from rfl, n 9 (by omega) (by omega), zbd_s, z_i0, show (12 : Nat) = zKi 10 from rfl, n 10 (by omega) (by omega), zbd_s, z_i0, show (13 : Nat) = zKi 11 from rfl, n 11 (by omega) (by omega), zbd_s, z_i0, show (14 : Nat) = zKi 12 from rfl, y, zbd_s, z_i1, zbd_s]; rfl
    · rw [show (7 : Nat) = zKi 5 from rfl, n 5 (by omega) (by omega), zbd_s, z_i0, show (8 : Nat) = zKi 6 from rfl, n 6 (by omega) (by omega), zbd_s, z_i0, show (9 : Nat) = zKi 7 from rfl, n 7 (by omega) (by omega), zbd_s, z_i0, show (10 : Nat) = zKi 8 from rfl, n 8 (by omega) (by omega), zbd_s, z_i0, show (11 : Nat) = zKi 9 from rfl, n 9 (by omega) (by omega), zbd_s, z_i0, show (12 : Nat) = zKi 10 from rfl, n 10 (by omega) (by omega), zbd_s, z_i0, show (13 : Nat) = zKi 11 from rfl, n 11 (by omega) (by omega), zbd_s, z_i0, show (14 : Nat) = zKi 12 from rfl, n 12 (by omega) (by omega), zbd_s, z_i0, show (15 : Nat) = zKi 13 from rfl, y, zbd_s, z_i1, zbd_s]; rfl
    · rw [show (7 : Nat) = zKi 5 from rfl, n 5 (by omega) (by omega), zbd_s, z_i0, show (8 : Nat) = zKi 6 from rfl, n 6 (by omega) (by omega), zbd_s, z_i0, show (9 : Nat) = zKi 7 from rfl, n 7 (by omega) (by omega), zbd_s, z_i0, show (10 : Nat) = zKi 8 from rfl, n 8 (by omega) (by omega), zbd_s, z_i0, show (11 : Nat) = zKi 9 from rfl, n 9 (by omega) (by omega), zbd_s, z_i0, show (12 : Nat) = zKi 10 from rfl, n 10 (by omega) (by omega), zbd_s, z_i0, show (13 : Nat) = zKi 11 from rfl, n 11 (by omega) (by omega), zbd_s, z_i0, show (14 : Nat) = zKi 12 from rfl, n 12 (by omega) (by omega), zbd_s, z_i0, show (15 : Nat) = zKi 13 from rfl, n 13 (by omega) (by omega), zbd_s, z_i0, show (16 : Nat) = zKi 14 from rfl, y, zbd_s, znm_q, z_i1, zbd_s]; rfl
  · have n : ∀ l, l < 15 → fm_is (zKi l) T = some (0, T) := fun l l1 => (q l l1).2 (hn l l1)
    unfold fm_word fm_nameWord
    rw [show (2 : Nat) = zKi 1 from rfl, n 1 (by omega), zbd_s, z_i0, show (3 : Nat) = zKi 2 from rfl, n 2 (by omega), zbd_s, z_i0, show (4 : Nat) = zKi 3 from rfl, n 3 (by omega), zbd_s, z_i0, show (5 : Nat) = zKi 4 from rfl, n 4 (by omega), zbd_s, z_i0, show (6 : Nat) = zKi 0 from rfl, n 0 (by omega), zbd_s, znm_q, z_i0, show (7 : Nat) = zKi 5 from rfl, n 5 (by omega), zbd_s, z_i0, show (8 : Nat) = zKi 6 from rfl, n 6 (by omega), zbd_s, z_i0, show (9 : Nat) = zKi 7 from rfl, n 7 (by omega), zbd_s, z_i0, show (10 : Nat) = zKi 8 from rfl, n 8 (by omega), zbd_s, z_i0, show (11 : Nat) = zKi 9 from rfl, n 9 (by omega), zbd_s, z_i0, show (12 : Nat) = zKi 10 from rfl, n 10 (by omega), zbd_s, z_i0, show (13 : Nat) = zKi 11 from rfl, n 11 (by omega), zbd_s, z_i0, show (14 : Nat) = zKi 12 from rfl, n 12 (by omega), zbd_s, z_i0, show (15 : Nat) = zKi 13 from rfl, n 13 (by omega), zbd_s, z_i0, show (16 : Nat) = zKi 14 from rfl, n 14 (by omega), zbd_s, znm_q, z_i0, zbd_s]
