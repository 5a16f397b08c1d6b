/-! house -/
theorem znm_q {α β : Type} (x : α) (k : α → β) : znm x k = k x := (id (Eq.refl _) : znm x k = k x)
theorem fx_hadd_eq {X : zSt} {n t : Nat} {a1 a2 a3 : Int32} (hX : X.1 4 0 = nI n) (hn : n < 9) (hT : X.1 1 1 = nI t) (ht : t ≤ 5) : ∃ Y : zSt, fx_Houses_add X a1 a2 a3 = some (nI n, Y) ∧ Y.1 4 0 = nI (n + 1) ∧ Y.1 5 = upd (X.1 5) n a1 ∧ Y.1 6 = upd (X.1 6) n a2 ∧ Y.1 7 = upd (X.1 7) n a3 ∧ Y.1 9 = upd (X.1 9) n (nI t) ∧ (∀ k, Y.1 8 k = if 5 * n ≤ k ∧ k < 5 * n + t then X.1 2 (k - 5 * n) - 97 else X.1 8 k) ∧ (∀ q, (q < 4 ∨ 10 ≤ q) → Y.1 q = X.1 q) ∧ Y.2 = X.2 := by
  have key : ∀ (j : zSt → Option (Int32 × zSt)) (f i : Nat) (S : zSt), i ≤ t → t < i + f → S.1 4 0 = nI n → S.1 1 1 = nI t → ∃ Y : zSt, fx_Houses_add_L67 j f (nI i) S = j Y ∧ (∀ k, Y.1 8 k = if 5 * n + i ≤ k ∧ k < 5 * n + t then S.1 2 (k - 5 * n) - 97 else S.1 8 k) ∧ (∀ q, q ≠ 8 → Y.1 q = S.1 q) ∧ Y.2 = S.2 := by
    intro j f
    induction f with
    | zero => intro i S a b; omega
    | succ f ih =>
      intro i S a b h4 h1
      rw [fx_Houses_add_L67, h1]
      by_cases e : i = t
      · subst e
        rw [if_pos (nI_le (Nat.le_refl _) (by omega))]
        exact ⟨S, rfl, fun k => by rw [if_neg (by omega)], fun _ _ => rfl, rfl⟩
      · rw [if_neg (nI_ge (by omega) (by omega)), fx_letter_eq (by omega), zbd_s, h4, show nI n * (5 : Int32) + nI i = nI (5 * n + i) from by rw [show (5 : Int32) = nI 5 from rfl, pk_mul, nI_add, Nat.mul_comm], zix_n (by omega) (by omega), zck_t]
        simp only [znm]
        rw [nI_1, nI_clamp (by omega)]
        obtain ⟨Y, y1, y2, y3, y4⟩ := ih (i + 1) (zpI S 8 (5 * n + i) (S.1 2 i - 97)) (by omega) (by omega) (by rw [zI_ne (by omega)]; exact h4) (by rw [zI_ne (by omega)]; exact h1)
        refine ⟨Y, y1, fun k => ?_, fun q hq => by rw [y3 q hq, zI_ne hq], by rw [y4]; rfl⟩
        rw [y2 k, zI_ne (show (2 : Nat) ≠ 8 by omega)]
        by_cases c : k = 5 * n + i
        · subst c
          rw [if_neg (by omega), if_pos (by omega), zI_at, show 5 * n + i - 5 * n = i by omega]
        · rw [zI_nk c]
          by_cases d : 5 * n + (i + 1) ≤ k ∧ k < 5 * n + t
          · rw [if_pos d, if_pos (by omega)]
          · rw [if_neg d, if_neg (by omega)]
  unfold fx_Houses_add
  generalize hz : zFU = fu
  have hfu : 100 < fu := by rw [← hz]; decide
  simp only [znm_q]
  rw [hX, hT, if_neg (show ¬ (9 : Int32) ≤ nI n from nI_ge (b := 9) hn (by omega)), if_pos (show nI t ≤ (5 : Int32) from nI_le (b := 5) ht (by omega))]
  simp (disch := omega) only [zI_ne, hX, hT]
  rw [zix_n hn (by omega), nI_clamp (by omega), zck_t, zck_t, zck_t, zck_t]
  obtain ⟨Y, y1, y2, y3, y4⟩ := key (fun S_10 => some ((zpI S_10 4 0 (S_10.1 4 0 + 1)).1 4 0 - 1, zpI S_10 4 0 (S_10.1 4 0 + 1))) fu 0 (zpI (zpI (zpI (zpI X 5 n a1) 6 n a2) 7 n a3) 9 n (nI t)) (by omega) (by omega) (by simp (disch := omega) only [zI_ne, hX]) (by simp (disch := omega) only [zI_ne, hT])
  rw [nI_0] at y1
  rw [y1]
  have e4 : Y.1 4 0 = nI n := by rw [y3 _ (by omega)]; simp (disch := omega) only [zI_ne, hX]
  rw [zI_at, e4, nI_1, nI_pred]
  refine ⟨_, rfl, zI_at, ?_, ?_, ?_, ?_, fun k => ?_, fun q hq => ?_, ?_⟩
  · rw [zI_ne (by omega), y3 _ (by omega)]; simp (disch := omega) only [zI_ne, zI_eq]
  · rw [zI_ne (by omega), y3 _ (by omega)]; simp (disch := omega) only [zI_ne, zI_eq]
  · rw [zI_ne (by omega), y3 _ (by omega)]; simp (disch := omega) only [zI_ne, zI_eq]
  · rw [zI_ne (by omega), y3 _ (by omega)]; simp (disch := omega) only [zI_ne, zI_eq]
  · rw [zI_ne (by omega), y2 k]; simp (disch := omega) only [zI_ne]; rfl
  · rw [zI_ne (by omega), y3 _ (by omega)]; simp (disch := omega) only [zI_ne]
  · show Y.2 = X.2
    rw [y4]; rfl
theorem fm_clear_eq {a1 a2 a3 r : Int32} {n : Nat} (hn : n < 9) : ∀ (f i : Nat) (S : zSt), i ≤ 16 → 16 < i + f → ∃ Y : zSt, (∀ j : zSt → Option (Int32 × zSt), fm_house_L74 a1 a2 a3 r (nI (20 + 16 * n)) j f (nI i) S = j Y) ∧ (∀ k, Y.1 1 k = if 20 + 16 * n + i ≤ k ∧ k < 36 + 16 * n then 0 else S.1 1 k) ∧ (∀ q, q ≠ 1 → Y.1 q = S.1 q) ∧ Y.2 = S.2 := by
  intro f
  induction f with
  | zero => intro i S a b; omega
  | succ f ih =>
    intro i S a b
    by_cases e : i = 16
    · subst e
      exact ⟨S, fun j => by rw [fm_house_L74, if_pos (by decide)], fun k => by rw [if_neg (by omega)], fun _ _ => rfl, rfl⟩
    · obtain ⟨Y, y1, y2, y3, y4⟩ := ih (i + 1) (zpI S 1 (20 + 16 * n + i) 0) (by omega) (by omega)
      refine ⟨Y, fun j => ?_, fun k => ?_, fun q hq => by rw [y3 q hq, zI_ne hq], by rw [y4]; rfl⟩
      · rw [fm_house_L74, if_neg (show ¬ (16 : Int32) ≤ nI i from nI_ge (b := 16) (by omega) (by omega)), nI_add, zix_n (by omega) (by omega), zck_t]
        simp only [znm]
        rw [nI_1, nI_clamp (by omega)]
        exact y1 j
      rw [y2 k]
      by_cases c : k = 20 + 16 * n + i
      · subst c
        rw [if_neg (by omega), if_pos (by omega), zI_at]
      · rw [zI_nk c]
        by_cases d : 20 + 16 * n + (i + 1) ≤ k ∧ k < 36 + 16 * n
        · rw [if_pos d, if_pos (by omega)]
        · rw [if_neg d, if_neg (by omega)]
theorem fm_lett_eq {n t : Nat} (hn : n < 9) (ht : t ≤ 5) : ∀ (f i : Nat) (S : zSt), i ≤ t → t < i + f → ∃ Y : zSt, (∀ j : zSt → Option (Int32 × zSt), fm_house_L143 (nI t) (nI (20 + 16 * n)) j f (nI i) S = j Y) ∧ (∀ k, Y.1 1 k = if 30 + 16 * n + i ≤ k ∧ k < 30 + 16 * n + t then S.1 6 (k - (30 + 16 * n)) - 97 else S.1 1 k) ∧ (∀ q, q ≠ 1 → Y.1 q = S.1 q) ∧ Y.2 = S.2 := by
  intro f
  induction f with
  | zero => intro i S a b; omega
  | succ f ih =>
    intro i S a b
    by_cases e : i = t
    · subst e
      exact ⟨S, fun j => by rw [fm_house_L143, if_pos (nI_le (Nat.le_refl _) (by omega))], fun k => by rw [if_neg (by omega)], fun _ _ => rfl, rfl⟩
    · obtain ⟨Y, y1, y2, y3, y4⟩ := ih (i + 1) (zpI S 1 (30 + 16 * n + i) (S.1 6 i - 97)) (by omega) (by omega)
      refine ⟨Y, fun j => ?_, fun k => ?_, fun q hq => by rw [y3 q hq, zI_ne hq], by rw [y4]; rfl⟩
      · rw [fm_house_L143, if_neg (nI_ge (by omega) (by omega)), show nI (20 + 16 * n) + (10 : Int32) + nI i = nI (30 + 16 * n + i) from by rw [show (10 : Int32) = nI 10 from rfl, nI_add, nI_add, show 20 + 16 * n + 10 + i = 30 + 16 * n + i by omega], zix_n (show i < 400 by omega) (by omega), zck_t, zix_n (by omega) (by omega), zck_t]
        simp only [znm]
        rw [nI_1, nI_clamp (n := i) (by omega), nI_clamp (by omega)]
        exact y1 j
      rw [y2 k, zI_ne (show (6 : Nat) ≠ 1 by omega)]
      by_cases c : k = 30 + 16 * n + i
      · subst c
        rw [if_neg (by omega), if_pos (by omega), zI_at, show 30 + 16 * n + i - (30 + 16 * n) = i by omega]
      · rw [zI_nk c]
        by_cases d : 30 + 16 * n + (i + 1) ≤ k ∧ k < 30 + 16 * n + t
        · rw [if_pos d, if_pos (by omega)]
        · rw [if_neg d, if_neg (by omega)]
theorem fm_house_eq {M : zSt} {n t : Nat} {a1 a2 a3 : Int32} (hM : M.1 1 4 = nI n) (hn : n < 9) (hT : M.1 0 12 = nI t) (hk : zMk (M.1 6) t) (h1 : ¬ (a1 < 0 ∨ 999 < a1)) (h2 : ¬ (a2 < 1 ∨ 999 < a2)) (h3 : ¬ (a3 < 1 ∨ 99 < a3)) : ∃ Y : zSt, fm_house M a1 a2 a3 = some (nI n, Y) ∧ Y.1 1 4 = nI (n + 1) ∧ Y.1 1 (20 + 16 * n) = a1 ∧ Y.1 1 (21 + 16 * n) = a2 ∧ Y.1 1 (22 + 16 * n) = a3 ∧ (∀ k, 3 ≤ k → k < 9 → Y.1 1 (20 + 16 * n + k) = 0) ∧ Y.1 1 (29 + 16 * n) = nI t ∧ (∀ k, k < t → Y.1 1 (30 + 16 * n + k) = M.1 6 k - 97) ∧ (∀ k, k ≠ 4 → (k < 20 + 16 * n ∨ 36 + 16 * n ≤ k) → Y.1 1 k = M.1 1 k) ∧ (∀ q, q ≠ 0 → q ≠ 1 → Y.1 q = M.1 q) ∧ (∀ k, k ≠ 3 → k ≠ 12 → Y.1 0 k = M.1 0 k) ∧ Y.1 0 3 = 0 ∧ Y.1 0 12 = 0 := by
  have ht : t ≤ 5 := hk.2.1
  have ht1 : 1 ≤ t := hk.1
  unfold fm_house
  generalize hz : zFU = fu
  have hfu : 100 < fu := by rw [← hz]; decide
  rw [fm_mark_y hT hk, zbd_s]
  simp only [znm_q]
  have e4 : (zpI M 0 12 0).1 1 4 = nI n := by rw [zI_ne (by omega)]; exact hM
  rw [if_neg (show ¬ nI t = -1 from fun q => by
    have := congrArg Int32.toInt q
    rw [nI_toInt (by omega), show (-1 : Int32).toInt = -1 from by decide] at this
    omega), fm_isIn_in (fun q => h1 (Or.inl q)) (fun q => h1 (Or.inr q)), zbd_s, z_i1, fm_isIn_in (fun q => h2 (Or.inl q)) (fun q => h2 (Or.inr q)), zbd_s, z_i1, fm_isIn_in (fun q => h3 (Or.inl q)) (fun q => h3 (Or.inr q)), zbd_s, z_i1, e4, if_neg (show ¬ nI n = 9 from fun q => by
      have := (nI_eq (a := n) (b := 9) (by omega) (by omega)).mp q
      omega), show (20 : Int32) + (16 : Int32) * nI n = nI (20 + 16 * n) from by rw [show (16 : Int32) = nI 16 from rfl, show (20 : Int32) = nI 20 from rfl, pk_mul, nI_add]]
  obtain ⟨Y, y1, y2, y3, y4⟩ := fm_clear_eq (a1 := a1) (a2 := a2) (a3 := a3) (r := nI t) hn fu 0 (zpI M 0 12 0) (by omega) (by omega)
  have y1' : ∀ j : zSt → Option (Int32 × zSt), fm_house_L74 a1 a2 a3 (nI t) (nI (20 + 16 * n)) j fu 0 (zpI M 0 12 0) = j Y := fun j => by rw [← nI_0]; exact y1 j
  rw [y1', show nI (20 + 16 * n) + (0 : Int32) = nI (20 + 16 * n) from nI_add _ 0, nI_1, show nI (20 + 16 * n) + (2 : Int32) = nI (20 + 16 * n + 2) from nI_add _ 2, show nI (20 + 16 * n) + (9 : Int32) = nI (20 + 16 * n + 9) from nI_add _ 9, zix_n (show 20 + 16 * n < 1480 by omega) (by omega), zck_t, zix_n (show 20 + 16 * n + 1 < 1480 by omega) (by omega), zck_t, zix_n (show 20 + 16 * n + 2 < 1480 by omega) (by omega), zck_t, zix_n (show 20 + 16 * n + 9 < 1480 by omega) (by omega), zck_t, nI_clamp (n := 20 + 16 * n) (by omega), nI_clamp (n := 20 + 16 * n + 1) (by omega), nI_clamp (n := 20 + 16 * n + 2) (by omega), nI_clamp (n := 20 + 16 * n + 9) (by omega)]
  generalize hZ : zpI (zpI (zpI (zpI Y 1 (20 + 16 * n) a1) 1 (20 + 16 * n + 1) a2) 1 (20 + 16 * n + 2) a3) 1 (20 + 16 * n + 9) (nI t) = Z
  obtain ⟨V, v1, v2, v3, v4⟩ := fm_lett_eq hn ht fu 0 Z (by omega) (by omega)
  have v1' : ∀ j : zSt → Option (Int32 × zSt), fm_house_L143 (nI t) (nI (20 + 16 * n)) j fu 0 Z = j V := fun j => by rw [← nI_0]; exact v1 j
  rw [v1']
  have z6 : ∀ q, q ≠ 1 → Z.1 q = (zpI M 0 12 0).1 q := fun q hq => by rw [← hZ]; simp (disch := omega) only [zI_ne]; exact y3 q hq
  have hV : ∀ k, k < 30 + 16 * n ∨ 36 + 16 * n ≤ k → V.1 1 k = Z.1 1 k := fun k hk => by rw [v2 k, if_neg (by omega)]
  have hZo : ∀ k, (k < 20 + 16 * n ∨ 30 + 16 * n ≤ k ∨ (23 + 16 * n ≤ k ∧ k < 29 + 16 * n)) → Z.1 1 k = Y.1 1 k := fun k hk => by rw [← hZ]; simp (disch := omega) only [zI_nk]
  have hYo : ∀ k, (k < 20 + 16 * n ∨ 36 + 16 * n ≤ k) → Y.1 1 k = M.1 1 k := fun k hk => by rw [y2 k, if_neg (by omega), zI_ne (by omega)]
  have v4e : V.1 1 4 = nI n := by rw [hV 4 (by omega), hZo 4 (by omega), hYo 4 (by omega)]; exact hM
  unfold fm_forgets
  simp only [znm]
  rw [zbd_s, v4e, nI_1, zI_ne (show (1 : Nat) ≠ 0 by omega), zI_at, nI_pred]
  refine ⟨_, rfl, ?_, ?_, ?_, ?_, fun k k1 k2 => ?_, ?_, fun k hk => ?_, fun k k1 k2 => ?_, fun q q0 q1 => ?_, fun k k1 k2 => ?_, zI_at, ?_⟩
  · rw [zI_ne (by omega), zI_at]
  · rw [zI_ne (by omega), zI_nk (by omega), hV _ (by omega), ← hZ]; simp (disch := omega) only [zI_nk, zI_at]
  · rw [zI_ne (by omega), zI_nk (by omega), hV _ (by omega), ← hZ, show 21 + 16 * n = 20 + 16 * n + 1 by omega]; simp (disch := omega) only [zI_nk, zI_at]
  · rw [zI_ne (by omega), zI_nk (by omega), hV _ (by omega), ← hZ, show 22 + 16 * n = 20 + 16 * n + 2 by omega]; simp (disch := omega) only [zI_nk, zI_at]
  · rw [zI_ne (by omega), zI_nk (by omega), hV _ (by omega), hZo _ (by omega), y2, if_pos (by omega)]
  · rw [zI_ne (by omega), zI_nk (by omega), hV _ (by omega), ← hZ, show 29 + 16 * n = 20 + 16 * n + 9 by omega]; simp (disch := omega) only [zI_nk, zI_at]
  · rw [zI_ne (by omega), zI_nk (by omega), v2, if_pos (by omega), z6 6 (by omega), zI_ne (by omega), show 30 + 16 * n + k - (30 + 16 * n) = k by omega]
  · rw [zI_ne (by omega), zI_nk (by omega), hV _ (by omega), hZo _ (by omega), hYo _ (by omega)]
  · rw [zI_ne q0, zI_ne q1, v3 q q1, z6 q q1, zI_ne q0]
  · rw [zI_nk k1, zI_ne (by omega), v3 0 (by omega), z6 0 (by omega), zI_nk k2]
  · rw [zI_nk (by omega), zI_ne (by omega), v3 0 (by omega), z6 0 (by omega), zI_at]
theorem fx_house_no {X : zSt} {n t : Nat} {a1 a2 a3 : Int32} (hX : X.1 4 0 = nI n) (hn : n ≤ 9) (hT : X.1 1 1 = nI t) (ht : t ≤ 400) (hb : ∀ k, 0 ≤ (X.1 2 k).toInt ∧ (X.1 2 k).toInt ≤ 255) (h : (a1 < 0 ∨ 999 < a1) ∨ (a2 < 1 ∨ 999 < a2) ∨ (a3 < 1 ∨ 99 < a3) ∨ ¬ zMk (X.1 2) t ∨ n = 9) : fx_house X a1 a2 a3 = some (-1, zpI X 1 1 0) := by
  unfold fx_house
  simp only [znm_q]
  by_cases h1 : a1 < 0 ∨ 999 < a1
  · rw [fx_in_lo h1, zbd_s, z_i0, if_pos trivial]
  rw [fx_in_in (fun q => h1 (Or.inl q)) (fun q => h1 (Or.inr q)), zbd_s, z_i1]
  by_cases h2 : a2 < 1 ∨ 999 < a2
  · rw [fx_in_lo h2, zbd_s, z_i0, if_pos trivial]
  rw [fx_in_in (fun q => h2 (Or.inl q)) (fun q => h2 (Or.inr q)), zbd_s, z_i1]
  by_cases h3 : a3 < 1 ∨ 99 < a3
  · rw [fx_in_lo h3, zbd_s, z_i0, if_pos trivial]
  rw [fx_in_in (fun q => h3 (Or.inl q)) (fun q => h3 (Or.inr q)), zbd_s, z_i1]
  by_cases h4 : zMk (X.1 2) t
  · obtain rfl : n = 9 := by
      rcases h with q | q | q | q | q
      · exact absurd q h1
      · exact absurd q h2
      · exact absurd q h3
      · exact absurd h4 q
      · exact q
    have : fx_Houses_add X a1 a2 a3 = some (-1, X) := by
      unfold fx_Houses_add
      rw [znm_q, hX, if_pos (by decide)]
    rw [fx_mark_y hT hb h4, zbd_s, z_i1, this, zbd_s, if_pos rfl]
  · rw [fx_mark_n hT ht hb h4, zbd_s, z_i0, if_pos trivial]
theorem fm_house_no {M : zSt} {n t : Nat} {a1 a2 a3 : Int32} (hM : M.1 1 4 = nI n) (hn : n ≤ 9) (hT : M.1 0 12 = nI t) (ht : t ≤ 400) (h : (a1 < 0 ∨ 999 < a1) ∨ (a2 < 1 ∨ 999 < a2) ∨ (a3 < 1 ∨ 99 < a3) ∨ ¬ zMk (M.1 6) t ∨ n = 9) : fm_house M a1 a2 a3 = some (-1, zpI M 0 12 0) := by
  unfold fm_house
  simp only [znm_q]
  by_cases h4 : zMk (M.1 6) t
  · rw [fm_mark_y hT h4, zbd_s, if_neg (show ¬ nI t = -1 from fun q => by
      have := congrArg Int32.toInt q
      rw [nI_toInt (by omega), show (-1 : Int32).toInt = -1 from by decide] at this
      omega)]
    by_cases h1 : a1 < 0 ∨ 999 < a1
    · rw [fm_isIn_lo h1, zbd_s, z_i0]
    rw [fm_isIn_in (fun q => h1 (Or.inl q)) (fun q => h1 (Or.inr q)), zbd_s, z_i1]
    by_cases h2 : a2 < 1 ∨ 999 < a2
    · rw [fm_isIn_lo h2, zbd_s, z_i0]
    rw [fm_isIn_in (fun q => h2 (Or.inl q)) (fun q => h2 (Or.inr q)), zbd_s, z_i1]
    by_cases h3 : a3 < 1 ∨ 99 < a3
    · rw [fm_isIn_lo h3, zbd_s, z_i0]
    rw [fm_isIn_in (fun q => h3 (Or.inl q)) (fun q => h3 (Or.inr q)), zbd_s, z_i1]
    obtain rfl : n = 9 := by
      rcases h with q | q | q | q | q
      · exact absurd q h1
      · exact absurd q h2
      · exact absurd q h3
      · exact absurd h4 q
      · exact q
    rw [zI_ne (show (1 : Nat) ≠ 0 by omega), hM, if_pos (by decide)]
  · rw [fm_mark_n hT ht h4, zbd_s, if_pos rfl]
theorem zNet_one {a : Nat → Int32} {n : Nat} (h0 : ∀ i j, i < 9 → j < 9 → (n ≤ i ∨ n ≤ j) → a (180 + 9 * i + j) = 0) (hn : n < 9) : ∀ k, k ≤ n + 1 → zNet a n k = 0 := by
  intro k
  induction k with
  | zero => intro _; rfl
  | succ k ih =>
    intro hk
    unfold zNet
    rw [ih (by omega), h0 k n (by omega) hn (Or.inr (by omega)), h0 n k hn (by omega) (Or.inl (by omega))]
    decide
section ops10
variable {RR : (Nat → Int32) → Int32 → Int32 → (Nat → Int32) → Prop}
theorem zp_house (hRR : zRok RR) : zo_house (zInv RR) := by
  intro X M hI a1 a2 a3
  obtain ⟨t, n, m, c, o, hT, hF, hC, hU, hK⟩ := id hI
  obtain ⟨hH, hTi, hS, hR, hL, hRi⟩ := id hC
  obtain ⟨q1, q2, q3, q4, q5⟩ := hT
  have hn : n ≤ 9 := hH.2.2.1
  have ex : X.1 4 0 = nI n := hH.1
  have em : M.1 1 4 = nI n := hH.2.1
  have eb : X.1 2 = M.1 6 := funext q4
  have q5x : ∀ k, 0 ≤ (X.1 2 k).toInt ∧ (X.1 2 k).toInt ≤ 255 := by rw [eb]; exact q5
  by_cases h : (a1 < 0 ∨ 999 < a1) ∨ (a2 < 1 ∨ 999 < a2) ∨ (a3 < 1 ∨ 99 < a3) ∨ ¬ zMk (M.1 6) t ∨ n = 9
  · rw [fx_house_no ex hn q1 q3 q5x (by rw [eb]; exact h), fm_house_no em hn q2 q3 h]
    exact ⟨_, _, _, rfl, rfl, zI_same hRR (fun q h1 h2 => zI_ne h1) ⟨rfl, rfl⟩ ⟨by rw [zI_ne (by omega)], by rw [zI_ne (by omega)], by rw [zI_ne (by omega)], by rw [zI_ne (by omega)]⟩ (fun q hq => zI_ne (by omega)) (fun k hk => zI_nk (by omega)) (Or.inr ⟨zI_at, zI_at⟩) hI⟩
  have h1 : ¬ (a1 < 0 ∨ 999 < a1) := fun q => h (Or.inl q)
  have h2 : ¬ (a2 < 1 ∨ 999 < a2) := fun q => h (Or.inr (Or.inl q))
  have h3 : ¬ (a3 < 1 ∨ 99 < a3) := fun q => h (Or.inr (Or.inr (Or.inl q)))
  have h4 : zMk (M.1 6) t := Classical.byContradiction (fun q => h (Or.inr (Or.inr (Or.inr (Or.inl q)))))
  have h5 : n < 9 := by
    have : n ≠ 9 := fun q => h (Or.inr (Or.inr (Or.inr (Or.inr q))))
    omega
  obtain ⟨M2, m0, m1, m2, m3, m4, m5, m6, m7, m8, m9, m10, m11, m12⟩ := fm_house_eq (a1 := a1) (a2 := a2) (a3 := a3) em h5 q2 h4 h1 h2 h3
  obtain ⟨Y, y0, y1, y2, y3, y4, y5, y6, y7, y8⟩ := fx_hadd_eq (a1 := a1) (a2 := a2) (a3 := a3) ex h5 q1 h4.2.1
  have hx : fx_house X a1 a2 a3 = some (nI n, zpI (zpI Y 1 1 0) 59 2 0) := by
    unfold fx_house fx_History_forget
    simp only [znm_q]
    rw [fx_in_in (fun q => h1 (Or.inl q)) (fun q => h1 (Or.inr q)), zbd_s, z_i1, fx_in_in (fun q => h2 (Or.inl q)) (fun q => h2 (Or.inr q)), zbd_s, z_i1, fx_in_in (fun q => h3 (Or.inl q)) (fun q => h3 (Or.inr q)), zbd_s, z_i1, fx_mark_y q1 q5x (by rw [eb]; exact h4), zbd_s, z_i1, y0, zbd_s, if_neg (show ¬ nI n = -1 from fun q => by
      have := congrArg Int32.toInt q
      rw [nI_toInt (by omega), show (-1 : Int32).toInt = -1 from by decide] at this
      omega), zbd_s]
  rw [hx, m0]
  generalize hX2 : zpI (zpI Y 1 1 0) 59 2 0 = X2
  have x1 : ∀ q, q ≠ 1 → q ≠ 59 → X2.1 q = Y.1 q := fun q a b => by rw [← hX2, zI_ne b, zI_ne a]
  have x2 : ∀ q, (q < 4 ∨ 10 ≤ q) → q ≠ 1 → q ≠ 59 → X2.1 q = X.1 q := fun q a b c => by rw [x1 q b c, y7 q a]
  have xl : X2.2 = X.2 := by rw [← hX2]; exact y8
  have x0 : X2.1 1 1 = 0 := by rw [← hX2, zI_ne (by omega), zI_at]
  have x59 : X2.1 59 2 = 0 := by rw [← hX2, zI_at]
  have x59' : X2.1 59 1 = X.1 59 1 := by rw [← hX2, zI_nk (by omega), zI_ne (by omega), y7 _ (by omega)]
  have ht5 : t ≤ 5 := h4.2.1
  have ht1 : 1 ≤ t := h4.1
  have hs : ∀ h, h < n → ∀ k, k < 16 → M2.1 1 (20 + 16 * h + k) = M.1 1 (20 + 16 * h + k) := fun h hh k hk => m8 _ (by omega) (by omega)
  refine ⟨_, _, _, rfl, rfl, 0, n + 1, m, 0, o, ⟨x0, m12, by omega, fun k => by rw [x2 _ (by omega) (by omega) (by omega), m9 _ (by omega) (by omega)]; exact q4 k, fun k => by rw [m9 _ (by omega) (by omega)]; exact q5 k⟩, ?_, ⟨?_, ?_, rS_c (x2 _ (by omega) (by omega) (by omega)) (fun k hk => m8 _ (by omega) (by omega)) hS, rR_c hRR (x2 _ (by omega) (by omega) (by omega)) (x2 _ (by omega) (by omega) (by omega)) (fun k k1 k2 => m8 _ (by omega) (by omega)) hR, rL_c (fun q k1 k2 => x2 _ (by omega) (by omega) (by omega)) (by rw [xl]) (fun k k1 k2 => m8 _ (by omega) (by omega)) hL, rI_c (x2 _ (by omega) (by omega) (by omega)) (fun k k1 k2 => m8 _ (by omega) (by omega)) hRi⟩, rU_0 x59 m11 (by rw [x59']; exact hU.2.2.2.1) hU.2.2.2.2.1, ?_, ?_, ?_⟩
  · rw [x2 125 (by omega) (by omega) (by omega), x2 140 (by omega) (by omega) (by omega), x2 141 (by omega) (by omega) (by omega), m10 _ (by omega) (by omega), m10 _ (by omega) (by omega)]; exact hF
  · obtain ⟨p1, p2, p3, p4, p5, p6, p7, p8, p9⟩ := hH
    have d0 : ∀ k, 180 ≤ k → k < 261 → M2.1 1 k = M.1 1 k := fun k k1 k2 => m8 _ (by omega) (by omega)
    refine ⟨by rw [x1 _ (by omega) (by omega)]; exact y1, m1, by omega, fun g hg => ?_, fun g hg k hk => ?_, fun g hg => ?_, fun g hg => ?_, fun g k1 k2 => ?_, fun i j hi hj hij => ?_⟩
    · rw [x1 _ (by omega) (by omega), x1 _ (by omega) (by omega), x1 _ (by omega) (by omega), x1 _ (by omega) (by omega)]
      by_cases e : g = n
      · subst e
        rw [m2, m3, m4, m6, show Y.1 (3 + 2) = _ from y2, show Y.1 (3 + 3) = _ from y3, show Y.1 (3 + 4) = _ from y4, show Y.1 (3 + 6) = _ from y5]
        simp only [upd, if_true, and_self]
      · rw [m8 _ (by omega) (by omega), m8 _ (by omega) (by omega), m8 _ (by omega) (by omega), m8 _ (by omega) (by omega), show Y.1 (3 + 2) = _ from y2, show Y.1 (3 + 3) = _ from y3, show Y.1 (3 + 4) = _ from y4, show Y.1 (3 + 6) = _ from y5]
        simp only [upd, if_neg e]
        exact p4 g (by omega)
    · rw [x1 _ (by omega) (by omega), show Y.1 (3 + 5) (5 * g + k) = _ from y6 _]
      by_cases e : g = n
      · subst e
        rw [m6, nI_toInt (by omega)] at hk
        have hk' : k < t := by omega
        rw [if_pos (by omega), show 5 * g + k - 5 * g = k by omega, m7 k hk', q4, z97 (q5 k)]
        have := h4.2.2 k hk'
        exact ⟨rfl, by omega, by omega⟩
      · rw [m8 (29 + 16 * g) (by omega) (by omega)] at hk
        have hk5 : k < 5 := by have := (p6 g (by omega)).2.2.2.2.2.2.2; omega
        rw [if_neg (by omega), m8 _ (by omega) (by omega)]
        exact p5 g (by omega) k hk
    · by_cases e : g = n
      · subst e
        rw [m2, m3, m4, m6, nI_toInt (by omega)]
        rw [zlt, zlt, show (0 : Int32).toInt = 0 from rfl, show (999 : Int32).toInt = 999 from rfl] at h1
        rw [zlt, zlt, show (1 : Int32).toInt = 1 from rfl, show (999 : Int32).toInt = 999 from rfl] at h2
        rw [zlt, zlt, show (1 : Int32).toInt = 1 from rfl, show (99 : Int32).toInt = 99 from rfl] at h3
        omega
      · rw [m8 _ (by omega) (by omega), m8 _ (by omega) (by omega), m8 _ (by omega) (by omega), m8 _ (by omega) (by omega)]
        exact p6 g (by omega)
    · rw [x2 _ (by omega) (by omega) (by omega), zNet_c (by omega) d0 _ (by omega)]
      by_cases e : g = n
      · subst e
        rw [zNet_one p9 h5 _ (by omega)]
        exact p8 g (by omega) (by omega)
      · unfold zNet
        rw [p9 n g h5 (by omega) (Or.inl (by omega)), p9 g n (by omega) h5 (Or.inr (by omega)), show (0 : Int32) - 0 = 0 from by decide, Int32.add_zero]
        exact p7 g (by omega)
    · rw [x2 _ (by omega) (by omega) (by omega)]
      exact p8 g (by omega) k2
    · rw [d0 _ (by omega) (by omega)]
      exact p9 i j hi hj (by omega)
  · obtain ⟨p1, p2, p3, p4, p5, p6, p7, p8, p9⟩ := hTi
    have nn : ∀ k, 23 ≤ k → k < 29 → M2.1 1 (k + 16 * n) = 0 := fun k k1 k2 => by
      have := m5 (k - 20) (by omega) (by omega)
      rwa [show 20 + 16 * n + (k - 20) = k + 16 * n by omega] at this
    refine ⟨?_, ?_, ?_, ?_, ?_, fun g hg => ?_, fun g hg => ?_, fun g k1 k2 => ?_, ?_⟩
    · rw [x2 _ (by omega) (by omega) (by omega), m8 _ (by omega) (by omega)]; exact p1
    · rw [x2 _ (by omega) (by omega) (by omega), m8 _ (by omega) (by omega)]; exact p2
    · rw [x2 _ (by omega) (by omega) (by omega), m8 _ (by omega) (by omega)]; exact p3
    · rw [m8 _ (by omega) (by omega)]; exact p4
    · rw [m8 _ (by omega) (by omega)]; exact p5
    · rw [x2 _ (by omega) (by omega) (by omega), x2 _ (by omega) (by omega) (by omega), x2 _ (by omega) (by omega) (by omega), x2 _ (by omega) (by omega) (by omega), x2 _ (by omega) (by omega) (by omega), x2 _ (by omega) (by omega) (by omega)]
      by_cases e : g = n
      · subst e
        rw [nn _ (by omega) (by omega), nn _ (by omega) (by omega), nn _ (by omega) (by omega), nn _ (by omega) (by omega), nn _ (by omega) (by omega), nn _ (by omega) (by omega)]
        exact p8 g (by omega) h5
      · rw [m8 _ (by omega) (by omega), m8 _ (by omega) (by omega), m8 _ (by omega) (by omega), m8 _ (by omega) (by omega), m8 _ (by omega) (by omega), m8 _ (by omega) (by omega)]
        exact p6 g (by omega)
    · by_cases e : g = n
      · subst e
        rw [nn _ (by omega) (by omega)]
        decide
      · rw [m8 _ (by omega) (by omega)]
        exact p7 g (by omega)
    · rw [x2 _ (by omega) (by omega) (by omega), x2 _ (by omega) (by omega) (by omega), x2 _ (by omega) (by omega) (by omega), x2 _ (by omega) (by omega) (by omega), x2 _ (by omega) (by omega) (by omega), x2 _ (by omega) (by omega) (by omega)]
      exact p8 g (by omega) k2
    · rw [x2 (3 + 8) (by omega) (by omega) (by omega), x2 (3 + 8 + 7) (by omega) (by omega) (by omega), m8 9 (by omega) (by omega), m8 10 (by omega) (by omega)]
      rcases p9 with p9 | ⟨d, d1, d2, d3, d4, d5⟩
      · exact Or.inl p9
      · exact Or.inr ⟨d, d1, d2, d3, d4, fun i hi => by rw [m8 (170 + i) (by omega) (by omega)]; exact d5 i hi⟩
  · rw [x2 _ (by omega) (by omega) (by omega), m10 _ (by omega) (by omega)]; exact hK.1
  · rw [m10 _ (by omega) (by omega)]; exact hK.2.1
  · rw [m10 _ (by omega) (by omega), m9 2 (by omega) (by omega)]
    intro h
    obtain ⟨n', m', hC'⟩ := hK.2.2 h
    exact ⟨n', m', rC_same hRR (fun q k1 k2 => x2 _ (by omega) (by omega) (by omega)) (by rw [xl]) (fun k _ => rfl) hC'⟩
end ops10
