/-! odds, whose -/
def zle_ (a : Nat → Int32) (h k : Nat) : Nat := (a (30 + 16 * h + k)).toNatClampNeg
def zrs (a : Nat → Int32) (l t : Nat) : Nat := (a (270 + 8 * l + t)).toNatClampNeg
def zta (b : Nat → Int32) (k : Nat) : Nat := (b k).toNatClampNeg - 97
def zsm (a : Nat → Int32) (l : Nat) : Nat → Nat
  | 0 => 0
  | t + 1 => zsm a l t + zrs a l t
def zab (a b : Nat → Int32) (h : Nat) : Nat → Nat
  | 0 => 1
  | k + 1 => zab a b h k * zrs a (zle_ a h k) (zta b k)
def zbl (a : Nat → Int32) (h : Nat) : Nat → Nat
  | 0 => 1
  | k + 1 => zbl a h k * zsm a (zle_ a h k) 8
theorem zta_eq {b : Nat → Int32} {t k : Nat} (h : zMk b t) (hk : k < t) : b k = nI (97 + zta b k) ∧ zta b k ≤ 7 := by
  have q := h.2.2 k hk
  obtain ⟨j, j1, j2, j3⟩ := z_nat (v := b k) (by omega)
  have : zta b k = j - 97 := by unfold zta; rw [j2, nI_clamp j1]
  rw [this]
  exact ⟨by rw [show 97 + (j - 97) = j by omega]; exact j2, by omega⟩
theorem zle_eq {x : Nat → Nat → Int32} {B n h k L : Nat} {a : Nat → Int32} (H : rH x B a n) (hh : h < n) (hL : a (29 + 16 * h) = nI L) (hL5 : L ≤ 5) (hk : k < L) : a (30 + 16 * h + k) = nI (zle_ a h k) ∧ zle_ a h k ≤ 7 ∧ x (B + 5) (5 * h + k) = nI (zle_ a h k) := by
  obtain ⟨q1, q2, q3⟩ := H.2.2.2.2.1 h hh k (by rw [hL, nI_toInt (by omega)]; omega)
  obtain ⟨j, j1, j2, j3⟩ := z_nat q2
  have : zle_ a h k = j := by unfold zle_; rw [j2, nI_clamp j1]
  rw [this]
  exact ⟨j2, by omega, by rw [q1]; exact j2⟩
theorem zrs_eq {x : Nat → Nat → Int32} {B l t : Nat} {a : Nat → Int32} (H : rI x B a) (hl : l ≤ 7) (ht : t ≤ 7) : a (270 + 8 * l + t) = nI (zrs a l t) ∧ zrs a l t ≤ 9 ∧ x (B + 27) (8 * l + t) = nI (zrs a l t) := by
  obtain ⟨q1, q2, q3⟩ := H (8 * l + t) (by omega)
  rw [← Nat.add_assoc] at q1 q2 q3
  obtain ⟨j, j1, j2, j3⟩ := z_nat q2
  have : zrs a l t = j := by unfold zrs; rw [j2, nI_clamp j1]
  rw [this]
  exact ⟨j2, by omega, by rw [q1]; exact j2⟩
theorem zsm_le {x : Nat → Nat → Int32} {B l : Nat} {a : Nat → Int32} (H : rI x B a) (hl : l ≤ 7) : ∀ t, t ≤ 8 → zsm a l t ≤ 9 * t := by
  intro t
  induction t with
  | zero => intro _; exact Nat.le_refl _
  | succ t ih =>
    intro ht
    have h1 := ih (by omega)
    have h2 := (zrs_eq (t := t) H hl (by omega)).2.1
    unfold zsm
    omega
theorem fx_all_eq {X : zSt} {a : Nat → Int32} {l : Nat} (H : rI X.1 3 a) (hl : l ≤ 7) : fx_Rises_allOf X (nI l) = some (nI (zsm a l 8), X) := by
  have key : ∀ (f t : Nat), t ≤ 8 → 8 < t + f → fx_Rises_allOf_L4 (nI l) f (nI (zsm a l t)) (nI t) X = some (nI (zsm a l 8), X) := by
    intro f
    induction f with
    | zero => intro t a b; omega
    | succ f ih =>
      intro t h1 h2
      rw [fx_Rises_allOf_L4]
      by_cases e : t = 8
      · subst e
        rw [if_pos (by decide)]
      · have q := (zrs_eq (t := t) H hl (by omega)).2.2
        rw [if_neg (show ¬ (8 : Int32) ≤ nI t from nI_ge (b := 8) (by omega) (by omega)), show nI l * (8 : Int32) + nI t = nI (8 * l + t) from by rw [show (8 : Int32) = nI 8 from rfl, pk_mul, nI_add, Nat.mul_comm], zix_n (by omega) (by omega), zck_t, znm_q, znm_q, nI_clamp (by omega), show X.1 30 (8 * l + t) = nI (zrs a l t) from q, nI_add, nI_1]
        exact ih (t + 1) (by omega) (by omega)
  unfold fx_Rises_allOf
  exact key zFU 0 (by omega) (by unfold zFU; omega)
theorem fx_lof_eq {X : zSt} {h k : Nat} (hh : h < 9) (hk : k < 5) : fx_Houses_letterOf X (nI h) (nI k) = some (X.1 8 (5 * h + k), X) := by
  unfold fx_Houses_letterOf
  rw [show nI h * (5 : Int32) + nI k = nI (5 * h + k) from by rw [show (5 : Int32) = nI 5 from rfl, pk_mul, nI_add, Nat.mul_comm], zix_n (by omega) (by omega), zck_t, nI_clamp (by omega)]
theorem zab_le {x : Nat → Nat → Int32} {B n h L t : Nat} {a b : Nat → Int32} (H : rH x B a n) (hR : rI x B a) (hh : h < n) (hL : a (29 + 16 * h) = nI L) (hL5 : L ≤ 5) (hM : zMk b t) : ∀ k, k ≤ L → k ≤ t → zab a b h k ≤ 9 ^ k := by
  intro k
  induction k with
  | zero => intro _ _; exact Nat.le_refl _
  | succ k ih =>
    intro h1 h2
    unfold zab
    rw [Nat.pow_succ]
    exact Nat.mul_le_mul (ih (by omega) (by omega)) (zrs_eq hR (zle_eq H hh hL hL5 (by omega)).2.1 (zta_eq hM (by omega)).2).2.1
theorem zbl_le {x : Nat → Nat → Int32} {B n h L : Nat} {a : Nat → Int32} (H : rH x B a n) (hR : rI x B a) (hh : h < n) (hL : a (29 + 16 * h) = nI L) (hL5 : L ≤ 5) : ∀ k, k ≤ L → zbl a h k ≤ 72 ^ k := by
  intro k
  induction k with
  | zero => intro _; exact Nat.le_refl _
  | succ k ih =>
    intro h1
    unfold zbl
    rw [Nat.pow_succ]
    exact Nat.mul_le_mul (ih (by omega)) (zsm_le hR (zle_eq H hh hL hL5 (by omega)).2.1 8 (by omega))
theorem zsm_mono {a : Nat → Int32} {l : Nat} : ∀ t s, s < t → zrs a l s ≤ zsm a l t := by
  intro t
  induction t with
  | zero => intro s h; omega
  | succ t ih =>
    intro s h
    unfold zsm
    by_cases e : s = t
    · subst e; omega
    · have := ih s (by omega); omega
theorem zbl_pos {a b : Nat → Int32} {h t : Nat} (hM : zMk b t) : ∀ k, k ≤ t → 0 < zab a b h k → 0 < zbl a h k := by
  intro k
  induction k with
  | zero => intro _ _; exact Nat.one_pos
  | succ k ih =>
    intro hk hp
    unfold zab at hp
    unfold zbl
    have p1 : 0 < zab a b h k := Nat.pos_of_mul_pos_right hp
    have p2 : 0 < zrs a (zle_ a h k) (zta b k) := Nat.pos_of_mul_pos_left hp
    have := zsm_mono (a := a) (l := zle_ a h k) 8 (zta b k) (by have := (zta_eq hM (k := k) (by omega)).2; omega)
    exact Nat.mul_pos (ih (by omega) p1) (by omega)
theorem zab_0 {a b : Nat → Int32} {h k t : Nat} (hk : k ≤ t) (h0 : zab a b h k = 0) : zab a b h t = 0 := by
  induction t with
  | zero =>
    obtain rfl : k = 0 := by omega
    exact h0
  | succ t ih =>
    by_cases e : k = t + 1
    · subst e; exact h0
    · unfold zab
      rw [ih (by omega), Nat.zero_mul]
def zA (a b : Nat → Int32) (h L t : Nat) : Nat := if L = t then zab a b h t else 0
def zB (a b : Nat → Int32) (h L t : Nat) : Nat := if zA a b h L t = 0 then 1 else zbl a h L
theorem zA_le {x : Nat → Nat → Int32} {B n h L t : Nat} {a b : Nat → Int32} (H : rH x B a n) (hR : rI x B a) (hh : h < n) (hL : a (29 + 16 * h) = nI L) (hL5 : L ≤ 5) (hM : zMk b t) : zA a b h L t ≤ 59049 := by
  unfold zA
  by_cases e : L = t
  · rw [if_pos e]
    have h1 := zab_le H hR hh hL hL5 hM t (by omega) (by omega)
    have h2 : 9 ^ t ≤ 9 ^ 5 := Nat.pow_le_pow_right (by omega) hM.2.1
    omega
  · rw [if_neg e]; omega
theorem zB_le {x : Nat → Nat → Int32} {B n h L t : Nat} {a b : Nat → Int32} (H : rH x B a n) (hR : rI x B a) (hh : h < n) (hL : a (29 + 16 * h) = nI L) (hL5 : L ≤ 5) (hM : zMk b t) : 0 < zB a b h L t ∧ zB a b h L t < 2 ^ 31 := by
  unfold zB
  by_cases e : zA a b h L t = 0
  · rw [if_pos e]; omega
  · rw [if_neg e]
    have h1 := zbl_le H hR hh hL hL5 L (Nat.le_refl _)
    have h2 : 72 ^ L ≤ 72 ^ 5 := Nat.pow_le_pow_right (by omega) hL5
    unfold zA at e
    by_cases c : L = t
    · rw [if_pos c] at e
      have := zbl_pos (a := a) (h := h) hM t (Nat.le_refl _) (by omega)
      rw [← c] at this
      omega
    · rw [if_neg c] at e
      exact absurd rfl e
theorem fx_above_eq {X : zSt} {a : Nat → Int32} {n h L t : Nat} (H : rH X.1 3 a n) (hR : rI X.1 3 a) (hn : n ≤ 9) (hh : h < n) (hL : a (29 + 16 * h) = nI L) (hL5 : L ≤ 5) (hT : X.1 1 1 = nI t) (hM : zMk (X.1 2) t) : fx_Rises_above X (nI h) = some (lN (zA a (X.1 2) h L t), X) := by
  have ht5 := hM.2.1
  unfold fx_Rises_above
  rw [zix_n (by omega) (by omega), zck_t, nI_clamp (by omega), show X.1 9 h = nI L from (H.2.2.2.1 h hh).2.2.2.trans hL, hT]
  unfold zA
  by_cases e : L = t
  · rw [if_pos (by rw [e]), if_pos e]
    have key : ∀ (f k : Nat), k ≤ t → t < k + f → fx_Rises_above_L21 (nI h) f (lN (zab a (X.1 2) h k)) (nI k) X = some (lN (zab a (X.1 2) h t), X) := by
      intro f
      induction f with
      | zero => intro k a b; omega
      | succ f ih =>
        intro k h1 h2
        rw [fx_Rises_above_L21, hT]
        by_cases c : k = t
        · subst c
          rw [if_pos (nI_le (Nat.le_refl _) (by omega))]
        · obtain ⟨l1, l2, l3⟩ := zle_eq H hh hL hL5 (show k < L by omega)
          obtain ⟨t1, t2⟩ := zta_eq hM (show k < t by omega)
          obtain ⟨r1, r2, r3⟩ := zrs_eq hR l2 t2
          rw [if_neg (nI_ge (by omega) (by omega)), fx_lof_eq (by omega) (by omega), zbd_s, fx_letter_eq (by omega), zbd_s, show X.1 8 (5 * h + k) = _ from l3, t1, show nI (97 + zta (X.1 2) k) - (97 : Int32) = nI (zta (X.1 2) k) from by rw [show (97 : Int32) = nI 97 from rfl, pk_sub (by omega), show 97 + zta (X.1 2) k - 97 = zta (X.1 2) k by omega], show nI (zle_ a h k) * (8 : Int32) + nI (zta (X.1 2) k) = nI (8 * zle_ a h k + zta (X.1 2) k) from by rw [show (8 : Int32) = nI 8 from rfl, pk_mul, nI_add, Nat.mul_comm], zix_n (by omega) (by omega), zck_t, znm_q, znm_q, nI_clamp (by omega), show X.1 30 _ = _ from r3, nI_l (by omega), lN_mul, nI_1]
          exact ih (k + 1) (by omega) (by omega)
    exact key zFU 0 (by omega) (by unfold zFU; omega)
  · rw [if_neg (fun q => e ((nI_eq (by omega) (by omega)).mp q)), if_neg e]
    rfl
theorem fx_below_eq {X : zSt} {a : Nat → Int32} {n h L t : Nat} (H : rH X.1 3 a n) (hR : rI X.1 3 a) (hn : n ≤ 9) (hh : h < n) (hL : a (29 + 16 * h) = nI L) (hL5 : L ≤ 5) (hM : zMk (X.1 2) t) : fx_Rises_below X (nI h) (lN (zA a (X.1 2) h L t)) = some (lN (zB a (X.1 2) h L t), X) := by
  have hA := zA_le H hR hh hL hL5 hM
  unfold fx_Rises_below
  rw [lg_lN0 (by omega)]
  unfold zB
  by_cases e : zA a (X.1 2) h L t = 0
  · rw [if_pos e, if_pos rfl, if_pos e]
    rfl
  · rw [if_neg e, if_neg (by decide), if_neg e]
    have key : ∀ (f k : Nat), k ≤ L → L < k + f → fx_Rises_below_L14 (nI h) f (lN (zbl a h k)) (nI k) X = some (lN (zbl a h L), X) := by
      intro f
      induction f with
      | zero => intro k a b; omega
      | succ f ih =>
        intro k h1 h2
        rw [fx_Rises_below_L14, zix_n (by omega) (by omega), zck_t, nI_clamp (by omega), show X.1 9 h = nI L from (H.2.2.2.1 h hh).2.2.2.trans hL]
        by_cases c : k = L
        · subst c
          rw [if_pos (nI_le (Nat.le_refl _) (by omega))]
        · obtain ⟨l1, l2, l3⟩ := zle_eq H hh hL hL5 (show k < L by omega)
          have := zsm_le hR l2 8 (by omega)
          rw [if_neg (nI_ge (by omega) (by omega)), fx_lof_eq (by omega) (by omega), zbd_s, show X.1 8 (5 * h + k) = _ from l3, fx_all_eq hR l2, zbd_s, znm_q, znm_q, nI_l (by omega), lN_mul, nI_1]
          exact ih (k + 1) (by omega) (by omega)
    exact key zFU 0 (by omega) (by unfold zFU; omega)
/-! the reference -/
theorem fm_sum_eq {a1 a2 x26 : Int32} {M : zSt} {x : Nat → Nat → Int32} {B l : Nat} (H : rI x B (M.1 1)) (hl : l ≤ 7) {S : zSt} (hS : S.1 = M.1) (j : Int32 → zSt → Option (Unit × zSt)) : fm_laysOdds_L58 a1 a2 x26 (nI l) j zFU 0 0 S = j (nI (zsm (M.1 1) l 8)) S := by
  have key : ∀ (f t : Nat), t ≤ 8 → 8 < t + f → fm_laysOdds_L58 a1 a2 x26 (nI l) j f (nI (zsm (M.1 1) l t)) (nI t) S = j (nI (zsm (M.1 1) l 8)) S := by
    intro f
    induction f with
    | zero => intro t a b; omega
    | succ f ih =>
      intro t h1 h2
      rw [fm_laysOdds_L58]
      by_cases e : t = 8
      · subst e
        rw [if_pos (by decide)]
      · have q := (zrs_eq (t := t) H hl (by omega)).1
        rw [if_neg (show ¬ (8 : Int32) ≤ nI t from nI_ge (b := 8) (by omega) (by omega)), show (270 : Int32) + (8 : Int32) * nI l + nI t = nI (270 + 8 * l + t) from by rw [show (8 : Int32) = nI 8 from rfl, show (270 : Int32) = nI 270 from rfl, pk_mul, nI_add, nI_add], zix_n (by omega) (by omega), zck_t, znm_q, znm_q, nI_clamp (by omega), hS, q, nI_add, nI_1]
        exact ih (t + 1) (by omega) (by omega)
  exact key zFU 0 (by omega) (by unfold zFU; omega)
theorem fm_gcd_eq {S : zSt} {j : Int64 → zSt → Option (Unit × zSt)} : ∀ (k f x y : Nat), y < 2 ^ k → x < 2 ^ 63 → k ≤ 63 → 2 * k < f → fm_laysOdds_L170 j f (lN x) (lN y) S = j (lN (Nat.gcd y x)) S := by
  intro k
  induction k with
  | zero =>
    intro f x y hy hx _ hf
    obtain ⟨f, rfl⟩ : ∃ g, f = g + 1 := ⟨f - 1, by omega⟩
    obtain rfl : y = 0 := by omega
    rw [fm_laysOdds_L170, lg_lN0 (by omega), if_pos rfl, if_pos (by decide), Nat.gcd_zero_left]
  | succ k ih =>
    intro f x y hy hx hk hf
    obtain ⟨f, rfl⟩ : ∃ g, f = g + 1 := ⟨f - 1, by omega⟩
    have hy63 : y < 2 ^ 63 := Nat.lt_of_lt_of_le hy (Nat.pow_le_pow_right (by omega) hk)
    rw [fm_laysOdds_L170, lg_lN0 hy63]
    by_cases h0 : y = 0
    · subst h0
      rw [if_pos rfl, if_pos (by decide), Nat.gcd_zero_left]
    · have nz : znzL (lN y) = true := by
        unfold znzL
        exact decide_eq_true (fun q => h0 ((pk_lEQ (b := 0) hy63 (by omega)).mp q))
      rw [if_neg h0, if_neg (by decide), nz, zck_t, znm_q, pk_lRem hx (by omega) hy63]
      obtain ⟨f, rfl⟩ : ∃ g, f = g + 1 := ⟨f - 1, by omega⟩
      have hr : x % y < y := Nat.mod_lt _ (by omega)
      rw [fm_laysOdds_L170, lg_lN0 (by omega)]
      by_cases h1 : x % y = 0
      · rw [if_pos h1, if_pos (by decide), Nat.gcd_rec, h1, Nat.gcd_zero_left]
      · have nz2 : znzL (lN (x % y)) = true := by
          unfold znzL
          exact decide_eq_true (fun q => h1 ((pk_lEQ (a := x % y) (b := 0) (by omega) (by omega)).mp q))
        have hr2 : y % (x % y) < x % y := Nat.mod_lt _ (by omega)
        have hh : y % (x % y) < 2 ^ k := by
          have h3 := Nat.div_add_mod y (x % y)
          have h4 : 1 ≤ y / (x % y) := (Nat.le_div_iff_mul_le (by omega)).mpr (by omega)
          have h5 : (x % y) * 1 ≤ (x % y) * (y / (x % y)) := Nat.mul_le_mul_left _ h4
          have : 2 ^ (k + 1) = 2 * 2 ^ k := by rw [Nat.pow_succ, Nat.mul_comm]
          omega
        rw [if_neg h1, if_neg (by decide), nz2, zck_t, znm_q, pk_lRem hy63 (by omega) (by omega), ih f (x % y) (y % (x % y)) hh (by omega) (by omega) (by omega), ← Nat.gcd_rec (x % y) y, ← Nat.gcd_rec y x]
theorem fm_odds_eq {x : Nat → Nat → Int32} {B : Nat} {M : zSt} {n h L t : Nat} (H : rH x B (M.1 1) n) (hR : rI x B (M.1 1)) (hn : n ≤ 9) (hh : h < n) (hL : M.1 1 (29 + 16 * h) = nI L) (hL5 : L ≤ 5) (hM : zMk (M.1 6) t) : ∃ Y : zSt, fm_laysOdds M (nI h) (nI t) = some ((), Y) ∧ Y.1 = M.1 ∧ Y.2 0 33 = lN (zA (M.1 1) (M.1 6) h L t / Nat.gcd (zA (M.1 1) (M.1 6) h L t) (zB (M.1 1) (M.1 6) h L t)) ∧ Y.2 0 34 = lN (zB (M.1 1) (M.1 6) h L t / Nat.gcd (zA (M.1 1) (M.1 6) h L t) (zB (M.1 1) (M.1 6) h L t)) := by
  have ht5 := hM.2.1
  have hA := zA_le H hR hh hL hL5 hM
  have hB := zB_le H hR hh hL hL5 hM
  have own : ∀ S : zSt, S.1 = M.1 → ∀ k j, k < 16 → j = 20 + k → fm_own S (nI h) (nI k) = some (M.1 1 (j + 16 * h), S) := fun S hS k j hk e => by
    rw [fm_own_eq (by omega) hk, hS, show 20 + 16 * h + k = j + 16 * h by omega]
  -- the loop over the letters
  have key : ∀ (f k : Nat) (S : zSt), k ≤ t → t < k + f → S.1 = M.1 → L = t → S.2 0 33 = lN (zab (M.1 1) (M.1 6) h k) → S.2 0 34 = lN (zbl (M.1 1) h k) → ∃ Y : zSt, (∀ j : zSt → Option (Unit × zSt), fm_laysOdds_L27 (nI h) (nI t) j f (nI k) S = j Y) ∧ Y.1 = M.1 ∧ Y.2 0 33 = lN (zab (M.1 1) (M.1 6) h t) ∧ (zab (M.1 1) (M.1 6) h t ≠ 0 → Y.2 0 34 = lN (zbl (M.1 1) h L)) := by
    intro f
    induction f with
    | zero => intro k S a b; omega
    | succ f ih =>
      intro k S h1 h2 hS hLt s1 s2
      by_cases c : k = t
      · subst c
        exact ⟨S, fun j => by rw [fm_laysOdds_L27, if_pos (nI_le (Nat.le_refl _) (by omega))], hS, s1, fun _ => by rw [s2, hLt]⟩
      · have bk := zab_le H hR hh hL hL5 hM k (by omega) (by omega)
        have b2 : 9 ^ k ≤ 9 ^ 5 := Nat.pow_le_pow_right (by omega) (by omega)
        by_cases z0 : zab (M.1 1) (M.1 6) h k = 0
        · have zt := zab_0 (t := t) (by omega) z0
          exact ⟨S, fun j => by rw [fm_laysOdds_L27, if_neg (nI_ge (by omega) (by omega)), s1, z0, lg_lN0 (by omega), if_pos rfl, if_pos (by decide)], hS, by rw [s1, z0, zt], fun q => absurd zt q⟩
        · obtain ⟨l1, l2, l3⟩ := zle_eq H hh hL hL5 (show k < L by omega)
          obtain ⟨t1, t2⟩ := zta_eq hM (show k < t by omega)
          obtain ⟨r1, r2, r3⟩ := zrs_eq hR l2 t2
          have sm := zsm_le hR l2 8 (by omega)
          obtain ⟨Y, y1, y2, y3, y4⟩ := ih (k + 1) (zpL (zpL S 0 33 (lN (zab (M.1 1) (M.1 6) h (k + 1)))) 0 34 (lN (zbl (M.1 1) h (k + 1)))) (by omega) (by omega) hS hLt (by rw [zL_eq, zL_eq]; rfl) (by rw [zL_eq]; rfl)
          refine ⟨Y, fun j => ?_, y2, y3, y4⟩
          rw [fm_laysOdds_L27, if_neg (nI_ge (by omega) (by omega)), s1, lg_lN0 (by omega), if_neg z0, if_neg (show ¬ (1 : Int32) ≤ 0 by decide), show (10 : Int32) + nI k = nI (10 + k) from by rw [show (10 : Int32) = nI 10 from rfl, nI_add], own S hS (10 + k) (30 + k) (by omega) (by omega), zbd_s, show M.1 1 (30 + k + 16 * h) = nI (zle_ (M.1 1) h k) from by rw [show 30 + k + 16 * h = 30 + 16 * h + k by omega]; exact l1, znm_q, fm_sum_eq hR l2 hS, zix_n (show k < 400 by omega) (by omega), zck_t, nI_clamp (n := k) (by omega), hS, t1, show (270 : Int32) + (8 : Int32) * nI (zle_ (M.1 1) h k) + nI (97 + zta (M.1 6) k) - (97 : Int32) = nI (270 + 8 * zle_ (M.1 1) h k + zta (M.1 6) k) from by
            rw [show (8 : Int32) = nI 8 from rfl, show (270 : Int32) = nI 270 from rfl, show (97 : Int32) = nI 97 from rfl, pk_mul, nI_add, nI_add, pk_sub (by omega), show 270 + 8 * zle_ (M.1 1) h k + (97 + zta (M.1 6) k) - 97 = 270 + 8 * zle_ (M.1 1) h k + zta (M.1 6) k by omega], zix_n (by omega) (by omega), zck_t, nI_clamp (by omega), r1, znm_q, znm_q, znm_q, s1, nI_l (by omega), nI_l (by omega), lN_mul]
          rw [show (zpL S 0 33 (lN (zab (M.1 1) (M.1 6) h k * zrs (M.1 1) (zle_ (M.1 1) h k) (zta (M.1 6) k)))).2 0 34 = lN (zbl (M.1 1) h k) from by rw [zL_eq]; exact s2, lN_mul, nI_1]
          exact y1 j
  unfold fm_laysOdds
  rw [show (9 : Int32) = nI 9 from rfl, own M rfl 9 29 (by omega) rfl, zbd_s, hL]
  generalize hz : zFU = fu
  have hfu : 200 < fu := by rw [← hz]; decide
  simp only [znm_q]
  -- what is done behind the loop
  have fin : ∀ (Y : zSt), Y.1 = M.1 → Y.2 0 33 = lN (zA (M.1 1) (M.1 6) h L t) → (zA (M.1 1) (M.1 6) h L t ≠ 0 → Y.2 0 34 = lN (zB (M.1 1) (M.1 6) h L t)) → ∃ Z : zSt, (if lg_cmp (Y.2 0 33) 0 = 0 then fm_laysOdds_L170 (fun x_12 S_13 => zck (znzL x_12) (zck (znzL x_12) (some ((), zpL (zpL S_13 0 33 (S_13.2 0 33 / x_12)) 0 34 ((zpL S_13 0 33 (S_13.2 0 33 / x_12)).2 0 34 / x_12))))) fu ((zpL Y 0 34 1).2 0 33) ((zpL Y 0 34 1).2 0 34) (zpL Y 0 34 1) else fm_laysOdds_L170 (fun x_12 S_13 => zck (znzL x_12) (zck (znzL x_12) (some ((), zpL (zpL S_13 0 33 (S_13.2 0 33 / x_12)) 0 34 ((zpL S_13 0 33 (S_13.2 0 33 / x_12)).2 0 34 / x_12))))) fu (Y.2 0 33) (Y.2 0 34) Y) = some ((), Z) ∧ Z.1 = M.1 ∧ Z.2 0 33 = lN (zA (M.1 1) (M.1 6) h L t / Nat.gcd (zA (M.1 1) (M.1 6) h L t) (zB (M.1 1) (M.1 6) h L t)) ∧ Z.2 0 34 = lN (zB (M.1 1) (M.1 6) h L t / Nat.gcd (zA (M.1 1) (M.1 6) h L t) (zB (M.1 1) (M.1 6) h L t)) := by
    intro Y hY y33 y34
    have gen : ∀ V : zSt, V.1 = M.1 → V.2 0 33 = lN (zA (M.1 1) (M.1 6) h L t) → V.2 0 34 = lN (zB (M.1 1) (M.1 6) h L t) → ∃ Z : zSt, fm_laysOdds_L170 (fun x_12 S_13 => zck (znzL x_12) (zck (znzL x_12) (some ((), zpL (zpL S_13 0 33 (S_13.2 0 33 / x_12)) 0 34 ((zpL S_13 0 33 (S_13.2 0 33 / x_12)).2 0 34 / x_12))))) fu (V.2 0 33) (V.2 0 34) V = some ((), Z) ∧ Z.1 = M.1 ∧ Z.2 0 33 = lN (zA (M.1 1) (M.1 6) h L t / Nat.gcd (zA (M.1 1) (M.1 6) h L t) (zB (M.1 1) (M.1 6) h L t)) ∧ Z.2 0 34 = lN (zB (M.1 1) (M.1 6) h L t / Nat.gcd (zA (M.1 1) (M.1 6) h L t) (zB (M.1 1) (M.1 6) h L t)) := by
      intro V hV v33 v34
      have gp : 0 < Nat.gcd (zB (M.1 1) (M.1 6) h L t) (zA (M.1 1) (M.1 6) h L t) := Nat.gcd_pos_of_pos_left _ hB.1
      have gl : Nat.gcd (zB (M.1 1) (M.1 6) h L t) (zA (M.1 1) (M.1 6) h L t) ≤ zB (M.1 1) (M.1 6) h L t := Nat.gcd_le_left _ hB.1
      have nz : znzL (lN (Nat.gcd (zB (M.1 1) (M.1 6) h L t) (zA (M.1 1) (M.1 6) h L t))) = true := by
        unfold znzL
        exact decide_eq_true (fun q => by have := (pk_lEQ (a := Nat.gcd (zB (M.1 1) (M.1 6) h L t) (zA (M.1 1) (M.1 6) h L t)) (b := 0) (by omega) (by omega)).mp q; omega)
      rw [v33, v34, fm_gcd_eq 31 fu _ _ hB.2 (by omega) (by omega) (by omega), nz, zck_t, zck_t, v33, zL_eq]
      simp only [vp_updL, if_neg (show ¬ (34 : Nat) = 33 by omega)]
      rw [v34, pk_lDiv (by omega) gp (by omega), pk_lDiv (by omega) gp (by omega), Nat.gcd_comm]
      exact ⟨_, rfl, hV, by rw [zL_eq, zL_eq]; rfl, by rw [zL_eq]; rfl⟩
    rw [y33, lg_lN0 (by omega)]
    by_cases e : zA (M.1 1) (M.1 6) h L t = 0
    · have hB1 : zB (M.1 1) (M.1 6) h L t = 1 := by unfold zB; rw [if_pos e]
      rw [if_pos e, if_pos rfl]
      exact gen (zpL Y 0 34 1) hY (by rw [zL_eq]; simp only [vp_updL, if_neg (show ¬ (33 : Nat) = 34 by omega)]; exact y33) (by rw [zL_eq, hB1]; rfl)
    · rw [if_neg e, if_neg (by decide), ← y33]
      exact gen Y hY y33 (y34 e)
  by_cases e : L = t
  · obtain ⟨Y, y1, y2, y3, y4⟩ := key fu 0 (zpL (zpL M 0 33 1) 0 34 1) (by omega) (by omega) rfl e (by rw [zL_eq, zL_eq]; rfl) (by rw [zL_eq]; rfl)
    have eA : zA (M.1 1) (M.1 6) h L t = zab (M.1 1) (M.1 6) h t := by unfold zA; rw [if_pos e]
    rw [nI_0] at y1
    rw [if_pos (by rw [e]), y1]
    exact fin Y y2 (by rw [y3, eA]) (fun q => by rw [y4 (by rw [← eA]; exact q)]; unfold zB; rw [if_neg q])
  · have eA : zA (M.1 1) (M.1 6) h L t = 0 := by unfold zA; rw [if_neg e]
    obtain ⟨f, rfl⟩ : ∃ k, fu = k + 1 := ⟨fu - 1, by omega⟩
    rw [if_neg (fun q => e ((nI_eq (by omega) (by omega)).mp q)), fm_laysOdds_L27, if_neg (show ¬ nI t ≤ (0 : Int32) from nI_ge (a := 0) (by have := hM.1; omega) (by omega)), if_pos (by rw [zL_eq, zL_eq]; exact (show lg_cmp (0 : Int64) 0 ≤ 0 by decide))]
    exact fin _ rfl (by rw [zL_eq, zL_eq, eA]; rfl) (fun q => absurd eA q)
