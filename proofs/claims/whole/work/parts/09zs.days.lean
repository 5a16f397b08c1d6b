/-! days, and what can be undone -/
theorem zkeep {S : zSt} {c o : Nat} (hc : c ≤ 8) (ho : o < 8) (e1 : S.1 59 1 = nI o) (e2 : S.1 59 2 = nI c) : ∃ (Y : zSt) (o' : Nat), fx_History_keep S = some ((), Y) ∧ o' < 8 ∧ Y.1 59 1 = nI o' ∧ Y.1 59 2 = nI (min (c + 1) 8) ∧ (∀ k, k < 12 → (k < 3 ∨ 10 ≤ k) → Y.1 (61 + 8 * ((o' + (min (c + 1) 8 - 1)) % 8)) k = S.1 11 k) ∧ (∀ d, 0 < d → d < 8 → ∀ k, k < 9 → Y.1 (61 + 8 * ((o' + (min (c + 1) 8 - 1)) % 8) + d) k = S.1 (11 + d) k) ∧ (∀ q, (q < 61 + 8 * ((o' + (min (c + 1) 8 - 1)) % 8) ∨ 69 + 8 * ((o' + (min (c + 1) 8 - 1)) % 8) ≤ q) → q ≠ 59 → Y.1 q = S.1 q) ∧ Y.2 = S.2 ∧ (∀ i, i + 1 < min (c + 1) 8 → (o' + (min (c + 1) 8 - 1 - (i + 1))) % 8 = (o + (c - 1 - i)) % 8 ∧ (o + (c - 1 - i)) % 8 ≠ (o' + (min (c + 1) 8 - 1)) % 8) := by
  have tail : ∀ (Z : zSt) (u v : Nat), u < 8 → v < 8 → Z.1 59 1 = nI u → Z.1 59 2 = nI v → (∀ q, q ≠ 59 → Z.1 q = S.1 q) → Z.2 = S.2 → ∃ Y : zSt, zck (zix ((Z.1 59 1 + Z.1 59 2) - (Z.1 59 1 + Z.1 59 2) / 8 * 8) 8) (zbd (fx_Times_copyFrom (61 + 8 * ((Z.1 59 1 + Z.1 59 2) - (Z.1 59 1 + Z.1 59 2) / 8 * 8).toNatClampNeg) 11 Z) fun _ S_5 => some ((), zpI S_5 59 2 (S_5.1 59 2 + 1))) = some ((), Y) ∧ Y.1 59 1 = nI u ∧ Y.1 59 2 = nI (v + 1) ∧ (∀ k, k < 12 → (k < 3 ∨ 10 ≤ k) → Y.1 (61 + 8 * ((u + v) % 8)) k = S.1 11 k) ∧ (∀ d, 0 < d → d < 8 → ∀ k, k < 9 → Y.1 (61 + 8 * ((u + v) % 8) + d) k = S.1 (11 + d) k) ∧ (∀ q, (q < 61 + 8 * ((u + v) % 8) ∨ 69 + 8 * ((u + v) % 8) ≤ q) → q ≠ 59 → Y.1 q = S.1 q) ∧ Y.2 = S.2 := by
    intro Z u v hu hv z1 z2 zq zl
    have hlt : (u + v) % 8 < 8 := Nat.mod_lt _ (by omega)
    have e : (Z.1 59 1 + Z.1 59 2) - (Z.1 59 1 + Z.1 59 2) / 8 * 8 = nI ((u + v) % 8) := by
      rw [z1, z2, nI_add, show (8 : Int32) = nI 8 from rfl, pk_rem (by omega) (by omega) (by omega)]
    obtain ⟨Y, c1, c2, c3, c4, c5⟩ := fx_Tcopy Z (61 + 8 * ((u + v) % 8)) 11 (by omega)
    rw [e, zix_n (by omega) (by omega), zck_t, nI_clamp (by omega), c1, zbd_s, c4 59 (by omega), z2, nI_1]
    refine ⟨_, rfl, by rw [zI_nk (by omega), c4 59 (by omega)]; exact z1, zI_at, fun k k1 k2 => by rw [zI_ne (by omega), c2 k k1 k2, zq 11 (by omega)], fun d d1 d2 k hk => by rw [zI_ne (by omega), c3 d d1 d2 k hk, zq _ (by omega)], fun q h1 h2 => by rw [zI_ne h2, c4 q (by omega), zq q h2], by show Y.2 = S.2; rw [c5, zl]⟩
  unfold fx_History_keep
  simp only [znm_q]
  by_cases c8 : c < 8
  · rw [if_pos (show S.1 59 2 < 8 by rw [e2]; exact nI_lt (b := 8) c8 (by omega))]
    obtain ⟨Y, y1, y2, y3, y4⟩ := tail S o c ho c8 e1 e2 (fun _ _ => rfl) rfl
    have em : min (c + 1) 8 = c + 1 := Nat.min_eq_left (by omega)
    rw [em, Nat.add_sub_cancel]
    exact ⟨Y, o, y1, ho, y2, y3, y4.1, y4.2.1, y4.2.2.1, y4.2.2.2, fun i hi => ⟨by rw [show c - (i + 1) = c - 1 - i by omega], by omega⟩⟩
  · obtain rfl : c = 8 := by omega
    rw [if_neg (show ¬ S.1 59 2 < 8 by rw [e2]; decide)]
    have eo : S.1 59 1 + 1 - (S.1 59 1 + 1) / 8 * 8 = nI ((o + 1) % 8) := by
      rw [e1, nI_1, show (8 : Int32) = nI 8 from rfl, pk_rem (by omega) (by omega) (by omega)]
    rw [eo]
    have hlt : (o + 1) % 8 < 8 := Nat.mod_lt _ (by omega)
    obtain ⟨Y, y1, y2, y3, y4⟩ := tail (zpI (zpI S 59 1 (nI ((o + 1) % 8))) 59 2 7) ((o + 1) % 8) 7 hlt (by omega) (by rw [zI_nk (by omega), zI_at]) zI_at (fun q hq => by rw [zI_ne hq, zI_ne hq]) rfl
    exact ⟨Y, (o + 1) % 8, y1, hlt, y2, y3, y4.1, y4.2.1, y4.2.2.1, y4.2.2.2, fun i hi => ⟨by
      show ((o + 1) % 8 + (8 - 1 - (i + 1))) % 8 = (o + (8 - 1 - i)) % 8
      omega, by
      show (o + (8 - 1 - i)) % 8 ≠ ((o + 1) % 8 + (8 - 1)) % 8
      omega⟩⟩
/-- the reference keeps a day -/
theorem fm_L48_eq {S : zSt} {a1 x5 x6 : Int32} : ∃ Y : zSt, (∀ j : zSt → Option (Int32 × zSt), fm_days_L48 a1 x5 x6 j zFU 0 S = j Y) ∧ (∀ k, k < 1260 → Y.1 3 k = S.1 3 (k + 180)) ∧ (∀ q, q ≠ 3 → Y.1 q = S.1 q) := by
  have key : ∀ (f i : Nat) (Z : zSt), i ≤ 1260 → 1260 < i + f → (∀ k, k < i → Z.1 3 k = S.1 3 (k + 180)) → (∀ k, i ≤ k → Z.1 3 k = S.1 3 k) → (∀ q, q ≠ 3 → Z.1 q = S.1 q) → ∃ Y : zSt, (∀ j : zSt → Option (Int32 × zSt), fm_days_L48 a1 x5 x6 j f (nI i) Z = j Y) ∧ (∀ k, k < 1260 → Y.1 3 k = S.1 3 (k + 180)) ∧ (∀ q, q ≠ 3 → Y.1 q = S.1 q) := by
    intro f
    induction f with
    | zero => intro i Z a b; omega
    | succ f ih =>
      intro i Z h1 h2 h3 h4 h5
      by_cases e : i = 1260
      · subst e
        exact ⟨Z, fun j => by rw [fm_days_L48, if_pos (by decide)], h3, h5⟩
      obtain ⟨Y, y1, y2⟩ := ih (i + 1) (zpI Z 3 i (S.1 3 (i + 180))) (by omega) (by omega) (fun k hk => by
        by_cases c : k = i
        · subst c; rw [zI_at]
        · rw [zI_nk c]; exact h3 k (by omega)) (fun k hk => by rw [zI_nk (by omega)]; exact h4 k (by omega)) (fun q hq => by rw [zI_ne hq]; exact h5 q hq)
      refine ⟨Y, fun j => ?_, y2⟩
      rw [fm_days_L48, if_neg (show ¬ (1260 : Int32) ≤ nI i from by rw [show (1260 : Int32) = nI 1260 from rfl]; exact nI_ge (by omega) (by omega)), show nI i + (180 : Int32) = nI (i + 180) from nI_add i 180, zix_n (show i + 180 < 1440 by omega) (by omega), zck_t, zix_n (show i < 1440 by omega) (by omega), zck_t, znm_q, znm_q, nI_clamp (n := i) (by omega), nI_clamp (n := i + 180) (by omega), h4 (i + 180) (by omega), nI_1]
      exact y1 j
  obtain ⟨Y, y1, y2⟩ := key zFU 0 S (by omega) (by unfold zFU; omega) (fun k hk => by omega) (fun _ _ => rfl) (fun _ _ => rfl)
  exact ⟨Y, fun j => by rw [← nI_0]; exact y1 j, y2⟩
theorem fm_L93_eq {S : zSt} {a1 x5 x6 : Int32} {c : Nat} (hc : c < 8) (e : S.1 0 3 = nI c) : ∃ Y : zSt, (∀ j : zSt → Option (Int32 × zSt), fm_days_L93 a1 x5 x6 j zFU 0 S = j Y) ∧ (∀ k, k < 180 → Y.1 3 (180 * c + k) = S.1 1 k) ∧ (∀ k, (k < 180 * c ∨ 180 * c + 180 ≤ k) → Y.1 3 k = S.1 3 k) ∧ (∀ q, q ≠ 3 → Y.1 q = S.1 q) := by
  have key : ∀ (f i : Nat) (Z : zSt), i ≤ 180 → 180 < i + f → (∀ k, k < i → Z.1 3 (180 * c + k) = S.1 1 k) → (∀ k, (k < 180 * c ∨ 180 * c + 180 ≤ k) → Z.1 3 k = S.1 3 k) → (∀ q, q ≠ 3 → Z.1 q = S.1 q) → ∃ Y : zSt, (∀ j : zSt → Option (Int32 × zSt), fm_days_L93 a1 x5 x6 j f (nI i) Z = j Y) ∧ (∀ k, k < 180 → Y.1 3 (180 * c + k) = S.1 1 k) ∧ (∀ k, (k < 180 * c ∨ 180 * c + 180 ≤ k) → Y.1 3 k = S.1 3 k) ∧ (∀ q, q ≠ 3 → Y.1 q = S.1 q) := by
    intro f
    induction f with
    | zero => intro i Z a b; omega
    | succ f ih =>
      intro i Z h1 h2 h3 h4 h5
      by_cases ei : i = 180
      · subst ei
        exact ⟨Z, fun j => by rw [fm_days_L93, if_pos (by decide)], h3, h4, h5⟩
      obtain ⟨Y, y1, y2⟩ := ih (i + 1) (zpI Z 3 (180 * c + i) (S.1 1 i)) (by omega) (by omega) (fun k hk => by
        by_cases d : k = i
        · subst d; rw [zI_at]
        · rw [zI_nk (by omega)]; exact h3 k (by omega)) (fun k hk => by rw [zI_nk (by omega)]; exact h4 k hk) (fun q hq => by rw [zI_ne hq]; exact h5 q hq)
      refine ⟨Y, fun j => ?_, y2⟩
      rw [fm_days_L93, if_neg (show ¬ (180 : Int32) ≤ nI i from by rw [show (180 : Int32) = nI 180 from rfl]; exact nI_ge (by omega) (by omega)), zix_n (show i < 1480 by omega) (by omega), zck_t, h5 0 (by omega), e, show (180 : Int32) * nI c + nI i = nI (180 * c + i) from by rw [show (180 : Int32) = nI 180 from rfl, pk_mul, nI_add], zix_n (show 180 * c + i < 1440 by omega) (by omega), zck_t, znm_q, znm_q, nI_clamp (n := i) (by omega), nI_clamp (n := 180 * c + i) (by omega), h5 1 (by omega), nI_1]
      exact y1 j
  obtain ⟨Y, y1, y2⟩ := key zFU 0 S (by omega) (by unfold zFU; omega) (fun k hk => by omega) (fun _ _ => rfl) (fun _ _ => rfl)
  exact ⟨Y, fun j => by rw [← nI_0]; exact y1 j, y2⟩
theorem zpush {S : zSt} {a1 x5 x6 : Int32} {c : Nat} (hc : c ≤ 8) (e : S.1 0 3 = nI c) : ∃ Y : zSt, (∀ j : zSt → Option (Int32 × zSt), (if S.1 0 3 = 8 then fm_days_L48 a1 x5 x6 (fun S_23 => fm_days_L93 a1 x5 x6 j zFU 0 (zpI S_23 0 3 (S_23.1 0 3 - 1))) zFU 0 S else fm_days_L93 a1 x5 x6 j zFU 0 S) = j Y) ∧ Y.1 0 3 = nI (min (c + 1) 8 - 1) ∧ (∀ k, k < 180 → Y.1 3 (180 * (min (c + 1) 8 - 1) + k) = S.1 1 k) ∧ (∀ i, i + 1 < min (c + 1) 8 → ∀ k, k < 180 → Y.1 3 (180 * (min (c + 1) 8 - 1 - (i + 1)) + k) = S.1 3 (180 * (c - 1 - i) + k)) ∧ (∀ q, q ≠ 0 → q ≠ 3 → Y.1 q = S.1 q) ∧ (∀ k, k ≠ 3 → Y.1 0 k = S.1 0 k) := by
  by_cases c8 : c < 8
  · have em : min (c + 1) 8 = c + 1 := Nat.min_eq_left (by omega)
    obtain ⟨Y, y1, y2, y3, y4⟩ := fm_L93_eq (S := S) (a1 := a1) (x5 := x5) (x6 := x6) c8 e
    rw [em, Nat.add_sub_cancel]
    exact ⟨Y, fun j => by rw [if_neg (fun q => by rw [e] at q; have := (nI_eq (b := 8) (by omega) (by omega)).mp q; omega)]; exact y1 j, by rw [y4 0 (by omega)]; exact e, y2, fun i hi k hk => by rw [y3 _ (by omega), show c - (i + 1) = c - 1 - i by omega], fun q _ q3 => y4 q q3, fun k _ => by rw [y4 0 (by omega)]⟩
  · obtain rfl : c = 8 := by omega
    obtain ⟨Z, z1, z2, z3⟩ := fm_L48_eq (S := S) (a1 := a1) (x5 := x5) (x6 := x6)
    have e7 : (zpI Z 0 3 (Z.1 0 3 - 1)).1 0 3 = nI 7 := by rw [zI_at, z3 0 (by omega), e]; decide
    obtain ⟨Y, y1, y2, y3, y4⟩ := fm_L93_eq (S := zpI Z 0 3 (Z.1 0 3 - 1)) (a1 := a1) (x5 := x5) (x6 := x6) (c := 7) (by omega) e7
    refine ⟨Y, fun j => by rw [if_pos (by rw [e]; rfl), z1]; exact y1 j, by rw [y4 0 (by omega)]; exact e7, fun k hk => ?_, fun i hi k hk => ?_, fun q q0 q3 => by rw [y4 q q3, zI_ne q0, z3 q q3], fun k hk => by rw [y4 0 (by omega), zI_nk hk, z3 0 (by omega)]⟩
    · have := y2 k hk
      rw [zI_ne (by omega), z3 1 (by omega)] at this
      exact this
    · show Y.1 3 (180 * (8 - 1 - (i + 1)) + k) = S.1 3 (180 * (8 - 1 - i) + k)
      have hi' : i + 1 < 8 := hi
      rw [y3 _ (by omega), zI_ne (by omega), z2 _ (by omega), show 180 * (8 - 1 - (i + 1)) + k + 180 = 180 * (8 - 1 - i) + k by omega]
/-- of what can be undone, the latest K agree -/
def rUK (x M : Nat → Nat → Int32) (n cx cm o K : Nat) : Prop := x 59 2 = nI cx ∧ M 0 3 = nI cm ∧ cx ≤ 8 ∧ cm ≤ 8 ∧ x 59 1 = nI o ∧ o < 8 ∧ (∀ i, i < K → (i < cx ↔ i < cm)) ∧ (∀ i, i < K → i < cx → i < cm → rT x (61 + 8 * ((o + (cx - 1 - i)) % 8)) (fun k => M 3 (180 * (cm - 1 - i) + k)) n ∧ zStat (M 1) (fun k => M 3 (180 * (cm - 1 - i) + k)) n)
theorem rUK_of {x M : Nat → Nat → Int32} {n c o K : Nat} (H : rU x M n c o) : rUK x M n c c o K := by
  obtain ⟨h1, h2, h3, h4, h5, h6⟩ := H
  exact ⟨h1, h2, h3, h3, h4, h5, fun _ _ => Iff.rfl, fun i _ hi _ => h6 (c - 1 - i) (by omega)⟩
theorem rUK_8 {x M : Nat → Nat → Int32} {n cx cm o : Nat} (H : rUK x M n cx cm o 8) : rU x M n cx o := by
  obtain ⟨h1, h2, h3, h4, h5, h6, h7, h8⟩ := H
  have e : cm = cx := by
    by_cases c : cx < cm
    · have := (h7 cx (by omega)).mpr c; omega
    · by_cases d : cm < cx
      · have := (h7 cm (by omega)).mp d; omega
      · omega
  subst e
  refine ⟨h1, h2, h3, h5, h6, fun j hj => ?_⟩
  have := h8 (cm - 1 - j) (by omega) (by omega) (by omega)
  rw [show cm - 1 - (cm - 1 - j) = j by omega] at this
  exact this
theorem rUK_c {x x' M M' : Nat → Nat → Int32} {n cx cm o K : Nat} (hn : n ≤ 9) (h59 : x' 59 = x 59) (hx : ∀ q, 61 ≤ q → q < 125 → x' q = x q) (h03 : M' 0 3 = M 0 3) (h3 : M' 3 = M 3) (ha : ∀ k, k < 5 → M' 1 k = M 1 k) (hs : ∀ h, h < n → ∀ k, (k < 3 ∨ 9 ≤ k) → k < 15 → M' 1 (20 + 16 * h + k) = M 1 (20 + 16 * h + k)) (H : rUK x M n cx cm o K) : rUK x' M' n cx cm o K := by
  obtain ⟨h1, h2, h4, h5, h6, h7, h8, h9⟩ := H
  refine ⟨by rw [h59]; exact h1, by rw [h03]; exact h2, h4, h5, by rw [h59]; exact h6, h7, h8, fun i i1 i2 i3 => ?_⟩
  obtain ⟨q1, q2⟩ := h9 i i1 i2 i3
  rw [h3]
  exact ⟨rT_c (fun q a b => hx q (by omega) (by omega)) (fun _ _ => rfl) (fun _ _ _ _ _ => rfl) q1, zStat_c hn ha hs (fun _ _ => rfl) q2⟩
