/-! gains -/
def zhp (a : Nat → Int32) (o : Nat → Nat) : Nat → Nat
  | 0 => 0
  | i + 1 => zht a (o i) (zhp a o i)
theorem zhp_le {a : Nat → Int32} {n : Nat} {o : Nat → Nat} (B : zBd a n) : ∀ i, (∀ k, k < i → o k < n) → zhp a o i ≤ 1097 := by
  intro i
  induction i with
  | zero => intro _; exact Nat.zero_le _
  | succ i ih =>
    intro h
    exact zht_le B (h i (by omega)) (ih (fun k hk => h k (by omega)))
theorem zhp_c {a : Nat → Int32} {o o' : Nat → Nat} : ∀ i, (∀ k, k < i → o' k = o k) → zhp a o' i = zhp a o i := by
  intro i
  induction i with
  | zero => intro _; rfl
  | succ i ih =>
    intro h
    unfold zhp
    rw [ih (fun k hk => h k (by omega)), h i (by omega)]
def zbh : Option Nat → Int32
  | none => -1
  | some g => nI g
def zgo (a : Nat → Int32) : Option Nat → Int32
  | none => 0
  | some g => nI (zlo a g / 9)
/-- what a house gains with heat t before it, one behind it or none *)-/
def zG (a : Nat → Int32) (first : Bool) (h t : Nat) (bh : Option Nat) : Int32 := (zgo a bh - (if first then 0 else nI (zlo a h / 9))) - nI (zpr a) * nI (zwd a h t)
theorem nI_m1 {n : Nat} (h : n < 2 ^ 31) : ¬ nI n = -1 := fun q => by
  have := congrArg Int32.toInt q
  rw [nI_toInt (by omega), show (-1 : Int32).toInt = -1 from by decide] at this
  omega
theorem fx_gainAt_eq {S : zSt} {a : Nat → Int32} {n p h t : Nat} {bh : Option Nat} (B : zBd a n) (H : zOx S a n) (hp : p < 9) (hh : h < n) (ht : t ≤ 1097) (hb : ∀ g, bh = some g → g < n) : fx_Lineup_gainAt S (nI p) (nI h) (nI t) (zbh bh) = some (zG a (p == 0) h t bh, S) := by
  have hn := B.n9
  have hl := (B.lo h hh).1
  unfold fx_Lineup_gainAt
  simp only [znm_q]
  rw [fx_wood_eq B H hh ht, zbd_s, zbd_s, H.pr, zix_n (show h < 9 by omega) (by omega), nI_clamp (n := h) (by omega), H.lo h hh, show (9 : Int32) = nI 9 from rfl, pk_div (by omega) (by omega) (by omega)]
  have hb' : (if zbh bh = -1 then some ((0 : Int32), S) else zck (zix (zbh bh) 9) (some (S.1 134 (zbh bh).toNatClampNeg / nI 9, S))) = some (zgo a bh, S) := by
    cases bh with
    | none => rw [show zbh none = -1 from rfl, if_pos rfl]; rfl
    | some g =>
      have hg := hb g rfl
      have hgl := (B.lo g hg).1
      rw [show zbh (some g) = nI g from rfl, if_neg (nI_m1 (by omega)), zix_n (by omega) (by omega), zck_t, nI_clamp (by omega), H.lo g hg, pk_div (by omega) (by omega) (by omega)]
      rfl
  have two : ∀ x1 : Int32, (if zbh bh = -1 then some ((0 : Int32) - x1 - nI (zpr a) * nI (zwd a h t), S) else zck (zix (zbh bh) 9) (some (S.1 134 (zbh bh).toNatClampNeg / nI 9 - x1 - nI (zpr a) * nI (zwd a h t), S))) = some (zgo a bh - x1 - nI (zpr a) * nI (zwd a h t), S) := fun x1 => by
    have hf : ∀ z : Option (Int32 × zSt), z = some (zgo a bh, S) → z.map (fun q => (q.1 - x1 - nI (zpr a) * nI (zwd a h t), q.2)) = some (zgo a bh - x1 - nI (zpr a) * nI (zwd a h t), S) := fun z hz => by rw [hz]; rfl
    rw [← hf _ hb']
    cases bh with
    | none => rw [show zbh none = -1 from rfl, if_pos rfl, if_pos rfl]; rfl
    | some g =>
      have hg := hb g rfl
      rw [show zbh (some g) = nI g from rfl, if_neg (nI_m1 (by omega)), if_neg (nI_m1 (by omega)), zix_n (by omega) (by omega), zck_t, zck_t]; rfl
  unfold zG
  by_cases c : p = 0
  · subst c
    rw [if_pos (show nI 0 ≤ 0 by decide)]
    exact two 0
  · rw [if_neg (nI_nle (by omega) (by omega)), zck_t, show (p == 0) = false from by simp [c]]
    exact two _
def zwo (a : Nat → Int32) (o : Nat → Nat) : Nat → Nat
  | 0 => 0
  | i + 1 => zwo a o i + zwd a (o i) (zhp a o i)
theorem zws_le {a : Nat → Int32} {n : Nat} {o : Nat → Nat} (B : zBd a n) : ∀ i, (∀ k, k < i → o k < n) → zwo a o i ≤ 999 * i := by
  intro i
  induction i with
  | zero => intro _; exact Nat.zero_le _
  | succ i ih =>
    intro h
    have h1 := ih (fun k hk => h k (by omega))
    have h2 := (zwd_le (t := zhp a o i) B (h i (by omega))).1
    unfold zwo
    omega
theorem fm_bakes_eq {S : zSt} {a : Nat → Int32} {n : Nat} {o : Nat → Nat} (B : zBd a n) (hS : S.1 1 = a) (ho : ∀ i, i < n → S.1 11 i = nI (o i) ∧ o i < n) : ∃ Y : zSt, fm_bakes S = some (nI (zwo a o n), Y) ∧ (∀ i, i < n → Y.1 12 i = nI (zwd a (o i) (zhp a o i))) ∧ (∀ q, q ≠ 0 → q ≠ 12 → Y.1 q = S.1 q) ∧ (∀ k, k ≠ 24 → Y.1 0 k = S.1 0 k) := by
  have hn := B.n9
  have key : ∀ (f i : Nat) (Z : zSt), i ≤ n → n < i + f → (∀ q, q ≠ 0 → q ≠ 12 → Z.1 q = S.1 q) → (∀ k, k ≠ 24 → Z.1 0 k = S.1 0 k) → Z.1 0 24 = nI (zhp a o i) → (∀ k, k < i → Z.1 12 k = nI (zwd a (o k) (zhp a o k))) → ∃ Y : zSt, fm_bakes_L9 f (nI (zwo a o i)) (nI i) Z = some (nI (zwo a o n), Y) ∧ (∀ i, i < n → Y.1 12 i = nI (zwd a (o i) (zhp a o i))) ∧ (∀ q, q ≠ 0 → q ≠ 12 → Y.1 q = S.1 q) ∧ (∀ k, k ≠ 24 → Y.1 0 k = S.1 0 k) := by
    intro f
    induction f with
    | zero => intro i Z a b; omega
    | succ f ih =>
      intro i Z h1 h2 hZ hZ0 h24 h12
      have z1 : Z.1 1 = a := by rw [hZ 1 (by omega) (by omega)]; exact hS
      rw [fm_bakes_L9, z1, B.a4]
      by_cases e : i = n
      · subst e
        rw [if_pos (nI_le (Nat.le_refl _) (by omega))]
        exact ⟨Z, rfl, h12, hZ, hZ0⟩
      obtain ⟨o1, o2⟩ := ho i (by omega)
      have hp := zhp_le B i (fun k hk => (ho k (by omega)).2)
      obtain ⟨Y, y1, y2, y3, y4⟩ := fm_heats_eq B z1 o2 h24 hp
      rw [if_neg (nI_ge (by omega) (by omega)), zix_n (show i < 9 by omega) (by omega), zck_t, nI_clamp (n := i) (by omega), hZ 11 (by omega) (by omega), o1, y1, zbd_s]
      simp only [znm_q, zck_q]
      rw [zI_at, nI_add, nI_1]
      refine ih (i + 1) _ (by omega) (by omega) (fun q a b => by rw [zI_ne b, y4 q a]; exact hZ q a b) (fun k hk => by rw [zI_ne (by omega), y3 k hk]; exact hZ0 k hk) (by rw [zI_ne (by omega)]; exact y2) (fun k hk => ?_)
      by_cases c : k = i
      · subst c; rw [zI_at]
      · rw [zI_nk c, y4 12 (by omega)]; exact h12 k (by omega)
  unfold fm_bakes
  rw [znm_q]
  exact key zFU 0 (zpI S 0 24 0) (by omega) (by unfold zFU; omega) (fun q a _ => zI_ne a) (fun k hk => zI_nk hk) zI_at (fun k hk => by omega)
/-- who stands behind place i -/
def zbb (n : Nat) (o : Nat → Nat) (i : Nat) : Option Nat := if i + 1 < n then some (o (i + 1)) else none
theorem zneg (x y : Int32) : -x + y = y - x := by
  rw [Int32.sub_eq_add_neg, Int32.add_comm]
theorem fm_gainAt_eq {S : zSt} {a : Nat → Int32} {n i : Nat} {o : Nat → Nat} (B : zBd a n) (hS : S.1 1 = a) (ho : ∀ i, i < n → S.1 11 i = nI (o i) ∧ o i < n) (h12 : ∀ i, i < n → S.1 12 i = nI (zwd a (o i) (zhp a o i))) (hi : i < n) : fm_gainAt S (nI i) = some (zG a (i == 0) (o i) (zhp a o i) (zbb n o i), S) := by
  have hn := B.n9
  obtain ⟨o1, o2⟩ := ho i hi
  have hl := (B.lo _ o2).1
  unfold fm_gainAt
  simp only [znm_q]
  rw [nI_1, hS, B.a4, zix_n (show i < 9 by omega) (by omega), nI_clamp (n := i) (by omega), o1, fm_loaf_eq B hS o2, h12 i hi, B.pr.2, zck_t, zbd_s, hS, B.a4]
  unfold zG zbb
  by_cases c : i + 1 < n
  · obtain ⟨p1, p2⟩ := ho (i + 1) c
    have hl2 := (B.lo _ p2).1
    rw [if_pos c]
    have gg : ∀ x1 : Int32, zck (zix (nI (i + 1)) 9) (zbd (fm_loaf S (S.1 11 (nI (i + 1)).toNatClampNeg)) fun r_7 S_8 => zck true (some (x1 + r_7 / 9 - S_8.1 1 2 * S_8.1 12 i, S_8))) = some (x1 + nI (zlo a (o (i + 1)) / 9) - nI (zpr a) * nI (zwd a (o i) (zhp a o i)), S) := fun x1 => by
      rw [zix_n (by omega) (by omega), zck_t, nI_clamp (by omega), p1, fm_loaf_eq B hS p2, zbd_s, zck_t, hS, B.pr.2, h12 i hi, show (9 : Int32) = nI 9 from rfl, pk_div (by omega) (by omega) (by omega)]
    rw [if_neg (nI_ge c (by omega)), if_neg (nI_ge c (by omega)), gg, gg]
    by_cases d : i = 0
    · rw [d, if_pos (show nI 0 = 0 from rfl), show ((0 : Nat) == 0) = true from rfl, if_pos rfl, Int32.zero_add, show zgo a (some (o (0 + 1))) = nI (zlo a (o (0 + 1)) / 9) from rfl, Int32.sub_zero]
    · rw [if_neg (nI_ne0 (by omega) (by omega)), show (i == 0) = false from by simp [d], zck_t, if_neg (by decide), zneg, show (9 : Int32) = nI 9 from rfl, pk_div (by omega) (by omega) (by omega)]
      rfl
  · rw [if_neg c, if_pos (nI_le (by omega) (by omega)), if_pos (nI_le (by omega) (by omega))]
    by_cases d : i = 0
    · rw [if_pos (show nI i = 0 by rw [d]; rfl), show (i == 0) = true from by simp [d], if_pos rfl]
      simp only [zgo, Int32.sub_zero, zck_q, hS, B.pr.2, h12 i hi]
    · rw [if_neg (nI_ne0 (by omega) (by omega)), show (i == 0) = false from by simp [d], zck_t, if_neg (by decide), show (9 : Int32) = nI 9 from rfl, pk_div (by omega) (by omega) (by omega)]
      simp only [zgo, Int32.zero_sub, zck_q, hS, B.pr.2, h12 i hi]
