/-! the oven, in numbers -/
theorem zgt0 {n : Nat} (h0 : 0 < n) (h : n < 2 ^ 31) : (0 : Int32) < nI n := nI_lt (a := 0) h0 h
theorem zbd_q {α β : Type} (v : α) (S : zSt) (k : α → zSt → Option β) : zbd (some (v, S)) k = k v S := (id (Eq.refl _) : zbd (some (v, S)) k = k v S)
theorem zck_q {α : Type} (k : Option α) : zck true k = k := (id (Eq.refl _) : zck true k = k)
def zlo (a : Nat → Int32) (h : Nat) : Nat := min (a (23 + 16 * h)).toNatClampNeg (a (20 + 16 * h)).toNatClampNeg
def znd (a : Nat → Int32) (h : Nat) : Nat := (a (21 + 16 * h)).toNatClampNeg
def zmi (a : Nat → Int32) (h : Nat) : Nat := (a (22 + 16 * h)).toNatClampNeg
def zpw (a : Nat → Int32) : Nat := (a 0).toNatClampNeg
def zcl (a : Nat → Int32) : Nat := (a 1).toNatClampNeg
def zpr (a : Nat → Int32) : Nat := (a 2).toNatClampNeg
def zwd (a : Nat → Int32) (h t : Nat) : Nat := if zlo a h = 0 then 0 else if znd a h ≤ t then 0 else (znd a h - t + zpw a - 1) / zpw a
def zht (a : Nat → Int32) (h t : Nat) : Nat := if zlo a h = 0 then t else t + zwd a h t * zpw a - zcl a * zmi a h
def zBd (a : Nat → Int32) (n : Nat) : Prop :=
  (n ≤ 9) ∧
  (a 4 = nI n) ∧
  (1 ≤ zpw a ∧ zpw a ≤ 99 ∧ a 0 = nI (zpw a)) ∧
  (zcl a ≤ 99 ∧ a 1 = nI (zcl a)) ∧
  (zpr a ≤ 99 ∧ a 2 = nI (zpr a)) ∧
  (∀ h, h < n → 1 ≤ znd a h ∧ znd a h ≤ 999 ∧ a (21 + 16 * h) = nI (znd a h)) ∧
  (∀ h, h < n → zmi a h ≤ 99 ∧ a (22 + 16 * h) = nI (zmi a h)) ∧
  (∀ h, h < n → zlo a h ≤ 999 ∧ ∃ d s : Nat, d ≤ 999999 ∧ s ≤ 999 ∧ a (23 + 16 * h) = nI d ∧ a (20 + 16 * h) = nI s ∧ zlo a h = min d s)
theorem zBd.n9 {a : Nat → Int32} {n : Nat} (H : zBd a n) : n ≤ 9 := H.1
theorem zBd.a4 {a : Nat → Int32} {n : Nat} (H : zBd a n) : a 4 = nI n := H.2.1
theorem zBd.pw {a : Nat → Int32} {n : Nat} (H : zBd a n) : 1 ≤ zpw a ∧ zpw a ≤ 99 ∧ a 0 = nI (zpw a) := H.2.2.1
theorem zBd.cl {a : Nat → Int32} {n : Nat} (H : zBd a n) : zcl a ≤ 99 ∧ a 1 = nI (zcl a) := H.2.2.2.1
theorem zBd.pr {a : Nat → Int32} {n : Nat} (H : zBd a n) : zpr a ≤ 99 ∧ a 2 = nI (zpr a) := H.2.2.2.2.1
theorem zBd.nd {a : Nat → Int32} {n : Nat} (H : zBd a n) : ∀ h, h < n → 1 ≤ znd a h ∧ znd a h ≤ 999 ∧ a (21 + 16 * h) = nI (znd a h) := H.2.2.2.2.2.1
theorem zBd.mi {a : Nat → Int32} {n : Nat} (H : zBd a n) : ∀ h, h < n → zmi a h ≤ 99 ∧ a (22 + 16 * h) = nI (zmi a h) := H.2.2.2.2.2.2.1
theorem zBd.lo {a : Nat → Int32} {n : Nat} (H : zBd a n) : ∀ h, h < n → zlo a h ≤ 999 ∧ ∃ d s : Nat, d ≤ 999999 ∧ s ≤ 999 ∧ a (23 + 16 * h) = nI d ∧ a (20 + 16 * h) = nI s ∧ zlo a h = min d s := H.2.2.2.2.2.2.2
theorem z_nat' {v : Int32} {l u : Nat} (h0 : (l : Int) ≤ v.toInt) (h : v.toInt ≤ (u : Int)) : v = nI v.toNatClampNeg ∧ l ≤ v.toNatClampNeg ∧ v.toNatClampNeg ≤ u := by
  obtain ⟨j, j1, j2, j3⟩ := z_nat (v := v) (by omega)
  have : v.toNatClampNeg = j := by rw [j2, nI_clamp j1]
  rw [this]
  exact ⟨j2, by omega, by omega⟩
theorem zBd_of {x : Nat → Nat → Int32} {B T n : Nat} {a : Nat → Int32} (hH : rH x B a n) (hT : rT x T a n) (hS : rS x B a) : zBd a n := by
  obtain ⟨s1, s2, s3, s4, s5, s6, s7, s8, s9⟩ := hS
  obtain ⟨p1, p2, p3⟩ := z_nat' (l := 1) (u := 99) s2 s3
  obtain ⟨c1, c2, c3⟩ := z_nat' (l := 0) (u := 99) s4 s5
  obtain ⟨r1, r2, r3⟩ := z_nat' (l := 0) (u := 99) s6 s7
  refine ⟨hH.2.2.1, hH.2.1, ⟨p2, p3, p1⟩, ⟨c3, c1⟩, ⟨r3, r1⟩, fun h hh => ?_, fun h hh => ?_, fun h hh => ?_⟩
  · obtain ⟨_, _, q1, q2, _⟩ := hH.2.2.2.2.2.1 h hh
    obtain ⟨k1, k2, k3⟩ := z_nat' (l := 1) (u := 999) q1 q2
    exact ⟨k2, k3, k1⟩
  · obtain ⟨_, _, _, _, q1, q2, _⟩ := hH.2.2.2.2.2.1 h hh
    obtain ⟨k1, k2, k3⟩ := z_nat' (l := 1) (u := 99) q1 q2
    exact ⟨k3, k1⟩
  · obtain ⟨q1, q2, _⟩ := hH.2.2.2.2.2.1 h hh
    obtain ⟨k1, k2, k3⟩ := z_nat' (l := 0) (u := 999) q1 q2
    obtain ⟨d1, d2⟩ := hT.2.2.2.2.2.2.1 h hh
    obtain ⟨l1, l2, l3⟩ := z_nat' (l := 0) (u := 999999) d1 d2
    exact ⟨by unfold zlo; omega, _, _, l3, k3, l1, k1, rfl⟩
theorem zwd_le {a : Nat → Int32} {n h t : Nat} (H : zBd a n) (hh : h < n) : zwd a h t ≤ 999 ∧ t + zwd a h t * zpw a ≤ max t 1097 := by
  obtain ⟨d1, d2, d3⟩ := H.nd h hh
  obtain ⟨p1, p2, p3⟩ := H.pw
  unfold zwd
  by_cases c : zlo a h = 0
  · rw [if_pos c]; omega
  rw [if_neg c]
  by_cases c2 : znd a h ≤ t
  · rw [if_pos c2]; omega
  rw [if_neg c2]
  have h1 := Nat.div_mul_le_self (znd a h - t + zpw a - 1) (zpw a)
  have h2 : (znd a h - t + zpw a - 1) / zpw a ≤ znd a h - t := by
    rw [Nat.div_le_iff_le_mul (by omega)]
    have : (znd a h - t) * 1 ≤ (znd a h - t) * zpw a := Nat.mul_le_mul_left _ p1
    omega
  exact ⟨by omega, by omega⟩
theorem zht_le {a : Nat → Int32} {n h t : Nat} (H : zBd a n) (hh : h < n) (ht : t ≤ 1097) : zht a h t ≤ 1097 := by
  have := (zwd_le (t := t) H hh).2
  unfold zht
  by_cases c : zlo a h = 0
  · rw [if_pos c]; exact ht
  · rw [if_neg c]; omega
/-- what the class's cells hold of it -/
def zOx (S : zSt) (a : Nat → Int32) (n : Nat) : Prop :=
  (S.1 4 0 = nI n) ∧
  (∀ h, h < n → S.1 6 h = nI (znd a h)) ∧
  (∀ h, h < n → S.1 7 h = nI (zmi a h)) ∧
  (∀ h, h < n → S.1 134 h = nI (zlo a h)) ∧
  (S.1 19 0 = nI (zpw a)) ∧
  (S.1 19 1 = nI (zcl a)) ∧
  (S.1 19 2 = nI (zpr a))
theorem zOx.ct {S : zSt} {a : Nat → Int32} {n : Nat} (H : zOx S a n) : S.1 4 0 = nI n := H.1
theorem zOx.nd {S : zSt} {a : Nat → Int32} {n : Nat} (H : zOx S a n) : ∀ h, h < n → S.1 6 h = nI (znd a h) := H.2.1
theorem zOx.mi {S : zSt} {a : Nat → Int32} {n : Nat} (H : zOx S a n) : ∀ h, h < n → S.1 7 h = nI (zmi a h) := H.2.2.1
theorem zOx.lo {S : zSt} {a : Nat → Int32} {n : Nat} (H : zOx S a n) : ∀ h, h < n → S.1 134 h = nI (zlo a h) := H.2.2.2.1
theorem zOx.pw {S : zSt} {a : Nat → Int32} {n : Nat} (H : zOx S a n) : S.1 19 0 = nI (zpw a) := H.2.2.2.2.1
theorem zOx.cl {S : zSt} {a : Nat → Int32} {n : Nat} (H : zOx S a n) : S.1 19 1 = nI (zcl a) := H.2.2.2.2.2.1
theorem zOx.pr {S : zSt} {a : Nat → Int32} {n : Nat} (H : zOx S a n) : S.1 19 2 = nI (zpr a) := H.2.2.2.2.2.2
theorem zOx.c {S S' : zSt} {a : Nat → Int32} {n : Nat} (H : zOx S a n) (h : ∀ q, (q = 4 ∨ q = 6 ∨ q = 7 ∨ q = 134 ∨ q = 19) → S'.1 q = S.1 q) : zOx S' a n :=
  ⟨by rw [h 4 (by omega)]; exact H.ct, fun k hk => by rw [h 6 (by omega)]; exact H.nd k hk, fun k hk => by rw [h 7 (by omega)]; exact H.mi k hk, fun k hk => by rw [h 134 (by omega)]; exact H.lo k hk, by rw [h 19 (by omega)]; exact H.pw, by rw [h 19 (by omega)]; exact H.cl, by rw [h 19 (by omega)]; exact H.pr⟩
theorem fx_wood_eq {S : zSt} {a : Nat → Int32} {n h t : Nat} (B : zBd a n) (H : zOx S a n) (hh : h < n) (ht : t ≤ 1097) : fx_Lineup_woodOf S (nI h) (nI t) = some (nI (zwd a h t), S) := by
  have hn := B.n9
  obtain ⟨d1, d2, d3⟩ := B.nd h hh
  obtain ⟨p1, p2, p3⟩ := B.pw
  have hl := (B.lo h hh).1
  unfold fx_Lineup_woodOf
  simp only [znm_q]
  rw [zix_n (show h < 9 by omega) (by omega), zck_t, zck_t, nI_clamp (by omega), H.nd h hh, H.lo h hh, H.pw]
  unfold zwd
  by_cases c : zlo a h = 0
  · rw [c, if_pos (show nI 0 = 0 from rfl), if_pos rfl]
    rfl
  rw [if_neg (nI_ne0 (by omega) (by omega)), if_neg c]
  by_cases c2 : znd a h ≤ t
  · rw [if_pos (show nI (znd a h) - nI t ≤ 0 from by rw [zle, pk_sub_toInt (by omega) (by omega), show (0 : Int32).toInt = 0 from rfl]; omega), if_pos c2]
    rfl
  · rw [if_neg c2, pk_sub (by omega), if_neg (nI_nle (by omega) (by omega)), if_pos (zgt0 (by omega) (by omega)), show znz (nI (zpw a)) = true from decide_eq_true (nI_ne0 (by omega) (by omega)), zck_t, nI_add, show (1 : Int32) = nI 1 from rfl, pk_sub (by omega), pk_div (by omega) (by omega) (by omega)]
theorem fx_heat_eq {S : zSt} {a : Nat → Int32} {n h t : Nat} (B : zBd a n) (H : zOx S a n) (hh : h < n) (ht : t ≤ 1097) : fx_Lineup_heatAfter S (nI h) (nI t) = some (nI (zht a h t), S) := by
  have hn := B.n9
  have hl := (B.lo h hh).1
  obtain ⟨p1, p2, p3⟩ := B.pw
  have hc := B.cl.1
  have hm := (B.mi h hh).1
  have hw := zwd_le (t := t) B hh
  unfold fx_Lineup_heatAfter
  simp only [znm_q]
  rw [zix_n (show h < 9 by omega) (by omega), zck_t, nI_clamp (by omega), H.lo h hh]
  unfold zht
  by_cases c : zlo a h = 0
  · rw [c, if_pos (show nI 0 = 0 from rfl), if_pos rfl]
  have m1 : zcl a * zmi a h ≤ 99 * 99 := Nat.mul_le_mul hc hm
  rw [if_neg (nI_ne0 (by omega) (by omega)), if_neg c, fx_wood_eq B H hh ht, zbd_s, zck_t, H.pw, H.cl, H.mi h hh, pk_mul, nI_add, pk_mul]
  by_cases d : zcl a * zmi a h < t + zwd a h t * zpw a
  · rw [pk_sub (by omega), if_pos (zgt0 (by omega) (by omega))]
  · rw [if_neg (show ¬ (0 : Int32) < nI (t + zwd a h t * zpw a) - nI (zcl a * zmi a h) from by rw [zlt, pk_sub_toInt (by omega) (by omega), show (0 : Int32).toInt = 0 from rfl]; omega), show t + zwd a h t * zpw a - zcl a * zmi a h = 0 by omega]
    rfl
/-- the class weighs the loaves -/
theorem fx_weigh_eq {X : zSt} {a : Nat → Int32} {n : Nat} (B : zBd a n) (ex : X.1 4 0 = nI n) (h5 : ∀ h, h < n → X.1 5 h = a (20 + 16 * h)) (h12 : ∀ h, h < n → X.1 12 h = a (23 + 16 * h)) : ∃ Y : zSt, fx_Lineup_weighLoaves X = some ((), Y) ∧ (∀ h, h < n → Y.1 134 h = nI (zlo a h)) ∧ (∀ q, q ≠ 134 → Y.1 q = X.1 q) ∧ Y.2 = X.2 := by
  have hn := B.n9
  have key : ∀ (f i : Nat) (S : zSt), i ≤ n → n < i + f → (∀ h, h < i → S.1 134 h = nI (zlo a h)) → (∀ q, q ≠ 134 → S.1 q = X.1 q) → S.2 = X.2 → ∃ Y : zSt, fx_Lineup_weighLoaves_L2 f (nI i) S = some ((), Y) ∧ (∀ h, h < n → Y.1 134 h = nI (zlo a h)) ∧ (∀ q, q ≠ 134 → Y.1 q = X.1 q) ∧ Y.2 = X.2 := by
    intro f
    induction f with
    | zero => intro i S a b; omega
    | succ f ih =>
      intro i S h1 h2 hS hq hS2
      rw [fx_Lineup_weighLoaves_L2, hq 4 (by omega), ex]
      by_cases e : i = n
      · subst e
        rw [if_pos (nI_le (Nat.le_refl _) (by omega))]
        exact ⟨S, rfl, hS, hq, hS2⟩
      obtain ⟨_, d, s, k1, k2, k3, k4, k5⟩ := B.lo i (by omega)
      rw [if_neg (nI_ge (by omega) (by omega)), zix_n (show i < 9 by omega) (by omega)]
      simp only [znm_q, zck_t]
      rw [nI_clamp (n := i) (by omega), nI_1, hq 12 (by omega), hq 5 (by omega), h5 i (by omega), h12 i (by omega), k3, k4, show (if nI d < nI s then nI d else nI s) = nI (zlo a i) from by
        rw [k5]
        by_cases c : d < s
        · rw [if_pos (nI_lt c (by omega)), Nat.min_eq_left (by omega)]
        · rw [if_neg (nI_nlt (by omega) (by omega)), Nat.min_eq_right (by omega)]]
      refine ih (i + 1) _ (by omega) (by omega) (fun h hh => ?_) (fun q hqq => by rw [zI_ne hqq]; exact hq q hqq) hS2
      by_cases c : h = i
      · subst c; rw [zI_at]
      · rw [zI_nk c]; exact hS h (by omega)
  unfold fx_Lineup_weighLoaves
  rw [← nI_0]
  exact key zFU 0 X (by omega) (by unfold zFU; omega) (fun h hh => by omega) (fun _ _ => rfl) rfl
theorem zOx_of {X Y : zSt} {a : Nat → Int32} {n : Nat} (B : zBd a n) (hH : rH X.1 3 a n) (hS : rS X.1 3 a) (hl : ∀ h, h < n → Y.1 134 h = nI (zlo a h)) (hq : ∀ q, (q = 4 ∨ q = 6 ∨ q = 7 ∨ q = 19) → Y.1 q = X.1 q) : zOx Y a n :=
  ⟨by rw [hq 4 (by omega)]; exact hH.1, fun h hh => by rw [hq 6 (by omega), show X.1 6 h = a (21 + 16 * h) from (hH.2.2.2.1 h hh).2.1]; exact (B.nd h hh).2.2, fun h hh => by rw [hq 7 (by omega), show X.1 7 h = a (22 + 16 * h) from (hH.2.2.2.1 h hh).2.2.1]; exact (B.mi h hh).2, hl, by rw [hq 19 (by omega), show X.1 19 0 = a 0 from hS.1 0 (by omega)]; exact B.pw.2.2, by rw [hq 19 (by omega), show X.1 19 1 = a 1 from hS.1 1 (by omega)]; exact B.cl.2, by rw [hq 19 (by omega), show X.1 19 2 = a 2 from hS.1 2 (by omega)]; exact B.pr.2⟩
/-! the reference -/
theorem fm_loaf_eq {S : zSt} {a : Nat → Int32} {n h : Nat} (B : zBd a n) (hS : S.1 1 = a) (hh : h < n) : fm_loaf S (nI h) = some (nI (zlo a h), S) := by
  have hn := B.n9
  obtain ⟨_, d, s, k1, k2, k3, k4, k5⟩ := B.lo h hh
  have o0 : fm_own S (nI h) 0 = some (nI s, S) := by
    rw [show (0 : Int32) = nI 0 from rfl, fm_own_eq (by omega) (by omega), hS, Nat.add_zero, k4]
  have o3 : fm_own S (nI h) 3 = some (nI d, S) := by
    rw [show (3 : Int32) = nI 3 from rfl, fm_own_eq (by omega) (by omega), hS, show 20 + 16 * h + 3 = 23 + 16 * h by omega, k3]
  unfold fm_loaf
  rw [o3, zbd_s, o0, zbd_s]
  simp only [znm_q]
  simp only [o0, o3, zbd_q]
  rw [k5]
  by_cases c : s ≤ d
  · rw [if_pos (nI_le c (by omega)), Nat.min_eq_right c]
  · rw [if_neg (nI_ge (by omega) (by omega)), Nat.min_eq_left (by omega)]
theorem fm_heats_eq {S : zSt} {a : Nat → Int32} {n h t : Nat} (B : zBd a n) (hS : S.1 1 = a) (hh : h < n) (h24 : S.1 0 24 = nI t) (ht : t ≤ 1097) : ∃ Y : zSt, fm_heats S (nI h) = some (nI (zwd a h t), Y) ∧ Y.1 0 24 = nI (zht a h t) ∧ (∀ k, k ≠ 24 → Y.1 0 k = S.1 0 k) ∧ (∀ q, q ≠ 0 → Y.1 q = S.1 q) := by
  have hn := B.n9
  obtain ⟨d1, d2, d3⟩ := B.nd h hh
  obtain ⟨p1, p2, p3⟩ := B.pw
  obtain ⟨c1, c2⟩ := B.cl
  obtain ⟨m1, m2⟩ := B.mi h hh
  have hl := (B.lo h hh).1
  have hw := zwd_le (t := t) B hh
  have mm : zcl a * zmi a h ≤ 99 * 99 := Nat.mul_le_mul c1 m1
  have o1 : fm_own S (nI h) 1 = some (nI (znd a h), S) := by
    rw [show (1 : Int32) = nI 1 from rfl, fm_own_eq (by omega) (by omega), hS, show 20 + 16 * h + 1 = 21 + 16 * h by omega, d3]
  have o2 : fm_own S (nI h) 2 = some (nI (zmi a h), S) := by
    rw [show (2 : Int32) = nI 2 from rfl, fm_own_eq (by omega) (by omega), hS, show 20 + 16 * h + 2 = 22 + 16 * h by omega, m2]
  unfold fm_heats
  rw [fm_loaf_eq B hS hh, zbd_s]
  by_cases c : zlo a h = 0
  · rw [c, if_pos (show nI 0 = 0 from rfl)]
    refine ⟨S, ?_, ?_, fun _ _ => rfl, fun _ _ => rfl⟩
    · unfold zwd; rw [if_pos c]; rfl
    · unfold zht; rw [if_pos c]; exact h24
  rw [if_neg (nI_ne0 (by omega) (by omega)), o1, zbd_s]
  simp only [znm_q]
  have s10 : S.1 1 0 = nI (zpw a) := by rw [hS]; exact p3
  have s11 : S.1 1 1 = nI (zcl a) := by rw [hS]; exact c2
  simp only [o1, o2, zbd_q]
  rw [h24, s10, s11, pk_mul, zI_at, show znz (nI (zpw a)) = true from decide_eq_true (nI_ne0 (by omega) (by omega)), zck_t]
  -- the end
  have fin : ∀ w : Nat, w = zwd a h t → ∃ Y : zSt, (if 0 ≤ nI t + (nI w * nI (zpw a) - nI (zcl a * zmi a h)) then some (nI w, zpI (zpI S 0 24 (nI t + (nI w * nI (zpw a) - nI (zcl a * zmi a h)))) 0 24 (nI t + (nI w * nI (zpw a) - nI (zcl a * zmi a h)))) else some (nI w, zpI (zpI S 0 24 (nI t + (nI w * nI (zpw a) - nI (zcl a * zmi a h)))) 0 24 0)) = some (nI (zwd a h t), Y) ∧ Y.1 0 24 = nI (zht a h t) ∧ (∀ k, k ≠ 24 → Y.1 0 k = S.1 0 k) ∧ (∀ q, q ≠ 0 → Y.1 q = S.1 q) := by
    intro w hw2
    subst hw2
    have e1 : nI t + (nI (zwd a h t) * nI (zpw a) - nI (zcl a * zmi a h)) = nI (t + zwd a h t * zpw a) - nI (zcl a * zmi a h) := by
      rw [pk_mul, ← nI_add]
      simp only [Int32.sub_eq_add_neg, Int32.add_assoc]
    rw [e1]
    have ez : zht a h t = t + zwd a h t * zpw a - zcl a * zmi a h := by unfold zht; rw [if_neg c]
    by_cases d : zcl a * zmi a h ≤ t + zwd a h t * zpw a
    · rw [pk_sub d, if_pos (nI_pos' (by omega)), ← ez]
      exact ⟨_, rfl, zI_at, fun k hk => by rw [zI_nk hk, zI_nk hk], fun q hq => by rw [zI_ne hq, zI_ne hq]⟩
    · rw [if_neg (show ¬ (0 : Int32) ≤ nI (t + zwd a h t * zpw a) - nI (zcl a * zmi a h) from by rw [zle, pk_sub_toInt (by omega) (by omega), show (0 : Int32).toInt = 0 from rfl]; omega)]
      exact ⟨_, rfl, by rw [zI_at, ez, show t + zwd a h t * zpw a - zcl a * zmi a h = 0 by omega]; rfl, fun k hk => by rw [zI_nk hk, zI_nk hk], fun q hq => by rw [zI_ne hq, zI_ne hq]⟩
  by_cases c2 : znd a h ≤ t
  · rw [if_neg (nI_nlt c2 (by omega)), zI_at]
    exact fin 0 (by unfold zwd; rw [if_neg c, if_pos c2])
  · rw [if_pos (nI_lt (by omega) (by omega)), pk_sub (by omega), nI_add, show (1 : Int32) = nI 1 from rfl, pk_sub (by omega), pk_div (by omega) (by omega) (by omega)]
    exact fin _ (by unfold zwd; rw [if_neg c, if_neg c2])
