/-! a rule is worked out: what a run of code, and a run of the reference's steps, comes to -/
def zop (o : Nat) (x y : Int32) : Int32 := if o = 0 then x + y else if o = 1 then x - y else x * y
def zoc (o : Nat) : Int32 := if o = 0 then -43 else if o = 1 then -45 else -42
def zcp (o : Nat) (x y : Int32) : Int32 := if o = 0 then (if x < y then 1 else 0) else if o = 1 then (if x = y then 1 else 0) else (if y < x then 1 else 0)
def zcc (o : Nat) : Int32 := if o = 0 then -60 else if o = 1 then -61 else -62
/-- what stays while the class works out a rule -/
def zWx (S S0 : zSt) (t : Nat) : Prop := (∀ q, q ≠ 133 → S.1 q = S0.1 q) ∧ S.2 = S0.2 ∧ (∀ k, k < t → S.1 133 k = S0.1 133 k)
theorem zWx.o {S S0 : zSt} {t : Nat} (H : zWx S S0 t) : ∀ q, q ≠ 133 → S.1 q = S0.1 q := H.1
theorem zWx.l {S S0 : zSt} {t : Nat} (H : zWx S S0 t) : S.2 = S0.2 := H.2.1
theorem zWx.k {S S0 : zSt} {t : Nat} (H : zWx S S0 t) : ∀ k, k < t → S.1 133 k = S0.1 133 k := H.2.2
theorem zWx.put {S : zSt} {t : Nat} {v : Int32} : zWx (zpI S 133 t v) S t := ⟨fun q hq => zI_ne hq, rfl, fun k hk => zI_nk (by omega)⟩
/-- the code p .. q - 1 comes to V, on a stack that has room for d -/
def zXe (c : Nat → Int32) (p q d : Nat) (V : (Nat → Int32) → Int32) : Prop := p < q ∧ q ≤ 400 ∧ 1 ≤ d ∧ ∀ (j : Int32 → zSt → Option (Int32 × zSt)) (len f t : Nat) (S : zSt) (F : Nat → Int32), (∀ i, p ≤ i → i < q → S.1 21 i = c i) → q ≤ len → len ≤ 400 → t + d ≤ 64 → S.1 20 1 = nI len → (∀ k, k ≤ 9 → S.1 132 k = F k) → ∃ S' : zSt, fx_Rule_worth_L5 j (f + (q - p)) (nI t) (nI p) S = fx_Rule_worth_L5 j f (nI (t + 1)) (nI q) S' ∧ S'.1 133 t = V F ∧ zWx S' S t
theorem zXe_c {c c' : Nat → Int32} {p q d : Nat} {V : (Nat → Int32) → Int32} (h : ∀ i, p ≤ i → i < q → c' i = c i) (H : zXe c p q d V) : zXe c' p q d V := ⟨H.1, H.2.1, H.2.2.1, fun j len f t S F h1 => H.2.2.2 j len f t S F (fun i a b => by rw [h1 i a b, h i a b])⟩
theorem zXe_d {c : Nat → Int32} {p q d d' : Nat} {V : (Nat → Int32) → Int32} (h : d ≤ d') (H : zXe c p q d V) : zXe c p q d' V := ⟨H.1, H.2.1, by have := H.2.2.1; omega, fun j len f t S F h1 h2 h3 h4 => H.2.2.2 j len f t S F h1 h2 h3 (by omega)⟩
section zwx
variable {j : Int32 → zSt → Option (Int32 × zSt)} {len : Nat}
theorem fx_w_val {S : zSt} {t p f : Nat} {c v : Int32} (hl : S.1 20 1 = nI len) (hlen : len ≤ 400) (hp : p < len) (hc : S.1 21 p = c) (c0 : ¬ c < 0) (ht : t < 64) (hv : fx_Rule_valueOf S c = some (v, S)) : fx_Rule_worth_L5 j (f + 1) (nI t) (nI p) S = fx_Rule_worth_L5 j f (nI (t + 1)) (nI (p + 1)) (zpI S 133 t v) := by
  rw [fx_Rule_worth_L5, hl, if_neg (nI_ge hp (by omega)), zix_n (show p < 400 by omega) (by omega), zck_t]
  simp only [znm_q]
  rw [nI_clamp (n := p) (by omega), hc, if_neg c0, if_neg (show ¬ (64 : Int32) ≤ nI t from nI_ge (b := 64) ht (by omega)), hv, zbd_s, zix_n (show t < 64 by omega) (by omega), zck_t, nI_clamp (n := t) (by omega), nI_1 t, nI_1 p]
theorem fx_w_op {S : zSt} {t p f : Nat} {c v : Int32} (hl : S.1 20 1 = nI len) (hlen : len ≤ 400) (hp : p < len) (hc : S.1 21 p = c) (c0 : c < 0) (c1 : ¬ c = -59) (c2 : ¬ c = -257) (c3 : ¬ c = -260) (ht : t + 1 < 64) (hv : fx_Rule_apply S (-c) (S.1 133 t) (S.1 133 (t + 1)) = some (v, S)) : fx_Rule_worth_L5 j (f + 1) (nI (t + 2)) (nI p) S = fx_Rule_worth_L5 j f (nI (t + 1)) (nI (p + 1)) (zpI S 133 t v) := by
  rw [fx_Rule_worth_L5, hl, if_neg (nI_ge hp (by omega)), zix_n (show p < 400 by omega) (by omega), zck_t]
  simp only [znm_q]
  rw [nI_clamp (n := p) (by omega), hc, if_pos c0, if_neg c1, if_neg c2, if_neg c3, if_neg (show ¬ nI (t + 2) ≤ (1 : Int32) from nI_ge (a := 1) (by omega) (by omega)), show nI (t + 2) - (2 : Int32) = nI t from by rw [show (2 : Int32) = nI 2 from rfl, pk_sub (by omega), show t + 2 - 2 = t by omega], show nI (t + 2) - (1 : Int32) = nI (t + 1) from nI_pred (t + 1), zix_n (show t < 64 by omega) (by omega), zck_t, zix_n (show t + 1 < 64 by omega) (by omega), zck_t, nI_clamp (n := t) (by omega), nI_clamp (n := t + 1) (by omega), hv, zbd_s, zck_t, show nI (t + 2) + (-1 : Int32) = nI (t + 1) from by rw [← Int32.sub_eq_add_neg]; exact nI_pred (t + 1), nI_1 p]
theorem fx_w_not {S : zSt} {t p f : Nat} (hl : S.1 20 1 = nI len) (hlen : len ≤ 400) (hp : p < len) (hc : S.1 21 p = -260) (ht : t < 64) : fx_Rule_worth_L5 j (f + 1) (nI (t + 1)) (nI p) S = fx_Rule_worth_L5 j f (nI (t + 1)) (nI (p + 1)) (zpI S 133 t (1 - S.1 133 t)) := by
  rw [fx_Rule_worth_L5, hl, if_neg (nI_ge hp (by omega)), zix_n (show p < 400 by omega) (by omega), zck_t]
  simp only [znm_q]
  rw [nI_clamp (n := p) (by omega), hc, if_pos (by decide), if_neg (by decide), if_neg (by decide), if_pos rfl, if_neg (nI_nle (by omega) (by omega)), nI_pred, zix_n (show t < 64 by omega) (by omega), zck_t, zck_t, nI_clamp (n := t) (by omega), nI_1 p]
end zwx
theorem fx_val_n {S : zSt} {v : Nat} (hv : v ≤ 9999) : fx_Rule_valueOf S (nI v) = some (nI v, S) := by
  unfold fx_Rule_valueOf
  rw [if_neg (show ¬ (10000 : Int32) ≤ nI v from by rw [show (10000 : Int32) = nI 10000 from rfl]; exact nI_ge (by omega) (by omega))]
theorem fx_val_f {S : zSt} {k : Nat} (hk : k ≤ 9) : fx_Rule_valueOf S (nI (10000 + k)) = some (S.1 132 k, S) := by
  unfold fx_Rule_valueOf
  simp only [znm_q]
  rw [show (10000 : Int32) = nI 10000 from rfl, if_pos (nI_le (by omega) (by omega)), pk_sub (by omega), show 10000 + k - 10000 = k by omega, if_neg (show ¬ (10 : Int32) ≤ nI k from nI_ge (b := 10) (by omega) (by omega)), zix_n (by omega) (by omega), zck_t, nI_clamp (by omega)]
theorem zxn (v : Nat) (hv : v ≤ 9999) {c : Nat → Int32} {p : Nat} (hp : p < 400) (hc : c p = nI v) : zXe c p (p + 1) 1 (fun _ => nI v) := by
  refine ⟨by omega, by omega, by omega, fun j len f t S F h1 h2 h3 h4 h5 h6 => ?_⟩
  rw [show f + (p + 1 - p) = f + 1 by omega, fx_w_val h5 h3 (by omega) ((h1 p (by omega) (by omega)).trans hc) (nI_pos (by omega)) (by omega) (fx_val_n hv)]
  exact ⟨_, rfl, zI_at, zWx.put⟩
theorem zxf (k : Nat) (hk : k ≤ 9) {c : Nat → Int32} {p : Nat} (hp : p < 400) (hc : c p = nI (10000 + k)) : zXe c p (p + 1) 1 (fun F => F k) := by
  refine ⟨by omega, by omega, by omega, fun j len f t S F h1 h2 h3 h4 h5 h6 => ?_⟩
  rw [show f + (p + 1 - p) = f + 1 by omega, fx_w_val h5 h3 (by omega) ((h1 p (by omega) (by omega)).trans hc) (nI_pos (by omega)) (by omega) (fx_val_f hk), h6 k hk]
  exact ⟨_, rfl, zI_at, zWx.put⟩
/-- two runs and an operator behind them -/
theorem zx2 {c : Nat → Int32} {p m n d e : Nat} {V W : (Nat → Int32) → Int32} {k : Int32} (g : Int32 → Int32 → Int32) (ha : ∀ (S : zSt) (x : Int32) (F : Nat → Int32), fx_Rule_apply S (-k) x (W F) = some (g x (W F), S)) (k0 : k < 0) (k1 : ¬ k = -59) (k2 : ¬ k = -257) (k3 : ¬ k = -260) (H : zXe c p m d V) (G : zXe c m n e W) (hn : n < 400) (hc : c n = k) : zXe c p (n + 1) (max d (1 + e)) (fun F => g (V F) (W F)) := by
  have l1 := H.1
  have l2 := G.1
  have e1 := G.2.2.1
  refine ⟨by omega, by omega, by omega, fun j len f t S F h1 h2 h3 h4 h5 h6 => ?_⟩
  obtain ⟨A, a1, a2, a3⟩ := H.2.2.2 j len (f + 1 + (n - m)) t S F (fun i a b => h1 i a (by omega)) (by omega) h3 (by omega) h5 h6
  obtain ⟨C, c1, c2, c3⟩ := G.2.2.2 j len (f + 1) (t + 1) A F (fun i a b => by rw [a3.o 21 (by omega)]; exact h1 i (by omega) (by omega)) (by omega) h3 (by omega) (by rw [a3.o 20 (by omega)]; exact h5) (fun k hk => by rw [a3.o 132 (by omega)]; exact h6 k hk)
  have g1 : C.1 133 t = V F := by rw [c3.k t (by omega)]; exact a2
  rw [show f + (n + 1 - p) = f + 1 + (n - m) + (m - p) by omega, a1, c1, fx_w_op (v := g (V F) (W F)) (by rw [c3.o 20 (by omega), a3.o 20 (by omega)]; exact h5) h3 (by omega) (by rw [c3.o 21 (by omega), a3.o 21 (by omega), h1 n (by omega) (by omega)]; exact hc) k0 k1 k2 k3 (by omega) (by rw [g1, c2]; exact ha C _ F)]
  exact ⟨_, rfl, zI_at, ⟨fun q hq => by rw [zI_ne hq, c3.o q hq, a3.o q hq], by show C.2 = S.2; rw [c3.l, a3.l], fun k hk => by rw [zI_nk (by omega), c3.k k (by omega), a3.k k hk]⟩⟩
theorem zx1 {c : Nat → Int32} {p m d : Nat} {V : (Nat → Int32) → Int32} (H : zXe c p m d V) (hm : m < 400) (hc : c m = -260) : zXe c p (m + 1) d (fun F => 1 - V F) := by
  have l1 := H.1
  have d1 := H.2.2.1
  refine ⟨by omega, by omega, d1, fun j len f t S F h1 h2 h3 h4 h5 h6 => ?_⟩
  obtain ⟨A, a1, a2, a3⟩ := H.2.2.2 j len (f + 1) t S F (fun i a b => h1 i a (by omega)) (by omega) h3 (by omega) h5 h6
  rw [show f + (m + 1 - p) = f + 1 + (m - p) by omega, a1, fx_w_not (by rw [a3.o 20 (by omega)]; exact h5) h3 (by omega) (by rw [a3.o 21 (by omega), h1 m (by omega) (by omega)]; exact hc) (by omega), a2]
  exact ⟨_, rfl, zI_at, ⟨fun q hq => by rw [zI_ne hq, a3.o q hq], a3.l, fun k hk => by rw [zI_nk (by omega), a3.k k hk]⟩⟩
theorem fx_ap_op {S : zSt} {o : Nat} {x y : Int32} (ho : o ≤ 2) : fx_Rule_apply S (-zoc o) x y = some (zop o x y, S) := by
  rcases (show o = 0 ∨ o = 1 ∨ o = 2 by omega) with rfl | rfl | rfl
  · show fx_Rule_apply S 43 x y = some (x + y, S)
    unfold fx_Rule_apply
    rw [if_neg (by decide), if_pos (by decide)]
  · show fx_Rule_apply S 45 x y = some (x - y, S)
    unfold fx_Rule_apply
    rw [if_neg (by decide), if_neg (by decide), if_pos (by decide)]
  · show fx_Rule_apply S 42 x y = some (x * y, S)
    unfold fx_Rule_apply
    rw [if_pos (by decide)]
theorem fx_ap_cmp {S : zSt} {o : Nat} {x y : Int32} (ho : o ≤ 2) : fx_Rule_apply S (-zcc o) x y = some (zcp o x y, S) := by
  rcases (show o = 0 ∨ o = 1 ∨ o = 2 by omega) with rfl | rfl | rfl
  · show fx_Rule_apply S 60 x y = some ((if x < y then 1 else 0), S)
    unfold fx_Rule_apply
    simp only [znm_q]
    rw [if_neg (by decide), if_neg (by decide), if_neg (by decide), if_neg (by decide), if_pos (by decide)]
    by_cases h : x < y
    · rw [if_pos h, if_neg (fun q => (znlt.mpr q) h)]
    · rw [if_neg h, if_pos (znlt.mp h)]
  · show fx_Rule_apply S 61 x y = some ((if x = y then 1 else 0), S)
    unfold fx_Rule_apply
    simp only [znm_q]
    rw [if_neg (by decide), if_neg (by decide), if_neg (by decide), if_neg (by decide), if_neg (by decide), if_pos (by decide)]
    by_cases h : x = y
    · rw [if_pos h, if_pos h]
    · rw [if_neg h, if_neg h]
  · show fx_Rule_apply S 62 x y = some ((if y < x then 1 else 0), S)
    unfold fx_Rule_apply
    simp only [znm_q]
    rw [if_neg (by decide), if_neg (by decide), if_neg (by decide), if_neg (by decide), if_neg (by decide), if_neg (by decide), if_pos (by decide)]
    by_cases h : y < x
    · rw [if_pos h, if_neg (fun q => (znlt.mpr q) h)]
    · rw [if_neg h, if_pos (znlt.mp h)]
theorem fx_ap_div {S : zSt} {v : Nat} {x : Int32} (h1 : 1 ≤ v) (h2 : v ≤ 9999) : fx_Rule_apply S (-(-47)) x (nI v) = some (x / nI v, S) := by
  unfold fx_Rule_apply
  simp only [znm_q]
  rw [if_neg (by decide), if_neg (by decide), if_neg (by decide), if_pos (by decide), if_neg (nI_ne0 (by omega) (by omega)), show znz (nI v) = true from decide_eq_true (nI_ne0 (by omega) (by omega)), zck_t]
theorem fx_ap_and {S : zSt} {x y : Int32} : fx_Rule_apply S (-(-259)) x y = some (x &&& y, S) := by
  unfold fx_Rule_apply
  rw [if_neg (by decide), if_neg (by decide), if_neg (by decide), if_neg (by decide), if_neg (by decide), if_neg (by decide), if_neg (by decide), if_pos (by decide)]
theorem fx_ap_or {S : zSt} {x y : Int32} : fx_Rule_apply S (-(-258)) x y = some (x ||| y, S) := by
  unfold fx_Rule_apply
  rw [if_neg (by decide), if_neg (by decide), if_neg (by decide), if_neg (by decide), if_neg (by decide), if_neg (by decide), if_neg (by decide), if_neg (by decide)]
theorem zoc_s (o : Nat) : zoc o < 0 ∧ ¬ zoc o = -59 ∧ ¬ zoc o = -257 ∧ ¬ zoc o = -260 := by
  unfold zoc
  by_cases h : o = 0
  · rw [if_pos h]; decide
  · rw [if_neg h]
    by_cases h2 : o = 1
    · rw [if_pos h2]; decide
    · rw [if_neg h2]; decide
theorem zcc_s (o : Nat) : zcc o < 0 ∧ ¬ zcc o = -59 ∧ ¬ zcc o = -257 ∧ ¬ zcc o = -260 := by
  unfold zcc
  by_cases h : o = 0
  · rw [if_pos h]; decide
  · rw [if_neg h]
    by_cases h2 : o = 1
    · rw [if_pos h2]; decide
    · rw [if_neg h2]; decide
/-! the reference's steps -/
def zMe (a : Nat → Int32) (p q d : Nat) (V : (Nat → Int32) → Int32) : Prop := p < q ∧ q ≤ 400 ∧ 1 ≤ d ∧ ∀ (en f t : Nat) (S : zSt) (F : Nat → Int32), (∀ i, 660 + 2 * p ≤ i → i < 660 + 2 * q → S.1 1 i = a i) → q ≤ en → en ≤ 400 → t + d ≤ 400 → (∀ k, k ≤ 9 → S.1 8 (k + 1) = F k) → ∃ S' : zSt, fm_comesTo_L5 (nI en) (f + (q - p)) (nI t) (nI p) S = fm_comesTo_L5 (nI en) f (nI (t + 1)) (nI q) S' ∧ S'.1 7 t = V F ∧ (∀ q, q ≠ 7 → S'.1 q = S.1 q) ∧ (∀ k, k < t → S'.1 7 k = S.1 7 k)
theorem zMe_c {a a' : Nat → Int32} {p q d : Nat} {V : (Nat → Int32) → Int32} (h : ∀ i, 660 + 2 * p ≤ i → i < 660 + 2 * q → a' i = a i) (H : zMe a p q d V) : zMe a' p q d V := ⟨H.1, H.2.1, H.2.2.1, fun en f t S F h1 => H.2.2.2 en f t S F (fun i x y => by rw [h1 i x y, h i x y])⟩
theorem zMe_d {a : Nat → Int32} {p q d d' : Nat} {V : (Nat → Int32) → Int32} (h : d ≤ d') (H : zMe a p q d V) : zMe a p q d' V := ⟨H.1, H.2.1, by have := H.2.2.1; omega, fun en f t S F h1 h2 h3 h4 => H.2.2.2 en f t S F h1 h2 h3 (by omega)⟩
theorem zst2 (p : Nat) : (660 : Int32) + (2 : Int32) * nI p = nI (660 + 2 * p) := by
  rw [show (2 : Int32) = nI 2 from rfl, show (660 : Int32) = nI 660 from rfl, pk_mul, nI_add]
theorem zmn {a : Nat → Int32} {p : Nat} (hp : p < 400) (s v : Int32) (V : (Nat → Int32) → Int32) (hs : a (660 + 2 * p) = s) (hv : a (661 + 2 * p) = v) (h : (s = 0 ∧ V = fun _ => v) ∨ (∃ k : Nat, k ≤ 9 ∧ s = nI (k + 1) ∧ V = fun F => F k)) : zMe a p (p + 1) 1 V := by
  refine ⟨by omega, by omega, by omega, fun en f t S F h1 h2 h3 h4 h5 => ?_⟩
  have e1 : S.1 1 (660 + 2 * p) = s := by rw [h1 _ (by omega) (by omega)]; exact hs
  have e2 : S.1 1 (660 + 2 * p + 1) = v := by rw [h1 _ (by omega) (by omega), show 660 + 2 * p + 1 = 661 + 2 * p by omega]; exact hv
  rw [show f + (p + 1 - p) = f + 1 by omega, fm_comesTo_L5, if_neg (nI_ge (by omega) (by omega)), zst2, zix_n (show 660 + 2 * p < 1480 by omega) (by omega), zck_t, nI_1 (660 + 2 * p), zix_n (show 660 + 2 * p + 1 < 1480 by omega) (by omega)]
  simp only [znm_q, zck_q]
  rw [nI_clamp (n := 660 + 2 * p) (by omega), nI_clamp (n := 660 + 2 * p + 1) (by omega), e1, e2, zix_n (show t < 420 by omega) (by omega), zck_t, zck_t, nI_clamp (n := t) (by omega), nI_1 t, nI_1 p]
  rcases h with ⟨rfl, rfl⟩ | ⟨k, hk, rfl, rfl⟩
  · rw [if_neg (by decide), if_pos rfl]
    exact ⟨_, rfl, zI_at, fun q hq => zI_ne hq, fun k hk => zI_nk (by omega)⟩
  · rw [if_neg (show ¬ (13 : Int32) ≤ nI (k + 1) from nI_ge (b := 13) (by omega) (by omega)), if_neg (nI_ne0 (by omega) (by omega)), zix_n (by omega) (by omega), zck_t, nI_clamp (by omega), h5 k hk]
    exact ⟨_, rfl, zI_at, fun q hq => zI_ne hq, fun k hk => zI_nk (by omega)⟩
theorem zm2 {a : Nat → Int32} {p m n d e s : Nat} {V W : (Nat → Int32) → Int32} (g : Int32 → Int32 → Int32) (ha : ∀ (S : zSt) (x y : Int32), fm_both S (nI s) x y = some (g x y, S)) (s1 : 13 ≤ s) (s2 : s ≤ 22) (s3 : s ≠ 16) (s4 : s ≠ 20) (H : zMe a p m d V) (G : zMe a m n e W) (hn : n < 400) (hc : a (660 + 2 * n) = nI s) : zMe a p (n + 1) (max d (1 + e)) (fun F => g (V F) (W F)) := by
  have l1 := H.1
  have l2 := G.1
  have e1 := G.2.2.1
  refine ⟨by omega, by omega, by omega, fun en f t S F h1 h2 h3 h4 h5 => ?_⟩
  obtain ⟨A, a1, a2, a3, a4⟩ := H.2.2.2 en (f + 1 + (n - m)) t S F (fun i x y => h1 i x (by omega)) (by omega) h3 (by omega) h5
  obtain ⟨C, c1, c2, c3, c4⟩ := G.2.2.2 en (f + 1) (t + 1) A F (fun i x y => by rw [a3 1 (by omega)]; exact h1 i (by omega) (by omega)) (by omega) h3 (by omega) (fun k hk => by rw [a3 8 (by omega)]; exact h5 k hk)
  have g1 : C.1 7 t = V F := by rw [c4 t (by omega)]; exact a2
  have g2 : C.1 1 (660 + 2 * n) = nI s := by rw [c3 1 (by omega), a3 1 (by omega), h1 _ (by omega) (by omega)]; exact hc
  rw [show f + (n + 1 - p) = f + 1 + (n - m) + (m - p) by omega, a1, c1, fm_comesTo_L5, if_neg (nI_ge (by omega) (by omega)), zst2, zix_n (show 660 + 2 * n < 1480 by omega) (by omega), zck_t, nI_1 (660 + 2 * n), zix_n (show 660 + 2 * n + 1 < 1480 by omega) (by omega)]
  simp only [znm_q, zck_q]
  rw [nI_clamp (n := 660 + 2 * n) (by omega), g2, if_pos (show (13 : Int32) ≤ nI s from nI_le (a := 13) s1 (by omega)), if_neg (show ¬ nI s = 16 from fun q => s3 ((nI_eq (b := 16) (by omega) (by omega)).mp q)), if_neg (show ¬ nI s = 20 from fun q => s4 ((nI_eq (b := 20) (by omega) (by omega)).mp q)), show nI (t + 1 + 1) + (-1 : Int32) = nI (t + 1) from by rw [← Int32.sub_eq_add_neg]; exact nI_pred (t + 1), nI_pred, zix_n (show t < 420 by omega) (by omega), zck_t, zix_n (show t + 1 < 420 by omega) (by omega), zck_t, nI_clamp (n := t) (by omega), nI_clamp (n := t + 1) (by omega), g1, c2, ha, zbd_s, zck_t, nI_1 n]
  exact ⟨_, rfl, zI_at, fun q hq => by rw [zI_ne hq, c3 q hq, a3 q hq], fun k hk => by rw [zI_nk (by omega), c4 k (by omega), a4 k hk]⟩
/-- a step that works on the last value alone -/
theorem zm1 {a : Nat → Int32} {p m d : Nat} {V : (Nat → Int32) → Int32} (s v : Int32) (g : Int32 → Int32) (h : (s = 20 ∧ g = fun x => 1 - x) ∨ (s = 16 ∧ ¬ v = 0 ∧ g = fun x => x / v)) (H : zMe a p m d V) (hm : m < 400) (hs : a (660 + 2 * m) = s) (hv : s = 16 → a (661 + 2 * m) = v) : zMe a p (m + 1) d (fun F => g (V F)) := by
  have l1 := H.1
  have d1 := H.2.2.1
  refine ⟨by omega, by omega, d1, fun en f t S F h1 h2 h3 h4 h5 => ?_⟩
  obtain ⟨A, a1, a2, a3, a4⟩ := H.2.2.2 en (f + 1) t S F (fun i x y => h1 i x (by omega)) (by omega) h3 (by omega) h5
  have g2 : A.1 1 (660 + 2 * m) = s := by rw [a3 1 (by omega), h1 _ (by omega) (by omega)]; exact hs
  rw [show f + (m + 1 - p) = f + 1 + (m - p) by omega, a1, fm_comesTo_L5, if_neg (nI_ge (by omega) (by omega)), zst2, zix_n (show 660 + 2 * m < 1480 by omega) (by omega), zck_t, nI_1 (660 + 2 * m), zix_n (show 660 + 2 * m + 1 < 1480 by omega) (by omega)]
  simp only [znm_q, zck_q]
  rw [nI_clamp (n := 660 + 2 * m) (by omega), g2, nI_pred, nI_clamp (n := t) (by omega), a2, zix_n (show t < 420 by omega) (by omega), nI_1 m]
  simp only [zck_q]
  rcases h with ⟨rfl, rfl⟩ | ⟨rfl, v0, rfl⟩
  · rw [if_pos (by decide), if_neg (by decide), if_pos rfl]
    exact ⟨_, rfl, zI_at, fun q hq => by rw [zI_ne hq, a3 q hq], fun k hk => by rw [zI_nk (by omega), a4 k hk]⟩
  · have g3 : A.1 1 (660 + 2 * m + 1) = v := by rw [a3 1 (by omega), h1 _ (by omega) (by omega), show 660 + 2 * m + 1 = 661 + 2 * m by omega]; exact hv rfl
    rw [if_pos (by decide), if_pos rfl, nI_clamp (n := 660 + 2 * m + 1) (by omega), g3, show znz v = true from decide_eq_true v0, zck_t]
    exact ⟨_, rfl, zI_at, fun q hq => by rw [zI_ne hq, a3 q hq], fun k hk => by rw [zI_nk (by omega), a4 k hk]⟩
theorem fm_bo_op {S : zSt} {o : Nat} {x y : Int32} (ho : o ≤ 2) : fm_both S (nI (13 + o)) x y = some (zop o x y, S) := by
  unfold fm_both
  simp only [znm_q]
  rcases (show o = 0 ∨ o = 1 ∨ o = 2 by omega) with rfl | rfl | rfl
  · rw [if_pos (by decide)]; rfl
  · rw [if_neg (by decide), if_pos (by decide)]; rfl
  · rw [if_neg (by decide), if_neg (by decide), if_pos (by decide)]; rfl
theorem fm_bo_cmp {S : zSt} {o : Nat} {x y : Int32} (ho : o ≤ 2) : fm_both S (nI (17 + o)) x y = some (zcp o x y, S) := by
  unfold fm_both
  simp only [znm_q]
  rcases (show o = 0 ∨ o = 1 ∨ o = 2 by omega) with rfl | rfl | rfl
  · rw [if_neg (by decide), if_neg (by decide), if_neg (by decide), if_neg (by decide), if_pos (by decide)]
    show _ = some ((if x < y then 1 else 0), S)
    by_cases h : x < y
    · rw [if_pos h, if_neg (fun q => (znlt.mpr q) h)]
    · rw [if_neg h, if_pos (znlt.mp h)]
  · rw [if_neg (by decide), if_neg (by decide), if_neg (by decide), if_neg (by decide), if_neg (by decide), if_pos (by decide)]
    show _ = some ((if x = y then 1 else 0), S)
    by_cases h : x = y
    · rw [if_pos h, if_pos h]
    · rw [if_neg h, if_neg h]
  · rw [if_neg (by decide), if_neg (by decide), if_neg (by decide), if_neg (by decide), if_neg (by decide), if_neg (by decide), if_pos (by decide)]
    show _ = some ((if y < x then 1 else 0), S)
    by_cases h : y < x
    · rw [if_pos h, if_neg (fun q => (znlt.mpr q) h)]
    · rw [if_neg h, if_pos (znlt.mp h)]
theorem fm_bo_and {S : zSt} {x y : Int32} : fm_both S (nI 21) x y = some (x &&& y, S) := by
  unfold fm_both
  simp only [znm_q]
  rw [if_neg (by decide), if_neg (by decide), if_neg (by decide), if_neg (by decide), if_neg (by decide), if_neg (by decide), if_neg (by decide), if_neg (by decide), if_pos (by decide)]
theorem fm_bo_or {S : zSt} {x y : Int32} : fm_both S (nI 22) x y = some (x ||| y, S) := by
  unfold fm_both
  simp only [znm_q]
  rw [if_neg (by decide), if_neg (by decide), if_neg (by decide), if_neg (by decide), if_neg (by decide), if_neg (by decide), if_neg (by decide), if_neg (by decide), if_neg (by decide)]
