/-! who would change -/
def zWo (a : Nat → Int32) (p h g t : Nat) (bh : Option Nat) : Bool := decide (zG a false g (zht a h t) bh < zG a (p == 0) g t (some h)) && decide (zG a (p == 0) h t (some g) < zG a false h (zht a g t) bh)
def zwc (a : Nat → Int32) (n : Nat) (o : Nat → Nat) (i : Nat) : Bool := zWo a i (o i) (o (i + 1)) (zhp a o i) (zbb n o (i + 1))
theorem znlt {a b : Int32} : ¬ a < b ↔ b ≤ a := by rw [zlt, zle]; omega
theorem fx_would_eq {S : zSt} {a : Nat → Int32} {n p h g t : Nat} {bh : Option Nat} (B : zBd a n) (H : zOx S a n) (hp : p + 1 < 9) (hh : h < n) (hg : g < n) (ht : t ≤ 1097) (hb : ∀ k, bh = some k → k < n) (e1 : S.1 129 p = nI h) (e2 : S.1 129 (p + 1) = nI g) (e3 : S.1 135 p = nI t) : fx_Lineup_wouldChange S (nI p) (zbh bh) = some (if zWo a p h g t bh then 1 else 0, S) := by
  have g1 := fx_gainAt_eq (p := p) (bh := some h) B H (by omega) hg ht (fun k q => by cases q; exact hh)
  have g2 := fx_gainAt_eq (p := p + 1) (bh := bh) B H (by omega) hg (zht_le B hh ht) hb
  have g3 := fx_gainAt_eq (p := p + 1) (bh := bh) B H (by omega) hh (zht_le B hg ht) hb
  have g4 := fx_gainAt_eq (p := p) (bh := some g) B H (by omega) hh ht (fun k q => by cases q; exact hg)
  rw [show zbh (some h) = nI h from rfl] at g1
  rw [show zbh (some g) = nI g from rfl] at g4
  rw [show ((p + 1) == 0) = false from rfl] at g2 g3
  unfold fx_Lineup_wouldChange
  simp only [znm_q]
  rw [nI_1, zix_n (show p < 9 by omega) (by omega), zck_t, zix_n (show p + 1 < 9 by omega) (by omega), zck_t, zix_n (show p < 10 by omega) (by omega), zck_t, nI_clamp (n := p) (by omega), nI_clamp (n := p + 1) (by omega), e1, e2, e3, g1, zbd_s, fx_heat_eq B H hh ht, zbd_s, g2, zbd_s, fx_heat_eq B H hg ht, zbd_s, g3, zbd_s, g4, zbd_s]
  unfold zWo
  by_cases c1 : zG a false g (zht a h t) bh < zG a (p == 0) g t (some h)
  · rw [if_neg (fun q => (znlt.mpr q) c1), decide_eq_true c1, Bool.true_and]
    by_cases c2 : zG a (p == 0) h t (some g) < zG a false h (zht a g t) bh
    · rw [if_neg (fun q => (znlt.mpr q) c2), decide_eq_true c2, if_pos rfl, zbo_1, zck_t]
    · rw [if_pos (znlt.mp c2), decide_eq_false c2, if_neg (by decide), zbo_0, zck_t]
  · rw [if_pos (znlt.mp c1), decide_eq_false c1, Bool.false_and, if_neg (by decide), zbo_0, zck_t]
/-! the reference -/
def zsw (o : Nat → Nat) (i k : Nat) : Nat := if k = i then o (i + 1) else if k = i + 1 then o i else o k
theorem fm_exch_eq {S : zSt} {i : Nat} (hi : i + 1 < 9) : ∃ Y : zSt, fm_exchanges S (nI i) = some ((), Y) ∧ (∀ k, Y.1 11 k = if k = i then S.1 11 (i + 1) else if k = i + 1 then S.1 11 i else S.1 11 k) ∧ (∀ q, q ≠ 11 → Y.1 q = S.1 q) := by
  unfold fm_exchanges
  simp only [znm_q]
  rw [nI_1, zix_n (show i < 9 by omega) (by omega), zck_t, zix_n (show i + 1 < 9 by omega) (by omega), zck_t, zck_t, zck_t, nI_clamp (n := i) (by omega), nI_clamp (n := i + 1) (by omega)]
  refine ⟨_, rfl, fun k => ?_, fun q hq => by rw [zI_ne hq, zI_ne hq]⟩
  by_cases c : k = i + 1
  · subst c
    rw [zI_at, if_neg (by omega), if_pos rfl]
  · rw [zI_nk c]
    by_cases d : k = i
    · subst d
      rw [zI_at, if_pos rfl]
    · rw [zI_nk d, if_neg d, if_neg c]
theorem fm_would_eq {S : zSt} {a : Nat → Int32} {n i : Nat} {o : Nat → Nat} (B : zBd a n) (hS : S.1 1 = a) (ho : ∀ i, i < n → S.1 11 i = nI (o i) ∧ o i < n) (hi : i + 1 < n) : ∃ Y : zSt, fm_wouldChange S (nI i) = some (if zwc a n o i then 1 else 0, Y) ∧ (∀ q, q ≠ 0 → q ≠ 12 → Y.1 q = S.1 q) ∧ (∀ k, k ≠ 24 → Y.1 0 k = S.1 0 k) := by
  have hn := B.n9
  obtain ⟨S1, a1, a2, a3, a4⟩ := fm_bakes_eq B hS ho
  have s1 : S1.1 1 = a := by rw [a3 1 (by omega) (by omega)]; exact hS
  have o1 : ∀ i, i < n → S1.1 11 i = nI (o i) ∧ o i < n := fun i hi => by rw [a3 11 (by omega) (by omega)]; exact ho i hi
  have ga := fm_gainAt_eq B s1 o1 a2 (show i < n by omega)
  have gb := fm_gainAt_eq B s1 o1 a2 hi
  obtain ⟨S2, b1, b2, b3⟩ := fm_exch_eq (S := S1) (i := i) (by omega)
  have s2 : S2.1 1 = a := by rw [b3 1 (by omega)]; exact s1
  have o2 : ∀ k, k < n → S2.1 11 k = nI (zsw o i k) ∧ zsw o i k < n := fun k hk => by
    rw [b2 k]
    unfold zsw
    by_cases c : k = i
    · rw [if_pos c, if_pos c]; exact o1 (i + 1) hi
    · rw [if_neg c, if_neg c]
      by_cases d : k = i + 1
      · rw [if_pos d, if_pos d]; exact o1 i (by omega)
      · rw [if_neg d, if_neg d]; exact o1 k hk
  obtain ⟨S3, c1, c2, c3, c4⟩ := fm_bakes_eq B s2 o2
  have s3 : S3.1 1 = a := by rw [c3 1 (by omega) (by omega)]; exact s2
  have o3 : ∀ k, k < n → S3.1 11 k = nI (zsw o i k) ∧ zsw o i k < n := fun k hk => by rw [c3 11 (by omega) (by omega)]; exact o2 k hk
  have gc := fm_gainAt_eq B s3 o3 c2 hi
  have gd := fm_gainAt_eq B s3 o3 c2 (show i < n by omega)
  have hpi : zhp a (zsw o i) i = zhp a o i := zhp_c i (fun k hk => by unfold zsw; rw [if_neg (by omega), if_neg (by omega)])
  have hp1 : zhp a (zsw o i) (i + 1) = zht a (o (i + 1)) (zhp a o i) := by
    rw [zhp, hpi, show zsw o i i = o (i + 1) from by unfold zsw; rw [if_pos rfl]]
  have e1 : zsw o i (i + 1) = o i := by unfold zsw; rw [if_neg (by omega), if_pos rfl]
  have e0 : zsw o i i = o (i + 1) := by unfold zsw; rw [if_pos rfl]
  have bb1 : zbb n (zsw o i) (i + 1) = zbb n o (i + 1) := by
    unfold zbb
    by_cases c : i + 1 + 1 < n
    · rw [if_pos c, if_pos c, show zsw o i (i + 1 + 1) = o (i + 1 + 1) from by unfold zsw; rw [if_neg (by omega), if_neg (by omega)]]
    · rw [if_neg c, if_neg c]
  have bb0 : zbb n (zsw o i) i = some (o i) := by unfold zbb; rw [if_pos hi, e1]
  have bo : zbb n o i = some (o (i + 1)) := by unfold zbb; rw [if_pos hi]
  rw [e1, hp1, bb1, show ((i + 1) == 0) = false from rfl] at gc
  rw [e0, hpi, bb0] at gd
  rw [bo] at ga
  rw [show ((i + 1) == 0) = false from rfl, show zhp a o (i + 1) = zht a (o i) (zhp a o i) from rfl] at gb
  obtain ⟨S4, d1, d2, d3⟩ := fm_exch_eq (S := S3) (i := i) (by omega)
  have back : ∀ q, q ≠ 0 → q ≠ 12 → S4.1 q = S.1 q := fun q q0 q12 => by
    by_cases c : q = 11
    · subst c
      funext k
      rw [d2 k, c3 11 (by omega) (by omega), b2, b2, b2, if_neg (show ¬ i + 1 = i by omega), if_pos rfl, if_pos rfl, a3 11 (by omega) (by omega)]
      by_cases c : k = i
      · rw [if_pos c, c]
      · rw [if_neg c]
        by_cases d : k = i + 1
        · rw [if_pos d, d]
        · rw [if_neg d, if_neg c, if_neg d]
    · rw [d3 q c, c3 q q0 q12, b3 q c, a3 q q0 q12]
  have b0 : ∀ k, k ≠ 24 → S4.1 0 k = S.1 0 k := fun k hk => by rw [d3 0 (by omega), c4 k hk, b3 0 (by omega), a4 k hk]
  refine ⟨S4, ?_, back, b0⟩
  unfold fm_wouldChange
  rw [a1, zbd_s, ga, zbd_s, nI_1, gb, zbd_s, b1, zbd_s, c1, zbd_s, gc, zbd_s]
  simp only [znm_q]
  simp only [gd, d1, zbd_q]
  unfold zwc zWo
  by_cases c2 : zG a (i == 0) (o i) (zhp a o i) (some (o (i + 1))) < zG a false (o i) (zht a (o (i + 1)) (zhp a o i)) (zbb n o (i + 1))
  · rw [if_neg (fun q => (znlt.mpr q) c2), decide_eq_true c2, Bool.and_true]
    by_cases c1 : zG a false (o (i + 1)) (zht a (o i) (zhp a o i)) (zbb n o (i + 1)) < zG a (i == 0) (o (i + 1)) (zhp a o i) (some (o i))
    · rw [if_neg (fun q => (znlt.mpr q) c1), decide_eq_true c1, if_pos rfl, zbo_1, zck_t]
    · rw [if_pos (znlt.mp c1), decide_eq_false c1, if_neg (by decide), zbo_0, zck_t]
  · rw [if_pos (znlt.mp c2), decide_eq_false c2, Bool.and_false, if_neg (by decide), zbo_0, zck_t]
theorem fm_first_eq {S : zSt} {a : Nat → Int32} {n : Nat} {o : Nat → Nat} (B : zBd a n) (hS : S.1 1 = a) (ho : ∀ i, i < n → S.1 11 i = nI (o i) ∧ o i < n) : ∃ Y : zSt, (∀ q, q ≠ 0 → q ≠ 12 → Y.1 q = S.1 q) ∧ (∀ k, k ≠ 24 → Y.1 0 k = S.1 0 k) ∧ ((fm_firstChange S = some (-1, Y) ∧ ∀ i, i + 1 < n → zwc a n o i = false) ∨ (∃ i, i + 1 < n ∧ fm_firstChange S = some (nI i, Y) ∧ zwc a n o i = true ∧ ∀ k, k < i → zwc a n o k = false)) := by
  have hn := B.n9
  have key : ∀ (f i : Nat) (Z : zSt), i ≤ n → n < i + f → (∀ k, k < i → zwc a n o k = false) → (∀ q, q ≠ 0 → q ≠ 12 → Z.1 q = S.1 q) → (∀ k, k ≠ 24 → Z.1 0 k = S.1 0 k) → ∃ Y : zSt, (∀ q, q ≠ 0 → q ≠ 12 → Y.1 q = S.1 q) ∧ (∀ k, k ≠ 24 → Y.1 0 k = S.1 0 k) ∧ ((fm_firstChange_L2 f (nI i) Z = some (-1, Y) ∧ ∀ i, i + 1 < n → zwc a n o i = false) ∨ (∃ k, k + 1 < n ∧ fm_firstChange_L2 f (nI i) Z = some (nI k, Y) ∧ zwc a n o k = true ∧ ∀ l, l < k → zwc a n o l = false)) := by
    intro f
    induction f with
    | zero => intro i Z a b; omega
    | succ f ih =>
      intro i Z h1 h2 hf hZ hZ0
      have z1 : Z.1 1 = a := by rw [hZ 1 (by omega) (by omega)]; exact hS
      rw [fm_firstChange_L2, z1, B.a4, nI_1]
      by_cases e : i + 1 < n
      · obtain ⟨Y, y1, y2, y3⟩ := fm_would_eq B z1 (fun k hk => by rw [hZ 11 (by omega) (by omega)]; exact ho k hk) e
        rw [if_neg (nI_ge e (by omega)), y1, zbd_s]
        by_cases c : zwc a n o i = true
        · rw [c, if_pos rfl, z_i1]
          exact ⟨Y, fun q a b => by rw [y2 q a b]; exact hZ q a b, fun k hk => by rw [y3 k hk]; exact hZ0 k hk, Or.inr ⟨i, e, rfl, c, hf⟩⟩
        · have cf : zwc a n o i = false := by simpa using c
          rw [if_neg c, z_i0, znm_q]
          exact ih (i + 1) Y (by omega) (by omega) (fun k hk => by
            by_cases d : k = i
            · rw [d]; exact cf
            · exact hf k (by omega)) (fun q a b => by rw [y2 q a b]; exact hZ q a b) (fun k hk => by rw [y3 k hk]; exact hZ0 k hk)
      · rw [if_pos (nI_le (by omega) (by omega))]
        exact ⟨Z, hZ, hZ0, Or.inl ⟨rfl, fun k hk => hf k (by omega)⟩⟩
  unfold fm_firstChange
  rw [← nI_0]
  exact key zFU 0 S (by omega) (by unfold zFU; omega) (fun k hk => by omega) (fun _ _ _ => rfl) (fun _ _ => rfl)
