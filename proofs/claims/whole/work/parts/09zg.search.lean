/-! all orders: the reference -/
def zLeaf (a : Nat → Int32) (n : Nat) (o : Nat → Nat) (T T' : zSt) : Prop :=
  (((T.1 0 30 = -1 ∨ ¬ T.1 0 30 ≤ nI (zwo a o n)) ∧ T'.1 0 30 = nI (zwo a o n) ∧ ∀ k, k < n → T'.1 14 k = nI (o k)) ∨ (¬ (T.1 0 30 = -1 ∨ ¬ T.1 0 30 ≤ nI (zwo a o n)) ∧ T'.1 0 30 = T.1 0 30 ∧ T'.1 14 = T.1 14)) ∧
  (((∀ i, i + 1 < n → zwc a n o i = false) ∧ T'.1 0 29 = T.1 0 29 + 1 ∧ ((T.1 0 29 = 0 ∧ ∀ k, k < n → T'.1 13 k = nI (o k)) ∨ (¬ T.1 0 29 = 0 ∧ T'.1 13 = T.1 13))) ∨ ((∃ i, i + 1 < n ∧ zwc a n o i = true) ∧ T'.1 0 29 = T.1 0 29 ∧ T'.1 13 = T.1 13))
def zFr (T T' : zSt) : Prop := (∀ q, q ≠ 0 → q ≠ 11 → q ≠ 12 → q ≠ 13 → q ≠ 14 → T'.1 q = T.1 q) ∧ (∀ k, k ≠ 24 → k ≠ 29 → k ≠ 30 → T'.1 0 k = T.1 0 k)
theorem zFr.rf (T : zSt) : zFr T T := ⟨fun _ _ _ _ _ _ => rfl, fun _ _ _ _ => rfl⟩
theorem zFr.tr {T U V : zSt} (h : zFr T U) (g : zFr U V) : zFr T V := ⟨fun q a b c d e => by rw [g.1 q a b c d e, h.1 q a b c d e], fun k a b c => by rw [g.2 k a b c, h.2 k a b c]⟩
theorem fm_L71_eq {rec : zSt → Int32 → Int32 → Option (Unit × zSt)} {S : zSt} {n : Nat} {r2 : Int32} (hn : n ≤ 9) : ∃ Y : zSt, (∀ j : zSt → Option (Unit × zSt), fm_goesThrough_L71 rec (nI n) r2 j zFU 0 S = j Y) ∧ (∀ q, q ≠ 14 → Y.1 q = S.1 q) ∧ ((S.1 0 30 = -1 ∨ ¬ S.1 0 30 ≤ r2) → ∀ k, k < n → Y.1 14 k = S.1 11 k) ∧ (¬ (S.1 0 30 = -1 ∨ ¬ S.1 0 30 ≤ r2) → Y.1 14 = S.1 14) := by
  by_cases b : S.1 0 30 = -1 ∨ ¬ S.1 0 30 ≤ r2
  · have key : ∀ (f i : Nat) (Z : zSt), i ≤ n → n < i + f → (∀ q, q ≠ 14 → Z.1 q = S.1 q) → (∀ k, k < i → Z.1 14 k = S.1 11 k) → ∃ Y : zSt, (∀ j : zSt → Option (Unit × zSt), fm_goesThrough_L71 rec (nI n) r2 j f (nI i) Z = j Y) ∧ (∀ q, q ≠ 14 → Y.1 q = S.1 q) ∧ (∀ k, k < n → Y.1 14 k = S.1 11 k) := by
      intro f
      induction f with
      | zero => intro i Z a b; omega
      | succ f ih =>
        intro i Z h1 h2 hZ hk
        by_cases e : i = n
        · subst e
          exact ⟨Z, fun j => by rw [fm_goesThrough_L71, if_pos (nI_le (Nat.le_refl _) (by omega))], hZ, hk⟩
        obtain ⟨Y, y1, y2⟩ := ih (i + 1) (zpI Z 14 i (S.1 11 i)) (by omega) (by omega) (fun q hq => by rw [zI_ne hq]; exact hZ q hq) (fun k hk2 => by
          by_cases c : k = i
          · subst c; rw [zI_at]
          · rw [zI_nk c]; exact hk k (by omega))
        refine ⟨Y, fun j => ?_, y2⟩
        rw [fm_goesThrough_L71, if_neg (nI_ge (by omega) (by omega))]
        simp only [znm_q]
        rw [zix_n (show i < 9 by omega) (by omega), zck_t, zck_t, nI_clamp (n := i) (by omega), nI_1, hZ 11 (by omega), hZ 0 (by omega)]
        rcases b with b | b
        · rw [if_pos b]; exact y1 j
        · by_cases b2 : S.1 0 30 = -1
          · rw [if_pos b2]; exact y1 j
          · rw [if_neg b2, if_neg b]; exact y1 j
    obtain ⟨Y, y1, y2, y3⟩ := key zFU 0 S (by omega) (by unfold zFU; omega) (fun _ _ => rfl) (fun k hk => by omega)
    exact ⟨Y, fun j => by rw [← nI_0]; exact y1 j, y2, fun _ => y3, fun q => absurd b q⟩
  · refine ⟨S, fun j => ?_, fun _ _ => rfl, fun q => absurd q b, fun _ => rfl⟩
    unfold zFU
    rw [fm_goesThrough_L71]
    by_cases e : nI n ≤ 0
    · rw [if_pos e]
    · rw [if_neg e]
      have b1 : ¬ S.1 0 30 = -1 := fun q => b (Or.inl q)
      have b2 : S.1 0 30 ≤ r2 := Classical.byContradiction (fun q => b (Or.inr q))
      simp only [znm_q]
      rw [if_neg b1, if_pos b2]
theorem fm_L156_eq {rec : zSt → Int32 → Int32 → Option (Unit × zSt)} {S : zSt} {n : Nat} (hn : n ≤ 9) : ∃ Y : zSt, (∀ j : zSt → Option (Unit × zSt), fm_goesThrough_L156 rec (nI n) j zFU 0 S = j Y) ∧ (∀ q, q ≠ 13 → Y.1 q = S.1 q) ∧ (S.1 0 29 = 0 → ∀ k, k < n → Y.1 13 k = S.1 11 k) ∧ (¬ S.1 0 29 = 0 → Y.1 13 = S.1 13) := by
  by_cases b : S.1 0 29 = 0
  · have key : ∀ (f i : Nat) (Z : zSt), i ≤ n → n < i + f → (∀ q, q ≠ 13 → Z.1 q = S.1 q) → (∀ k, k < i → Z.1 13 k = S.1 11 k) → ∃ Y : zSt, (∀ j : zSt → Option (Unit × zSt), fm_goesThrough_L156 rec (nI n) j f (nI i) Z = j Y) ∧ (∀ q, q ≠ 13 → Y.1 q = S.1 q) ∧ (∀ k, k < n → Y.1 13 k = S.1 11 k) := by
      intro f
      induction f with
      | zero => intro i Z a b; omega
      | succ f ih =>
        intro i Z h1 h2 hZ hk
        by_cases e : i = n
        · subst e
          exact ⟨Z, fun j => by rw [fm_goesThrough_L156, if_pos (nI_le (Nat.le_refl _) (by omega))], hZ, hk⟩
        obtain ⟨Y, y1, y2⟩ := ih (i + 1) (zpI Z 13 i (S.1 11 i)) (by omega) (by omega) (fun q hq => by rw [zI_ne hq]; exact hZ q hq) (fun k hk2 => by
          by_cases c : k = i
          · subst c; rw [zI_at]
          · rw [zI_nk c]; exact hk k (by omega))
        refine ⟨Y, fun j => ?_, y2⟩
        rw [fm_goesThrough_L156, if_neg (nI_ge (by omega) (by omega)), hZ 0 (by omega), if_pos b]
        simp only [znm_q]
        rw [zix_n (show i < 9 by omega) (by omega), zck_t, zck_t, nI_clamp (n := i) (by omega), nI_1, hZ 11 (by omega)]
        exact y1 j
    obtain ⟨Y, y1, y2, y3⟩ := key zFU 0 S (by omega) (by unfold zFU; omega) (fun _ _ => rfl) (fun k hk => by omega)
    exact ⟨Y, fun j => by rw [← nI_0]; exact y1 j, y2, fun _ => y3, fun q => absurd b q⟩
  · refine ⟨S, fun j => ?_, fun _ _ => rfl, fun q => absurd q b, fun _ => rfl⟩
    unfold zFU
    rw [fm_goesThrough_L156]
    by_cases e : nI n ≤ 0
    · rw [if_pos e]
    · rw [if_neg e, if_neg b]
theorem fm_leaf {rec : zSt → Int32 → Int32 → Option (Unit × zSt)} {a : Nat → Int32} {n : Nat} {o : Nat → Nat} {T : zSt} {u : Int32} (B : zBd a n) (hT : T.1 1 = a) (ho : ∀ k, k < n → T.1 11 k = nI (o k) ∧ o k < n) : ∃ T' : zSt, fm_goesThrough rec T (nI n) u = some ((), T') ∧ zFr T T' ∧ T'.1 11 = T.1 11 ∧ zLeaf a n o T T' := by
  have hn := B.n9
  obtain ⟨S3, b1, b2, b3, b4⟩ := fm_bakes_eq B hT ho
  obtain ⟨S5, c1, c2, c3, c4⟩ := fm_L71_eq (rec := rec) (S := S3) (r2 := nI (zwo a o n)) hn
  have t30 : S3.1 0 30 = T.1 0 30 := b4 30 (by omega)
  have t29 : S3.1 0 29 = T.1 0 29 := b4 29 (by omega)
  have t11 : S3.1 11 = T.1 11 := b3 11 (by omega) (by omega)
  rw [t30] at c3 c4
  have s30 : S5.1 0 30 = T.1 0 30 := by rw [c2 0 (by omega)]; exact t30
  -- the least wood
  obtain ⟨v, hv⟩ : ∃ v : Int32, v = (if (T.1 0 30 = -1 ∨ ¬ T.1 0 30 ≤ nI (zwo a o n)) then nI (zwo a o n) else T.1 0 30) := ⟨_, rfl⟩
  have s8 : ∀ q, q ≠ 0 → (zpI S5 0 30 v).1 q = S5.1 q := fun q hq => zI_ne hq
  obtain ⟨S10, d1, d2, d3⟩ := fm_first_eq (S := zpI S5 0 30 v) (o := o) B (by rw [s8 1 (by omega), c2 1 (by omega), b3 1 (by omega) (by omega)]; exact hT) (fun k hk => by rw [s8 11 (by omega), c2 11 (by omega), t11]; exact ho k hk)
  obtain ⟨Y, y1, y2, y3, y4⟩ := fm_L156_eq (rec := rec) (S := S10) hn
  have go : fm_goesThrough rec T (nI n) u = zbd (fm_firstChange (zpI S5 0 30 v)) (fun r_9 S_10 => if r_9 = -1 then fm_goesThrough_L156 rec (nI n) (fun S_12 => some ((), zpI S_12 0 29 (S_12.1 0 29 + 1))) zFU 0 S_10 else some ((), S_10)) := by
    unfold fm_goesThrough
    rw [hT, B.a4, znm_q, if_pos (nI_le (Nat.le_refl _) (by omega)), b1, zbd_s, znm_q, c1]
    simp only [znm_q]
    rw [s30, hv]
    by_cases k1 : T.1 0 30 = -1
    · rw [if_pos k1, if_pos (Or.inl k1)]
    · rw [if_neg k1]
      by_cases k2 : T.1 0 30 ≤ nI (zwo a o n)
      · rw [if_pos k2, if_neg (fun q => q.elim k1 (fun z => z k2))]
      · rw [if_neg k2, if_pos (Or.inr k2)]
  have e29 : S10.1 0 29 = T.1 0 29 := by rw [d2 29 (by omega), zI_nk (by omega), c2 0 (by omega), t29]
  have e30 : S10.1 0 30 = v := by rw [d2 30 (by omega), zI_at]
  have e14 : S10.1 14 = S5.1 14 := by rw [d1 14 (by omega) (by omega), s8 14 (by omega)]
  have e13 : S10.1 13 = T.1 13 := by rw [d1 13 (by omega) (by omega), s8 13 (by omega), c2 13 (by omega), b3 13 (by omega) (by omega)]
  have e11 : S10.1 11 = T.1 11 := by rw [d1 11 (by omega) (by omega), s8 11 (by omega), c2 11 (by omega), t11]
  have fr : zFr T S10 := ⟨fun q q0 q1 q2 q3 q4 => by rw [d1 q q0 q2, s8 q q0, c2 q q4, b3 q q0 q2], fun k k1 k2 k3 => by rw [d2 k k1, zI_nk k3, c2 0 (by omega), b4 k k1]⟩
  have l1 : ∀ Z : zSt, Z.1 0 30 = v → Z.1 14 = S5.1 14 → (((T.1 0 30 = -1 ∨ ¬ T.1 0 30 ≤ nI (zwo a o n)) ∧ Z.1 0 30 = nI (zwo a o n) ∧ ∀ k, k < n → Z.1 14 k = nI (o k)) ∨ (¬ (T.1 0 30 = -1 ∨ ¬ T.1 0 30 ≤ nI (zwo a o n)) ∧ Z.1 0 30 = T.1 0 30 ∧ Z.1 14 = T.1 14)) := fun Z z1 z2 => by
    by_cases c : T.1 0 30 = -1 ∨ ¬ T.1 0 30 ≤ nI (zwo a o n)
    · rw [if_pos c] at hv
      exact Or.inl ⟨c, by rw [z1, hv], fun k hk => by rw [z2, c3 c k hk, t11]; exact (ho k hk).1⟩
    · rw [if_neg c] at hv
      exact Or.inr ⟨c, by rw [z1, hv], by rw [z2, c4 c, b3 14 (by omega) (by omega)]⟩
  rcases d3 with ⟨f1, f2⟩ | ⟨i, i1, f1, f2, _⟩
  · rw [go, f1, zbd_s, if_pos rfl, y1]
    have z29 : Y.1 0 29 = T.1 0 29 := by rw [y2 0 (by omega), e29]
    refine ⟨_, rfl, ⟨fun q q0 q1 q2 q3 q4 => by rw [zI_ne q0, y2 q q3]; exact fr.1 q q0 q1 q2 q3 q4, fun k k1 k2 k3 => by rw [zI_nk k2, y2 0 (by omega)]; exact fr.2 k k1 k2 k3⟩, by rw [zI_ne (by omega), y2 11 (by omega), e11], l1 _ (by rw [zI_nk (by omega), y2 0 (by omega), e30]) (by rw [zI_ne (by omega), y2 14 (by omega), e14]), Or.inl ⟨f2, by rw [zI_at, z29], ?_⟩⟩
    rw [e29] at y3 y4
    by_cases c : T.1 0 29 = 0
    · exact Or.inl ⟨c, fun k hk => by rw [zI_ne (by omega), y3 c k hk, e11]; exact (ho k hk).1⟩
    · exact Or.inr ⟨c, by rw [zI_ne (by omega), y4 c, e13]⟩
  · rw [go, f1, zbd_s, if_neg (nI_m1 (by omega))]
    exact ⟨S10, rfl, fr, e11, l1 _ e30 e14, Or.inr ⟨⟨i, i1, f2⟩, e29, e13⟩⟩
/-- an order's places from i on are free -/
def zup (o : Nat → Nat) (i h k : Nat) : Nat := if k = i then h else o k
/-- a whole part of the search: what every order of it keeps is kept, and the least wood is told -/
theorem fm_sub {a : Nat → Int32} {n : Nat} (B : zBd a n) (Φ : zSt → Prop) (hΦ : ∀ T T' : zSt, T'.1 13 = T.1 13 → T'.1 14 = T.1 14 → T'.1 0 29 = T.1 0 29 → T'.1 0 30 = T.1 0 30 → Φ T → Φ T') : ∀ (e d i s : Nat) (o : Nat → Nat) (T : zSt), i + e = n → e < d → s < 512 → zct s n = i → T.1 1 = a → (∀ k, k < i → T.1 11 k = nI (o k) ∧ o k < n) → (∀ o' : Nat → Nat, (∀ k, k < i → o' k = o k) → (∀ k, k < n → o' k < n) → ∀ U U' : zSt, Φ U → zLeaf a n o' U U' → Φ U') → Φ T → ∃ T' : zSt, fm_goesThrough_c d T (nI i) (nI s) = some ((), T') ∧ zFr T T' ∧ (∀ k, k < i → T'.1 11 k = T.1 11 k) ∧ Φ T' := by
  have hn := B.n9
  intro e
  induction e with
  | zero =>
    intro d i s o T he hd hs hct hT ho hl hp
    obtain ⟨d, rfl⟩ : ∃ k, d = k + 1 := ⟨d - 1, by omega⟩
    obtain rfl : i = n := by omega
    rw [fm_goesThrough_c]
    obtain ⟨T', t1, t2, t3, t4⟩ := fm_leaf (rec := fm_goesThrough_c d) (u := nI s) B hT ho
    exact ⟨T', t1, t2, fun k _ => by rw [t3], hl o (fun _ _ => rfl) (fun k hk => (ho k hk).2) T T' hp t4⟩
  | succ e ih =>
    intro d i s o T he hd hs hct hT ho hl hp
    obtain ⟨d, rfl⟩ : ∃ k, d = k + 1 := ⟨d - 1, by omega⟩
    rw [fm_goesThrough_c]
    unfold fm_goesThrough
    rw [hT, B.a4, znm_q, if_neg (nI_ge (by omega) (by omega))]
    have key : ∀ (f h : Nat) (Z : zSt), h ≤ n → n < h + f → Z.1 1 = a → zFr T Z → (∀ k, k < i → Z.1 11 k = T.1 11 k) → Φ Z → ∃ T' : zSt, fm_goesThrough_L15 (fm_goesThrough_c d) (nI i) (nI s) (nI n) f (nI h) Z = some ((), T') ∧ zFr T T' ∧ (∀ k, k < i → T'.1 11 k = T.1 11 k) ∧ Φ T' := by
      intro f
      induction f with
      | zero => intro h Z a b; omega
      | succ f ihf =>
        intro h Z h1 h2 hZ hfr hpre hz
        rw [fm_goesThrough_L15]
        by_cases e1 : h = n
        · subst e1
          rw [if_pos (nI_le (Nat.le_refl _) (by omega))]
          exact ⟨Z, rfl, hfr, hpre, hz⟩
        have hh : h < n := by omega
        rw [if_neg (nI_ge hh (by omega))]
        simp only [znm_q]
        rw [nI_1]
        by_cases b : s.testBit h = true
        · rw [if_pos ((zmb9 s hs h (by omega)).mpr b)]
          exact ihf (h + 1) Z (by omega) (by omega) hZ hfr hpre hz
        · have bf : s.testBit h = false := by simpa using b
          obtain ⟨z1, z2⟩ := zor9 s hs h (by omega)
          rw [if_neg (fun q => b ((zmb9 s hs h (by omega)).mp q)), zix_n (show i < 9 by omega) (by omega), zck_t, nI_clamp (n := i) (by omega), nI_1, z1]
          obtain ⟨T2, t1, t2, t3, t4⟩ := ih d (i + 1) (s ||| 2 ^ h) (zup o i h) (zpI Z 11 i (nI h)) (by omega) (by omega) z2 (by rw [zct_or bf, if_pos hh, hct]) (by rw [zI_ne (by omega)]; exact hZ) (fun k hk => by
            unfold zup
            by_cases c : k = i
            · subst c
              rw [zI_at, if_pos rfl]
              exact ⟨rfl, hh⟩
            · rw [zI_nk c, if_neg c, hpre k (by omega)]
              exact ho k (by omega)) (fun o' h1 h2 => hl o' (fun k hk => by
            have := h1 k (by omega)
            unfold zup at this
            rw [if_neg (by omega)] at this
            exact this) h2) (hΦ _ _ (zI_ne (by omega)) (zI_ne (by omega)) (by rw [zI_ne (by omega)]) (by rw [zI_ne (by omega)]) hz)
          rw [t1, zbd_s]
          refine ihf (h + 1) T2 (by omega) (by omega) (by rw [t2.1 1 (by omega) (by omega) (by omega) (by omega) (by omega), zI_ne (by omega)]; exact hZ) (hfr.tr ⟨fun q a b c d e => by rw [t2.1 q a b c d e, zI_ne b], fun k a b c => by rw [t2.2 k a b c, zI_ne (by omega)]⟩) (fun k hk => by rw [t3 k (by omega), zI_nk (by omega)]; exact hpre k hk) t4
    rw [← nI_0]
    exact key zFU 0 T (by omega) (by unfold zFU; omega) hT (zFr.rf T) (fun _ _ => rfl) hp
