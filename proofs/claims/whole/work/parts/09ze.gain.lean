/-! gain -/
theorem fx_clear_eq {X : zSt} : ∃ Y : zSt, fx_Lineup_clearPlaced X = some ((), Y) ∧ (∀ h, h < 9 → Y.1 136 h = 0) ∧ (∀ q, q ≠ 136 → Y.1 q = X.1 q) ∧ Y.2 = X.2 := by
  have key : ∀ (f i : Nat) (S : zSt), i ≤ 9 → 9 < i + f → (∀ h, h < i → S.1 136 h = 0) → (∀ q, q ≠ 136 → S.1 q = X.1 q) → S.2 = X.2 → ∃ Y : zSt, fx_Lineup_clearPlaced_L2 f (nI i) S = some ((), Y) ∧ (∀ h, h < 9 → Y.1 136 h = 0) ∧ (∀ q, q ≠ 136 → Y.1 q = X.1 q) ∧ Y.2 = X.2 := by
    intro f
    induction f with
    | zero => intro i S a b; omega
    | succ f ih =>
      intro i S h1 h2 hS hq hS2
      rw [fx_Lineup_clearPlaced_L2]
      by_cases e : i = 9
      · subst e
        rw [if_pos (by decide)]
        exact ⟨S, rfl, hS, hq, hS2⟩
      rw [if_neg (show ¬ (9 : Int32) ≤ nI i from nI_ge (b := 9) (by omega) (by omega)), zix_n (show i < 9 by omega) (by omega), zck_t, znm_q, znm_q, nI_clamp (n := i) (by omega), nI_1]
      refine ih (i + 1) _ (by omega) (by omega) (fun h hh => ?_) (fun q hqq => by rw [zI_ne hqq]; exact hq q hqq) hS2
      by_cases c : h = i
      · subst c; rw [zI_at]
      · rw [zI_nk c]; exact hS h (by omega)
  unfold fx_Lineup_clearPlaced
  rw [← nI_0]
  exact key zFU 0 X (by omega) (by unfold zFU; omega) (fun h hh => by omega) (fun _ _ => rfl) rfl
theorem zmb9 : ∀ s, s < 512 → ∀ h, h < 9 → (((nI s >>> (nI h &&& 31)) &&& (1 : Int32)) = 1 ↔ s.testBit h = true) := by decide +kernel
/-- how many of the first n bits -/
def zct (s : Nat) : Nat → Nat
  | 0 => 0
  | n + 1 => zct s n + (if s.testBit n then 1 else 0)
theorem zct_le (s : Nat) : ∀ n, zct s n ≤ n := by
  intro n
  induction n with
  | zero => exact Nat.le_refl _
  | succ n ih =>
    unfold zct
    by_cases h : s.testBit n = true
    · rw [if_pos h]; omega
    · rw [if_neg h]; omega
theorem zct_full {s : Nat} : ∀ n, zct s n = n → ∀ h, h < n → s.testBit h = true := by
  intro n
  induction n with
  | zero => intro _ h hh; omega
  | succ n ih =>
    intro e h hh
    unfold zct at e
    have := zct_le s n
    by_cases b : s.testBit n = true
    · rw [if_pos b] at e
      by_cases c : h = n
      · subst c; exact b
      · exact ih (by omega) h (by omega)
    · rw [if_neg b] at e; omega
theorem zor_tb (s h k : Nat) : (s ||| 2 ^ h).testBit k = (s.testBit k || decide (k = h)) := by
  rw [Nat.testBit_or, Nat.testBit_two_pow]
  congr 1
  by_cases c : k = h
  · subst c; simp
  · rw [decide_eq_false c, decide_eq_false (fun q => c q.symm)]
theorem zct_or {s h : Nat} (hb : s.testBit h = false) : ∀ n, zct (s ||| 2 ^ h) n = zct s n + (if h < n then 1 else 0) := by
  intro n
  induction n with
  | zero => rfl
  | succ n ih =>
    unfold zct
    rw [ih, zor_tb]
    by_cases c : n = h
    · subst c
      rw [hb, if_neg (by omega), if_pos (by simp), if_neg (by simp), if_pos (by omega)]
    · rw [show decide (n = h) = false from decide_eq_false c, Bool.or_false]
      by_cases d : h < n
      · rw [if_pos d, if_pos (show h < n + 1 by omega)]; omega
      · rw [if_neg d, if_neg (show ¬ h < n + 1 by omega)]; omega
/-- the order that a tape of digits tells: both read it alike -/
theorem ztold {X M : zSt} {n h0 : Nat} (hn : n ≤ 9) (h00 : h0 < n) (ex : X.1 4 0 = nI n) (em : M.1 1 4 = nI n) (ht : X.1 1 1 = nI n) (eb : X.1 2 = M.1 6) : ∀ (f i s : Nat) (S T : zSt) (pl : Int32) (o : Nat → Nat), i ≤ n → n < i + f → (∀ q, q ≠ 129 → q ≠ 136 → S.1 q = X.1 q) → S.2 = X.2 → (∀ q, q ≠ 11 → T.1 q = M.1 q) → (∀ k, k < i → S.1 129 k = nI (o k) ∧ T.1 11 k = nI (o k) ∧ o k < n) → (∀ h, h < 9 → S.1 136 h = if s.testBit h then 1 else 0) → s < 512 → zct s n = i → (∀ h, h < 9 → (s.testBit h = true ↔ ∃ k, k < i ∧ o k = h)) → (∀ k, k < i → o k = h0 → pl = nI k) →
    (∃ S' T' : zSt, (∀ j : zSt → Option (Int32 × zSt), fx_Lineup_standAsTold_L25 j f (nI i) S = j S') ∧ (∀ j : zSt → Option (Int32 × zSt), fm_gain_L40 (nI h0) (nI n) j f (nI s) pl (nI i) T = j T') ∧ (∀ q, q ≠ 129 → q ≠ 136 → S'.1 q = X.1 q) ∧ S'.2 = X.2 ∧ (∀ q, q ≠ 11 → T'.1 q = M.1 q)) ∨
    (∃ (S' T' : zSt) (pl' : Int32) (o' : Nat → Nat), (∀ j : zSt → Option (Int32 × zSt), fx_Lineup_standAsTold_L25 j f (nI i) S = some (1, S')) ∧ (∀ j : zSt → Option (Int32 × zSt), fm_gain_L40 (nI h0) (nI n) j f (nI s) pl (nI i) T = zbd (fm_bakes T') fun _ S_13 => zbd (fm_gainAt S_13 pl') fun r_15 S_16 => some (r_15, S_16)) ∧ (∀ q, q ≠ 129 → q ≠ 136 → S'.1 q = X.1 q) ∧ S'.2 = X.2 ∧ (∀ q, q ≠ 11 → T'.1 q = M.1 q) ∧ (∀ k, k < n → S'.1 129 k = nI (o' k) ∧ T'.1 11 k = nI (o' k) ∧ o' k < n) ∧ (∀ k, k < n → o' k = h0 → pl' = nI k) ∧ (∀ h, h < n → ∃ k, k < n ∧ o' k = h)) := by
  intro f
  induction f with
  | zero => intro i s S T pl o a b; omega
  | succ f ih =>
    intro i s S T pl o h1 h2 hS hS2 hT hO hP hs hct hbit hpl
    by_cases e : i = n
    · subst e
      right
      refine ⟨S, T, pl, o, fun j => ?_, fun j => ?_, hS, hS2, hT, hO, hpl, fun h hh => (hbit h (by omega)).mp (zct_full i hct h hh)⟩
      · rw [fx_Lineup_standAsTold_L25, hS 1 (by omega) (by omega), ht, if_pos (nI_le (Nat.le_refl _) (by omega))]
      · rw [fm_gain_L40, if_pos (nI_le (Nat.le_refl _) (by omega))]
    have hi : i < n := by omega
    have ex' : S.1 4 0 = nI n := by rw [hS 4 (by omega) (by omega)]; exact ex
    have em' : T.1 1 4 = nI n := by rw [hT 1 (by omega)]; exact em
    have sx : ∀ j, fx_Lineup_standAsTold_L25 j (f + 1) (nI i) S = zbd (fx_Houses_has S (M.1 6 i - 48)) fun r_9 S_10 => if r_9 = 0 then j S_10 else zck (zix (M.1 6 i - 48) 9) (if S_10.1 136 (M.1 6 i - 48).toNatClampNeg = 0 then zck (zix (M.1 6 i - 48) 9) (zck (zix (nI i) 9) (fx_Lineup_standAsTold_L25 j f (nI (i + 1)) (zpI (zpI S_10 136 (M.1 6 i - 48).toNatClampNeg 1) 129 (nI i).toNatClampNeg (M.1 6 i - 48)))) else j S_10) := fun j => by
      rw [fx_Lineup_standAsTold_L25, hS 1 (by omega) (by omega), ht, if_neg (nI_ge hi (by omega)), zix_n (show i < 400 by omega) (by omega), zck_t]
      simp only [znm_q]
      rw [hS 2 (by omega) (by omega), eb, nI_clamp (n := i) (by omega), nI_1]
    have sm : ∀ j, fm_gain_L40 (nI h0) (nI n) j (f + 1) (nI s) pl (nI i) T = zbd (fm_isHouse T (M.1 6 i - 48)) fun r_20 S_21 => if r_20 = 0 then j S_21 else if ((nI s >>> ((M.1 6 i - 48) &&& 31)) &&& (1 : Int32)) = (1 : Int32) then j S_21 else zck (zix (nI i) 9) (if (M.1 6 i - 48) = nI h0 then fm_gain_L40 (nI h0) (nI n) j f (nI s ||| ((1 : Int32) <<< ((M.1 6 i - 48) &&& 31))) (nI i) (nI (i + 1)) (zpI S_21 11 (nI i).toNatClampNeg (M.1 6 i - 48)) else fm_gain_L40 (nI h0) (nI n) j f (nI s ||| ((1 : Int32) <<< ((M.1 6 i - 48) &&& 31))) pl (nI (i + 1)) (zpI S_21 11 (nI i).toNatClampNeg (M.1 6 i - 48))) := fun j => by
      rw [fm_gain_L40, if_neg (nI_ge hi (by omega)), zix_n (show i < 400 by omega) (by omega), zck_t]
      simp only [znm_q]
      rw [hT 6 (by omega), nI_clamp (n := i) (by omega), nI_1]
    by_cases ho : (M.1 6 i - 48) < 0 ∨ nI n ≤ (M.1 6 i - 48)
    · left
      refine ⟨S, T, fun j => ?_, fun j => ?_, hS, hS2, hT⟩
      · rw [sx, fx_has_lo ex' ho, zbd_s, z_i0]
      · rw [sm, fm_has_lo em' hn ho, zbd_s, z_i0]
    obtain ⟨h, hh, eh⟩ := zpos (by omega) ho
    rw [eh] at sx sm
    have hx := fx_has_in ex' hn hh
    have hm := fm_has_in em' hn hh
    by_cases b : s.testBit h = true
    · left
      have pb : S.1 136 h = 1 := by rw [hP h (by omega), if_pos b]
      refine ⟨S, T, fun j => ?_, fun j => ?_, hS, hS2, hT⟩
      · rw [sx, hx, zbd_s, z_i1, zix_n (by omega) (by omega), zck_t, nI_clamp (by omega), pb, if_neg (by decide)]
      · rw [sm, hm, zbd_s, z_i1, if_pos ((zmb9 s hs h (by omega)).mpr b)]
    · have pb : S.1 136 h = 0 := by rw [hP h (by omega), if_neg b]
      have bf : s.testBit h = false := by simpa using b
      obtain ⟨z1, z2⟩ := zor9 s hs h (by omega)
      have hnew := fun pl' hpl' => ih (i + 1) (s ||| 2 ^ h) (zpI (zpI S 136 h 1) 129 i (nI h)) (zpI T 11 i (nI h)) pl' (fun k => if k = i then h else o k) (by omega) (by omega) (fun q a b => by rw [zI_ne a, zI_ne b]; exact hS q a b) hS2 (fun q a => by rw [zI_ne a]; exact hT q a) (fun k hk => by
        by_cases c : k = i
        · subst c
          rw [zI_at, zI_at, if_pos rfl]
          exact ⟨rfl, rfl, hh⟩
        · rw [zI_nk c, zI_nk c, zI_ne (by omega), if_neg c]
          exact hO k (by omega)) (fun g hg => by
        rw [zI_ne (by omega), zor_tb]
        by_cases c : g = h
        · subst c
          rw [zI_at]
          simp
        · rw [zI_nk c, show decide (g = h) = false from decide_eq_false c, Bool.or_false]
          exact hP g hg) z2 (by rw [zct_or bf, if_pos hh, hct]) (fun g hg => by
        rw [zor_tb]
        constructor
        · intro q
          rw [Bool.or_eq_true] at q
          rcases q with q | q
          · obtain ⟨k, k1, k2⟩ := (hbit g hg).mp q
            exact ⟨k, by omega, by rw [if_neg (by omega)]; exact k2⟩
          · exact ⟨i, by omega, by rw [if_pos rfl]; exact (of_decide_eq_true q).symm⟩
        · intro ⟨k, k1, k2⟩
          by_cases c : k = i
          · rw [if_pos c] at k2
            rw [k2]; simp
          · rw [if_neg c] at k2
            rw [(hbit g hg).mpr ⟨k, by omega, k2⟩]; rfl) hpl'
      have fx : ∀ j, fx_Lineup_standAsTold_L25 j (f + 1) (nI i) S = fx_Lineup_standAsTold_L25 j f (nI (i + 1)) (zpI (zpI S 136 h 1) 129 i (nI h)) := fun j => by
        rw [sx, hx, zbd_s, z_i1, zix_n (show h < 9 by omega) (by omega), zck_t, nI_clamp (n := h) (by omega), pb, if_pos rfl, zck_t, zix_n (show i < 9 by omega) (by omega), zck_t, nI_clamp (n := i) (by omega)]
      have nz : ¬ ((nI s >>> (nI h &&& 31)) &&& (1 : Int32)) = 1 := fun q => b ((zmb9 s hs h (by omega)).mp q)
      by_cases c : h = h0
      · have fm : ∀ j, fm_gain_L40 (nI h0) (nI n) j (f + 1) (nI s) pl (nI i) T = fm_gain_L40 (nI h0) (nI n) j f (nI (s ||| 2 ^ h)) (nI i) (nI (i + 1)) (zpI T 11 i (nI h)) := fun j => by
          rw [sm, hm, zbd_s, z_i1, if_neg nz, zix_n (show i < 9 by omega) (by omega), zck_t, if_pos (by rw [c]), z1, nI_clamp (n := i) (by omega)]
        rcases hnew (nI i) (fun k hk q => by
          by_cases d : k = i
          · rw [d]
          · rw [if_neg d] at q
            exact absurd ((hbit h (by omega)).mpr ⟨k, by omega, by rw [q, c]⟩) b) with ⟨S', T', w1, w2, w3⟩ | ⟨S', T', pl', o', w1, w2, w3⟩
        · exact Or.inl ⟨S', T', fun j => by rw [fx]; exact w1 j, fun j => by rw [fm]; exact w2 j, w3⟩
        · exact Or.inr ⟨S', T', pl', o', fun j => by rw [fx]; exact w1 j, fun j => by rw [fm]; exact w2 j, w3⟩
      · have fm : ∀ j, fm_gain_L40 (nI h0) (nI n) j (f + 1) (nI s) pl (nI i) T = fm_gain_L40 (nI h0) (nI n) j f (nI (s ||| 2 ^ h)) pl (nI (i + 1)) (zpI T 11 i (nI h)) := fun j => by
          rw [sm, hm, zbd_s, z_i1, if_neg nz, zix_n (show i < 9 by omega) (by omega), zck_t, if_neg (fun q => c ((nI_eq (by omega) (by omega)).mp q)), z1, nI_clamp (n := i) (by omega)]
        rcases hnew pl (fun k hk q => by
          by_cases d : k = i
          · rw [if_pos d] at q
            exact absurd q c
          · rw [if_neg d] at q
            exact hpl k (by omega) q) with ⟨S', T', w1, w2, w3⟩ | ⟨S', T', pl', o', w1, w2, w3⟩
        · exact Or.inl ⟨S', T', fun j => by rw [fx]; exact w1 j, fun j => by rw [fm]; exact w2 j, w3⟩
        · exact Or.inr ⟨S', T', pl', o', fun j => by rw [fx]; exact w1 j, fun j => by rw [fm]; exact w2 j, w3⟩
/-- the class looks for the house's place *)-/
theorem fx_gainOf_eq {S : zSt} {a : Nat → Int32} {n h0 k0 : Nat} {o : Nat → Nat} (B : zBd a n) (hh : h0 < n) (ct : S.1 4 0 = nI n) (h5 : ∀ h, h < n → S.1 5 h = a (20 + 16 * h)) (h12 : ∀ h, h < n → S.1 12 h = a (23 + 16 * h)) (h6 : ∀ h, h < n → S.1 6 h = nI (znd a h)) (h7 : ∀ h, h < n → S.1 7 h = nI (zmi a h)) (h19 : S.1 19 0 = nI (zpw a) ∧ S.1 19 1 = nI (zcl a) ∧ S.1 19 2 = nI (zpr a)) (ho : ∀ k, k < n → S.1 129 k = nI (o k) ∧ o k < n) (hk0 : k0 < n) (ek0 : o k0 = h0) (hmin : ∀ k, k < k0 → o k ≠ h0) : ∃ Y : zSt, fx_Lineup_gainOf S (nI h0) = some (zG a (k0 == 0) h0 (zhp a o k0) (zbb n o k0), Y) ∧ (∀ q, q ≠ 134 → q ≠ 135 → Y.1 q = S.1 q) ∧ Y.2 = S.2 := by
  have hn := B.n9
  obtain ⟨W, w1, w2, w3, w4⟩ := fx_weigh_eq B ct h5 h12
  have OW : ∀ Z : zSt, (∀ q, q ≠ 135 → Z.1 q = W.1 q) → zOx Z a n := fun Z hZ => ⟨by rw [hZ _ (by omega), w3 _ (by omega)]; exact ct, fun h hh => by rw [hZ _ (by omega), w3 _ (by omega)]; exact h6 h hh, fun h hh => by rw [hZ _ (by omega), w3 _ (by omega)]; exact h7 h hh, fun h hh => by rw [hZ _ (by omega)]; exact w2 h hh, by rw [hZ _ (by omega), w3 _ (by omega)]; exact h19.1, by rw [hZ _ (by omega), w3 _ (by omega)]; exact h19.2.1, by rw [hZ _ (by omega), w3 _ (by omega)]; exact h19.2.2⟩
  have key : ∀ (f i : Nat) (Z : zSt), i ≤ k0 → k0 < i + f → (∀ q, q ≠ 135 → Z.1 q = W.1 q) → Z.2 = S.2 → Z.1 135 i = nI (zhp a o i) → ∃ Y : zSt, (∀ j : Int32 → zSt → Option (Int32 × zSt), fx_Lineup_gainOf_L26 (nI h0) (nI (n - 1)) j f (nI i) Z = j (nI k0) Y) ∧ (∀ q, q ≠ 135 → Y.1 q = W.1 q) ∧ Y.2 = S.2 ∧ Y.1 135 k0 = nI (zhp a o k0) := by
    intro f
    induction f with
    | zero => intro i Z a b; omega
    | succ f ih =>
      intro i Z h1 h2 hZ hZ2 hz
      obtain ⟨o1, o2⟩ := ho i (by omega)
      have oz : Z.1 129 i = nI (o i) := by rw [hZ _ (by omega), w3 _ (by omega)]; exact o1
      by_cases e : i = k0
      · subst e
        refine ⟨Z, fun j => ?_, hZ, hZ2, hz⟩
        rw [fx_Lineup_gainOf_L26, if_neg (nI_nlt (by omega) (by omega)), zix_n (show i < 9 by omega) (by omega), zck_t, nI_clamp (by omega), oz, if_pos (by rw [ek0])]
      · have hp := zhp_le B i (fun k hk => (ho k (by omega)).2)
        obtain ⟨Y, y1, y2⟩ := ih (i + 1) (zpI Z 135 (i + 1) (nI (zhp a o (i + 1)))) (by omega) (by omega) (fun q hq => by rw [zI_ne hq]; exact hZ q hq) hZ2 zI_at
        refine ⟨Y, fun j => ?_, y2⟩
        rw [fx_Lineup_gainOf_L26, if_neg (nI_nlt (by omega) (by omega)), zix_n (show i < 9 by omega) (by omega), zck_t, nI_clamp (n := i) (by omega), oz, if_neg (fun q => hmin i (by omega) ((nI_eq (by omega) (by omega)).mp q)), zck_t, zix_n (show i < 10 by omega) (by omega), zck_t, hz, fx_heat_eq B (OW Z hZ) o2 hp, zbd_s, nI_1, zix_n (show i + 1 < 10 by omega) (by omega), zck_t, znm_q, znm_q, nI_clamp (n := i + 1) (by omega)]
        exact y1 j
  unfold fx_Lineup_gainOf
  rw [w1, zbd_s]
  generalize hz : zFU = fu
  have hfu : 100 < fu := by rw [← hz]; decide
  simp only [znm_q]
  obtain ⟨Y, y1, y2, y3, y4⟩ := key fu 0 (zpI W 135 0 0) (by omega) (by omega) (fun q hq => zI_ne hq) w4 zI_at
  rw [nI_0] at y1
  have hp := zhp_le B k0 (fun k hk => (ho k (by omega)).2)
  have bb : ∀ g, zbb n o k0 = some g → g < n := fun g hg => by
    unfold zbb at hg
    by_cases c : k0 + 1 < n
    · rw [if_pos c] at hg
      cases hg
      exact (ho _ c).2
    · rw [if_neg c] at hg
      cases hg
  have ga := fx_gainAt_eq (p := k0) (bh := zbb n o k0) B (OW Y y2) (by omega) hh hp bb
  rw [w3 4 (by omega), ct, show nI n - (1 : Int32) = nI (n - 1) from by rw [show (1 : Int32) = nI 1 from rfl, pk_sub (by omega)], y1, zix_n (show k0 < 10 by omega) (by omega), zck_t, nI_clamp (n := k0) (by omega), y4]
  refine ⟨Y, ?_, fun q a b => by rw [y2 q b, w3 q a], y3⟩
  by_cases c : k0 + 1 < n
  · have e : zbb n o k0 = some (o (k0 + 1)) := by unfold zbb; rw [if_pos c]
    rw [e, show zbh (some (o (k0 + 1))) = nI (o (k0 + 1)) from rfl] at ga
    rw [if_neg (nI_ge (by omega) (by omega)), nI_1, zix_n (show k0 + 1 < 9 by omega) (by omega), zck_t, nI_clamp (n := k0 + 1) (by omega), show Y.1 129 (k0 + 1) = nI (o (k0 + 1)) from by rw [y2 _ (by omega), w3 _ (by omega)]; exact (ho _ c).1, ga, zbd_s, e]
  · have e : zbb n o k0 = none := by unfold zbb; rw [if_neg c]
    rw [e, show zbh none = -1 from rfl] at ga
    rw [if_pos (nI_le (by omega) (by omega)), ga, zbd_s, e]
section ops17
variable {RR : (Nat → Int32) → Int32 → Int32 → (Nat → Int32) → Prop}
theorem zp_gain (hRR : zRok RR) : zo_gain (zInv RR) := by
  intro X M hI a1
  obtain ⟨t, n, m, c, o, hT, hF, hC, hU, hK⟩ := id hI
  obtain ⟨hH, hTi, hS, hR, hL, hRi⟩ := id hC
  obtain ⟨q1, q2, q3, q4, q5⟩ := hT
  have B := zBd_of hH hTi hS
  have hn : n ≤ 9 := hH.2.2.1
  have ex : X.1 4 0 = nI n := hH.1
  have em : M.1 1 4 = nI n := hH.2.1
  have eb : X.1 2 = M.1 6 := funext q4
  have inv : ∀ V Y : zSt, (∀ q, q < 126 ∨ q = 140 ∨ q = 141 → V.1 q = X.1 q) → V.2 = X.2 → (∀ q, (q = 1 ∨ q = 2 ∨ q = 3 ∨ q = 6) → Y.1 q = M.1 q) → (∀ k, (k = 3 ∨ k = 4 ∨ k = 19 ∨ k = 21) → Y.1 0 k = M.1 0 k) → Y.1 0 12 = 0 → ∀ W : zSt, (∀ q, q ≠ 1 → (q < 126 ∨ q = 140 ∨ q = 141) → W.1 q = V.1 q) → W.2 = V.2 → W.1 1 1 = 0 → zInv RR W Y := fun V Y h1 h2 h3 h4 h5 W h6 h7 h8 => zI_t0 hRR (fun q a b => by rw [h6 q a b, h1 q b]) (fun q _ => by rw [h7, h2]) h8 h3 h4 h5 hI
  have has_t : ∀ Z : zSt, Z.1 4 = X.1 4 → Z.1 4 0 = nI n := fun Z h => by rw [h]; exact ex
  unfold fx_gain fm_gain
  simp only [znm_q]
  rw [q2]
  obtain ⟨CL, l1, l2, l3, l4⟩ := fx_clear_eq (X := X)
  by_cases ht : t = n
  rotate_left 1
  · -- another length
    have st : fx_Lineup_standAsTold X = some (0, X) := by
      unfold fx_Lineup_standAsTold
      rw [q1, ex, if_neg (fun q => ht ((nI_eq (by omega) (by omega)).mp q))]
    rw [st, zbd_s, z_i0]
    have ne : ¬ nI t = (zpI M 0 12 0).1 1 4 := by
      rw [zI_ne (by omega), em]
      exact fun q => ht ((nI_eq (by omega) (by omega)).mp q)
    have em' : (zpI M 0 12 0).1 1 4 = nI n := by rw [zI_ne (by omega)]; exact em
    have fin : zInv RR (zpI X 1 1 0) (zpI M 0 12 0) := inv X _ (fun _ _ => rfl) rfl (fun q hq => zI_ne (by omega)) (fun k hk => zI_nk (by omega)) zI_at _ (fun q a _ => zI_ne a) rfl zI_at
    by_cases ho : a1 < 0 ∨ nI n ≤ a1
    · rw [fm_has_lo em' hn ho, zbd_s, z_i0]
      exact ⟨_, _, _, rfl, rfl, fin⟩
    · obtain ⟨h, hh, rfl⟩ := zpos (by omega) ho
      rw [fm_has_in em' hn hh, zbd_s, z_i1, if_neg ne]
      exact ⟨_, _, _, rfl, rfl, fin⟩
  subst ht
  have em' : (zpI M 0 12 0).1 1 4 = nI t := by rw [zI_ne (by omega)]; exact em
  have st : fx_Lineup_standAsTold X = fx_Lineup_standAsTold_L25 (fun S_4 => some (0, S_4)) zFU 0 CL := by
    unfold fx_Lineup_standAsTold
    rw [q1, ex, if_pos rfl, l1, zbd_s, znm_q]
  have told := fun (h0 : Nat) (h00 : h0 < t) => ztold (X := CL) (M := zpI M 0 12 0) hn h00 (by rw [l3 _ (by omega)]; exact ex) em' (by rw [l3 _ (by omega)]; exact q1) (by rw [l3 _ (by omega), zI_ne (by omega)]; exact eb) zFU 0 0 CL (zpI M 0 12 0) (-1) (fun _ => 0) (by omega) (by unfold zFU; omega) (fun _ _ _ => rfl) rfl (fun _ _ => rfl) (fun k hk => by omega) (fun h hh => by rw [l2 h hh]; simp) (by omega) (by
      have : ∀ k, zct 0 k = 0 := by
        intro k
        induction k with
        | zero => rfl
        | succ k ih => unfold zct; rw [ih]; simp
      exact this t) (fun h hh => by simp) (fun k hk => by omega)
  by_cases ho : a1 < 0 ∨ nI t ≤ a1
  · -- no such house
    rw [fm_has_lo em' hn ho, zbd_s, z_i0, st]
    by_cases t0 : t = 0
    · have r1 : fx_Lineup_standAsTold_L25 (fun S_4 => some (0, S_4)) zFU 0 CL = some (1, CL) := by
        unfold zFU
        rw [fx_Lineup_standAsTold_L25, l3 _ (by omega), q1, t0, if_pos (by decide)]
      rw [r1, zbd_s, z_i1, fx_has_lo (n := t) (by rw [zI_ne (by omega), l3 _ (by omega)]; exact ex) ho, zbd_s, z_i0]
      exact ⟨_, _, _, rfl, rfl, inv CL _ (fun q hq => l3 q (by omega)) l4 (fun q hq => zI_ne (by omega)) (fun k hk => zI_nk (by omega)) zI_at _ (fun q a _ => zI_ne a) rfl zI_at⟩
    · rcases told 0 (by omega) with ⟨S', T', w1, w2, w3, w4, w5⟩ | ⟨S', T', pl', o', w1, w2, w3, w4, w5, _⟩
      · rw [nI_0] at w1
        rw [w1, zbd_s, z_i0]
        exact ⟨_, _, _, rfl, rfl, inv S' _ (fun q hq => by rw [w3 q (by omega) (by omega), l3 q (by omega)]) (by rw [w4, l4]) (fun q hq => zI_ne (by omega)) (fun k hk => zI_nk (by omega)) zI_at _ (fun q a _ => zI_ne a) rfl zI_at⟩
      · rw [nI_0] at w1
        rw [w1, zbd_s, z_i1, fx_has_lo (n := t) (by rw [zI_ne (by omega), w3 _ (by omega) (by omega), l3 _ (by omega)]; exact ex) ho, zbd_s, z_i0]
        exact ⟨_, _, _, rfl, rfl, inv S' _ (fun q hq => by rw [w3 q (by omega) (by omega), l3 q (by omega)]) (by rw [w4, l4]) (fun q hq => zI_ne (by omega)) (fun k hk => zI_nk (by omega)) zI_at _ (fun q a _ => zI_ne a) rfl zI_at⟩
  obtain ⟨h0, h00, rfl⟩ := zpos (by omega) ho
  rw [fm_has_in em' hn h00, zbd_s, z_i1, em', if_pos rfl, st]
  have m1 : ∀ T' : zSt, (∀ q, q ≠ 11 → T'.1 q = (zpI M 0 12 0).1 q) → (∀ q, (q = 1 ∨ q = 2 ∨ q = 3 ∨ q = 6) → T'.1 q = M.1 q) ∧ (∀ k, (k = 3 ∨ k = 4 ∨ k = 19 ∨ k = 21) → T'.1 0 k = M.1 0 k) ∧ T'.1 0 12 = 0 := fun T' h => ⟨fun q hq => by rw [h q (by omega)]; exact zI_ne (by omega), fun k hk => by rw [h 0 (by omega)]; exact zI_nk (by omega), by rw [h 0 (by omega)]; exact zI_at⟩
  rcases told h0 h00 with ⟨S', T', w1, w2, w3, w4, w5⟩ | ⟨S', T', pl', o', w1, w2, w3, w4, w5, w6, w7, w8⟩
  · rw [nI_0] at w1 w2
    rw [w1, w2, zbd_s, z_i0]
    obtain ⟨k1, k2, k3⟩ := m1 T' w5
    exact ⟨_, _, _, rfl, rfl, inv S' T' (fun q hq => by rw [w3 q (by omega) (by omega), l3 q (by omega)]) (by rw [w4, l4]) k1 k2 k3 _ (fun q a _ => zI_ne a) rfl zI_at⟩
  · rw [nI_0] at w1 w2
    obtain ⟨k1, k2, k3⟩ := m1 T' w5
    obtain ⟨k0, ⟨kk, ek⟩, hmin⟩ := pk_least (fun k => k < t ∧ o' k = h0) (w8 h0 h00)
    have sx : ∀ q, (q < 126 ∨ q = 140 ∨ q = 141) → S'.1 q = X.1 q := fun q hq => by rw [w3 q (by omega) (by omega), l3 q (by omega)]
    have t1 : T'.1 1 = M.1 1 := k1 1 (by omega)
    obtain ⟨Z, z1, z2, z3, z4⟩ := fm_bakes_eq (S := T') B t1 (fun i hi => ⟨(w6 i hi).2.1, (w6 i hi).2.2⟩)
    have gm := fm_gainAt_eq (S := Z) B (by rw [z3 1 (by omega) (by omega)]; exact t1) (fun i hi => by rw [z3 11 (by omega) (by omega)]; exact ⟨(w6 i hi).2.1, (w6 i hi).2.2⟩) z2 kk
    rw [w1, w2, zbd_s, z_i1, fx_has_in (n := t) (by rw [zI_ne (by omega), sx _ (by omega)]; exact ex) hn h00, zbd_s, z_i1, z1, zbd_s, w7 k0 kk ek, gm, zbd_s]
    obtain ⟨V, v1, v2, v3⟩ := fx_gainOf_eq (S := zpI S' 1 1 0) B h00 (by rw [zI_ne (by omega), sx _ (by omega)]; exact ex) (fun h hh => by rw [zI_ne (by omega), sx _ (by omega)]; exact (hH.2.2.2.1 h hh).1) (fun h hh => by rw [zI_ne (by omega), sx _ (by omega)]; exact (hTi.2.2.2.2.2.1 h hh).1) (fun h hh => by rw [zI_ne (by omega), sx _ (by omega), show X.1 6 h = M.1 1 (21 + 16 * h) from (hH.2.2.2.1 h hh).2.1]; exact (B.nd h hh).2.2) (fun h hh => by rw [zI_ne (by omega), sx _ (by omega), show X.1 7 h = M.1 1 (22 + 16 * h) from (hH.2.2.2.1 h hh).2.2.1]; exact (B.mi h hh).2) (by
      rw [zI_ne (by omega), sx _ (by omega), show X.1 19 0 = M.1 1 0 from hS.1 0 (by omega), show X.1 19 1 = M.1 1 1 from hS.1 1 (by omega), show X.1 19 2 = M.1 1 2 from hS.1 2 (by omega)]
      exact ⟨B.pw.2.2, B.cl.2, B.pr.2⟩) (o := o') (fun k hk => by rw [zI_ne (by omega)]; exact ⟨(w6 k hk).1, (w6 k hk).2.2⟩) kk ek (fun k hk q => hmin k hk ⟨by omega, q⟩)
    rw [v1, zbd_s, ek]
    refine ⟨_, _, _, rfl, rfl, inv S' Z sx (by rw [w4, l4]) (fun q hq => by rw [z3 q (by omega) (by omega)]; exact k1 q hq) (fun k hk => by rw [z4 k (by omega)]; exact k2 k hk) (by rw [z4 12 (by omega)]; exact k3) V (fun q a b => by rw [v2 q (by omega) (by omega), zI_ne a]) (by rw [v3]; rfl) (by rw [v2 1 (by omega) (by omega), zI_at])⟩
end ops17
