/-! the houses stand by the rule -/
theorem zstand {X M : zSt} {n : Nat} (hH : rH X.1 3 (M.1 1) n) (hT : rT X.1 11 (M.1 1) n) (hR : X.1 20 2 = M.1 1 590 ∧ zRR (X.1 21) (X.1 20 1) (X.1 20 2) (M.1 1)) : ∃ (S' T' : zSt) (o : Nat → Nat), fx_Lineup_standByRule X = some ((), S') ∧ (∀ (a1 : Int32) (j : zSt → Option (Unit × zSt)), fm_laysOrder_L9 a1 (nI n) j zFU 0 M = j T') ∧ zPm o n ∧ (∀ k, k < n → S'.1 129 k = nI (o k) ∧ T'.1 9 k = nI (o k)) ∧ (∀ q, q ≠ 129 → q ≠ 131 → q ≠ 132 → q ≠ 133 → S'.1 q = X.1 q) ∧ S'.2 = X.2 ∧ (∀ q, q ≠ 7 → q ≠ 8 → q ≠ 9 → q ≠ 10 → T'.1 q = M.1 q) := by
  have hn : n ≤ 9 := hH.2.2.1
  have ex : X.1 4 0 = nI n := hH.1
  have em : M.1 1 4 = nI n := hH.2.1
  obtain ⟨hR1, nl, len, nl16, hlen, e1, e2, hRl⟩ := hR
  have key : ∀ (f h : Nat) (S T : zSt) (o : Nat → Nat), h ≤ n → n < h + f → zPm o h → (∀ k, k < h → S.1 129 k = nI (o k) ∧ T.1 9 k = nI (o k)) → (∀ k, k < h → S.1 131 k = T.1 10 k) → (∀ q, q ≠ 129 → q ≠ 131 → q ≠ 132 → q ≠ 133 → S.1 q = X.1 q) → S.2 = X.2 → (∀ q, q ≠ 7 → q ≠ 8 → q ≠ 9 → q ≠ 10 → T.1 q = M.1 q) → ∃ (S' T' : zSt) (o : Nat → Nat), fx_Lineup_standByRule_L2 f (nI h) S = some ((), S') ∧ (∀ (a1 : Int32) (j : zSt → Option (Unit × zSt)), fm_laysOrder_L9 a1 (nI n) j f (nI h) T = j T') ∧ zPm o n ∧ (∀ k, k < n → S'.1 129 k = nI (o k) ∧ T'.1 9 k = nI (o k)) ∧ (∀ q, q ≠ 129 → q ≠ 131 → q ≠ 132 → q ≠ 133 → S'.1 q = X.1 q) ∧ S'.2 = X.2 ∧ (∀ q, q ≠ 7 → q ≠ 8 → q ≠ 9 → q ≠ 10 → T'.1 q = M.1 q) := by
    intro f
    induction f with
    | zero => intro h S T o a b; omega
    | succ f ih =>
      intro h S T o h1 h2 hO hA hW hS hS2 hTq
      by_cases e : h = n
      · subst e
        exact ⟨S, T, o, by rw [fx_Lineup_standByRule_L2, hS 4 (by omega) (by omega) (by omega) (by omega), ex, if_pos (nI_le (Nat.le_refl _) (by omega))], fun a1 j => by rw [fm_laysOrder_L9, if_pos (nI_le (Nat.le_refl _) (by omega))], hO, hA, hS, hS2, hTq⟩
      have hh : h < n := by omega
      have hH' : rH S.1 3 (M.1 1) n := rH_c (fun q a b => hS q (by omega) (by omega) (by omega) (by omega)) rfl (fun _ _ _ _ _ => rfl) (fun _ _ _ => rfl) hH
      have hT' : rT S.1 11 (M.1 1) n := rT_c (fun q a b => hS q (by omega) (by omega) (by omega) (by omega)) (fun _ _ => rfl) (fun _ _ _ _ _ => rfl) hT
      have t1 : T.1 1 = M.1 1 := hTq 1 (by omega) (by omega) (by omega) (by omega)
      obtain ⟨G, g1, g2, g3, g4⟩ := fx_gather_eq hh hn hH' hT'
      obtain ⟨U, u1, u2, u3⟩ := fm_worth_eq (T := T) hh hn t1 em
      obtain ⟨r, G', U', w1, w2, w3, w4, w5⟩ := zworth (c := X.1 21) (a := M.1 1) (G := zFc (M.1 1) n h) (K := fun x_1 S_2 => if x_1 ≤ 0 then some (0, S_2) else zck (zix (x_1 - 1) 64) (some (S_2.1 133 (x_1 - 1).toNatClampNeg, S_2))) (J := fun x_20 S_21 => zck (zix (600 + x_20) 1480) (zck (zix (620 + x_20) 1480) (zbd (fm_comesTo S_21 (S_21.1 1 (600 + x_20).toNatClampNeg) (S_21.1 1 (620 + x_20).toNatClampNeg)) fun r_24 S_25 => some (r_24, S_25)))) (fun _ _ => rfl) (fun _ _ => rfl) hlen nl 0 0 zFU zFU G U hRl (by omega) (by omega) (by unfold zFU; omega) (by unfold zFU; omega) (fun i _ => by rw [g3 21 (by omega), hS 21 (by omega) (by omega) (by omega) (by omega)]) (by rw [g3 20 (by omega), hS 20 (by omega) (by omega) (by omega) (by omega)]; exact e2) g2 (fun i _ _ => by rw [u3 1 (by omega), t1]) (by rw [u3 1 (by omega), t1, ← hR1, e1, Nat.zero_add]) u2
      rw [nI_0] at w1 w2
      have wx : fx_Rule_worth G = some (r, G') := by
        unfold fx_Rule_worth
        simp only [znm_q]
        exact w1
      have wm : fm_worth T (nI h) = some (r, U') := by rw [u1]; exact w2
      have gq : ∀ q, q ≠ 132 → q ≠ 133 → G'.1 q = S.1 q := fun q a b => by rw [w3 q b, g3 q a]
      have uq : ∀ q, q ≠ 7 → q ≠ 8 → U'.1 q = T.1 q := fun q a b => by rw [w5 q a, u3 q b]
      obtain ⟨S1, T1, x', o', i1, i2, i3, i4, i5, i6, i7, i8⟩ := zins (h := h) (by omega) (a1 := 0) (x1 := 0) zFU h (zpI G' 131 h r) (zpI U' 10 h r) o (Nat.le_refl _) (by unfold zFU; omega) (zOq_new hO) (fun k hk hk2 => by
        rw [zI_ne (by omega), zI_ne (by omega), gq 129 (by omega) (by omega), uq 9 (by omega) (by omega)]
        exact hA k (by omega)) (fun k hk => by
        by_cases c : k = h
        · subst c; rw [zI_at, zI_at]
        · rw [zI_nk c, zI_nk c, gq 131 (by omega) (by omega), uq 10 (by omega) (by omega)]
          exact hW k (by omega))
      have i2' : ∀ (a1 : Int32) (j : Int32 → zSt → Option (Unit × zSt)), fm_laysOrder_L28 a1 (nI n) (nI h) j zFU (nI h) (zpI U' 10 h r) = j (nI x') T1 := by
        intro a1 j
        have gen : ∀ (f : Nat) (x : Int32) (Z : zSt) (b c : Int32), fm_laysOrder_L28 b c (nI h) j f x Z = fm_laysOrder_L28 0 0 (nI h) j f x Z := by
          intro f
          induction f with
          | zero => intro x Z b c; rfl
          | succ f ihf =>
            intro x Z b c
            rw [fm_laysOrder_L28, fm_laysOrder_L28]
            simp only [znm_q, ihf _ _ b c]
        rw [gen]
        exact i2 j
      obtain ⟨S', T', of, k1, k2, k3⟩ := ih (h + 1) (zpI S1 129 x' (nI h)) (zpI T1 9 x' (nI h)) (zup o' x' h) (by omega) (by omega) (zOq_end i4 (by omega)) (fun k hk => by
        unfold zup
        by_cases c : k = x'
        · subst c; rw [zI_at, zI_at, if_pos rfl]; exact ⟨rfl, rfl⟩
        · rw [zI_nk c, zI_nk c, if_neg c]; exact i5 k (by omega) c) (fun k hk => by
        rw [zI_ne (by omega), zI_ne (by omega), i6 131 (by omega), i8 10 (by omega)]
        by_cases c : k = h
        · subst c; rw [zI_at, zI_at]
        · rw [zI_nk c, zI_nk c, gq 131 (by omega) (by omega), uq 10 (by omega) (by omega)]
          exact hW k (by omega)) (fun q a b c d => by rw [zI_ne a, i6 q a, zI_ne b, gq q c d]; exact hS q a b c d) (by show S1.2 = X.2; rw [i7]; show G'.2 = X.2; rw [w4, g4]; exact hS2) (fun q a b c d => by rw [zI_ne c, i8 q c, zI_ne d, uq q a b]; exact hTq q a b c d)
      refine ⟨S', T', of, ?_, fun a1 j => ?_, k3⟩
      · rw [fx_Lineup_standByRule_L2, hS 4 (by omega) (by omega) (by omega) (by omega), ex, if_neg (nI_ge hh (by omega)), g1, zbd_s, wx, zbd_s, zix_n (show h < 9 by omega) (by omega), zck_t, znm_q, znm_q, nI_clamp (n := h) (by omega), i1, zix_n (show x' < 9 by omega) (by omega), zck_t, znm_q, znm_q, nI_clamp (n := x') (by omega), nI_1]
        exact k1
      · rw [fm_laysOrder_L9, if_neg (nI_ge hh (by omega)), wm, zbd_s, zix_n (show h < 9 by omega) (by omega), zck_t, znm_q, znm_q, nI_clamp (n := h) (by omega), i2', zix_n (show x' < 9 by omega) (by omega), zck_t, znm_q, znm_q, nI_clamp (n := x') (by omega), nI_1]
        exact k2 a1 j
  obtain ⟨S', T', o, k1, k2, k3⟩ := key zFU 0 X M (fun _ => 0) (by omega) (by unfold zFU; omega) ⟨fun k hk => by omega, fun k k' a => by omega, fun w hw => by omega⟩ (fun k hk => by omega) (fun k hk => by omega) (fun _ _ _ _ _ => rfl) rfl (fun _ _ _ _ _ => rfl)
  refine ⟨S', T', o, ?_, fun a1 j => by rw [← nI_0]; exact k2 a1 j, k3⟩
  unfold fx_Lineup_standByRule
  rw [← nI_0]
  exact k1
/-! Mondays -/
theorem fx_mon_eq {S : zSt} {a : Nat → Int32} {n : Nat} (hT : rT S.1 11 a n) : fx_Times_isMonday S = some (if a 5 - a 5 / 7 * 7 = 0 then 1 else 0, S) := by
  unfold fx_Times_isMonday
  simp only [znm_q]
  rw [show S.1 11 1 = a 5 from hT.2.1]
  by_cases h : a 5 - a 5 / 7 * 7 = 0
  · rw [if_pos h, if_pos h, zbo_1, zck_t]
  · rw [if_neg h, if_neg h, zbo_0, zck_t]
theorem zfew {S T : zSt} {n : Nat} (hn : n ≤ 9) (h0 : 0 < n) (ex : S.1 4 0 = nI n) (h16 : ∀ h, h < n → S.1 16 h = T.1 1 (27 + 16 * h)) : ∃ v : Nat, v < n ∧ fx_Lineup_fewestMondays S = some (nI v, S) ∧ (∀ j : Int32 → zSt → Option (Unit × zSt), fm_laysOrder_L118 (nI n) j zFU 0 1 T = j (nI v) T) := by
  have own : ∀ h, h < n → fm_own T (nI h) 7 = some (T.1 1 (27 + 16 * h), T) := fun h hh => by
    rw [show (7 : Int32) = nI 7 from rfl, fm_own_eq (by omega) (by omega), show 20 + 16 * h + 7 = 27 + 16 * h by omega]
  have key : ∀ (f v h : Nat), h ≤ n → v < n → n < h + f → ∃ w : Nat, w < n ∧ fx_Lineup_fewestMondays_L4 f (nI v) (nI h) S = some (nI w, S) ∧ (∀ j : Int32 → zSt → Option (Unit × zSt), fm_laysOrder_L118 (nI n) j f (nI v) (nI h) T = j (nI w) T) := by
    intro f
    induction f with
    | zero => intro v h a b; omega
    | succ f ih =>
      intro v h h1 hv h2
      by_cases e : h = n
      · subst e
        exact ⟨v, hv, by rw [fx_Lineup_fewestMondays_L4, ex, if_pos (nI_le (Nat.le_refl _) (by omega))], fun j => by rw [fm_laysOrder_L118, if_pos (nI_le (Nat.le_refl _) (by omega))]⟩
      have hh : h < n := by omega
      have sx : fx_Lineup_fewestMondays_L4 (f + 1) (nI v) (nI h) S = if T.1 1 (27 + 16 * v) ≤ T.1 1 (27 + 16 * h) then fx_Lineup_fewestMondays_L4 f (nI v) (nI (h + 1)) S else fx_Lineup_fewestMondays_L4 f (nI h) (nI (h + 1)) S := by
        rw [fx_Lineup_fewestMondays_L4, ex, if_neg (nI_ge hh (by omega)), zix_n (show h < 9 by omega) (by omega), zck_t, zix_n (show v < 9 by omega) (by omega), zck_t]
        simp only [znm_q]
        rw [nI_clamp (n := h) (by omega), nI_clamp (n := v) (by omega), h16 h hh, h16 v hv, nI_1]
      have sm : ∀ j, fm_laysOrder_L118 (nI n) j (f + 1) (nI v) (nI h) T = if T.1 1 (27 + 16 * v) ≤ T.1 1 (27 + 16 * h) then fm_laysOrder_L118 (nI n) j f (nI v) (nI (h + 1)) T else fm_laysOrder_L118 (nI n) j f (nI h) (nI (h + 1)) T := fun j => by
        rw [fm_laysOrder_L118, if_neg (nI_ge hh (by omega)), own h hh, zbd_s, own v hv, zbd_s]
        simp only [znm_q]
        rw [nI_1]
      by_cases c : T.1 1 (27 + 16 * v) ≤ T.1 1 (27 + 16 * h)
      · obtain ⟨w, w1, w2, w3⟩ := ih v (h + 1) (by omega) hv (by omega)
        exact ⟨w, w1, by rw [sx, if_pos c]; exact w2, fun j => by rw [sm, if_pos c]; exact w3 j⟩
      · obtain ⟨w, w1, w2, w3⟩ := ih h (h + 1) (by omega) hh (by omega)
        exact ⟨w, w1, by rw [sx, if_neg c]; exact w2, fun j => by rw [sm, if_neg c]; exact w3 j⟩
  exact key zFU 0 1 (by omega) h0 (by unfold zFU; omega)
/-- the house v comes to the front -/
theorem zfront {S T : zSt} {n v : Nat} {o : Nat → Nat} (hn : n ≤ 9) (ex : S.1 4 0 = nI n) (hv : v < n) (hO : zPm o n) (hA : ∀ k, k < n → S.1 129 k = nI (o k) ∧ T.1 9 k = nI (o k)) : ∃ (S' T' : zSt) (o' : Nat → Nat), fx_Lineup_putFirst S (nI v) = some ((), S') ∧ fm_laysOrder_L154 (nI v) (fun x_6 S_7 => fm_laysOrder_L175 (nI v) zFU x_6 S_7) zFU 0 T = some ((), T') ∧ zPm o' n ∧ (∀ k, k < n → S'.1 129 k = nI (o' k) ∧ T'.1 9 k = nI (o' k)) ∧ (∀ q, q ≠ 129 → S'.1 q = S.1 q) ∧ S'.2 = S.2 ∧ (∀ q, q ≠ 9 → T'.1 q = T.1 q) := by
  obtain ⟨i, ⟨hi, ei⟩, hmin⟩ := pk_least (fun k => k < n ∧ o k = v) (hO.2.2 v hv)
  -- the place is found
  have find : ∀ (f k : Nat), k ≤ i → i < k + f → (∀ j : Int32 → zSt → Option (Unit × zSt), fx_Lineup_putFirst_L2 (nI v) j f (nI k) S = j (nI i) S) ∧ (∀ j : Int32 → zSt → Option (Unit × zSt), fm_laysOrder_L154 (nI v) j f (nI k) T = j (nI i) T) := by
    intro f
    induction f with
    | zero => intro k a b; omega
    | succ f ih =>
      intro k h1 h2
      obtain ⟨a1, a2⟩ := hA k (by omega)
      have b1 := hO.1 k (by omega)
      by_cases e : k = i
      · subst e
        refine ⟨fun j => ?_, fun j => ?_⟩
        · rw [fx_Lineup_putFirst_L2, ex, if_neg (nI_ge hi (by omega)), zix_n (show k < 9 by omega) (by omega), zck_t, nI_clamp (by omega), a1, if_pos (by rw [ei])]
        · rw [fm_laysOrder_L154, zix_n (show k < 9 by omega) (by omega), zck_t, nI_clamp (by omega), a2, if_pos (by rw [ei])]
      · have ne : ¬ nI (o k) = nI v := fun q => hmin k (by omega) ⟨by omega, (nI_eq (by omega) (by omega)).mp q⟩
        obtain ⟨x1, x2⟩ := ih (k + 1) (by omega) (by omega)
        refine ⟨fun j => ?_, fun j => ?_⟩
        · rw [fx_Lineup_putFirst_L2, ex, if_neg (nI_ge (by omega) (by omega)), zix_n (show k < 9 by omega) (by omega), zck_t, nI_clamp (by omega), a1, if_neg ne, znm_q, nI_1]
          exact x1 j
        · rw [fm_laysOrder_L154, zix_n (show k < 9 by omega) (by omega), zck_t, nI_clamp (by omega), a2, if_neg ne, znm_q, nI_1]
          exact x2 j
  -- the others go back one place
  have shift : ∀ (f x : Nat) (Y Z : zSt) (o : Nat → Nat), x < n → x < f → zOq o n x v → zLo Y Z n x o → ∃ (S' T' : zSt) (o' : Nat → Nat), fx_Lineup_putFirst_L49 (nI v) f (nI x) Y = some ((), S') ∧ fm_laysOrder_L175 (nI v) f (nI x) Z = some ((), T') ∧ zPm o' n ∧ (∀ k, k < n → S'.1 129 k = nI (o' k) ∧ T'.1 9 k = nI (o' k)) ∧ (∀ q, q ≠ 129 → S'.1 q = Y.1 q) ∧ S'.2 = Y.2 ∧ (∀ q, q ≠ 9 → T'.1 q = Z.1 q) := by
    intro f
    induction f with
    | zero => intro x Y Z o a b; omega
    | succ f ih =>
      intro x Y Z o hx hf hq hl
      rw [fx_Lineup_putFirst_L49, fm_laysOrder_L175]
      by_cases x0 : x = 0
      · subst x0
        rw [if_pos (by decide), if_pos (by decide), znm_q, znm_q]
        refine ⟨_, _, zup o 0 v, rfl, rfl, zOq_end hq hx, fun k hk => ?_, fun q hq => zI_ne hq, rfl, fun q hq => zI_ne hq⟩
        unfold zup
        by_cases c : k = 0
        · subst c; rw [zI_at, zI_at, if_pos rfl]; exact ⟨rfl, rfl⟩
        · rw [zI_nk c, zI_nk c, if_neg c]; exact hl k hk c
      · obtain ⟨l1, l2⟩ := hl (x - 1) (by omega) (by omega)
        have px : nI x - (1 : Int32) = nI (x - 1) := by rw [show (1 : Int32) = nI 1 from rfl, pk_sub (by omega)]
        have px2 : nI x + (-1 : Int32) = nI (x - 1) := by rw [← Int32.sub_eq_add_neg]; exact px
        rw [if_neg (nI_nle (by omega) (by omega)), if_neg (nI_nle (by omega) (by omega)), px, px2, zix_n (show x - 1 < 9 by omega) (by omega), zck_t, zck_t, zix_n (show x < 9 by omega) (by omega), zck_t, zck_t]
        simp only [znm_q]
        rw [nI_clamp (n := x) (by omega), nI_clamp (n := x - 1) (by omega), l1, l2]
        obtain ⟨S', T', o', k1, k2, k3, k4, k5, k6, k7⟩ := ih (x - 1) (zpI Y 129 x (nI (o (x - 1)))) (zpI Z 9 x (nI (o (x - 1)))) (zup o x (o (x - 1))) (by omega) (by omega) (zOq_st hq hx (by omega)) (fun k hk hk2 => by
          unfold zup
          by_cases d : k = x
          · subst d; rw [zI_at, zI_at, if_pos rfl]; exact ⟨rfl, rfl⟩
          · rw [zI_nk d, zI_nk d, if_neg d]; exact hl k hk d)
        exact ⟨S', T', o', k1, k2, k3, k4, fun q hq => by rw [k5 q hq, zI_ne hq], k6, fun q hq => by rw [k7 q hq, zI_ne hq]⟩
  obtain ⟨f1, f2⟩ := find zFU 0 (by omega) (by unfold zFU; omega)
  rw [nI_0] at f1 f2
  obtain ⟨S', T', o', k1, k2, k3⟩ := shift zFU i S T o hi (by unfold zFU; omega) (by rw [← ei]; exact zOq_out hO hi) (fun k hk _ => hA k hk)
  refine ⟨S', T', o', ?_, ?_, k3⟩
  · unfold fx_Lineup_putFirst
    rw [znm_q, f1, ex, if_pos (nI_lt hi (by omega))]
    exact k1
  · rw [f2]
    exact k2
