theorem nI_mx (a b : Nat) (ha : a < 2 ^ 30) (hb : b < 2 ^ 30) : (if nI a < nI b then nI b else nI a) = nI (max a b) := by
  by_cases h : a < b
  · rw [if_pos (nI_lt h (by omega)), Nat.max_eq_right (by omega)]
  · rw [if_neg (nI_nlt (by omega) (by omega)), Nat.max_eq_left (by omega)]
theorem zsg_1 (v : Nat → Int32) (s h : Nat) : zsg v s 0 (h + 1) = zsg v s 0 h ++ (if s.testBit h then [v h] else []) := by
  have := zsg_ad v s h 0 1
  rw [this, Nat.zero_add]
  simp [zsg]
/-- the reference's row for one set -/
theorem fm_set_eq {M : zSt} {n s : Nat} {v : Nat → Int32} (em : M.1 1 4 = nI n) (hn : n ≤ 9) (hv : ∀ h, h < n → v h = zNet (M.1 1) h n) (hs : s < 512) {S : zSt} (hS : S.1 1 = M.1 1) (hP : ∀ s', s' < s → S.1 17 s' = nI (zF (zsg v s' 0 n))) (j : Int32 → Int32 → zSt → Option (Int32 × zSt)) : fm_payments_L31 (nI n) (nI s) j zFU 0 0 0 S = j (zls (zsg v s 0 n)) (nI (zmx (fun i => zF ((zsg v s 0 n).eraseIdx i)) (zsg v s 0 n).length)) S := by
  have key : ∀ (f h : Nat), h ≤ n → n < h + f → fm_payments_L31 (nI n) (nI s) j f (zls (zsg v s 0 h)) (nI (zmx (fun i => zF ((zsg v s 0 n).eraseIdx i)) (zsg v s 0 h).length)) (nI h) S = j (zls (zsg v s 0 n)) (nI (zmx (fun i => zF ((zsg v s 0 n).eraseIdx i)) (zsg v s 0 n).length)) S := by
    intro f
    induction f with
    | zero => intro h a b; omega
    | succ f ih =>
      intro h h1 h2
      rw [fm_payments_L31]
      by_cases e : h = n
      · subst e
        rw [if_pos (nI_le (Nat.le_refl _) (by omega))]
      have hh : h < n := by omega
      have m9 := zmk9 s hs h (by omega)
      rw [if_neg (nI_ge hh (by omega)), fm_net_eq (by rw [hS]; exact em) hn (by omega), hS, ← hv h hh]
      simp only [znm_q]
      have sad := zsg_1 v s h
      have ihh := ih (h + 1) (by omega) (by omega)
      rw [sad] at ihh
      by_cases b : s.testBit h = true
      · rw [if_pos b] at m9 ihh
        obtain ⟨m1, m2, m3, m4, m5⟩ := m9
        have rm := zsg_rm (v := v) hh b
        have sl : (zsg v s 0 h ++ [v h]).length = (zsg v s 0 h).length + 1 := by rw [List.length_append]; rfl
        have b1 : ∀ i, zF ((zsg v s 0 n).eraseIdx i) ≤ 9 := fun i => Nat.le_trans (zF_le _) (Nat.le_trans (List.length_eraseIdx_le _ _) (Nat.le_trans (zsg_len v s n 0) hn))
        have b2 := zmx_le (f := fun i => zF ((zsg v s 0 n).eraseIdx i)) (m := 9) (zsg v s 0 h).length (fun i _ => b1 i)
        rw [if_neg m4, zbd_s, m1, zix_n (by omega) (by omega), zck_t, nI_clamp (by omega), hP _ m5, rm.1]
        rw [sl, zls_ap, zmx, show zls [v h] = v h from by simp [zls]] at ihh
        rw [nI_1]
        have b3 := b1 (zsg v s 0 h).length
        by_cases c : zF ((zsg v s 0 n).eraseIdx (zsg v s 0 h).length) ≤ zmx (fun i => zF ((zsg v s 0 n).eraseIdx i)) (zsg v s 0 h).length
        · rw [if_pos (nI_le c (by omega))]
          rw [Nat.max_eq_left c] at ihh
          exact ihh
        · rw [if_neg (nI_ge (by omega) (by omega))]
          rw [Nat.max_eq_right (by omega)] at ihh
          exact ihh
      · rw [if_neg b] at m9 ihh
        rw [List.append_nil] at ihh
        rw [if_pos m9.2, nI_1]
        exact ihh
  exact key zFU 0 (by omega) (by unfold zFU; omega)
theorem fm_pay_eq {M : zSt} {n : Nat} {v : Nat → Int32} (em : M.1 1 4 = nI n) (hn : n ≤ 9) (hv : ∀ h, h < n → v h = zNet (M.1 1) h n) : ∃ Y : zSt, fm_payments M = some (nI n - nI (zF (zlv v n)), Y) ∧ ∀ q, q ≠ 17 → Y.1 q = M.1 q := by
  have p9 : 2 ^ n ≤ 2 ^ 9 := Nat.pow_le_pow_right (by omega) hn
  have p0 : 0 < 2 ^ n := Nat.pow_pos (by omega)
  have key : ∀ (f s : Nat) (S : zSt), 0 < s → s ≤ 2 ^ n → 2 ^ n < s + f → (∀ q, q ≠ 17 → S.1 q = M.1 q) → (∀ s', s' < s → S.1 17 s' = nI (zF (zsg v s' 0 n))) → ∃ Y : zSt, (∀ j : zSt → Option (Int32 × zSt), fm_payments_L16 (nI n) j f (nI s) S = j Y) ∧ (∀ q, q ≠ 17 → Y.1 q = M.1 q) ∧ (∀ s', s' < 2 ^ n → Y.1 17 s' = nI (zF (zsg v s' 0 n))) := by
    intro f
    induction f with
    | zero => intro s S a b c; omega
    | succ f ih =>
      intro s S h0 h1 h2 hS hP
      by_cases e : s = 2 ^ n
      · subst e
        exact ⟨S, fun j => by rw [fm_payments_L16, zpw9 n hn, if_pos (nI_le (Nat.le_refl _) (by omega))], hS, hP⟩
      · have hne : zsg v s 0 n ≠ [] := fun q => by
          obtain ⟨h, hh, hb⟩ := zbit9 n hn s (by omega) h0
          have := (zsg_rm (v := v) hh hb).2
          rw [q] at this
          simp at this
        have fe := zF_eq _ hne
        have fl := zF_le (zsg v s 0 n)
        have sl := zsg_len v s n 0
        obtain ⟨Y, y1, y2, y3⟩ := ih (s + 1) (zpI S 17 s (nI (zF (zsg v s 0 n)))) (by omega) (by omega) (by omega) (fun q hq => by rw [zI_ne hq]; exact hS q hq) (fun s' hs' => by
          by_cases c : s' = s
          · subst c; rw [zI_at]
          · rw [zI_nk c]; exact hP s' (by omega))
        refine ⟨Y, fun j => ?_, y2, y3⟩
        rw [fm_payments_L16, zpw9 n hn, if_neg (nI_ge (by omega) (by omega)), znm_q, fm_set_eq em hn hv (by omega) (hS 1 (by omega)) hP]
        simp only [znm_q]
        rw [zix_n (show s < 512 by omega) (by omega)]
        simp only [zck_t]
        rw [nI_clamp (n := s) (by omega), nI_1]
        by_cases c : zls (zsg v s 0 n) = 0
        · rw [if_pos c, nI_1]
          rw [if_pos c] at fe
          rw [← fe]
          exact y1 j
        · rw [if_neg c, Int32.add_zero]
          rw [if_neg c, Nat.add_zero] at fe
          rw [← fe]
          exact y1 j
  unfold fm_payments
  generalize hz : zFU = fu
  have hfu : 1000 < fu := by rw [← hz]; decide
  simp only [znm_q]
  obtain ⟨Y, y1, y2, y3⟩ := key fu 1 (zpI M 17 0 0) (by omega) (by omega) (by omega) (fun q hq => zI_ne hq) (fun s' hs' => by
    obtain rfl : s' = 0 := by omega
    rw [zI_at]
    have : zsg v 0 0 n = [] := by
      refine (zsg_c (v := v) (s := 0) n 0 (fun k _ _ => ⟨rfl, fun _ => rfl⟩)).trans ?_
      have : ∀ c i, zsg v 0 i c = [] := by
        intro c
        induction c with
        | zero => intro i; rfl
        | succ c ih => intro i; rw [zsg, ih, if_neg (by simp)]; rfl
      exact this n 0
    rw [this]
    rfl)
  rw [em, show (1 : Int32) = nI 1 from rfl, y1, ← show (1 : Int32) = nI 1 from rfl, zpw9 n hn, show nI (2 ^ n) - (1 : Int32) = nI (2 ^ n - 1) from by rw [show (1 : Int32) = nI 1 from rfl, pk_sub (by omega)], zix_n (by omega) (by omega), zck_t, nI_clamp (by omega), y3 _ (by omega), zsg_all v n n (Nat.le_refl _)]
  exact ⟨Y, rfl, y2⟩
