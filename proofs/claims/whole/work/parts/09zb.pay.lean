def zfl (v : Nat → Int32) (n : Nat) : List Int32 := (zlv v n).filter (fun x => decide (x ≠ 0))
theorem zfl_1 (v : Nat → Int32) (n : Nat) : zfl v (n + 1) = zfl v n ++ (if v n = 0 then [] else [v n]) := by
  unfold zfl
  rw [zlv, List.filter_append]
  congr 1
  by_cases h : v n = 0
  · rw [if_pos h, List.filter_cons_of_neg (by simp [h])]; rfl
  · rw [if_neg h, List.filter_cons_of_pos (by simp [h])]; rfl
theorem zfl_len (v : Nat → Int32) (n : Nat) : (zfl v n).length ≤ n := by
  have := List.length_filter_le (fun x => decide (x ≠ 0)) (zlv v n)
  rw [zlv_len] at this
  exact this
/-- the nets that are not settled -/
theorem fx_uns_eq {X : zSt} {n : Nat} (ex : X.1 4 0 = nI n) (hn : n ≤ 9) : ∃ Y : zSt, (∀ j : Int32 → zSt → Option (Int32 × zSt), fx_Settling_fewest_L4 j zFU 0 0 X = j (nI (zfl (X.1 10) n).length) Y) ∧ (∀ q, q ≠ 139 → Y.1 q = X.1 q) ∧ Y.2 = X.2 ∧ (∀ i, i < (zfl (X.1 10) n).length → Y.1 139 i = (zfl (X.1 10) n).getD i 0) := by
  have key : ∀ (f h : Nat) (S : zSt), h ≤ n → n < h + f → (∀ q, q ≠ 139 → S.1 q = X.1 q) → S.2 = X.2 → (∀ i, i < (zfl (X.1 10) h).length → S.1 139 i = (zfl (X.1 10) h).getD i 0) → ∃ Y : zSt, (∀ j : Int32 → zSt → Option (Int32 × zSt), fx_Settling_fewest_L4 j f (nI (zfl (X.1 10) h).length) (nI h) S = j (nI (zfl (X.1 10) n).length) Y) ∧ (∀ q, q ≠ 139 → Y.1 q = X.1 q) ∧ Y.2 = X.2 ∧ (∀ i, i < (zfl (X.1 10) n).length → Y.1 139 i = (zfl (X.1 10) n).getD i 0) := by
    intro f
    induction f with
    | zero => intro h S a b; omega
    | succ f ih =>
      intro h S h1 h2 hS hS2 hP
      by_cases e : h = n
      · subst e
        exact ⟨S, fun j => by rw [fx_Settling_fewest_L4, hS 4 (by omega), ex, if_pos (nI_le (Nat.le_refl _) (by omega))], hS, hS2, hP⟩
      have hh : h < n := by omega
      have lh := zfl_len (X.1 10) h
      by_cases z : X.1 10 h = 0
      · have e1 : zfl (X.1 10) (h + 1) = zfl (X.1 10) h := by rw [zfl_1, if_pos z, List.append_nil]
        obtain ⟨Y, y1, y2⟩ := ih (h + 1) S (by omega) (by omega) hS hS2 (by rw [e1]; exact hP)
        rw [e1] at y1
        refine ⟨Y, fun j => ?_, y2⟩
        rw [fx_Settling_fewest_L4, hS 4 (by omega), ex, if_neg (nI_ge hh (by omega)), zix_n (by omega) (by omega), zck_t]
        simp only [znm_q]
        rw [nI_clamp (by omega), hS 10 (by omega), if_pos z, nI_1]
        exact y1 j
      · have e1 : zfl (X.1 10) (h + 1) = zfl (X.1 10) h ++ [X.1 10 h] := by rw [zfl_1, if_neg z]
        have e2 : (zfl (X.1 10) (h + 1)).length = (zfl (X.1 10) h).length + 1 := by rw [e1, List.length_append]; rfl
        obtain ⟨Y, y1, y2⟩ := ih (h + 1) (zpI S 139 (zfl (X.1 10) h).length (X.1 10 h)) (by omega) (by omega) (fun q hq => by rw [zI_ne hq]; exact hS q hq) hS2 (by
          intro i hi
          rw [e2] at hi
          rw [e1, List.getD_eq_getElem?_getD]
          by_cases c : i = (zfl (X.1 10) h).length
          · subst c
            rw [zI_at]
            simp
          · rw [zI_nk c, List.getElem?_append_left (by omega), ← List.getD_eq_getElem?_getD]
            exact hP i (by omega))
        rw [e2] at y1
        refine ⟨Y, fun j => ?_, y2⟩
        rw [fx_Settling_fewest_L4, hS 4 (by omega), ex, if_neg (nI_ge hh (by omega)), zix_n (show h < 9 by omega) (by omega), zck_t]
        simp only [znm_q]
        rw [nI_clamp (n := h) (by omega), hS 10 (by omega), if_neg z, zck_t, zix_n (show (zfl (X.1 10) h).length < 9 by omega) (by omega), zck_t, nI_clamp (by omega), nI_1, nI_1]
        exact y1 j
  exact key zFU 0 X (by omega) (by unfold zFU; omega) (fun _ _ => rfl) rfl (fun i hi => by simp [zfl, zlv] at hi)
/-- the class's row for one set -/
theorem fx_set_eq {c s : Nat} {u : Nat → Int32} (hc : c ≤ 9) (hs : s < 2 ^ c) {S0 : zSt} (hu : ∀ i, i < c → S0.1 139 i = u i) (hP : ∀ s', s' < s → S0.1 140 s' = zls (zsg u s' 0 c) ∧ S0.1 141 s' = nI (zF (zsg u s' 0 c))) (h140 : S0.1 140 s = 0) (h141 : S0.1 141 s = 0) : ∃ Y : zSt, (∀ (x3 : Int32) (j : zSt → Option (Int32 × zSt)), fx_Settling_fewest_L74 (nI c) x3 (nI s) j zFU 0 S0 = j Y) ∧ (∀ q, q ≠ 140 → q ≠ 141 → Y.1 q = S0.1 q) ∧ Y.2 = S0.2 ∧ (∀ k, k ≠ s → Y.1 140 k = S0.1 140 k ∧ Y.1 141 k = S0.1 141 k) ∧ Y.1 140 s = zls (zsg u s 0 c) ∧ Y.1 141 s = nI (zmx (fun i => zF ((zsg u s 0 c).eraseIdx i)) (zsg u s 0 c).length) := by
  have p9 : 2 ^ c ≤ 2 ^ 9 := Nat.pow_le_pow_right (by omega) hc
  have key : ∀ (f i : Nat) (S : zSt), i ≤ c → c < i + f → (∀ q, q ≠ 140 → q ≠ 141 → S.1 q = S0.1 q) → S.2 = S0.2 → (∀ k, k ≠ s → S.1 140 k = S0.1 140 k ∧ S.1 141 k = S0.1 141 k) → (S.1 140 s = if zsg u s 0 i = [] then 0 else zls (zsg u s 0 c)) → S.1 141 s = nI (zmx (fun i => zF ((zsg u s 0 c).eraseIdx i)) (zsg u s 0 i).length) → ∃ Y : zSt, (∀ (x3 : Int32) (j : zSt → Option (Int32 × zSt)), fx_Settling_fewest_L74 (nI c) x3 (nI s) j f (nI i) S = j Y) ∧ (∀ q, q ≠ 140 → q ≠ 141 → Y.1 q = S0.1 q) ∧ Y.2 = S0.2 ∧ (∀ k, k ≠ s → Y.1 140 k = S0.1 140 k ∧ Y.1 141 k = S0.1 141 k) ∧ Y.1 140 s = zls (zsg u s 0 c) ∧ Y.1 141 s = nI (zmx (fun i => zF ((zsg u s 0 c).eraseIdx i)) (zsg u s 0 c).length) := by
    intro f
    induction f with
    | zero => intro i S a b; omega
    | succ f ih =>
      intro i S h1 h2 hS hS2 hk h3 h4
      by_cases e : i = c
      · subst e
        refine ⟨S, fun x3 j => by rw [fx_Settling_fewest_L74, if_pos (nI_le (Nat.le_refl _) (by omega))], hS, hS2, hk, ?_, h4⟩
        rw [h3]
        by_cases z : zsg u s 0 i = []
        · rw [if_pos z, z]; rfl
        · rw [if_neg z]
      have hi : i < c := by omega
      have m9 := zmk9 s (by omega) i (by omega)
      have sad := zsg_1 u s i
      by_cases b : s.testBit i = true
      · rw [if_pos b] at m9 sad
        obtain ⟨m1, m2, m3, m4, m5⟩ := m9
        have rm := zsg_rm (v := u) hi b
        have sl : (zsg u s 0 (i + 1)).length = (zsg u s 0 i).length + 1 := by rw [sad, List.length_append]; rfl
        have b1 : ∀ k, zF ((zsg u s 0 c).eraseIdx k) ≤ 9 := fun k => Nat.le_trans (zF_le _) (Nat.le_trans (List.length_eraseIdx_le _ _) (Nat.le_trans (zsg_len u s c 0) hc))
        have b2 := zmx_le (f := fun i => zF ((zsg u s 0 c).eraseIdx i)) (m := 9) (zsg u s 0 i).length (fun k _ => b1 k)
        have b3 := b1 (zsg u s 0 i).length
        obtain ⟨p1, p2⟩ := hP _ m5
        obtain ⟨k1, k2⟩ := hk (s ^^^ 2 ^ i) (by omega)
        have tot : zls (zsg u (s ^^^ 2 ^ i) 0 c) + u i = zls (zsg u s 0 c) := by
          rw [rm.1, rm.2, List.eraseIdx_append_of_length_le (Nat.le_refl _), Nat.sub_self, zls_mid]
          rfl
        obtain ⟨Y, y1, y2⟩ := ih (i + 1) (zpI (zpI S 140 s (zls (zsg u s 0 c))) 141 s (nI (zmx (fun i => zF ((zsg u s 0 c).eraseIdx i)) (zsg u s 0 (i + 1)).length))) (by omega) (by omega) (fun q a b => by rw [zI_ne b, zI_ne a]; exact hS q a b) hS2 (fun k hks => by rw [zI_ne (show (140 : Nat) ≠ 141 by omega), zI_nk hks, zI_nk hks, zI_ne (show (141 : Nat) ≠ 140 by omega)]; exact hk k hks) (by rw [zI_ne (by omega), zI_at, if_neg (by rw [sad]; simp)]) zI_at
        refine ⟨Y, fun x3 j => ?_, y2⟩
        rw [fx_Settling_fewest_L74, if_neg (nI_ge hi (by omega))]
        simp only [znm_q]
        rw [if_neg m3, m2, zix_n (show s ^^^ 2 ^ i < 512 by omega) (by omega), zck_t, zix_n (show i < 9 by omega) (by omega), zck_t, zix_n (show s < 512 by omega) (by omega), zck_t, zck_t, zck_t, zck_t, nI_clamp (n := s ^^^ 2 ^ i) (by omega), nI_clamp (n := s) (by omega), nI_clamp (n := i) (by omega), k1, p1, hS 139 (by omega) (by omega), hu i hi, tot, zI_ne (show (141 : Nat) ≠ 140 by omega), k2, p2, h4, rm.1, nI_mx _ _ (by omega) (by omega), nI_1]
        rw [sl, zmx] at y1
        exact y1 x3 j
      · rw [if_neg b] at m9 sad
        rw [List.append_nil] at sad
        obtain ⟨Y, y1, y2⟩ := ih (i + 1) S (by omega) (by omega) hS hS2 hk (by rw [sad]; exact h3) (by rw [sad]; exact h4)
        refine ⟨Y, fun x3 j => ?_, y2⟩
        rw [fx_Settling_fewest_L74, if_neg (nI_ge hi (by omega))]
        simp only [znm_q]
        rw [if_pos m9.1, nI_1]
        exact y1 x3 j
  exact key zFU 0 S0 (by omega) (by unfold zFU; omega) (fun _ _ _ => rfl) rfl (fun _ _ => ⟨rfl, rfl⟩) (by rw [h140]; rfl) (by rw [h141]; rfl)
theorem zsg_00 (v : Nat → Int32) : ∀ c i, zsg v 0 i c = [] := by
  intro c
  induction c with
  | zero => intro i; rfl
  | succ c ih => intro i; rw [zsg, ih, if_neg (by simp)]; rfl
theorem fx_sets_eq {c : Nat} {u : Nat → Int32} (hc : c ≤ 9) {S0 : zSt} (hu : ∀ i, i < c → S0.1 139 i = u i) (h0 : S0.1 140 0 = 0) (h1 : S0.1 141 0 = 0) : ∃ Y : zSt, (∀ j : zSt → Option (Int32 × zSt), fx_Settling_fewest_L49 (nI c) (nI (2 ^ c)) j zFU 1 S0 = j Y) ∧ (∀ q, q ≠ 140 → q ≠ 141 → Y.1 q = S0.1 q) ∧ Y.2 = S0.2 ∧ (∀ s', s' < 2 ^ c → Y.1 140 s' = zls (zsg u s' 0 c) ∧ Y.1 141 s' = nI (zF (zsg u s' 0 c))) := by
  have p9 : 2 ^ c ≤ 2 ^ 9 := Nat.pow_le_pow_right (by omega) hc
  have p0 : 0 < 2 ^ c := Nat.pow_pos (by omega)
  have key : ∀ (f s : Nat) (S : zSt), 0 < s → s ≤ 2 ^ c → 2 ^ c < s + f → (∀ q, q ≠ 140 → q ≠ 141 → S.1 q = S0.1 q) → S.2 = S0.2 → (∀ s', s' < s → S.1 140 s' = zls (zsg u s' 0 c) ∧ S.1 141 s' = nI (zF (zsg u s' 0 c))) → ∃ Y : zSt, (∀ j : zSt → Option (Int32 × zSt), fx_Settling_fewest_L49 (nI c) (nI (2 ^ c)) j f (nI s) S = j Y) ∧ (∀ q, q ≠ 140 → q ≠ 141 → Y.1 q = S0.1 q) ∧ Y.2 = S0.2 ∧ (∀ s', s' < 2 ^ c → Y.1 140 s' = zls (zsg u s' 0 c) ∧ Y.1 141 s' = nI (zF (zsg u s' 0 c))) := by
    intro f
    induction f with
    | zero => intro s S a b c; omega
    | succ f ih =>
      intro s S h0 h1 h2 hS hS2 hP
      by_cases e : s = 2 ^ c
      · subst e
        exact ⟨S, fun j => by rw [fx_Settling_fewest_L49, if_pos (nI_le (Nat.le_refl _) (by omega))], hS, hS2, hP⟩
      · have hne : zsg u s 0 c ≠ [] := fun q => by
          obtain ⟨h, hh, hb⟩ := zbit9 c hc s (by omega) h0
          have := (zsg_rm (v := u) hh hb).2
          rw [q] at this
          simp at this
        have fe := zF_eq _ hne
        have fl := zF_le (zsg u s 0 c)
        have sl := zsg_len u s c 0
        obtain ⟨V, v1, v2, v3, v4, v5, v6⟩ := fx_set_eq (S0 := zpI (zpI S 140 s 0) 141 s 0) hc (show s < 2 ^ c by omega) (u := u) (fun i hi => by rw [zI_ne (by omega), zI_ne (by omega), hS _ (by omega) (by omega)]; exact hu i hi) (fun s' hs' => by rw [zI_ne (show (140 : Nat) ≠ 141 by omega), zI_nk (by omega), zI_nk (by omega), zI_ne (show (141 : Nat) ≠ 140 by omega)]; exact hP s' hs') (by rw [zI_ne (by omega)]; exact zI_at) zI_at
        have vo : ∀ k, k ≠ s → V.1 140 k = S.1 140 k ∧ V.1 141 k = S.1 141 k := fun k hk => by
          have := v4 k hk
          rw [zI_ne (show (140 : Nat) ≠ 141 by omega), zI_nk hk, zI_nk hk, zI_ne (show (141 : Nat) ≠ 140 by omega)] at this
          exact this
        have vq : ∀ q, q ≠ 140 → q ≠ 141 → V.1 q = S0.1 q := fun q a b => by rw [v2 q a b, zI_ne b, zI_ne a]; exact hS q a b
        obtain ⟨Y, y1, y2⟩ := ih (s + 1) (zpI V 141 s (nI (zF (zsg u s 0 c)))) (by omega) (by omega) (by omega) (fun q a b => by rw [zI_ne b]; exact vq q a b) (by show V.2 = S0.2; rw [v3]; exact hS2) (fun s' hs' => by
          rw [zI_ne (show (140 : Nat) ≠ 141 by omega)]
          by_cases d : s' = s
          · subst d; rw [zI_at]; exact ⟨v5, rfl⟩
          · rw [zI_nk d, (vo s' d).1, (vo s' d).2]; exact hP s' (by omega))
        refine ⟨Y, fun j => ?_, y2⟩
        have same : V = zpI V 141 s (V.1 141 s) := by
          unfold zpI
          refine Prod.ext ?_ rfl
          funext a
          by_cases d : a = 141
          · subst d
            simp only [if_true]
            funext k
            by_cases d2 : k = s
            · subst d2; simp [upd]
            · simp [upd, d2]
          · simp only [if_neg d]
        rw [fx_Settling_fewest_L49, if_neg (nI_ge (by omega) (by omega)), zix_n (show s < 512 by omega) (by omega), zck_t]
        simp only [znm_q, zck_t]
        rw [nI_clamp (n := s) (by omega), v1, v5, nI_1]
        by_cases d : zls (zsg u s 0 c) = 0
        · rw [if_pos d, v6, nI_1]
          rw [if_pos d] at fe
          rw [← fe]
          exact y1 j
        · rw [if_neg d]
          rw [if_neg d, Nat.add_zero] at fe
          rw [same, v6, ← fe]
          exact y1 j
  exact key zFU 1 S0 (by omega) (by omega) (by unfold zFU; omega) (fun _ _ _ => rfl) rfl (fun s' hs' => by
    obtain rfl : s' = 0 := by omega
    rw [zsg_00, h0, h1]
    exact ⟨rfl, rfl⟩)
section ops16
variable {RR : (Nat → Int32) → Int32 → Int32 → (Nat → Int32) → Prop}
theorem zp_payments (hRR : zRok RR) : zo_payments (zInv RR) := by
  intro X M hI
  obtain ⟨t, n, m, c, o, hT, hF, hC, hU, hK⟩ := id hI
  obtain ⟨hH, hTi, hS, hR, hL, hRi⟩ := id hC
  have hn : n ≤ 9 := hH.2.2.1
  have ex : X.1 4 0 = nI n := hH.1
  have em : M.1 1 4 = nI n := hH.2.1
  have hv : ∀ h, h < n → X.1 10 h = zNet (M.1 1) h n := hH.2.2.2.2.2.2.1
  obtain ⟨Y, y1, y2⟩ := fm_pay_eq (v := X.1 10) em hn hv
  obtain ⟨V, v1, v2, v2', v3⟩ := fx_uns_eq ex hn
  have lc := zfl_len (X.1 10) n
  obtain ⟨W, w1, w2, w3, w4⟩ := fx_sets_eq (c := (zfl (X.1 10) n).length) (by omega) (u := fun i => (zfl (X.1 10) n).getD i 0) (S0 := V) v3 (by rw [v2 _ (by omega)]; exact hF.2.2.1) (by rw [v2 _ (by omega)]; exact hF.2.2.2)
  have p9 : 2 ^ (zfl (X.1 10) n).length ≤ 2 ^ 9 := Nat.pow_le_pow_right (by omega) (by omega)
  have p0 : 0 < 2 ^ (zfl (X.1 10) n).length := Nat.pow_pos (by omega)
  have hx : fx_payments X = some (nI (zfl (X.1 10) n).length - nI (zF (zfl (X.1 10) n)), W) := by
    unfold fx_payments fx_Settling_fewest
    rw [znm_q, v1, znm_q, zpw9 _ (by omega), znm_q, w1, show nI (2 ^ (zfl (X.1 10) n).length) - (1 : Int32) = nI (2 ^ (zfl (X.1 10) n).length - 1) from by rw [show (1 : Int32) = nI 1 from rfl, pk_sub (by omega)], zix_n (by omega) (by omega), zck_t, zbd_s, nI_clamp (by omega), (w4 _ (by omega)).2, zsg_all _ _ _ (Nat.le_refl _), zlv_at _ _ (Nat.le_refl _), List.take_length]
  have ff := zF_fil (zlv (X.1 10) n) []
  rw [zlv_len, List.nil_append, List.nil_append, show (zlv (X.1 10) n).filter (fun x => decide (x ≠ 0)) = zfl (X.1 10) n from rfl] at ff
  have f1 := zF_le (zlv (X.1 10) n)
  have f2 := zF_le (zfl (X.1 10) n)
  rw [zlv_len] at f1
  rw [hx, y1, pk_sub (by omega), pk_sub (by omega)]
  have wq : ∀ q, q ≠ 139 → q ≠ 140 → q ≠ 141 → W.1 q = X.1 q := fun q a b c => by rw [w2 q b c, v2 q a]
  have w0 := w4 0 (by omega)
  rw [zsg_00] at w0
  refine ⟨_, _, _, rfl, by rw [show n - zF (zlv (X.1 10) n) = (zfl (X.1 10) n).length - zF (zfl (X.1 10) n) by omega], zI_same hRR (fun q _ hq => wq q (by omega) (by omega) (by omega)) ⟨by rw [w3, v2'], by rw [w3, v2']⟩ ⟨by rw [wq _ (by omega) (by omega) (by omega)], by rw [wq _ (by omega) (by omega) (by omega)], ?_, ?_⟩ (fun q hq => y2 q (by omega)) (fun k _ => by rw [y2 0 (by omega)]) (Or.inl ⟨by rw [wq _ (by omega) (by omega) (by omega)], by rw [y2 0 (by omega)]⟩) hI⟩
  · rw [hF.2.2.1]; exact w0.1
  · rw [hF.2.2.2]; exact w0.2
end ops16
