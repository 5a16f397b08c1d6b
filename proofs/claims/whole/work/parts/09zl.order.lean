/-! the order by the rule -/
def zPm (o : Nat → Nat) (n : Nat) : Prop := (∀ k, k < n → o k < n) ∧ (∀ k k', k < n → k' < n → o k = o k' → k = k') ∧ (∀ w, w < n → ∃ k, k < n ∧ o k = w)
/-- all but v stand somewhere, and the place x is free -/
def zOq (o : Nat → Nat) (n x v : Nat) : Prop := v < n ∧ (∀ k, k < n → k ≠ x → o k < n ∧ o k ≠ v) ∧ (∀ k k', k < n → k' < n → k ≠ x → k' ≠ x → o k = o k' → k = k') ∧ (∀ w, w < n → w ≠ v → ∃ k, k < n ∧ k ≠ x ∧ o k = w)
theorem zOq_new {o : Nat → Nat} {h : Nat} (H : zPm o h) : zOq o (h + 1) h h := by
  obtain ⟨h1, h2, h3⟩ := H
  refine ⟨by omega, fun k hk hx => ?_, fun k k' a b c d e => h2 k k' (by omega) (by omega) e, fun w hw hv => ?_⟩
  · have := h1 k (by omega); omega
  · obtain ⟨k, k1, k2⟩ := h3 w (by omega)
    exact ⟨k, by omega, by omega, k2⟩
theorem zOq_out {o : Nat → Nat} {n i : Nat} (H : zPm o n) (hi : i < n) : zOq o n i (o i) := by
  obtain ⟨h1, h2, h3⟩ := H
  refine ⟨h1 i hi, fun k hk hx => ⟨h1 k hk, fun q => hx (h2 k i hk hi q)⟩, fun k k' a b c d e => h2 k k' a b e, fun w hw hv => ?_⟩
  obtain ⟨k, k1, k2⟩ := h3 w hw
  exact ⟨k, k1, fun q => hv (by rw [← k2, q]), k2⟩
theorem zOq_st {o : Nat → Nat} {n x v : Nat} (H : zOq o n x v) (hx : x < n) (h0 : 0 < x) : zOq (zup o x (o (x - 1))) n (x - 1) v := by
  obtain ⟨h0', h1, h2, h3⟩ := H
  have u : ∀ k, zup o x (o (x - 1)) k = if k = x then o (x - 1) else o k := fun k => rfl
  refine ⟨h0', fun k hk hk2 => ?_, fun k k' a b c d e => ?_, fun w hw hv => ?_⟩
  · rw [u]
    by_cases c : k = x
    · rw [if_pos c]; exact h1 (x - 1) (by omega) (by omega)
    · rw [if_neg c]; exact h1 k hk c
  · rw [u, u] at e
    by_cases p : k = x
    · rw [if_pos p] at e
      by_cases q : k' = x
      · omega
      · rw [if_neg q] at e
        have := h2 (x - 1) k' (by omega) b (by omega) q e
        omega
    · rw [if_neg p] at e
      by_cases q : k' = x
      · rw [if_pos q] at e
        have := h2 k (x - 1) a (by omega) p (by omega) e
        omega
      · rw [if_neg q] at e
        exact h2 k k' a b p q e
  · obtain ⟨k, k1, k2, k3⟩ := h3 w hw hv
    by_cases c : k = x - 1
    · exact ⟨x, hx, by omega, by rw [u, if_pos rfl, ← c]; exact k3⟩
    · exact ⟨k, k1, c, by rw [u, if_neg k2]; exact k3⟩
theorem zOq_end {o : Nat → Nat} {n x v : Nat} (H : zOq o n x v) (hx : x < n) : zPm (zup o x v) n := by
  obtain ⟨h0', h1, h2, h3⟩ := H
  have u : ∀ k, zup o x v k = if k = x then v else o k := fun k => rfl
  refine ⟨fun k hk => ?_, fun k k' a b e => ?_, fun w hw => ?_⟩
  · rw [u]
    by_cases c : k = x
    · rw [if_pos c]; exact h0'
    · rw [if_neg c]; exact (h1 k hk c).1
  · rw [u, u] at e
    by_cases p : k = x
    · rw [if_pos p] at e
      by_cases q : k' = x
      · omega
      · rw [if_neg q] at e
        exact absurd e.symm (h1 k' b q).2
    · rw [if_neg p] at e
      by_cases q : k' = x
      · rw [if_pos q] at e
        exact absurd e (h1 k a p).2
      · rw [if_neg q] at e
        exact h2 k k' a b p q e
  · by_cases c : w = v
    · exact ⟨x, hx, by rw [u, if_pos rfl, c]⟩
    · obtain ⟨k, k1, k2, k3⟩ := h3 w hw c
      exact ⟨k, k1, by rw [u, if_neg k2]; exact k3⟩
def zLo (S T : zSt) (n x : Nat) (o : Nat → Nat) : Prop := ∀ k, k < n → k ≠ x → S.1 129 k = nI (o k) ∧ T.1 9 k = nI (o k)
theorem zins {h : Nat} (hh : h < 9) {a1 x1 : Int32} : ∀ (f x : Nat) (S T : zSt) (o : Nat → Nat), x ≤ h → x < f → zOq o (h + 1) x h → zLo S T (h + 1) x o → (∀ k, k ≤ h → S.1 131 k = T.1 10 k) → ∃ (S' T' : zSt) (x' : Nat) (o' : Nat → Nat), (∀ j : Int32 → zSt → Option (Unit × zSt), fx_Lineup_standByRule_L47 (nI h) j f (nI x) S = j (nI x') S') ∧ (∀ j : Int32 → zSt → Option (Unit × zSt), fm_laysOrder_L28 a1 x1 (nI h) j f (nI x) T = j (nI x') T') ∧ x' ≤ h ∧ zOq o' (h + 1) x' h ∧ zLo S' T' (h + 1) x' o' ∧ (∀ q, q ≠ 129 → S'.1 q = S.1 q) ∧ S'.2 = S.2 ∧ (∀ q, q ≠ 9 → T'.1 q = T.1 q) := by
  intro f
  induction f with
  | zero => intro x S T o a b; omega
  | succ f ih =>
    intro x S T o hx hf hO hL hW
    by_cases x0 : x = 0
    · subst x0
      exact ⟨S, T, 0, o, fun j => by rw [fx_Lineup_standByRule_L47, if_pos (by decide)], fun j => by rw [fm_laysOrder_L28, if_pos (by decide)], by omega, hO, hL, fun _ _ => rfl, rfl, fun _ _ => rfl⟩
    · obtain ⟨l1, l2⟩ := hL (x - 1) (by omega) (by omega)
      obtain ⟨b1, b2⟩ := hO.2.1 (x - 1) (by omega) (by omega)
      have px : nI x - (1 : Int32) = nI (x - 1) := by rw [show (1 : Int32) = nI 1 from rfl, pk_sub (by omega)]
      have px2 : nI x + (-1 : Int32) = nI (x - 1) := by rw [← Int32.sub_eq_add_neg]; exact px
      have sx : ∀ j, fx_Lineup_standByRule_L47 (nI h) j (f + 1) (nI x) S = if T.1 10 h ≤ T.1 10 (o (x - 1)) then j (nI x) S else fx_Lineup_standByRule_L47 (nI h) j f (nI (x - 1)) (zpI S 129 x (nI (o (x - 1)))) := fun j => by
        rw [fx_Lineup_standByRule_L47, if_neg (nI_nle (by omega) (by omega)), px, zix_n (show x - 1 < 9 by omega) (by omega), zck_t, nI_clamp (n := x - 1) (by omega), l1, zix_n (show o (x - 1) < 9 by omega) (by omega), zck_t, zix_n (show h < 9 by omega) (by omega), zck_t, nI_clamp (n := h) (by omega), nI_clamp (n := o (x - 1)) (by omega), hW h (by omega), hW (o (x - 1)) (by omega), zck_t, zix_n (show x < 9 by omega) (by omega), zck_t, znm_q, znm_q, nI_clamp (n := x) (by omega), px2]
      have sm : ∀ j, fm_laysOrder_L28 a1 x1 (nI h) j (f + 1) (nI x) T = if T.1 10 h ≤ T.1 10 (o (x - 1)) then j (nI x) T else fm_laysOrder_L28 a1 x1 (nI h) j f (nI (x - 1)) (zpI T 9 x (nI (o (x - 1)))) := fun j => by
        rw [fm_laysOrder_L28, if_neg (nI_nle (by omega) (by omega)), px, zix_n (show x - 1 < 9 by omega) (by omega), zck_t, nI_clamp (n := x - 1) (by omega), l2, zix_n (show o (x - 1) < 9 by omega) (by omega), zck_t, zix_n (show h < 9 by omega) (by omega), zck_t, nI_clamp (n := h) (by omega), nI_clamp (n := o (x - 1)) (by omega), zck_t, zix_n (show x < 9 by omega) (by omega), zck_t, znm_q, znm_q, nI_clamp (n := x) (by omega), px2]
      by_cases c : T.1 10 h ≤ T.1 10 (o (x - 1))
      · exact ⟨S, T, x, o, fun j => by rw [sx, if_pos c], fun j => by rw [sm, if_pos c], hx, hO, hL, fun _ _ => rfl, rfl, fun _ _ => rfl⟩
      · obtain ⟨S', T', x', o', w1, w2, w3, w4, w5, w6, w7, w8⟩ := ih (x - 1) (zpI S 129 x (nI (o (x - 1)))) (zpI T 9 x (nI (o (x - 1)))) (zup o x (o (x - 1))) (by omega) (by omega) (zOq_st hO (by omega) (by omega)) (fun k hk hk2 => by
          unfold zup
          by_cases d : k = x
          · subst d; rw [zI_at, zI_at, if_pos rfl]; exact ⟨rfl, rfl⟩
          · rw [zI_nk d, zI_nk d, if_neg d]; exact hL k hk d) (fun k hk => by rw [zI_ne (by omega), zI_ne (by omega)]; exact hW k hk)
        exact ⟨S', T', x', o', fun j => by rw [sx, if_neg c]; exact w1 j, fun j => by rw [sm, if_neg c]; exact w2 j, w3, w4, w5, fun q hq => by rw [w6 q hq, zI_ne hq], w7, fun q hq => by rw [w8 q hq, zI_ne hq]⟩
/-- the ten facts of a house -/
def zFc (a : Nat → Int32) (n h k : Nat) : Int32 := if k = 0 then a (20 + 16 * h) else if k = 1 then a (21 + 16 * h) else if k = 6 then a (28 + 16 * h) else if k = 7 then nI h else if k = 8 then a 5 else if k = 9 then -zNet a h n else a (21 + k + 16 * h)
theorem fx_gather_eq {S : zSt} {a : Nat → Int32} {n h : Nat} (hh : h < n) (hn : n ≤ 9) (hH : rH S.1 3 a n) (hT : rT S.1 11 a n) : ∃ Y : zSt, fx_Lineup_gatherFacts S (nI h) = some ((), Y) ∧ (∀ k, k ≤ 9 → Y.1 132 k = zFc a n h k) ∧ (∀ q, q ≠ 132 → Y.1 q = S.1 q) ∧ Y.2 = S.2 := by
  obtain ⟨p0, p1, p2, p9⟩ := hH.2.2.2.1 h hh
  obtain ⟨t1, t2, t3, t4, t5, t6⟩ := hT.2.2.2.2.2.1 h hh
  have pn : S.1 10 h = zNet a h n := hH.2.2.2.2.2.2.1 h hh
  have pd : S.1 11 1 = a 5 := hT.2.1
  unfold fx_Lineup_gatherFacts
  simp only [znm_q]
  rw [zix_n (show h < 9 by omega) (by omega), nI_clamp (by omega)]
  simp only [zck_q]
  refine ⟨_, rfl, fun k hk => ?_, fun q hq => by simp (disch := omega) only [zI_ne], rfl⟩
  rcases (show k = 0 ∨ k = 1 ∨ k = 2 ∨ k = 3 ∨ k = 4 ∨ k = 5 ∨ k = 6 ∨ k = 7 ∨ k = 8 ∨ k = 9 by omega) with rfl | rfl | rfl | rfl | rfl | rfl | rfl | rfl | rfl | rfl
  · simp (disch := omega) only [zI_ne, zI_nk, zI_at]; exact p0
  · simp (disch := omega) only [zI_ne, zI_nk, zI_at]; exact p1
  · simp (disch := omega) only [zI_ne, zI_nk, zI_at]; exact t1
  · simp (disch := omega) only [zI_ne, zI_nk, zI_at]; exact t2
  · simp (disch := omega) only [zI_ne, zI_nk, zI_at]; exact t3
  · simp (disch := omega) only [zI_ne, zI_nk, zI_at]; exact t4
  · simp (disch := omega) only [zI_ne, zI_nk, zI_at]; exact t6
  · simp (disch := omega) only [zI_ne, zI_nk, zI_at]; rfl
  · simp (disch := omega) only [zI_ne, zI_nk, zI_at]; exact pd
  · simp (disch := omega) only [zI_ne, zI_nk, zI_at]; rw [pn]; rfl
/-- the reference's facts -/
theorem fm_L26_eq {T : zSt} {h : Nat} (hh : h < 9) : ∃ Y : zSt, (∀ j : zSt → Option (Int32 × zSt), fm_worth_L26 (nI h) j zFU 0 T = j Y) ∧ (∀ k, 3 ≤ k → k ≤ 6 → Y.1 8 k = T.1 1 (20 + k + 16 * h)) ∧ (∀ k, (k < 3 ∨ 6 < k) → Y.1 8 k = T.1 8 k) ∧ (∀ q, q ≠ 8 → Y.1 q = T.1 q) := by
  have key : ∀ (f i : Nat) (Z : zSt), i ≤ 4 → 4 < i + f → (∀ k, 3 ≤ k → k < 3 + i → Z.1 8 k = T.1 1 (20 + k + 16 * h)) → (∀ k, (k < 3 ∨ 6 < k) → Z.1 8 k = T.1 8 k) → (∀ q, q ≠ 8 → Z.1 q = T.1 q) → ∃ Y : zSt, (∀ j : zSt → Option (Int32 × zSt), fm_worth_L26 (nI h) j f (nI i) Z = j Y) ∧ (∀ k, 3 ≤ k → k ≤ 6 → Y.1 8 k = T.1 1 (20 + k + 16 * h)) ∧ (∀ k, (k < 3 ∨ 6 < k) → Y.1 8 k = T.1 8 k) ∧ (∀ q, q ≠ 8 → Y.1 q = T.1 q) := by
    intro f
    induction f with
    | zero => intro i Z a b; omega
    | succ f ih =>
      intro i Z h1 h2 h3 h4 h5
      by_cases e : i = 4
      · subst e
        exact ⟨Z, fun j => by rw [fm_worth_L26, if_pos (by decide)], fun k a b => h3 k a (by omega), h4, h5⟩
      obtain ⟨Y, y1, y2⟩ := ih (i + 1) (zpI Z 8 (3 + i) (T.1 1 (20 + (3 + i) + 16 * h))) (by omega) (by omega) (fun k a b => by
        by_cases c : k = 3 + i
        · subst c; rw [zI_at]
        · rw [zI_nk c]; exact h3 k a (by omega)) (fun k hk => by rw [zI_nk (by omega)]; exact h4 k hk) (fun q hq => by rw [zI_ne hq]; exact h5 q hq)
      refine ⟨Y, fun j => ?_, y2⟩
      rw [fm_worth_L26, if_neg (show ¬ (4 : Int32) ≤ nI i from nI_ge (b := 4) (by omega) (by omega)), show (3 : Int32) + nI i = nI (3 + i) from by rw [show (3 : Int32) = nI 3 from rfl, nI_add], fm_own_eq hh (by omega), zbd_s, zix_n (show 3 + i < 11 by omega) (by omega), zck_t, znm_q, znm_q, nI_clamp (n := 3 + i) (by omega), nI_1, h5 1 (by omega), show 20 + 16 * h + (3 + i) = 20 + (3 + i) + 16 * h by omega]
      exact y1 j
  obtain ⟨Y, y1, y2⟩ := key zFU 0 T (by omega) (by unfold zFU; omega) (fun k a b => by omega) (fun _ _ => rfl) (fun _ _ => rfl)
  exact ⟨Y, fun j => by rw [← nI_0]; exact y1 j, y2⟩
theorem fm_worth_eq {T : zSt} {a : Nat → Int32} {n h : Nat} (hh : h < n) (hn : n ≤ 9) (hT : T.1 1 = a) (em : a 4 = nI n) : ∃ Y : zSt, (fm_worth T (nI h) = fm_worth_L103 (fun x_20 S_21 => zck (zix (600 + x_20) 1480) (zck (zix (620 + x_20) 1480) (zbd (fm_comesTo S_21 (S_21.1 1 (600 + x_20).toNatClampNeg) (S_21.1 1 (620 + x_20).toNatClampNeg)) fun r_24 S_25 => some (r_24, S_25)))) zFU 0 Y) ∧ (∀ k, k ≤ 9 → Y.1 8 (k + 1) = zFc a n h k) ∧ (∀ q, q ≠ 8 → Y.1 q = T.1 q) := by
  have own : ∀ S : zSt, S.1 1 = a → ∀ k j, k < 16 → j = 20 + k → fm_own S (nI h) (nI k) = some (a (j + 16 * h), S) := fun S hS k j hk e => by
    rw [fm_own_eq (by omega) hk, hS, show 20 + 16 * h + k = j + 16 * h by omega]
  have z1 : (zpI (zpI T 8 1 (a (20 + 16 * h))) 8 2 (a (21 + 16 * h))).1 1 = a := by rw [zI_ne (by omega), zI_ne (by omega)]; exact hT
  obtain ⟨Y, y1, y2, y3, y4⟩ := fm_L26_eq (T := zpI (zpI T 8 1 (a (20 + 16 * h))) 8 2 (a (21 + 16 * h))) (h := h) (by omega)
  have ya : Y.1 1 = a := by rw [y4 1 (by omega)]; exact z1
  rw [z1] at y2
  have yn : ∀ Z : zSt, Z.1 1 = a → fm_net Z (nI h) = some (zNet a h n, Z) := fun Z hZ => by
    rw [fm_net_eq (by rw [hZ]; exact em) hn (by omega), hZ]
  refine ⟨zpI (zpI (zpI (zpI Y 8 7 (a (28 + 16 * h))) 8 8 (nI h)) 8 9 (a 5)) 8 10 (-zNet a h n), ?_, ?_, ?_⟩
  rotate_left 1
  · intro k hk
    rcases (show k = 0 ∨ k = 1 ∨ k = 2 ∨ k = 3 ∨ k = 4 ∨ k = 5 ∨ k = 6 ∨ k = 7 ∨ k = 8 ∨ k = 9 by omega) with rfl | rfl | rfl | rfl | rfl | rfl | rfl | rfl | rfl | rfl
    · simp (disch := omega) only [zI_nk]; rw [y3 _ (by omega)]; simp (disch := omega) only [zI_nk, zI_at]; rfl
    · simp (disch := omega) only [zI_nk]; rw [y3 _ (by omega)]; simp (disch := omega) only [zI_nk, zI_at]; rfl
    · simp (disch := omega) only [zI_nk]; rw [y2 _ (by omega) (by omega)]; rfl
    · simp (disch := omega) only [zI_nk]; rw [y2 _ (by omega) (by omega)]; rfl
    · simp (disch := omega) only [zI_nk]; rw [y2 _ (by omega) (by omega)]; rfl
    · simp (disch := omega) only [zI_nk]; rw [y2 _ (by omega) (by omega)]; rfl
    · simp (disch := omega) only [zI_nk, zI_at]; rfl
    · simp (disch := omega) only [zI_nk, zI_at]; rfl
    · simp (disch := omega) only [zI_nk, zI_at]; rfl
    · simp (disch := omega) only [zI_nk, zI_at]; rfl
  · intro q hq
    simp (disch := omega) only [zI_ne]
    rw [y4 q hq]
    simp (disch := omega) only [zI_ne]
  · unfold fm_worth
    rw [show (0 : Int32) = nI 0 from rfl, own T hT 0 20 (by omega) rfl, nI_0, zbd_s, znm_q, show (1 : Int32) = nI 1 from rfl, own _ (by rw [zI_ne (by omega)]; exact hT) 1 21 (by omega) rfl, zbd_s, znm_q, znm_q, y1, show (8 : Int32) = nI 8 from rfl, own Y ya 8 28 (by omega) rfl, zbd_s, znm_q, znm_q, znm_q, yn _ (by simp (disch := omega) only [zI_ne]; exact ya), zbd_s, znm_q, znm_q]
    simp (disch := omega) only [zI_ne]
    rw [ya]
