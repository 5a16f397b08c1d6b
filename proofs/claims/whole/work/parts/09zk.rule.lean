/-! the rule, line by line -/
def zRln (c a : Nat → Int32) (len : Nat) : Nat → Nat → Nat → Prop
  | 0, _, p => p = len
  | k + 1, i, p => (∃ (u v p1 d : Nat) (V : (Nat → Int32) → Int32), a (600 + i) = nI u ∧ a (620 + i) = nI v ∧ a (640 + i) = nI v ∧ zMe a u v d V ∧ zXe c p p1 d V ∧ d ≤ 60 ∧ p1 < 400 ∧ c p1 = -59 ∧ zRln c a len k (i + 1) (p1 + 1)) ∨
    (∃ (u v w p1 p2 d e : Nat) (V C : (Nat → Int32) → Int32), a (600 + i) = nI u ∧ a (620 + i) = nI v ∧ a (640 + i) = nI w ∧ zMe a u v d V ∧ zMe a v w e C ∧ (∀ F, C F = 0 ∨ C F = 1) ∧ zXe c p p1 d V ∧ zXe c p1 p2 e C ∧ d ≤ 60 ∧ e ≤ 60 ∧ p2 < 400 ∧ c p2 = -257 ∧ zRln c a len k (i + 1) (p2 + 1))
def zRR (c : Nat → Int32) (l k : Int32) (a : Nat → Int32) : Prop := ∃ n len : Nat, n ≤ 16 ∧ len ≤ 400 ∧ k = nI n ∧ l = nI len ∧ zRln c a len n 0 0
theorem zRln_c {c c' a a' : Nat → Int32} {len : Nat} (hc : ∀ i, i < 400 → c' i = c i) (ha : ∀ i, 590 ≤ i → i < 1480 → a' i = a i) : ∀ k i p, i + k ≤ 16 → zRln c a len k i p → zRln c' a' len k i p := by
  intro k
  induction k with
  | zero => intro i p _ h; exact h
  | succ k ih =>
    intro i p hk h
    rcases h with ⟨u, v, p1, d, V, h1, h2, h3, h4, h5, h6, h7, h8, h9⟩ | ⟨u, v, w, p1, p2, d, e, V, C, h1, h2, h3, h4, h5, h6, h7, h8, h9, h10, h11, h12, h13⟩
    · have l1 := h4.2.1
      have l2 := h5.2.1
      exact Or.inl ⟨u, v, p1, d, V, by rw [ha _ (by omega) (by omega)]; exact h1, by rw [ha _ (by omega) (by omega)]; exact h2, by rw [ha _ (by omega) (by omega)]; exact h3, zMe_c (fun i x y => ha i (by omega) (by omega)) h4, zXe_c (fun i x y => hc i (by omega)) h5, h6, h7, by rw [hc _ h7]; exact h8, ih (i + 1) (p1 + 1) (by omega) h9⟩
    · have l1 := h4.2.1
      have l2 := h5.2.1
      have l3 := h7.2.1
      have l4 := h8.2.1
      exact Or.inr ⟨u, v, w, p1, p2, d, e, V, C, by rw [ha _ (by omega) (by omega)]; exact h1, by rw [ha _ (by omega) (by omega)]; exact h2, by rw [ha _ (by omega) (by omega)]; exact h3, zMe_c (fun i x y => ha i (by omega) (by omega)) h4, zMe_c (fun i x y => ha i (by omega) (by omega)) h5, h6, zXe_c (fun i x y => hc i (by omega)) h7, zXe_c (fun i x y => hc i (by omega)) h8, h9, h10, h11, by rw [hc _ h11]; exact h12, ih (i + 1) (p2 + 1) (by omega) h13⟩
theorem zRR_ok : zRok zRR := by
  intro c c' l k a a' hc ha ⟨n, len, h1, h2, h3, h4, h5⟩
  exact ⟨n, len, h1, h2, h3, h4, zRln_c hc ha n 0 0 (by omega) h5⟩
theorem zRR_0 : zRR (zS0X.1 21) (zS0X.1 20 1) (zS0X.1 20 2) (zS0M.1 1) := ⟨0, 0, by omega, by omega, rfl, rfl, rfl⟩
/-- the steps from p to q alone -/
theorem fm_comes_eq {a : Nat → Int32} {p q d : Nat} {V F : (Nat → Int32) → Int32} {G : Nat → Int32} (H : zMe a p q d V) (hd : d ≤ 60) {S : zSt} (hS : ∀ i, 590 ≤ i → i < 1480 → S.1 1 i = a i) (hF : ∀ k, k ≤ 9 → S.1 8 (k + 1) = G k) : ∃ S' : zSt, fm_comesTo S (nI p) (nI q) = some (V G, S') ∧ (∀ q, q ≠ 7 → S'.1 q = S.1 q) := by
  have l1 := H.1
  have l2 := H.2.1
  obtain ⟨S', h1, h2, h3, _⟩ := H.2.2.2 q (8192 - (q - p)) 0 S G (fun i x y => hS i (by omega) (by omega)) (Nat.le_refl _) l2 (by omega) hF
  refine ⟨S', ?_, h3⟩
  unfold fm_comesTo
  rw [show zFU = 8192 - (q - p) + (q - p) by unfold zFU; omega, ← nI_0, h1]
  obtain ⟨f, hf⟩ : ∃ f, 8192 - (q - p) = f + 1 := ⟨8191 - (q - p), by omega⟩
  rw [hf, fm_comesTo_L5, if_pos (nI_le (Nat.le_refl _) (by omega)), h2]
theorem zworth {c a G : Nat → Int32} {len : Nat} {K J : Int32 → zSt → Option (Int32 × zSt)} (hK : ∀ x_1 S_2, K x_1 S_2 = if x_1 ≤ 0 then some (0, S_2) else zck (zix (x_1 - 1) 64) (some (S_2.1 133 (x_1 - 1).toNatClampNeg, S_2))) (hJ : ∀ x_20 S_21, J x_20 S_21 = zck (zix (600 + x_20) 1480) (zck (zix (620 + x_20) 1480) (zbd (fm_comesTo S_21 (S_21.1 1 (600 + x_20).toNatClampNeg) (S_21.1 1 (620 + x_20).toNatClampNeg)) fun r_24 S_25 => some (r_24, S_25)))) (hlen : len ≤ 400) : ∀ (k i p f1 f2 : Nat) (S T : zSt), zRln c a len k i p → i + k ≤ 16 → p ≤ len → len < p + f1 → k < f2 → (∀ i, i < 400 → S.1 21 i = c i) → S.1 20 1 = nI len → (∀ k, k ≤ 9 → S.1 132 k = G k) → (∀ i, 590 ≤ i → i < 1480 → T.1 1 i = a i) → T.1 1 590 = nI (i + k) → (∀ k, k ≤ 9 → T.1 8 (k + 1) = G k) → ∃ (r : Int32) (S' T' : zSt), fx_Rule_worth_L5 K f1 0 (nI p) S = some (r, S') ∧ fm_worth_L103 J f2 (nI i) T = some (r, T') ∧ (∀ q, q ≠ 133 → S'.1 q = S.1 q) ∧ S'.2 = S.2 ∧ (∀ q, q ≠ 7 → T'.1 q = T.1 q) := by
  intro k
  induction k with
  | zero =>
    intro i p f1 f2 S T h hk hp hf1 hf2 hc hl hG ha h590 hG2
    obtain ⟨f1, rfl⟩ : ∃ g, f1 = g + 1 := ⟨f1 - 1, by omega⟩
    obtain ⟨f2, rfl⟩ : ∃ g, f2 = g + 1 := ⟨f2 - 1, by omega⟩
    have hpl : p = len := h
    refine ⟨0, S, T, ?_, ?_, fun _ _ => rfl, rfl, fun _ _ => rfl⟩
    · rw [fx_Rule_worth_L5, hl, if_pos (nI_le (by omega) (by omega))]
    · rw [fm_worth_L103, h590, if_pos (nI_le (by omega) (by omega))]
  | succ k ih =>
    intro i p f1 f2 S T h hk hp hf1 hf2 hc hl hG ha h590 hG2
    obtain ⟨f2, rfl⟩ : ∃ g, f2 = g + 1 := ⟨f2 - 1, by omega⟩
    have ix : ∀ b : Nat, b = 600 ∨ b = 620 ∨ b = 640 → zix (nI (b + i)) 1480 = true := fun b hb => zix_n (by omega) (by omega)
    have e6 : (600 : Int32) + nI i = nI (600 + i) := by rw [show (600 : Int32) = nI 600 from rfl, nI_add]
    have e62 : (620 : Int32) + nI i = nI (620 + i) := by rw [show (620 : Int32) = nI 620 from rfl, nI_add]
    have e64 : (640 : Int32) + nI i = nI (640 + i) := by rw [show (640 : Int32) = nI 640 from rfl, nI_add]
    have lenp : ∀ k i p, zRln c a len k i p → p ≤ len := by
      intro k
      induction k with
      | zero => intro i p h; exact Nat.le_of_eq h
      | succ k ih =>
        intro i p h
        rcases h with ⟨u, v, p1, d, V, _, _, _, _, h5, _, _, _, h9⟩ | ⟨u, v, w, p1, p2, d, e, V, C, _, _, _, _, _, _, h7, h8, _, _, _, _, h13⟩
        · have := h5.1; have := ih _ _ h9; omega
        · have := h7.1; have := h8.1; have := ih _ _ h13; omega
    -- the value of line i, as the reference finds it
    have val : ∀ (u v d : Nat) (V : (Nat → Int32) → Int32) (Z : zSt), a (600 + i) = nI u → a (620 + i) = nI v → zMe a u v d V → d ≤ 60 → (∀ q, q ≠ 7 → Z.1 q = T.1 q) → ∃ Z' : zSt, J (nI i) Z = some (V G, Z') ∧ (∀ q, q ≠ 7 → Z'.1 q = T.1 q) := fun u v d V Z u1 v1 hM hd hZ => by
      obtain ⟨Z', z1, z2⟩ := fm_comes_eq (F := V) hM hd (S := Z) (G := G) (fun i x y => by rw [hZ 1 (by omega)]; exact ha i x y) (fun k hk => by rw [hZ 8 (by omega)]; exact hG2 k hk)
      refine ⟨Z', ?_, fun q hq => by rw [z2 q hq, hZ q hq]⟩
      rw [hJ, e6, e62, ix 600 (by omega), zck_t, ix 620 (by omega), zck_t, nI_clamp (by omega), nI_clamp (by omega), hZ 1 (by omega), ha _ (by omega) (by omega), ha _ (by omega) (by omega), u1, v1, z1, zbd_s]
    rcases h with ⟨u, v, p1, d, V, h1, h2, h3, h4, h5, h6, h7, h8, h9⟩ | ⟨u, v, w, p1, p2, d, e, V, C, h1, h2, h3, h4, h5, h6, h7, h8, h9, h10, h11, h12, h13⟩
    · have l1 := h5.1
      have l2 := lenp _ _ _ h9
      obtain ⟨f, hf⟩ : ∃ f, f1 = f + 1 + (p1 - p) := ⟨f1 - (p1 - p) - 1, by omega⟩
      obtain ⟨A, a1, a2, a3⟩ := h5.2.2.2 K len (f + 1) 0 S G (fun i x y => hc i (by omega)) (by omega) hlen (by omega) hl hG
      obtain ⟨Z', z1, z2⟩ := val u v d V T h1 h2 h4 h6 (fun _ _ => rfl)
      refine ⟨V G, A, Z', ?_, ?_, a3.o, a3.l, z2⟩
      · rw [nI_0] at a1
        rw [hf, a1, fx_Rule_worth_L5, a3.o 20 (by omega), hl, if_neg (nI_ge (by omega) (by omega)), zix_n (show p1 < 400 by omega) (by omega), zck_t]
        simp only [znm_q]
        rw [nI_clamp (n := p1) (by omega), a3.o 21 (by omega), hc p1 h7, h8, if_pos (by decide), if_pos rfl, hK, if_neg (nI_nle (by omega) (by omega)), nI_pred, zix_n (by omega) (by omega), zck_t, nI_clamp (by omega), a2]
      · rw [fm_worth_L103, h590, if_neg (nI_ge (by omega) (by omega)), e64, e62, ix 640 (by omega), zck_t, ix 620 (by omega), zck_t, nI_clamp (n := 640 + i) (by omega), nI_clamp (n := 620 + i) (by omega), ha _ (by omega) (by omega), ha _ (by omega) (by omega), h2, h3, if_pos rfl]
        exact z1
    · have l1 := h7.1
      have l3 := h8.1
      have l2 := lenp _ _ _ h13
      have lw := h5.1
      have lw2 := h5.2.1
      obtain ⟨f, hf⟩ : ∃ f, f1 = f + 1 + (p2 - p1) + (p1 - p) := ⟨f1 - (p1 - p) - (p2 - p1) - 1, by omega⟩
      obtain ⟨A, a1, a2, a3⟩ := h7.2.2.2 K len (f + 1 + (p2 - p1)) 0 S G (fun i x y => hc i (by omega)) (by omega) hlen (by omega) hl hG
      obtain ⟨D, b1, b2, b3⟩ := h8.2.2.2 K len (f + 1) 1 A G (fun i x y => by rw [a3.o 21 (by omega)]; exact hc i (by omega)) (by omega) hlen (by omega) (by rw [a3.o 20 (by omega)]; exact hl) (fun k hk => by rw [a3.o 132 (by omega)]; exact hG k hk)
      obtain ⟨Y, y1, y2⟩ := fm_comes_eq (F := C) h5 h10 (S := T) (G := G) ha hG2
      have dq : ∀ q, q ≠ 133 → D.1 q = S.1 q := fun q hq => by rw [b3.o q hq, a3.o q hq]
      have d0 : D.1 133 0 = V G := by rw [b3.k 0 (by omega)]; exact a2
      have cls : fx_Rule_worth_L5 K f1 0 (nI p) S = if C G = 0 then fx_Rule_worth_L5 K f 0 (nI (p2 + 1)) D else some (V G, D) := by
        rw [nI_0] at a1
        rw [hf, a1, b1, fx_Rule_worth_L5, dq 20 (by omega), hl, if_neg (nI_ge (by omega) (by omega)), zix_n (show p2 < 400 by omega) (by omega), zck_t]
        simp only [znm_q]
        rw [nI_clamp (n := p2) (by omega), dq 21 (by omega), hc p2 h11, h12, if_pos (by decide), if_neg (by decide), if_pos rfl, if_neg (by decide), show nI (1 + 1) - (1 : Int32) = nI 1 from nI_pred 1, show nI (1 + 1) - (2 : Int32) = nI 0 from by decide, zix_n (by omega) (by omega), zck_t, zix_n (by omega) (by omega), zck_t, nI_clamp (by omega), nI_clamp (by omega), b2, d0, nI_1 p2]
      have ref : fm_worth_L103 J (f2 + 1) (nI i) T = if C G = 1 then J (nI i) Y else fm_worth_L103 J f2 (nI (i + 1)) Y := by
        rw [fm_worth_L103, h590, if_neg (nI_ge (by omega) (by omega)), e64, e62, ix 640 (by omega), zck_t, ix 620 (by omega), zck_t, nI_clamp (n := 640 + i) (by omega), nI_clamp (n := 620 + i) (by omega), ha _ (by omega) (by omega), ha _ (by omega) (by omega), h2, h3, if_neg (fun q => by have := (nI_eq (a := w) (b := v) (by omega) (by omega)).mp q; omega), zck_t, zck_t, y1, zbd_s, znm_q, nI_1 i]
      rw [cls, ref]
      rcases h6 G with cz | cz
      · rw [if_pos cz, if_neg (by rw [cz]; decide)]
        obtain ⟨r, S', T', r1, r2, r3, r4, r5⟩ := ih (i + 1) (p2 + 1) f f2 D Y h13 (by omega) l2 (by omega) (by omega) (fun i hi => by rw [dq 21 (by omega)]; exact hc i hi) (by rw [dq 20 (by omega)]; exact hl) (fun k hk => by rw [dq 132 (by omega)]; exact hG k hk) (fun i x y => by rw [y2 1 (by omega)]; exact ha i x y) (by rw [y2 1 (by omega), h590, show i + (k + 1) = i + 1 + k by omega]) (fun k hk => by rw [y2 8 (by omega)]; exact hG2 k hk)
        exact ⟨r, S', T', r1, r2, fun q hq => by rw [r3 q hq, dq q hq], by rw [r4, b3.l, a3.l], fun q hq => by rw [r5 q hq, y2 q hq]⟩
      · rw [if_neg (by rw [cz]; decide), if_pos cz]
        obtain ⟨Z', z1, z2⟩ := val u v d V Y h1 h2 h4 h9 y2
        exact ⟨V G, D, Z', rfl, z1, dq, by rw [b3.l, a3.l], z2⟩
