section ops7
variable {RR : (Nat → Int32) → Int32 → Int32 → (Nat → Int32) → Prop}
theorem znm_eq {α β : Type} (x : α) (k : α → β) : znm x k = k x := rfl
theorem fm_forgets_eq (S : zSt) : fm_forgets S = some ((), zpI S 0 3 0) := rfl
theorem fm_image_0 {M : zSt} {a1 : Int32} (ha1 : a1 = 0) (hm1 : ¬ M.1 0 4 = 0) : fm_image M a1 = some (1, zpI (zpI (zcI M 1 (fun k => if k < 1480 then M.1 2 k else M.1 1 k)) 0 3 0) 0 4 1) := by
  unfold fm_image
  rw [znm_eq, if_pos ha1, if_neg hm1]
  dsimp only
  rw [znm_eq, fm_img_eq (s := 2) (d := 1) (by omega) (Or.inl ⟨ha1, rfl, rfl⟩) _ (by unfold zFU; omega)]
  try dsimp only
  rw [znm_eq, if_pos ha1, fm_forgets_eq, zbd_s]
  rfl
theorem fm_image_n {M : zSt} {a1 : Int32} (ha1 : a1 = 0) (hm1 : M.1 0 4 = 0) : fm_image M a1 = some (0, M) := by
  unfold fm_image
  rw [znm_eq, if_pos ha1, if_pos hm1]
theorem zp_image0 (hRR : zRok RR) {X M : zSt} {a1 : Int32} (ha1 : a1 = 0) (hI : zInv RR X M) : ∃ (r : Int32) (X1 M1 : zSt), fx_image X a1 = some (r, X1) ∧ fm_image M a1 = some (r, M1) ∧ zInv RR X1 M1 := by
  obtain ⟨t, n, m, c, o, hT, hF, hC, hU, hK1, hK2, hK3⟩ := id hI
  have hn : n ≤ 9 := hC.1.2.2.1
  unfold fx_image fx_History_forget
  simp only [znm]
  rw [if_pos ha1]
  rcases hK2 with h0 | h0
  · have hx0 : X.1 0 3 = 0 := hK1.trans h0
    have e : zck (zbo (X.1 0 3)) (some (X.1 0 3, X)) = some ((0 : Int32), X) := by rw [hx0, zbo_0, zck_t]
    rw [if_pos hx0, fm_image_n ha1 h0]
    exact ⟨0, X, M, e, rfl, hI⟩
  · have hm1 : ¬ M.1 0 4 = 0 := by rw [h0]; decide
    have hx1 : ¬ X.1 0 3 = 0 := by rw [hK1]; exact hm1
    rw [if_neg hx1, fm_image_0 ha1 hm1]
    obtain ⟨F, f0, f1, f2, f3, f4⟩ := fx_CC_nk X
    rw [f0, zbd_s, zbd_s]
    have e0 : (zpI F 59 2 0).1 0 3 = 1 := by rw [zI_ne (by omega), f3 _ (by omega), hK1, h0]
    rw [e0, zbo_1, zck_t]
    obtain ⟨n', m', hCk⟩ := hK3 h0
    generalize hM2 : zpI (zpI (zcI M 1 (fun k => if k < 1480 then M.1 2 k else M.1 1 k)) 0 3 0) 0 4 1 = M2
    have y1 : ∀ k, k < 1480 → M2.1 1 k = M.1 2 k := fun k hk => by
      rw [← hM2, zI_ne2 (by omega) (by omega), zcI_eq, if_pos hk]
    have y2 : ∀ q, q ≠ 0 → q ≠ 1 → M2.1 q = M.1 q := fun q h0 h1 => by rw [← hM2, zI_ne2 h0 h0, zcI_ne h1]
    have y3 : ∀ k, k ≠ 3 → k ≠ 4 → M2.1 0 k = M.1 0 k := fun k h3 h4 => by rw [← hM2, zI_nk h4, zI_nk h3, zcI_ne (by omega)]
    have y4 : M2.1 0 4 = 1 := by rw [← hM2]; exact zI_at
    have y5 : M2.1 0 3 = 0 := by rw [← hM2, zI_nk (by omega)]; exact zI_at
    generalize hX2 : zpI F 59 2 0 = X2 at e0 ⊢
    have x1 : ∀ q, q ≠ 59 → X2.1 q = F.1 q := fun q hq => by rw [← hX2]; exact zI_ne hq
    have x2 : X2.2 = F.2 := by rw [← hX2]; rfl
    have x3 : ∀ q, (q ≤ 3 ∨ 31 ≤ q) → q ≠ 59 → X2.1 q = X.1 q := fun q h1 h2 => by rw [x1 q h2, f3 q h1]
    refine ⟨_, _, _, rfl, rfl, t, n', m', 0, o, rTape_c (x3 _ (by omega) (by omega)) (x3 _ (by omega) (by omega)) (y3 _ (by omega) (by omega)) (y2 _ (by omega) (by omega)) hT, ?_, ?_, rU_0 (by rw [← hX2]; exact zI_at) y5 (by rw [← hX2, zI_nk (by omega), f3 _ (by omega)]; exact hU.2.2.2.1) hU.2.2.2.2.1, ?_, ?_, ?_⟩
    · rw [x3 125 (by omega) (by omega), x3 140 (by omega) (by omega), x3 141 (by omega) (by omega), y3 _ (by omega) (by omega), y3 _ (by omega) (by omega)]; exact hF
    · exact rC_tr hRR (fun d a1 a2 a3 a4 k a5 a6 a7 a8 a9 a10 => by rw [x1 _ (by omega)]; exact f1 d a1 a2 a3 a4 k a5 a6 a7 a8 a9 a10) (fun k hk => by rw [x2]; exact f2 k hk) y1 hCk
    · rw [e0, y4]
    · rw [y4]; exact Or.inr rfl
    · intro _
      exact ⟨n', m', rC_same hRR (fun q h1 h2 => x3 _ (by omega) (by omega)) (by rw [x2]; exact f4 _ (by omega)) (fun k hk => by rw [y2 2 (by omega) (by omega)]) hCk⟩
theorem zp_image1 (hRR : zRok RR) {X M : zSt} (hI : zInv RR X M) : ∃ (r : Int32) (X1 M1 : zSt), fx_image X 1 = some (r, X1) ∧ fm_image M 1 = some (r, M1) ∧ zInv RR X1 M1 := by
  obtain ⟨t, n, m, c, o, hT, hF, hC, hU, hK1, hK2, hK3⟩ := id hI
  have hn : n ≤ 9 := hC.1.2.2.1
  unfold fx_image fm_image fx_History_forget fm_forgets
  generalize hfu : zFU = fu
  have hfu2 : 1480 < fu := by rw [← hfu]; unfold zFU; omega
  clear hfu
  simp only [znm]
  rw [if_neg (show ¬ (1 : Int32) = 0 by decide), if_neg (show ¬ (1 : Int32) = 0 by decide), fm_img_eq (s := 1) (d := 2) (by omega) (Or.inr ⟨by decide, rfl, rfl⟩) _ hfu2, if_neg (show ¬ (1 : Int32) = 0 by decide)]
  obtain ⟨F, f0, f1, f2, f3, f4⟩ := fx_CC_kn X
  rw [f0, zbd_s, show (zpI F 0 3 1).1 0 3 = 1 from zI_at, zbo_1, zck_t]
  generalize hM2 : zpI (zcI M 2 (fun k => if k < 1480 then M.1 1 k else M.1 2 k)) 0 4 1 = M2
  have y1 : ∀ k, k < 1480 → M2.1 2 k = M.1 1 k := fun k hk => by
    rw [← hM2, zI_ne (by omega), zcI_eq, if_pos hk]
  have y2 : ∀ q, q ≠ 0 → q ≠ 2 → M2.1 q = M.1 q := fun q h0 h1 => by rw [← hM2, zI_ne h0, zcI_ne h1]
  have y3 : ∀ k, k ≠ 4 → M2.1 0 k = M.1 0 k := fun k h4 => by rw [← hM2, zI_nk h4, zcI_ne (by omega)]
  have y4 : M2.1 0 4 = 1 := by rw [← hM2]; exact zI_at
  generalize hX2 : zpI F 0 3 1 = X2
  have x1 : ∀ q, q ≠ 0 → X2.1 q = F.1 q := fun q hq => by rw [← hX2]; exact zI_ne hq
  have x2 : X2.2 = F.2 := by rw [← hX2]; rfl
  have x3 : ∀ q, (q ≤ 31 ∨ 59 ≤ q) → q ≠ 0 → X2.1 q = X.1 q := fun q h1 h2 => by rw [x1 q h2, f3 q h1]
  refine ⟨_, _, _, rfl, rfl, t, n, m, c, o, rTape_c (x3 _ (by omega) (by omega)) (x3 _ (by omega) (by omega)) (y3 _ (by omega)) (y2 _ (by omega) (by omega)) hT, ?_, rC_same hRR (fun q h1 h2 => x3 _ (by omega) (by omega)) (by rw [x2]; exact f4 _ (by omega)) (fun k hk => by rw [y2 1 (by omega) (by omega)]) hC, rU_c hn (x3 _ (by omega) (by omega)) (fun q h1 h2 => x3 _ (by omega) (by omega)) (y3 _ (by omega)) (y2 _ (by omega) (by omega)) (fun k hk => by rw [y2 1 (by omega) (by omega)]) (fun h hh k _ hk => by rw [y2 1 (by omega) (by omega)]) hU, ?_, ?_, ?_⟩
  · rw [x3 125 (by omega) (by omega), x3 140 (by omega) (by omega), x3 141 (by omega) (by omega), y3 _ (by omega), y3 _ (by omega)]; exact hF
  · rw [y4, ← hX2]; exact zI_at
  · rw [y4]; exact Or.inr rfl
  · intro _
    exact ⟨n, m, rC_tr hRR (fun d a1 a2 a3 a4 k a5 a6 a7 a8 a9 a10 => by rw [x1 _ (by omega)]; exact f1 d a1 a2 a3 a4 k a5 a6 a7 a8 a9 a10) (fun k hk => by rw [x2]; exact f2 k hk) y1 hC⟩
theorem zp_image (hRR : zRok RR) : zo_image (zInv RR) := by
  intro X M hI a1 ha
  rcases ha with h | h
  · exact zp_image0 hRR h hI
  · subst h
    exact zp_image1 hRR hI
end ops7
