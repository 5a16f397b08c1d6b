section ops7
variable {RR : (Nat → Int32) → Int32 → Int32 → (Nat → Int32) → Prop}
theorem zp_image0 (hRR : zRok RR) {X M : zSt} {a1 : Int32} (ha1 : a1 = 0) (hI : zInv RR X M) : ∃ (r : Int32) (X1 M1 : zSt), fx_image X a1 = some (r, X1) ∧ fm_image M a1 = some (r, M1) ∧ zInv RR X1 M1 := by
  sorry
theorem zp_image1 (hRR : zRok RR) {X M : zSt} (hI : zInv RR X M) : ∃ (r : Int32) (X1 M1 : zSt), fx_image X 1 = some (r, X1) ∧ fm_image M 1 = some (r, M1) ∧ zInv RR X1 M1 := by
  obtain ⟨t, n, m, c, o, hT, hF, hC, hU, hK1, hK2, hK3⟩ := id hI
  have hn : n ≤ 9 := hC.1.2.2.1
  unfold fx_image fm_image fx_History_forget fm_forgets
  generalize hfu : zFU = fu
  have hfu2 : 1480 < fu := by rw [← hfu]; unfold zFU; omega
  clear hfu
  simp only [znm]
  rw [if_neg (show ¬ (1 : Int32) = 0 by decide), if_neg (show ¬ (1 : Int32) = 0 by decide), fm_img_eq (s := 1) (d := 2) (by omega) (Or.inr ⟨by decide, rfl, rfl⟩) _ hfu2, if_neg (show ¬ (1 : Int32) = 0 by decide)]
  obtain ⟨F, f0, f1, f2, f3, f4⟩ := fx_CC_kn X
  rw [f0, zbd_s, show (zpI F 0 3 1).1 0 3 = 1 from zI_at, zbo_1, zck_t]
  generalize hM2 : zpI (zcI M 2 (fun k => if k < 1480 then M.1 1 k else M.1 2 k)) 0 4 1 = M2
  have y1 : ∀ k, k < 1480 → M2.1 2 k = M.1 1 k := fun k hk => by
    rw [← hM2, zI_ne (by omega), zcI_eq, if_pos hk]
  have y2 : ∀ q, q ≠ 0 → q ≠ 2 → M2.1 q = M.1 q := fun q h0 h1 => by rw [← hM2, zI_ne h0, zcI_ne h1]
  have y3 : ∀ k, k ≠ 4 → M2.1 0 k = M.1 0 k := fun k h4 => by rw [← hM2, zI_nk h4, zcI_ne (by omega)]
  have y4 : M2.1 0 4 = 1 := by rw [← hM2]; exact zI_at
  generalize hX2 : zpI F 0 3 1 = X2
  have x1 : ∀ q, q ≠ 0 → X2.1 q = F.1 q := fun q hq => by rw [← hX2]; exact zI_ne hq
  have x2 : X2.2 = F.2 := by rw [← hX2]; rfl
  have x3 : ∀ q, (q ≤ 31 ∨ 59 ≤ q) → q ≠ 0 → X2.1 q = X.1 q := fun q h1 h2 => by rw [x1 q h2, f3 q h1]
  refine ⟨_, _, _, rfl, rfl, t, n, m, c, o, rTape_c (x3 _ (by omega) (by omega)) (x3 _ (by omega) (by omega)) (y3 _ (by omega)) (y2 _ (by omega) (by omega)) hT, ?_, rC_same hRR (fun q h1 h2 => x3 _ (by omega) (by omega)) (by rw [x2]; exact f4 _ (by omega)) (fun k hk => by rw [y2 1 (by omega) (by omega)]) hC, rU_c hn (x3 _ (by omega) (by omega)) (fun q h1 h2 => x3 _ (by omega) (by omega)) (y3 _ (by omega)) (y2 _ (by omega) (by omega)) (fun k hk => by rw [y2 1 (by omega) (by omega)]) (fun h hh k _ hk => by rw [y2 1 (by omega) (by omega)]) hU, ?_, ?_, ?_⟩
  · rw [x3 _ (by omega) (by omega), y3 _ (by omega), y3 _ (by omega)]; exact hF
  · rw [y4, ← hX2]; exact zI_at
  · rw [y4]; exact Or.inr rfl
  · intro _
    exact ⟨n, m, rC_tr hRR (fun d a1 a2 a3 a4 k a5 a6 a7 a8 a9 a10 => by rw [x1 _ (by omega)]; exact f1 d a1 a2 a3 a4 k a5 a6 a7 a8 a9 a10) (fun k hk => by rw [x2]; exact f2 k hk) y1 hC⟩
theorem zp_image (hRR : zRok RR) : zo_image (zInv RR) := by
  intro X M hI a1 ha
  rcases ha with h | h
  · exact zp_image0 hRR h hI
  · subst h
    exact zp_image1 hRR hI
end ops7
