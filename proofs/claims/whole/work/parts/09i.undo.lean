theorem z_cp {α : Type} {f g : Nat → α} {n k : Nat} (h : k < n) : va_cpy f g 0 0 n k = f k := by
  unfold va_cpy
  rw [if_pos (by omega)]
  simp
theorem fx_Tcopy (S : zSt) (tq tp : Nat) (h : tq + 8 ≤ tp ∨ tp + 8 ≤ tq) : ∃ X : zSt, fx_Times_copyFrom tq tp S = some ((), X) ∧ (∀ k, k < 12 → (k < 3 ∨ 10 ≤ k) → X.1 tq k = S.1 tp k) ∧ (∀ d, 0 < d → d < 8 → ∀ k, k < 9 → X.1 (tq + d) k = S.1 (tp + d) k) ∧ (∀ q, (q < tq ∨ tq + 8 ≤ q) → X.1 q = S.1 q) ∧ X.2 = S.2 := by
  unfold fx_Times_copyFrom
  simp only [znm]
  refine ⟨_, rfl, ?_, ?_, ?_, rfl⟩
  · intro k hk hk2
    rcases (show k = 0 ∨ k = 1 ∨ k = 2 ∨ k = 10 ∨ k = 11 by omega) with rfl | rfl | rfl | rfl | rfl
    all_goals simp (disch := omega) only [zI_at, zI_nk, zI_ne, zcI_ne]
  · intro d d1 d2 k hk
    rcases (show d = 1 ∨ d = 2 ∨ d = 3 ∨ d = 4 ∨ d = 5 ∨ d = 6 ∨ d = 7 by omega) with rfl | rfl | rfl | rfl | rfl | rfl | rfl
    all_goals simp (disch := omega) only [zI_ne, zcI_ne, zcI_eq, z_cp]
  · intro q hq
    simp (disch := omega) only [zI_ne, zcI_ne]
theorem z_wr {S : zSt} {q i : Nat} {f g : Nat → Int32} {v : Int32} (hg : ∀ k, g k = if k = i then v else f k) : zpI (zcI S q f) q i v = zcI S q g := by
  unfold zpI zcI
  refine Prod.ext ?_ rfl
  funext a
  by_cases h : a = q
  · subst h
    simp only [if_true]
    funext k
    rw [hg]
    rfl
  · simp only [if_neg h]
theorem z_wr0 {S : zSt} {q : Nat} {f : Nat → Int32} (hf : ∀ k, f k = S.1 q k) : zcI S q f = S := by
  unfold zcI
  refine Prod.ext ?_ rfl
  funext a
  by_cases h : a = q
  · subst h
    simp only [if_true]
    funext k
    exact hf k
  · simp only [if_neg h]
/-- the reference goes back to the row c of back -/
theorem fm_undo_eq {S : zSt} {c : Nat} (hc : c < 8) (hS : S.1 0 3 = nI c) : fm_undo_L21 zFU 0 S = some (1, zcI S 1 (fun k => if k < 180 then S.1 3 (180 * c + k) else S.1 1 k)) := by
  have key : ∀ (f i : Nat), i ≤ 180 → 180 < i + f → fm_undo_L21 f (nI i) (zcI S 1 (fun k => if k < i then S.1 3 (180 * c + k) else S.1 1 k)) = some (1, zcI S 1 (fun k => if k < 180 then S.1 3 (180 * c + k) else S.1 1 k)) := by
    intro f
    induction f with
    | zero => intro i h1 h2; omega
    | succ f ih =>
      intro i h1 h2
      rw [fm_undo_L21]
      by_cases hi : i = 180
      · subst hi
        rw [if_pos (by decide)]
      · rw [if_neg (show ¬ (180 : Int32) ≤ nI i from by rw [show (180 : Int32) = nI 180 from rfl]; exact nI_ge (by omega) (by omega))]
        simp only [znm]
        rw [zcI_ne (show (0 : Nat) ≠ 1 by omega), zcI_ne (show (3 : Nat) ≠ 1 by omega), hS, show (180 : Int32) * nI c + nI i = nI (180 * c + i) from by rw [show (180 : Int32) = nI 180 from rfl, pk_mul, nI_add], zix_n (k := 180 * c + i) (by omega) (by omega), zck_t, zix_n (k := i) (by omega) (by omega), zck_t, nI_clamp (n := i) (by omega), nI_clamp (n := 180 * c + i) (by omega), z_wr (g := fun k => if k < i + 1 then S.1 3 (180 * c + k) else S.1 1 k) (fun k => ?_), nI_1]
        · exact ih (i + 1) (by omega) (by omega)
        · by_cases e : k = i
          · subst e
            rw [if_pos rfl]
            simp only [if_pos (show k < k + 1 by omega)]
          · rw [if_neg e]
            by_cases e2 : k < i
            · simp only [if_pos e2, if_pos (show k < i + 1 by omega)]
            · simp only [if_neg e2, if_neg (show ¬ k < i + 1 by omega)]
  have := key zFU 0 (by omega) (by unfold zFU; omega)
  rw [z_wr0 (fun k => by simp)] at this
  exact this
section ops6
variable {RR : (Nat → Int32) → Int32 → Int32 → (Nat → Int32) → Prop}
theorem zp_undo (hRR : zRok RR) : zo_undo (zInv RR) := by
  intro X M hI
  obtain ⟨t, n, m, c, o, hT, hF, ⟨hH, hTi, hS, hR, hL, hRi⟩, hU, hK1, hK2, hK3⟩ := id hI
  have hn : n ≤ 9 := hH.2.2.1
  obtain ⟨u1, u2, u3, u4, u5, u6⟩ := id hU
  unfold fx_undo fx_History_bringBack fm_undo
  simp only [znm]
  by_cases hc : c = 0
  · subst hc
    rw [u1, u2, if_neg (show ¬ (0 : Int32) < nI 0 by decide), if_pos (show (nI 0 : Int32) = 0 from rfl), zbd_s, zbo_0, zck_t]
    exact ⟨_, _, _, rfl, rfl, hI⟩
  obtain ⟨d, rfl⟩ : ∃ d, c = d + 1 := ⟨c - 1, by omega⟩
  have p1 : nI (d + 1) - (1 : Int32) = nI d := nI_pred d
  rw [u1, u2, if_pos (show (0 : Int32) < nI (d + 1) from by rw [show (0 : Int32) = nI 0 from rfl]; exact nI_lt (by omega) (by omega)), if_neg (nI_ne0 (by omega) (by omega)), p1]
  generalize hX1 : zpI X 59 2 (nI d) = X1
  have e1 : X1.1 59 1 = nI o := by rw [← hX1, zI_nk (by omega)]; exact u4
  have e2 : X1.1 59 2 = nI d := by rw [← hX1]; exact zI_at
  have x1 : ∀ q, q ≠ 59 → X1.1 q = X.1 q := fun q hq => by rw [← hX1]; exact zI_ne hq
  have x1l : X1.2 = X.2 := by rw [← hX1]; rfl
  have e3 : (X1.1 59 1 + X1.1 59 2) - (X1.1 59 1 + X1.1 59 2) / (8 : Int32) * (8 : Int32) = nI ((o + d) % 8) := by
    rw [e1, e2, nI_add, show (8 : Int32) = nI 8 from rfl, pk_rem (by omega) (by omega) (by omega)]
  rw [e3, zix_n (by omega) (by omega), zck_t, nI_clamp (by omega)]
  have hlt : (o + d) % 8 < 8 := Nat.mod_lt _ (by omega)
  obtain ⟨X2, c1, c2, c3, c4, c5⟩ := fx_Tcopy X1 11 (61 + 8 * ((o + d) % 8)) (by omega)
  rw [c1, zbd_s, zbd_s, zbo_1, zck_t]
  have m1 : (zpI M 0 3 (nI d)).1 0 3 = nI d := zI_at
  rw [fm_undo_eq (by omega) m1]
  generalize hM2 : zcI (zpI M 0 3 (nI d)) 1 (fun k => if k < 180 then (zpI M 0 3 (nI d)).1 3 (180 * d + k) else (zpI M 0 3 (nI d)).1 1 k) = M2
  have y1 : ∀ k, M2.1 1 k = if k < 180 then M.1 3 (180 * d + k) else M.1 1 k := fun k => by
    rw [← hM2, zcI_eq, zI_ne (by omega), zI_ne (by omega)]
  have y2 : ∀ q, q ≠ 0 → q ≠ 1 → M2.1 q = M.1 q := fun q h0 h1 => by rw [← hM2, zcI_ne h1, zI_ne h0]
  have y3 : ∀ k, k ≠ 3 → M2.1 0 k = M.1 0 k := fun k hk => by rw [← hM2, zcI_ne (by omega), zI_nk hk]
  have y4 : M2.1 0 3 = nI d := by rw [← hM2, zcI_ne (by omega)]; exact zI_at
  have y5 : ∀ k, 180 ≤ k → M2.1 1 k = M.1 1 k := fun k hk => by rw [y1, if_neg (by omega)]
  obtain ⟨b1, b2⟩ := u6 d (by omega)
  have st5 : ∀ k, k < 5 → M2.1 1 k = M.1 1 k := fun k hk => by rw [y1, if_pos (by omega)]; exact b2.1 k hk
  have sth : ∀ h, h < n → ∀ k, (k < 3 ∨ 9 ≤ k) → k < 15 → M2.1 1 (20 + 16 * h + k) = M.1 1 (20 + 16 * h + k) := fun h hh k hk hk2 => by
    rw [y1, if_pos (by omega)]
    obtain ⟨w0, w1, w2, w3⟩ := b2.2 h hh
    rcases (show k = 0 ∨ k = 1 ∨ k = 2 ∨ 9 ≤ k by omega) with rfl | rfl | rfl | hk9
    · exact w0
    · rw [show 20 + 16 * h + 1 = 21 + 16 * h by omega]; exact w1
    · rw [show 20 + 16 * h + 2 = 22 + 16 * h by omega]; exact w2
    · have := w3 (k - 9) (by omega)
      rw [show 29 + 16 * h + (k - 9) = 20 + 16 * h + k by omega] at this
      exact this
  have xo : ∀ q, (q < 11 ∨ 19 ≤ q) → q ≠ 59 → X2.1 q = X.1 q := fun q h1 h2 => by rw [c4 q (by omega), x1 q h2]
  have x59 : ∀ k, X2.1 59 k = X1.1 59 k := fun k => by rw [c4 59 (by omega)]
  refine ⟨_, _, _, rfl, rfl, t, n, m, d, o, rTape_c (xo _ (by omega) (by omega)) (xo _ (by omega) (by omega)) (y3 _ (by omega)) (y2 _ (by omega) (by omega)) hT, ?_, ⟨rH_c (fun q h1 h2 => xo _ (by omega) (by omega)) (st5 _ (by omega)) sth (fun k h1 h2 => y5 _ (by omega)) hH, ?_, rS_c (xo _ (by omega) (by omega)) (fun k hk => st5 _ (by omega)) hS, rR_c hRR (xo _ (by omega) (by omega)) (xo _ (by omega) (by omega)) (fun k h1 h2 => y5 _ (by omega)) hR, rL_c (fun q h1 h2 => xo _ (by omega) (by omega)) (by rw [c5, x1l]) (fun k h1 h2 => y5 _ (by omega)) hL, rI_c (xo _ (by omega) (by omega)) (fun k h1 h2 => y5 _ (by omega)) hRi⟩, ⟨by rw [x59, e2], y4, by omega, by rw [x59, e1], u5, fun j hj => ?_⟩, ?_, ?_, ?_⟩
  · rw [xo 125 (by omega) (by omega), xo 140 (by omega) (by omega), xo 141 (by omega) (by omega), y3 _ (by omega), y3 _ (by omega)]; exact hF
  · refine rT_tr hn (T := 61 + 8 * ((o + d) % 8)) (x := X.1) (a := fun k => M.1 3 (180 * d + k)) (fun k hk hk2 => ?_) (fun e h1 h2 k hk => ?_) (fun k hk => by rw [y1, if_pos hk]) b1
    · rw [show (3 + 8 : Nat) = 11 from rfl, c2 k hk hk2, x1 _ (by omega)]
    · rw [show (3 + 8 + e : Nat) = 11 + e by omega, c3 e h1 h2 k hk, x1 _ (by omega)]
  · obtain ⟨v1, v2⟩ := u6 j (by omega)
    rw [y2 3 (by omega) (by omega)]
    have hj8 : (o + j) % 8 < 8 := Nat.mod_lt _ (by omega)
    exact ⟨rT_c (fun q h1 h2 => xo _ (by omega) (by omega)) (fun _ _ => rfl) (fun _ _ _ _ _ => rfl) v1, zStat_c hn st5 sth (fun _ _ => rfl) v2⟩
  · rw [xo _ (by omega) (by omega), y3 _ (by omega)]; exact hK1
  · rw [y3 _ (by omega)]; exact hK2
  · rw [y3 _ (by omega), y2 _ (by omega) (by omega)]
    intro h
    obtain ⟨n', m', hC⟩ := hK3 h
    exact ⟨n', m', rC_same hRR (fun q h1 h2 => xo _ (by omega) (by omega)) (by rw [c5, x1l]) (fun k hk => rfl) hC⟩
end ops6
