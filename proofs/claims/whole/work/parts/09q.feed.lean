/-! feed -/
theorem zbyk : ∀ i : Nat, (hi : i < 32) → 8 ≤ i → (255#32 : BitVec 32)[i] = false := by decide
theorem zby_24 (a : Int32) : ((a.toUInt32 >>> ((24 : Int32).toUInt32 &&& Int32.toUInt32 31)).toInt32) &&& (255 : Int32) = (a >>> ((24 : Int32) &&& 31)) &&& (255 : Int32) := by
  apply Int32.toBitVec_inj.mp
  simp
  ext i hi
  simp [BitVec.getElem_sshiftRight]
  by_cases h : i < 8
  · rw [dif_pos (by omega), BitVec.getLsbD_eq_getElem (by omega)]
  · rw [zbyk i hi (by omega), Bool.and_false, Bool.and_false]
theorem zby_16 (a : Int32) : ((a.toUInt32 >>> ((16 : Int32).toUInt32 &&& Int32.toUInt32 31)).toInt32) &&& (255 : Int32) = (a >>> ((16 : Int32) &&& 31)) &&& (255 : Int32) := by
  apply Int32.toBitVec_inj.mp
  simp
  ext i hi
  simp [BitVec.getElem_sshiftRight]
  by_cases h : i < 8
  · rw [dif_pos (by omega), BitVec.getLsbD_eq_getElem (by omega)]
  · rw [zbyk i hi (by omega), Bool.and_false, Bool.and_false]
theorem zby_8 (a : Int32) : ((a.toUInt32 >>> ((8 : Int32).toUInt32 &&& Int32.toUInt32 31)).toInt32) &&& (255 : Int32) = (a >>> ((8 : Int32) &&& 31)) &&& (255 : Int32) := by
  apply Int32.toBitVec_inj.mp
  simp
  ext i hi
  simp [BitVec.getElem_sshiftRight]
  by_cases h : i < 8
  · rw [dif_pos (by omega), BitVec.getLsbD_eq_getElem (by omega)]
  · rw [zbyk i hi (by omega), Bool.and_false, Bool.and_false]
theorem zby_0 (a : Int32) : ((a.toUInt32 >>> ((0 : Int32).toUInt32 &&& Int32.toUInt32 31)).toInt32) &&& (255 : Int32) = (a >>> ((0 : Int32) &&& 31)) &&& (255 : Int32) := by
  apply Int32.toBitVec_inj.mp
  simp
theorem zby_r (a : Int32) : 0 ≤ (a &&& (255 : Int32)).toInt ∧ (a &&& (255 : Int32)).toInt ≤ 255 := by
  obtain ⟨j, hj, e⟩ := pk_andE a (m := 255) 8 (by decide)
  rw [e, nI_toInt (by omega)]
  omega
/-- the states while bytes are fed -/
def rF (X0 M0 X M : zSt) (t : Nat) : Prop := X.1 1 1 = nI t ∧ M.1 0 12 = nI t ∧ (∀ k, X.1 2 k = M.1 6 k) ∧ (∀ k, 0 ≤ (M.1 6 k).toInt ∧ (M.1 6 k).toInt ≤ 255) ∧ (∀ q, q ≠ 1 → q ≠ 2 → X.1 q = X0.1 q) ∧ X.2 = X0.2 ∧ (∀ q, q ≠ 0 → q ≠ 6 → M.1 q = M0.1 q) ∧ (∀ k, k ≠ 12 → M.1 0 k = M0.1 0 k)
theorem rF_put {X0 M0 X M : zSt} {t : Nat} {v : Int32} (hv : 0 ≤ v.toInt ∧ v.toInt ≤ 255) (H : rF X0 M0 X M t) : rF X0 M0 (zpI (zpI X 2 t v) 1 1 (nI (t + 1))) (zpI (zpI M 6 t v) 0 12 (nI (t + 1))) (t + 1) := by
  obtain ⟨h1, h2, h3, h4, h5, h6, h7, h8⟩ := H
  have e6 : ∀ k, (zpI (zpI M 6 t v) 0 12 (nI (t + 1))).1 6 k = if k = t then v else M.1 6 k := fun k => by
    rw [zI_ne (by omega), z1, if_pos rfl]
  refine ⟨zI_at, zI_at, fun k => ?_, fun k => ?_, fun q a b => ?_, h6, fun q a b => ?_, fun k hk => ?_⟩
  · rw [e6, zI_ne (by omega), z1, if_pos rfl]
    by_cases h : k = t
    · rw [if_pos h, if_pos h]
    · rw [if_neg h, if_neg h, h3]
  · rw [e6]
    by_cases h : k = t
    · rw [if_pos h]; exact hv
    · rw [if_neg h]; exact h4 k
  · rw [zI_ne a, zI_ne b, h5 q a b]
  · rw [zI_ne a, zI_ne b, h7 q a b]
  · rw [zI_nk hk, zI_ne (by omega), h8 k hk]
/-- what four bytes of v leave in the class -/
def zfX (X : zSt) (t : Nat) (v : Int32) : zSt := zpI (zpI X 2 t v) 1 1 (nI (t + 1))
def zfM (M : zSt) (t : Nat) (v : Int32) : zSt := zpI (zpI M 6 t v) 0 12 (nI (t + 1))
def zb4 (a s : Int32) : Int32 := (a >>> (s &&& 31)) &&& (255 : Int32)
def zfX4 (X : zSt) (t : Nat) (v : Int32) : zSt := zfX (zfX (zfX (zfX X t (zb4 v 24)) (t + 1) (zb4 v 16)) (t + 2) (zb4 v 8)) (t + 3) (zb4 v 0)
def zfM4 (M : zSt) (t : Nat) (v : Int32) : zSt := zfM (zfM (zfM (zfM M t (zb4 v 24)) (t + 1) (zb4 v 16)) (t + 2) (zb4 v 8)) (t + 3) (zb4 v 0)
theorem zfX_t {X : zSt} {t : Nat} {v : Int32} : (zfX X t v).1 1 1 = nI (t + 1) := zI_at
theorem zfM_t {X : zSt} {t : Nat} {v : Int32} : (zfM X t v).1 0 12 = nI (t + 1) := zI_at
theorem zfX4_t {X : zSt} {t : Nat} {v : Int32} : (zfX4 X t v).1 1 1 = nI (t + 4) := zI_at
theorem zfM4_t {X : zSt} {t : Nat} {v : Int32} : (zfM4 X t v).1 0 12 = nI (t + 4) := zI_at
theorem rF_put4 {X0 M0 X M : zSt} {t : Nat} (v : Int32) (H : rF X0 M0 X M t) : rF X0 M0 (zfX4 X t v) (zfM4 M t v) (t + 4) := rF_put (zby_r _) (rF_put (zby_r _) (rF_put (zby_r _) (rF_put (zby_r _) H)))
theorem fx_add_st {a s s' b : Int32} {j : zSt → Option (Unit × zSt)} {f : Nat} {X : zSt} {t : Nat} (hX : X.1 1 1 = nI t) (ht : t < 400) (hs : ¬ s < 0) (e : s + (-8) = s') (eb : ((a.toUInt32 >>> (s.toUInt32 &&& Int32.toUInt32 31)).toInt32) &&& (255 : Int32) = b) : fx_Tape_add_L3 a j (f + 1) s X = fx_Tape_add_L3 a j f s' (zfX X t b) := by
  rw [fx_Tape_add_L3, if_neg hs, hX, if_neg (show ¬ (400 : Int32) ≤ nI t from nI_ge (b := 400) ht (by omega)), zix_n ht (by omega), zck_t]
  simp only [znm]
  rw [zI_ne (show (1 : Nat) ≠ 2 by omega), hX, nI_clamp (by omega), nI_1, e, eb]
  rfl
theorem fx_add_f {a : Int32} {j : zSt → Option (Unit × zSt)} {X : zSt} {t f : Nat} (hX : X.1 1 1 = nI t) (ht : t + 4 ≤ 400) : fx_Tape_add_L3 a j (f + 1 + 1 + 1 + 1 + 1) 24 X = j (zfX4 X t a) := by
  rw [fx_add_st hX (by omega) (by decide) (s' := 16) (by decide) (zby_24 a), fx_add_st (t := t + 1) zfX_t (by omega) (by decide) (s' := 8) (by decide) (zby_16 a), fx_add_st (t := t + 2) zfX_t (by omega) (by decide) (s' := 0) (by decide) (zby_8 a), fx_add_st (t := t + 3) zfX_t (by omega) (by decide) (s' := -8) (by decide) (zby_0 a), fx_Tape_add_L3, if_pos (by decide)]
  rfl
theorem fx_add_eq {a : Int32} {X : zSt} {t : Nat} (hX : X.1 1 1 = nI t) (ht : t + 4 ≤ 400) : fx_Tape_add X a = some ((), zfX4 X t a) := by
  unfold fx_Tape_add
  simp only [znm]
  exact fx_add_f (f := 8187) hX ht
theorem fm_feed_st {a b c d e v s : Int32} {f p q : Nat} {M : zSt} {t : Nat} (hM : M.1 0 12 = nI t) (ht : t < 400) (hp : p < 5) (hq : q < 4) (hv : v = if p = 0 then a else if p = 1 then b else if p = 2 then c else if p = 3 then d else e) (hs : (24 : Int32) - (8 : Int32) * nI q = s) : fm_feed_L18 a b c d e (f + 1) (nI (4 * p + q)) M = fm_feed_L18 a b c d e f (nI (4 * p + q + 1)) (zfM M t (zb4 v s)) := by
  have e1 : nI (4 * p + q) - nI (4 * p + q) / (4 : Int32) * (4 : Int32) = nI q := by
    rw [show (4 : Int32) = nI 4 from rfl, pk_rem (by omega) (by omega) (by omega), show (4 * p + q) % 4 = q by omega]
  rw [fm_feed_L18, if_neg (show ¬ (20 : Int32) ≤ nI (4 * p + q) from nI_ge (b := 20) (by omega) (by omega))]
  simp only [znm]
  rw [e1, hs, hM, zix_n ht (by omega), nI_1]
  simp only [zck_t]
  rw [zI_ne (show (0 : Nat) ≠ 6 by omega), zI_ne (show (0 : Nat) ≠ 6 by omega), zI_ne (show (0 : Nat) ≠ 6 by omega), zI_ne (show (0 : Nat) ≠ 6 by omega), zI_ne (show (0 : Nat) ≠ 6 by omega), hM, nI_clamp (by omega), nI_1]
  rcases (show p = 0 ∨ p = 1 ∨ p = 2 ∨ p = 3 ∨ p = 4 by omega) with rfl | rfl | rfl | rfl | rfl
  · rw [if_neg (show ¬ (4 : Int32) ≤ nI (4 * 0 + q) from nI_ge (b := 4) (by omega) (by omega)), hv]
    rfl
  · rw [if_pos (show (4 : Int32) ≤ nI (4 * 1 + q) from nI_le (a := 4) (by omega) (by omega)), if_neg (show ¬ (8 : Int32) ≤ nI (4 * 1 + q) from nI_ge (b := 8) (by omega) (by omega)), hv]
    rfl
  · rw [if_pos (show (4 : Int32) ≤ nI (4 * 2 + q) from nI_le (a := 4) (by omega) (by omega)), if_pos (show (8 : Int32) ≤ nI (4 * 2 + q) from nI_le (a := 8) (by omega) (by omega)), if_neg (show ¬ (12 : Int32) ≤ nI (4 * 2 + q) from nI_ge (b := 12) (by omega) (by omega)), hv]
    rfl
  · rw [if_pos (show (4 : Int32) ≤ nI (4 * 3 + q) from nI_le (a := 4) (by omega) (by omega)), if_pos (show (8 : Int32) ≤ nI (4 * 3 + q) from nI_le (a := 8) (by omega) (by omega)), if_pos (show (12 : Int32) ≤ nI (4 * 3 + q) from nI_le (a := 12) (by omega) (by omega)), if_neg (show ¬ (16 : Int32) ≤ nI (4 * 3 + q) from nI_ge (b := 16) (by omega) (by omega)), hv]
    rfl
  · rw [if_pos (show (4 : Int32) ≤ nI (4 * 4 + q) from nI_le (a := 4) (by omega) (by omega)), if_pos (show (8 : Int32) ≤ nI (4 * 4 + q) from nI_le (a := 8) (by omega) (by omega)), if_pos (show (12 : Int32) ≤ nI (4 * 4 + q) from nI_le (a := 12) (by omega) (by omega)), if_pos (show (16 : Int32) ≤ nI (4 * 4 + q) from nI_le (a := 16) (by omega) (by omega)), hv]
    rfl
theorem fm_feed_st4 {a b c d e v : Int32} {f p : Nat} {M : zSt} {t : Nat} (hM : M.1 0 12 = nI t) (ht : t + 4 ≤ 400) (hp : p < 5) (hv : v = if p = 0 then a else if p = 1 then b else if p = 2 then c else if p = 3 then d else e) : fm_feed_L18 a b c d e (f + 4) (nI (4 * p)) M = fm_feed_L18 a b c d e f (nI (4 * (p + 1))) (zfM4 M t v) := by
  rw [show 4 * p = 4 * p + 0 from rfl, show f + 4 = f + 3 + 1 from rfl, fm_feed_st hM (by omega) hp (by omega) hv (s := 24) (by decide), show f + 3 = f + 2 + 1 from rfl, show 4 * p + 0 + 1 = 4 * p + 1 from rfl, fm_feed_st (q := 1) (t := t + 1) zfM_t (by omega) hp (by omega) hv (s := 16) (by decide), show f + 2 = f + 1 + 1 from rfl, show 4 * p + 1 + 1 = 4 * p + 2 from rfl, fm_feed_st (q := 2) (t := t + 2) zfM_t (by omega) hp (by omega) hv (s := 8) (by decide), show 4 * p + 2 + 1 = 4 * p + 3 from rfl, fm_feed_st (q := 3) (t := t + 3) zfM_t (by omega) hp (by omega) hv (s := 0) (by decide)]
  rfl
theorem fm_feed_all {a b c d e : Int32} {f : Nat} {M : zSt} {t : Nat} (hM : M.1 0 12 = nI t) (ht : t + 20 ≤ 400) : fm_feed_L18 a b c d e (f + 1 + 4 + 4 + 4 + 4 + 4) 0 M = some ((zfM4 (zfM4 (zfM4 (zfM4 (zfM4 M t a) (t + 4) b) (t + 8) c) (t + 12) d) (t + 16) e).1 0 12, zfM4 (zfM4 (zfM4 (zfM4 (zfM4 M t a) (t + 4) b) (t + 8) c) (t + 12) d) (t + 16) e) := by
  rw [show (0 : Int32) = nI (4 * 0) from rfl, fm_feed_st4 (p := 0) (v := a) hM (by omega) (by omega) rfl, fm_feed_st4 (p := 1) (v := b) (t := t + 4) zfM4_t (by omega) (by omega) rfl, fm_feed_st4 (p := 2) (v := c) (t := t + 8) zfM4_t (by omega) (by omega) rfl, fm_feed_st4 (p := 3) (v := d) (t := t + 12) zfM4_t (by omega) (by omega) rfl, fm_feed_st4 (p := 4) (v := e) (t := t + 16) zfM4_t (by omega) (by omega) rfl, fm_feed_L18, if_pos (by decide)]
section ops9
variable {RR : (Nat → Int32) → Int32 → Int32 → (Nat → Int32) → Prop}
theorem zp_feed (hRR : zRok RR) : zo_feed (zInv RR) := by
  intro X M hI a b c d e
  obtain ⟨t, n, m, cc, o, hT, hF, hC, hU, hK⟩ := id hI
  obtain ⟨q1, q2, q3, q4, q5⟩ := hT
  have hn : n ≤ 9 := hC.1.2.2.1
  unfold fx_feed fm_feed
  rw [q1, q2, show nI t + (20 : Int32) = nI (t + 20) from nI_add t 20]
  by_cases h : t + 20 ≤ 400
  · rw [if_pos (show nI t ≤ (380 : Int32) from nI_le (b := 380) (by omega) (by omega)), if_pos (show nI (t + 20) ≤ (400 : Int32) from nI_le (b := 400) h (by omega))]
    rw [fx_add_eq q1 (by omega), zbd_s, fx_add_eq (t := t + 4) zfX4_t (by omega), zbd_s, fx_add_eq (t := t + 8) zfX4_t (by omega), zbd_s, fx_add_eq (t := t + 12) zfX4_t (by omega), zbd_s, fx_add_eq (t := t + 16) zfX4_t (by omega), zbd_s]
    rw [show fm_feed_L18 a b c d e zFU 0 M = _ from fm_feed_all (f := 8171) q2 h]
    have r0 : rF X M X M t := ⟨q1, q2, q4, q5, fun _ _ _ => rfl, rfl, fun _ _ _ => rfl, fun _ _ => rfl⟩
    have r5 := rF_put4 e (rF_put4 d (rF_put4 c (rF_put4 b (rF_put4 a r0))))
    revert r5
    rw [show t + 4 + 4 = t + 8 by omega, show t + 8 + 4 = t + 12 by omega, show t + 12 + 4 = t + 16 by omega, show t + 16 + 4 = t + 20 by omega]
    generalize zfX4 (zfX4 (zfX4 (zfX4 (zfX4 X t a) (t + 4) b) (t + 8) c) (t + 12) d) (t + 16) e = X2
    generalize zfM4 (zfM4 (zfM4 (zfM4 (zfM4 M t a) (t + 4) b) (t + 8) c) (t + 12) d) (t + 16) e = M2
    intro r5
    obtain ⟨p1, p2, p3, p4, p5, p6, p7, p8⟩ := r5
    refine ⟨_, _, _, rfl, by rw [p1, p2], t + 20, n, m, cc, o, ⟨p1, p2, h, p3, p4⟩, by rw [p5 125 (by omega) (by omega), p5 140 (by omega) (by omega), p5 141 (by omega) (by omega), p8 _ (by omega), p8 _ (by omega)]; exact hF, rC_same hRR (fun q h1 h2 => p5 q (by omega) (by omega)) (by rw [p6]) (fun k _ => by rw [p7 1 (by omega) (by omega)]) hC, rU_c hn (p5 _ (by omega) (by omega)) (fun q h1 h2 => p5 q (by omega) (by omega)) (p8 _ (by omega)) (p7 _ (by omega) (by omega)) (fun k _ => by rw [p7 1 (by omega) (by omega)]) (fun h hh k _ hk => by rw [p7 1 (by omega) (by omega)]) hU, ?_, ?_, ?_⟩
    · rw [p5 _ (by omega) (by omega), p8 _ (by omega)]; exact hK.1
    · rw [p8 _ (by omega)]; exact hK.2.1
    · rw [p8 _ (by omega), p7 2 (by omega) (by omega)]
      intro h
      obtain ⟨n', m', hC'⟩ := hK.2.2 h
      exact ⟨n', m', rC_same hRR (fun q h1 h2 => p5 q (by omega) (by omega)) (by rw [p6]) (fun k _ => rfl) hC'⟩
  · rw [if_neg (show ¬ nI t ≤ (380 : Int32) from nI_ge (a := 380) (by omega) (by omega)), if_neg (show ¬ nI (t + 20) ≤ (400 : Int32) from nI_ge (a := 400) (by omega) (by omega))]
    exact ⟨_, _, _, rfl, rfl, hI⟩
end ops9
