/-! a text is told -/
theorem zI_rule {X M X' M' : zSt} (hx : ∀ q, q ≠ 1 → q ≠ 20 → q ≠ 21 → q < 125 → X'.1 q = X.1 q) (hy : X'.2 = X.2) (hF : X'.1 125 4 = M'.1 0 19 ∧ X'.1 125 5 = M'.1 0 21) (h14 : X'.1 140 = X.1 140 ∧ X'.1 141 = X.1 141) (hm : ∀ q, (q = 2 ∨ q = 3 ∨ q = 6) → M'.1 q = M.1 q) (hm1 : ∀ k, k < 590 → M'.1 1 k = M.1 1 k) (hm0 : M'.1 0 3 = M.1 0 3 ∧ M'.1 0 4 = M.1 0 4) (ht : X'.1 1 1 = 0 ∧ M'.1 0 12 = 0) (hR : X'.1 20 2 = M'.1 1 590 ∧ zRR (X'.1 21) (X'.1 20 1) (X'.1 20 2) (M'.1 1)) (H : zInv zRR X M) : zInv zRR X' M' := by
  obtain ⟨t, n, m, c, o, hT, hF0, hC, hU, hK1, hK2, hK3⟩ := H
  have hn : n ≤ 9 := hC.1.2.2.1
  obtain ⟨c1, c2, c3, c4, c5, c6⟩ := hC
  obtain ⟨q1, q2, q3, q4, q5⟩ := hT
  refine ⟨0, n, m, c, o, ⟨ht.1, ht.2, by omega, fun k => by rw [hx 2 (by omega) (by omega) (by omega) (by omega), hm 6 (by omega)]; exact q4 k, fun k => by rw [hm 6 (by omega)]; exact q5 k⟩, ⟨hF.1, hF.2, by rw [h14.1]; exact hF0.2.2.1, by rw [h14.2]; exact hF0.2.2.2⟩, ⟨rH_c (fun q a b => hx q (by omega) (by omega) (by omega) (by omega)) (hm1 4 (by omega)) (fun h hh k _ hk => hm1 _ (by omega)) (fun k a b => hm1 k (by omega)) c1, rT_c (fun q a b => hx q (by omega) (by omega) (by omega) (by omega)) (fun k hk => hm1 k (by omega)) (fun h hh k _ hk => hm1 _ (by omega)) c2, rS_c (hx _ (by omega) (by omega) (by omega) (by omega)) (fun k hk => hm1 k (by omega)) c3, hR, rL_c (fun q a b => hx q (by omega) (by omega) (by omega) (by omega)) (by rw [hy]) (fun k a b => hm1 k (by omega)) c5, rI_c (hx _ (by omega) (by omega) (by omega) (by omega)) (fun k a b => hm1 k (by omega)) c6⟩, rU_c hn (hx _ (by omega) (by omega) (by omega) (by omega)) (fun q h1 h2 => hx q (by omega) (by omega) (by omega) (by omega)) hm0.1 (hm 3 (by omega)) (fun k hk => hm1 k (by omega)) (fun h hh k _ hk => hm1 _ (by omega)) hU, ?_, ?_, ?_⟩
  · rw [hx 0 (by omega) (by omega) (by omega) (by omega), hm0.2]; exact hK1
  · rw [hm0.2]; exact hK2
  · rw [hm0.2]
    intro h
    obtain ⟨n', m', hC'⟩ := hK3 h
    exact ⟨n', m', rC_same zRR_ok (fun q h1 h2 => hx q (by omega) (by omega) (by omega) (by omega)) (by rw [hy]) (fun k _ => by rw [hm 2 (by omega)]) hC'⟩
theorem zp_text : zo_text (zInv zRR) := by
  intro SX SM hI
  obtain ⟨t, n, m, cc, o, hT, hF0, hC, hU, hK1, hK2, hK3⟩ := id hI
  obtain ⟨q1, q2, q3, q4, q5⟩ := hT
  have qb : SX.1 2 = SM.1 6 := funext q4
  obtain ⟨c, v, p, r, K⟩ := ztK_ex q3 q5
  have E : ztE t c v p r SX SM := ⟨q3, _, K, q1, qb, rfl, q2⟩
  -- both begin
  obtain ⟨A, a1⟩ : ∃ A, zpI (zpI (zpI (zpI (zpI (zpI (zpI (zpI (zpI (zpI SX 125 2 0) 125 3 0) 125 4 0) 125 5 (-1)) 125 7 0) 125 8 0) 125 9 4) 125 10 0) 125 11 0) 125 12 0 = A := ⟨_, rfl⟩
  have Y : ztY SX A 0 [] 0 4 0 0 0 := by
    rw [← a1]
    refine ⟨?_, ?_, ?_, ?_, ?_, ?_, ?_, ?_, ?_, trivial, fun q a b d => by rw [zI_ne a, zI_ne a, zI_ne a, zI_ne a, zI_ne a, zI_ne a, zI_ne a, zI_ne a, zI_ne a, zI_ne a], rfl⟩
    all_goals (simp [zpI, upd]; try rfl)
  have A12 : A.1 125 12 = nI 0 := by rw [← a1, zI_at]; rfl
  have xr : fx_Reader_read SX = ztR 0 A := by
    unfold fx_Reader_read fx_Reader_begin
    simp only [znm_q]
    rw [a1, zbd_s]
    rfl
  obtain ⟨B, b1⟩ : ∃ B, zpI (zpI (zpI (zpI SM 0 17 0) 0 13 0) 0 10 0) 0 11 0 = B := ⟨_, rfl⟩
  have Bq : ∀ q, q ≠ 0 → B.1 q = SM.1 q := fun q hq => by rw [← b1, zI_ne hq, zI_ne hq, zI_ne hq, zI_ne hq]
  have Bk : ∀ k, k ≠ 10 → k ≠ 11 → k ≠ 13 → k ≠ 17 → B.1 0 k = SM.1 0 k := fun k x y z w => by rw [← b1, zI_nk y, zI_nk x, zI_nk z, zI_nk w]
  have B17 : B.1 0 17 = 0 := by rw [← b1, zI_nk (by omega), zI_nk (by omega), zI_nk (by omega), zI_at]
  have B13 : B.1 0 13 = nI 0 := by rw [← b1, zI_nk (by omega), zI_nk (by omega), zI_at]; rfl
  have B10 : B.1 0 10 = nI 0 := by rw [← b1, zI_nk (by omega), zI_at]; rfl
  have B11 : B.1 0 11 = nI 0 := by rw [← b1, zI_at]; rfl
  obtain ⟨T1, u1, u2, u3, u4, u5, u6, u7⟩ := (K 0 (by omega)).2.2.2.2.2.2.2 B ⟨by rw [Bk 12 (by omega) (by omega) (by omega) (by omega)]; exact q2, Bq 6 (by omega), B13⟩
  have f : ∀ k, (k < 13 ∨ 16 < k) → T1.1 0 k = B.1 0 k := fun k hk => u6 k (by omega) (by omega) (by omega) (by omega)
  obtain ⟨dp, hdp⟩ := zall_n (T1.1 0 20)
  have M : ztM c v p r SM T1 0 0 dp 0 := ⟨u4, u2, u5, u3, (f 11 (by omega)).trans B11, hdp, (f 10 (by omega)).trans B10, (f 17 (by omega)).trans B17, fun k hk => (f k (by omega)).trans (Bk k (by omega) (by omega) (by omega) (by omega)), fun q a b d => (u7 q a).trans (Bq q a)⟩
  have rd := zt_lines E zFU A T1 0 0 0 0 4 dp 0 Y A12 M (by omega) (by omega) (by omega) (by omega) (by omega) ztHd_0 (by unfold zFU; omega)
  rcases rd with ⟨k, pl, T', z1, z2, T2, z3, z4, z5, z6, z7⟩ | ⟨S', T', q', n', m', ao', dp', ln', z1, z2, z3, z4, z5, z6, z7, z8⟩
  · -- a fault
    obtain ⟨S', s1, s2, s3, s4, s5⟩ := z1
    have e2 : T' = T2 := by injection z3 with z; injection z
    subst e2
    refine ⟨-1, zpI S' 1 1 0, zpI (zpI (zpI T' 0 12 0) 0 19 ((zpI T' 0 12 0).1 0 17)) 0 21 ((zpI (zpI T' 0 12 0) 0 19 ((zpI T' 0 12 0).1 0 17)).1 0 18), ?_, ?_, ?_⟩
    · unfold fx_text
      rw [xr, s1, zbd_s, znm_q, z_i0]
    · unfold fm_text
      simp only [znm_q]
      rw [b1, u1, zbd_s, z2]
      simp only [if_pos]
    · refine zI_rule (X := SX) (M := SM) (fun q h1 h2 h3 h4 => by rw [zI_ne h1]; exact s4 q (by omega) (by omega) (by omega)) s5 ⟨?_, ?_⟩ ⟨by rw [zI_ne (by omega)]; exact s4 _ (by omega) (by omega) (by omega), by rw [zI_ne (by omega)]; exact s4 _ (by omega) (by omega) (by omega)⟩ (fun q hq => by rw [zI_ne (by omega), zI_ne (by omega), zI_ne (by omega)]; exact z7 q (by omega) (by omega) (by omega)) (fun k hk => by rw [zI_ne (by omega), zI_ne (by omega), zI_ne (by omega), z7 1 (by omega) (by omega) (by omega)]) ⟨by rw [zI_nk (by omega), zI_nk (by omega), zI_nk (by omega)]; exact z6 3 (by omega), by rw [zI_nk (by omega), zI_nk (by omega), zI_nk (by omega)]; exact z6 4 (by omega)⟩ ⟨zI_at, by rw [zI_nk (by omega), zI_nk (by omega), zI_at]⟩ ?_ hI
      · rw [zI_ne (by omega), s2, zI_nk (by omega), zI_at, zI_nk (by omega), z4]
      · rw [zI_ne (by omega), s3, zI_at, zI_nk (by omega), zI_nk (by omega), z5]
      · rw [zI_ne (show 20 ≠ 1 by omega), zI_ne (show 21 ≠ 1 by omega), s4 20 (by omega) (by omega) (by omega), s4 21 (by omega) (by omega) (by omega), zI_ne (show 1 ≠ 0 by omega), zI_ne (show 1 ≠ 0 by omega), zI_ne (show 1 ≠ 0 by omega), z7 1 (by omega) (by omega) (by omega)]
        exact hC.2.2.2.1
  · -- a rule
    obtain ⟨D, d1⟩ : ∃ D, zpI (zpI (zpI (zpI T' 0 12 0) 0 19 ((zpI T' 0 12 0).1 0 17)) 0 21 (-1)) 1 590 ((zpI (zpI (zpI T' 0 12 0) 0 19 ((zpI T' 0 12 0).1 0 17)) 0 21 (-1)).1 0 10) = D := ⟨_, rfl⟩
    have Dq : ∀ q, q ≠ 0 → q ≠ 1 → D.1 q = T'.1 q := fun q a b => by rw [← d1, zI_ne b, zI_ne a, zI_ne a, zI_ne a]
    have Dk : ∀ k, k ≠ 12 → k ≠ 19 → k ≠ 21 → D.1 0 k = T'.1 0 k := fun k a b d => by rw [← d1, zI_ne (by omega), zI_nk d, zI_nk b, zI_nk a]
    have D10 : D.1 0 10 = nI ln' := by rw [Dk 10 (by omega) (by omega) (by omega)]; exact z4.2.2.2.2.2.2.1
    have D11 : D.1 0 11 = nI m' := by rw [Dk 11 (by omega) (by omega) (by omega)]; exact z4.2.2.2.2.1
    have D12 : D.1 0 12 = 0 := by rw [← d1, zI_ne (by omega), zI_nk (by omega), zI_nk (by omega), zI_at]
    have D19 : D.1 0 19 = 0 := by rw [← d1, zI_ne (by omega), zI_nk (by omega), zI_at, zI_nk (by omega)]; exact z4.2.2.2.2.2.2.2.1
    have D21 : D.1 0 21 = -1 := by rw [← d1, zI_ne (by omega), zI_at]
    have D590 : D.1 1 590 = nI ln' := by rw [← d1, zI_at, zI_nk (by omega), zI_nk (by omega), zI_nk (by omega)]; exact z4.2.2.2.2.2.2.1
    have D1 : ∀ k, k ≠ 590 → D.1 1 k = SM.1 1 k := fun k hk => by rw [← d1, zI_nk hk, zI_ne (by omega), zI_ne (by omega), zI_ne (by omega), z4.2.2.2.2.2.2.2.2.2 1 (by omega) (by omega) (by omega)]
    obtain ⟨F, f1, f2, f3, f4⟩ := fm_cp1 z7 ln' 0 (by omega) zFU D D10 (by unfold zFU; omega)
    obtain ⟨G, g1, g2, g3, g4⟩ := fm_cp2 z6 (2 * m') 0 (by omega) zFU F (by rw [f2 0 (by omega)]; exact D11) (by unfold zFU; omega)
    obtain ⟨X', x1⟩ : ∃ X', zpI (zpI (zcI (zpI S' 1 1 0) 21 (va_cpy ((zpI S' 1 1 0).1 126) ((zpI S' 1 1 0).1 21) 0 0 400)) 20 1 (nI n')) 20 2 (nI ln') = X' := ⟨_, rfl⟩
    have Xq : ∀ q, q ≠ 1 → q ≠ 20 → q ≠ 21 → X'.1 q = S'.1 q := fun q a b d => by
      rw [← x1, zI_ne b, zI_ne b]
      show (if q = 21 then _ else (zpI S' 1 1 0).1 q) = _
      rw [if_neg d, zI_ne a]
    have X21 : ∀ k, k < 400 → X'.1 21 k = S'.1 126 k := fun k hk => by
      rw [← x1, zI_ne (by omega), zI_ne (by omega)]
      show (if 21 = 21 then va_cpy ((zpI S' 1 1 0).1 126) ((zpI S' 1 1 0).1 21) 0 0 400 else (zpI S' 1 1 0).1 21) k = _
      rw [if_pos rfl]
      unfold va_cpy
      rw [if_pos (by omega), zI_ne (by omega), show 0 + (k - 0) = k by omega]
    have X1 : X'.1 1 1 = 0 := by
      rw [← x1, zI_ne (by omega), zI_ne (by omega)]
      show (if 1 = 21 then va_cpy ((zpI S' 1 1 0).1 126) ((zpI S' 1 1 0).1 21) 0 0 400 else (zpI S' 1 1 0).1 1) 1 = _
      rw [if_neg (by omega), zI_at]
    have X202 : X'.1 20 2 = nI ln' := by rw [← x1, zI_at]
    have X201 : X'.1 20 1 = nI n' := by rw [← x1, zI_nk (by omega), zI_at]
    have G1 : ∀ k, k < 590 → G.1 1 k = SM.1 1 k := fun k hk => by rw [g4 k (by omega), f4 k (by omega), D1 k (by omega)]
    refine ⟨nI ln', X', G, ?_, ?_, ?_⟩
    · unfold fx_text fx_Rule_take_rd
      simp only [znm_q]
      rw [xr, z1, zbd_s, z_i1, show (zpI S' 1 1 0).1 125 2 = nI n' from by rw [zI_ne (by omega)]; exact z3.n_, show (zpI S' 1 1 0).1 125 3 = nI ln' from by rw [zI_ne (by omega)]; exact z3.ln_, zbd_s, x1, X202]
    · unfold fm_text
      simp only [znm_q]
      rw [b1, u1, zbd_s, z2]
      rw [if_neg (by decide), if_neg (by decide), d1]
      rw [show (0 : Int32) = nI 0 from rfl, f1, g1, f2 0 (by omega), D10]
    · have Gk : ∀ k, k ≠ 12 → k ≠ 19 → k ≠ 21 → G.1 0 k = T'.1 0 k := fun k a b d => by rw [g2 0 (by omega), f2 0 (by omega), Dk k a b d]
      have Gq : ∀ q, q ≠ 0 → q ≠ 1 → q ≠ 4 → q ≠ 5 → G.1 q = SM.1 q := fun q a b d e => by rw [g2 q b, f2 q b, Dq q a b, z4.2.2.2.2.2.2.2.2.2 q a d e]
      have G0 : G.1 0 = D.1 0 := by rw [g2 0 (by omega), f2 0 (by omega)]
      refine zI_rule (X := SX) (M := SM) (fun q h1 h2 h3 h4 => by rw [Xq q h1 h2 h3]; exact z3.o_ q (by omega) (by omega) (by omega)) ?_ ⟨?_, ?_⟩ ⟨by rw [Xq _ (by omega) (by omega) (by omega)]; exact z3.o_ _ (by omega) (by omega) (by omega), by rw [Xq _ (by omega) (by omega) (by omega)]; exact z3.o_ _ (by omega) (by omega) (by omega)⟩ (fun q hq => Gq q (by omega) (by omega) (by omega) (by omega)) G1 ⟨?_, ?_⟩ ⟨X1, by rw [G0]; exact D12⟩ ⟨?_, ?_⟩ hI
      · rw [← x1]
        exact z3.l_
      · rw [Xq _ (by omega) (by omega) (by omega), z3.f_, G0, D19]
      · rw [Xq _ (by omega) (by omega) (by omega), z3.fp_, G0, D21]
      · rw [Gk 3 (by omega) (by omega) (by omega), z4.2.2.2.2.2.2.2.2.1 3 (by omega)]
      · rw [Gk 4 (by omega) (by omega) (by omega), z4.2.2.2.2.2.2.2.2.1 4 (by omega)]
      · rw [X202, g4 590 (by omega), f4 590 (by omega), D590]
      · refine ⟨ln', n', z7, z5, X202, X201, ?_⟩
        have := z8 (X'.1 21) (G.1 1) n' 0 (fun i hi => X21 i (by omega)) (fun i hi => ?_) (fun k hk => ?_) rfl
        · rw [Nat.zero_add] at this
          exact this
        · obtain ⟨h1, h2, h3⟩ := f3 i (by omega) hi
          rw [Dq 4 (by omega) (by omega)] at h1 h2 h3
          exact ⟨by rw [g4 _ (by omega), h1], by rw [g4 _ (by omega), h2], by rw [g4 _ (by omega), h3]⟩
        · rw [g3 k (by omega) hk, f2 5 (by omega), Dq 5 (by omega) (by omega)]
