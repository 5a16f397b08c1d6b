theorem zcL1 {S : zSt} {q : Nat} {f : Nat → Int64} : (zcL S q f).1 = S.1 := rfl
theorem zcI2 {S : zSt} {q : Nat} {f : Nat → Int32} : (zcI S q f).2 = S.2 := rfl
theorem zpI2 {S : zSt} {q k : Nat} {v : Int32} : (zpI S q k v).2 = S.2 := rfl
theorem fx_HC_kn (S : zSt) : ∃ X : zSt, fx_Houses_copyFrom_kn S = some ((), X) ∧ X.1 32 0 = S.1 4 0 ∧ (∀ k, k < 9 → X.1 33 k = S.1 5 k) ∧ (∀ k, k < 9 → X.1 34 k = S.1 6 k) ∧ (∀ k, k < 9 → X.1 35 k = S.1 7 k) ∧ (∀ k, k < 45 → X.1 36 k = S.1 8 k) ∧ (∀ k, k < 9 → X.1 37 k = S.1 9 k) ∧ (∀ k, k < 9 → X.1 38 k = S.1 10 k) ∧ (∀ q, (q < 32 ∨ 39 ≤ q) → X.1 q = S.1 q) ∧ X.2 = S.2 := by
  unfold fx_Houses_copyFrom_kn
  simp only [znm]
  refine ⟨_, rfl, ?_, ?_, ?_, ?_, ?_, ?_, ?_, ?_, rfl⟩
  · simp (disch := omega) only [zI_at, zI_nk, zI_ne, zcI_ne]
  · intro k hk
    simp (disch := omega) only [zI_ne, zcI_ne, zcI_eq, z_cp]
  · intro k hk
    simp (disch := omega) only [zI_ne, zcI_ne, zcI_eq, z_cp]
  · intro k hk
    simp (disch := omega) only [zI_ne, zcI_ne, zcI_eq, z_cp]
  · intro k hk
    simp (disch := omega) only [zI_ne, zcI_ne, zcI_eq, z_cp]
  · intro k hk
    simp (disch := omega) only [zI_ne, zcI_ne, zcI_eq, z_cp]
  · intro k hk
    simp (disch := omega) only [zI_ne, zcI_ne, zcI_eq, z_cp]
  · intro q hq
    simp (disch := omega) only [zI_ne, zcI_ne]
theorem fx_RT_kn (S : zSt) (v w : Int32) : ∃ X : zSt, fx_Rule_take_kn S v w = some ((), X) ∧ X.1 48 1 = v ∧ X.1 48 2 = w ∧ (∀ k, k < 400 → X.1 49 k = S.1 21 k) ∧ (∀ q, (q < 48 ∨ 50 ≤ q) → X.1 q = S.1 q) ∧ X.2 = S.2 := by
  unfold fx_Rule_take_kn
  simp only [znm]
  refine ⟨_, rfl, ?_, ?_, ?_, ?_, rfl⟩
  · simp (disch := omega) only [zI_at, zI_nk, zI_ne, zcI_ne]
  · simp (disch := omega) only [zI_at, zI_nk, zI_ne, zcI_ne]
  · intro k hk
    simp (disch := omega) only [zI_ne, zcI_ne, zcI_eq, z_cp]
  · intro q hq
    simp (disch := omega) only [zI_ne, zcI_ne]
theorem fx_LC_kn (S : zSt) : ∃ X : zSt, fx_Leavens_copyFrom_kn S = some ((), X) ∧ X.1 50 0 = S.1 22 0 ∧ (∀ k, k < 60 → X.1 51 k = S.1 23 k) ∧ (∀ k, k < 60 → X.1 52 k = S.1 24 k) ∧ (∀ k, k < 60 → X.1 53 k = S.1 25 k) ∧ (∀ k, k < 60 → X.1 54 k = S.1 26 k) ∧ (∀ k, k < 60 → X.2 55 k = S.2 27 k) ∧ (∀ q, (q < 50 ∨ 55 ≤ q) → X.1 q = S.1 q) ∧ (∀ q, q ≠ 55 → X.2 q = S.2 q) := by
  unfold fx_Leavens_copyFrom_kn
  simp only [znm]
  refine ⟨_, rfl, ?_, ?_, ?_, ?_, ?_, ?_, ?_, ?_⟩
  · simp (disch := omega) only [zcL1, zI_at, zI_nk, zI_ne, zcI_ne]
  · intro k hk
    simp (disch := omega) only [zcL1, zI_ne, zcI_ne, zcI_eq, z_cp]
  · intro k hk
    simp (disch := omega) only [zcL1, zI_ne, zcI_ne, zcI_eq, z_cp]
  · intro k hk
    simp (disch := omega) only [zcL1, zI_ne, zcI_ne, zcI_eq, z_cp]
  · intro k hk
    simp (disch := omega) only [zcL1, zI_ne, zcI_ne, zcI_eq, z_cp]
  · intro k hk
    simp (disch := omega) only [zcL_eq, z_cp, zcI2, zpI2]
  · intro q hq
    simp (disch := omega) only [zcL1, zI_ne, zcI_ne]
  · intro q hq
    simp (disch := omega) only [zcL_ne, zcI2, zpI2]
theorem fx_CC_kn (S : zSt) : ∃ X : zSt, fx_Commons_copyFrom_kn S = some ((), X) ∧ (∀ d, 0 < d → d < 28 → d ≠ 24 → d ≠ 25 → ∀ k, k < zLn.getD d 0 → (d = 8 → k < 3 ∨ 10 ≤ k) → (d = 1 → k = 0) → (d = 17 → 1 ≤ k) → (d = 19 → k = 0) → d ≠ 26 → X.1 (31 + d) k = S.1 (3 + d) k) ∧ (∀ k, k < 60 → X.2 55 k = S.2 27 k) ∧ (∀ q, (q ≤ 31 ∨ 59 ≤ q) → X.1 q = S.1 q) ∧ (∀ q, q ≠ 55 → X.2 q = S.2 q) := by
  unfold fx_Commons_copyFrom_kn
  obtain ⟨A, a0, a1, a2, a3, a4, a5, a6, a7, a8, a9⟩ := fx_HC_kn S
  rw [a0, zbd_s]
  obtain ⟨B, b0, b1, b2, b3, b4⟩ := fx_Tcopy A 39 11 (by omega)
  rw [b0, zbd_s]
  simp only [znm]
  generalize hC : zcI B 47 (va_cpy (B.1 19) (B.1 47) 0 0 4) = C
  have c1 : ∀ k, k < 4 → C.1 47 k = B.1 19 k := fun k hk => by rw [← hC, zcI_eq, z_cp hk]
  have c2 : ∀ q, q ≠ 47 → C.1 q = B.1 q := fun q hq => by rw [← hC, zcI_ne hq]
  have c3 : C.2 = B.2 := by rw [← hC]; rfl
  obtain ⟨R, r0, r1, r2, r3, r4, r5⟩ := fx_RT_kn C (C.1 20 1) (C.1 20 2)
  rw [r0, zbd_s]
  obtain ⟨L, l0, l1, l2, l3, l4, l5, l6, l7, l8⟩ := fx_LC_kn R
  rw [l0, zbd_s]
  generalize hF : zcI L 58 (va_cpy (L.1 30) (L.1 58) 0 0 64) = F
  have f1 : ∀ k, k < 64 → F.1 58 k = L.1 30 k := fun k hk => by rw [← hF, zcI_eq, z_cp hk]
  have f2 : ∀ q, q ≠ 58 → F.1 q = L.1 q := fun q hq => by rw [← hF, zcI_ne hq]
  have f3 : F.2 = L.2 := by rw [← hF]; rfl
  refine ⟨F, rfl, ?_, ?_, ?_, ?_⟩
  · intro d d1 d2 d3 d4 k hk h8 h1 h17 h19 h26
    have hd : d = 1 ∨ d = 2 ∨ d = 3 ∨ d = 4 ∨ d = 5 ∨ d = 6 ∨ d = 7 ∨ d = 8 ∨ d = 9 ∨ d = 10 ∨ d = 11 ∨ d = 12 ∨ d = 13 ∨ d = 14 ∨ d = 15 ∨ d = 16 ∨ d = 17 ∨ d = 18 ∨ d = 19 ∨ d = 20 ∨ d = 21 ∨ d = 22 ∨ d = 23 ∨ d = 27 := by omega
    rcases hd with rfl | rfl | rfl | rfl | rfl | rfl | rfl | rfl | rfl | rfl | rfl | rfl | rfl | rfl | rfl | rfl | rfl | rfl | rfl | rfl | rfl | rfl | rfl | rfl
    · obtain rfl := h1 rfl
      rw [f2 32 (by omega), l7 32 (by omega), r4 32 (by omega), c2 32 (by omega), b3 32 (by omega), a1]
    · rw [f2 33 (by omega), l7 33 (by omega), r4 33 (by omega), c2 33 (by omega), b3 33 (by omega), a2 k hk]
    · rw [f2 34 (by omega), l7 34 (by omega), r4 34 (by omega), c2 34 (by omega), b3 34 (by omega), a3 k hk]
    · rw [f2 35 (by omega), l7 35 (by omega), r4 35 (by omega), c2 35 (by omega), b3 35 (by omega), a4 k hk]
    · rw [f2 36 (by omega), l7 36 (by omega), r4 36 (by omega), c2 36 (by omega), b3 36 (by omega), a5 k hk]
    · rw [f2 37 (by omega), l7 37 (by omega), r4 37 (by omega), c2 37 (by omega), b3 37 (by omega), a6 k hk]
    · rw [f2 38 (by omega), l7 38 (by omega), r4 38 (by omega), c2 38 (by omega), b3 38 (by omega), a7 k hk]
    · rw [f2 39 (by omega), l7 39 (by omega), r4 39 (by omega), c2 39 (by omega), b1 k hk (h8 rfl), a8 11 (by omega)]
    · rw [f2 40 (by omega), l7 40 (by omega), r4 40 (by omega), c2 40 (by omega), show B.1 40 k = A.1 12 k from b2 1 (by omega) (by omega) k hk, a8 12 (by omega)]
    · rw [f2 41 (by omega), l7 41 (by omega), r4 41 (by omega), c2 41 (by omega), show B.1 41 k = A.1 13 k from b2 2 (by omega) (by omega) k hk, a8 13 (by omega)]
    · rw [f2 42 (by omega), l7 42 (by omega), r4 42 (by omega), c2 42 (by omega), show B.1 42 k = A.1 14 k from b2 3 (by omega) (by omega) k hk, a8 14 (by omega)]
    · rw [f2 43 (by omega), l7 43 (by omega), r4 43 (by omega), c2 43 (by omega), show B.1 43 k = A.1 15 k from b2 4 (by omega) (by omega) k hk, a8 15 (by omega)]
    · rw [f2 44 (by omega), l7 44 (by omega), r4 44 (by omega), c2 44 (by omega), show B.1 44 k = A.1 16 k from b2 5 (by omega) (by omega) k hk, a8 16 (by omega)]
    · rw [f2 45 (by omega), l7 45 (by omega), r4 45 (by omega), c2 45 (by omega), show B.1 45 k = A.1 17 k from b2 6 (by omega) (by omega) k hk, a8 17 (by omega)]
    · rw [f2 46 (by omega), l7 46 (by omega), r4 46 (by omega), c2 46 (by omega), show B.1 46 k = A.1 18 k from b2 7 (by omega) (by omega) k hk, a8 18 (by omega)]
    · rw [f2 47 (by omega), l7 47 (by omega), r4 47 (by omega), c1 k hk, b3 19 (by omega), a8 19 (by omega)]
    · rw [f2 48 (by omega), l7 48 (by omega)]
      rcases (show k = 1 ∨ k = 2 by have h := h17 rfl; have h2 : k < 3 := hk; omega) with rfl | rfl
      · rw [r1, c2 20 (by omega), b3 20 (by omega), a8 20 (by omega)]
      · rw [r2, c2 20 (by omega), b3 20 (by omega), a8 20 (by omega)]
    · rw [f2 49 (by omega), l7 49 (by omega), r3 k hk, c2 21 (by omega), b3 21 (by omega), a8 21 (by omega)]
    · obtain rfl := h19 rfl
      rw [f2 50 (by omega), l1, r4 22 (by omega), c2 22 (by omega), b3 22 (by omega), a8 22 (by omega)]
    · rw [f2 51 (by omega), l2 k hk, r4 23 (by omega), c2 23 (by omega), b3 23 (by omega), a8 23 (by omega)]
    · rw [f2 52 (by omega), l3 k hk, r4 24 (by omega), c2 24 (by omega), b3 24 (by omega), a8 24 (by omega)]
    · rw [f2 53 (by omega), l4 k hk, r4 25 (by omega), c2 25 (by omega), b3 25 (by omega), a8 25 (by omega)]
    · rw [f2 54 (by omega), l5 k hk, r4 26 (by omega), c2 26 (by omega), b3 26 (by omega), a8 26 (by omega)]
    · rw [f1 k hk, l7 30 (by omega), r4 30 (by omega), c2 30 (by omega), b3 30 (by omega), a8 30 (by omega)]
  · intro k hk
    rw [f3, l6 k hk, r5, c3, b4, a9]
  · intro q hq
    rw [f2 q (by omega), l7 q (by omega), r4 q (by omega), c2 q (by omega), b3 q (by omega), a8 q (by omega)]
  · intro q hq
    rw [f3, l8 q hq, r5, c3, b4, a9]
theorem fx_HC_nk (S : zSt) : ∃ X : zSt, fx_Houses_copyFrom_nk S = some ((), X) ∧ X.1 4 0 = S.1 32 0 ∧ (∀ k, k < 9 → X.1 5 k = S.1 33 k) ∧ (∀ k, k < 9 → X.1 6 k = S.1 34 k) ∧ (∀ k, k < 9 → X.1 7 k = S.1 35 k) ∧ (∀ k, k < 45 → X.1 8 k = S.1 36 k) ∧ (∀ k, k < 9 → X.1 9 k = S.1 37 k) ∧ (∀ k, k < 9 → X.1 10 k = S.1 38 k) ∧ (∀ q, (q < 4 ∨ 11 ≤ q) → X.1 q = S.1 q) ∧ X.2 = S.2 := by
  unfold fx_Houses_copyFrom_nk
  simp only [znm]
  refine ⟨_, rfl, ?_, ?_, ?_, ?_, ?_, ?_, ?_, ?_, rfl⟩
  · simp (disch := omega) only [zI_at, zI_nk, zI_ne, zcI_ne]
  · intro k hk
    simp (disch := omega) only [zI_ne, zcI_ne, zcI_eq, z_cp]
  · intro k hk
    simp (disch := omega) only [zI_ne, zcI_ne, zcI_eq, z_cp]
  · intro k hk
    simp (disch := omega) only [zI_ne, zcI_ne, zcI_eq, z_cp]
  · intro k hk
    simp (disch := omega) only [zI_ne, zcI_ne, zcI_eq, z_cp]
  · intro k hk
    simp (disch := omega) only [zI_ne, zcI_ne, zcI_eq, z_cp]
  · intro k hk
    simp (disch := omega) only [zI_ne, zcI_ne, zcI_eq, z_cp]
  · intro q hq
    simp (disch := omega) only [zI_ne, zcI_ne]
theorem fx_RT_nk (S : zSt) (v w : Int32) : ∃ X : zSt, fx_Rule_take_nk S v w = some ((), X) ∧ X.1 20 1 = v ∧ X.1 20 2 = w ∧ (∀ k, k < 400 → X.1 21 k = S.1 49 k) ∧ (∀ q, (q < 20 ∨ 22 ≤ q) → X.1 q = S.1 q) ∧ X.2 = S.2 := by
  unfold fx_Rule_take_nk
  simp only [znm]
  refine ⟨_, rfl, ?_, ?_, ?_, ?_, rfl⟩
  · simp (disch := omega) only [zI_at, zI_nk, zI_ne, zcI_ne]
  · simp (disch := omega) only [zI_at, zI_nk, zI_ne, zcI_ne]
  · intro k hk
    simp (disch := omega) only [zI_ne, zcI_ne, zcI_eq, z_cp]
  · intro q hq
    simp (disch := omega) only [zI_ne, zcI_ne]
theorem fx_LC_nk (S : zSt) : ∃ X : zSt, fx_Leavens_copyFrom_nk S = some ((), X) ∧ X.1 22 0 = S.1 50 0 ∧ (∀ k, k < 60 → X.1 23 k = S.1 51 k) ∧ (∀ k, k < 60 → X.1 24 k = S.1 52 k) ∧ (∀ k, k < 60 → X.1 25 k = S.1 53 k) ∧ (∀ k, k < 60 → X.1 26 k = S.1 54 k) ∧ (∀ k, k < 60 → X.2 27 k = S.2 55 k) ∧ (∀ q, (q < 22 ∨ 27 ≤ q) → X.1 q = S.1 q) ∧ (∀ q, q ≠ 27 → X.2 q = S.2 q) := by
  unfold fx_Leavens_copyFrom_nk
  simp only [znm]
  refine ⟨_, rfl, ?_, ?_, ?_, ?_, ?_, ?_, ?_, ?_⟩
  · simp (disch := omega) only [zcL1, zI_at, zI_nk, zI_ne, zcI_ne]
  · intro k hk
    simp (disch := omega) only [zcL1, zI_ne, zcI_ne, zcI_eq, z_cp]
  · intro k hk
    simp (disch := omega) only [zcL1, zI_ne, zcI_ne, zcI_eq, z_cp]
  · intro k hk
    simp (disch := omega) only [zcL1, zI_ne, zcI_ne, zcI_eq, z_cp]
  · intro k hk
    simp (disch := omega) only [zcL1, zI_ne, zcI_ne, zcI_eq, z_cp]
  · intro k hk
    simp (disch := omega) only [zcL_eq, z_cp, zcI2, zpI2]
  · intro q hq
    simp (disch := omega) only [zcL1, zI_ne, zcI_ne]
  · intro q hq
    simp (disch := omega) only [zcL_ne, zcI2, zpI2]
theorem fx_CC_nk (S : zSt) : ∃ X : zSt, fx_Commons_copyFrom_nk S = some ((), X) ∧ (∀ d, 0 < d → d < 28 → d ≠ 24 → d ≠ 25 → ∀ k, k < zLn.getD d 0 → (d = 8 → k < 3 ∨ 10 ≤ k) → (d = 1 → k = 0) → (d = 17 → 1 ≤ k) → (d = 19 → k = 0) → d ≠ 26 → X.1 (3 + d) k = S.1 (31 + d) k) ∧ (∀ k, k < 60 → X.2 27 k = S.2 55 k) ∧ (∀ q, (q ≤ 3 ∨ 31 ≤ q) → X.1 q = S.1 q) ∧ (∀ q, q ≠ 27 → X.2 q = S.2 q) := by
  unfold fx_Commons_copyFrom_nk
  obtain ⟨A, a0, a1, a2, a3, a4, a5, a6, a7, a8, a9⟩ := fx_HC_nk S
  rw [a0, zbd_s]
  obtain ⟨B, b0, b1, b2, b3, b4⟩ := fx_Tcopy A 11 39 (by omega)
  rw [b0, zbd_s]
  simp only [znm]
  generalize hC : zcI B 19 (va_cpy (B.1 47) (B.1 19) 0 0 4) = C
  have c1 : ∀ k, k < 4 → C.1 19 k = B.1 47 k := fun k hk => by rw [← hC, zcI_eq, z_cp hk]
  have c2 : ∀ q, q ≠ 19 → C.1 q = B.1 q := fun q hq => by rw [← hC, zcI_ne hq]
  have c3 : C.2 = B.2 := by rw [← hC]; rfl
  obtain ⟨R, r0, r1, r2, r3, r4, r5⟩ := fx_RT_nk C (C.1 48 1) (C.1 48 2)
  rw [r0, zbd_s]
  obtain ⟨L, l0, l1, l2, l3, l4, l5, l6, l7, l8⟩ := fx_LC_nk R
  rw [l0, zbd_s]
  generalize hF : zcI L 30 (va_cpy (L.1 58) (L.1 30) 0 0 64) = F
  have f1 : ∀ k, k < 64 → F.1 30 k = L.1 58 k := fun k hk => by rw [← hF, zcI_eq, z_cp hk]
  have f2 : ∀ q, q ≠ 30 → F.1 q = L.1 q := fun q hq => by rw [← hF, zcI_ne hq]
  have f3 : F.2 = L.2 := by rw [← hF]; rfl
  refine ⟨F, rfl, ?_, ?_, ?_, ?_⟩
  · intro d d1 d2 d3 d4 k hk h8 h1 h17 h19 h26
    have hd : d = 1 ∨ d = 2 ∨ d = 3 ∨ d = 4 ∨ d = 5 ∨ d = 6 ∨ d = 7 ∨ d = 8 ∨ d = 9 ∨ d = 10 ∨ d = 11 ∨ d = 12 ∨ d = 13 ∨ d = 14 ∨ d = 15 ∨ d = 16 ∨ d = 17 ∨ d = 18 ∨ d = 19 ∨ d = 20 ∨ d = 21 ∨ d = 22 ∨ d = 23 ∨ d = 27 := by omega
    rcases hd with rfl | rfl | rfl | rfl | rfl | rfl | rfl | rfl | rfl | rfl | rfl | rfl | rfl | rfl | rfl | rfl | rfl | rfl | rfl | rfl | rfl | rfl | rfl | rfl
    · obtain rfl := h1 rfl
      rw [f2 4 (by omega), l7 4 (by omega), r4 4 (by omega), c2 4 (by omega), b3 4 (by omega), a1]
    · rw [f2 5 (by omega), l7 5 (by omega), r4 5 (by omega), c2 5 (by omega), b3 5 (by omega), a2 k hk]
    · rw [f2 6 (by omega), l7 6 (by omega), r4 6 (by omega), c2 6 (by omega), b3 6 (by omega), a3 k hk]
    · rw [f2 7 (by omega), l7 7 (by omega), r4 7 (by omega), c2 7 (by omega), b3 7 (by omega), a4 k hk]
    · rw [f2 8 (by omega), l7 8 (by omega), r4 8 (by omega), c2 8 (by omega), b3 8 (by omega), a5 k hk]
    · rw [f2 9 (by omega), l7 9 (by omega), r4 9 (by omega), c2 9 (by omega), b3 9 (by omega), a6 k hk]
    · rw [f2 10 (by omega), l7 10 (by omega), r4 10 (by omega), c2 10 (by omega), b3 10 (by omega), a7 k hk]
    · rw [f2 11 (by omega), l7 11 (by omega), r4 11 (by omega), c2 11 (by omega), b1 k hk (h8 rfl), a8 39 (by omega)]
    · rw [f2 12 (by omega), l7 12 (by omega), r4 12 (by omega), c2 12 (by omega), show B.1 12 k = A.1 40 k from b2 1 (by omega) (by omega) k hk, a8 40 (by omega)]
    · rw [f2 13 (by omega), l7 13 (by omega), r4 13 (by omega), c2 13 (by omega), show B.1 13 k = A.1 41 k from b2 2 (by omega) (by omega) k hk, a8 41 (by omega)]
    · rw [f2 14 (by omega), l7 14 (by omega), r4 14 (by omega), c2 14 (by omega), show B.1 14 k = A.1 42 k from b2 3 (by omega) (by omega) k hk, a8 42 (by omega)]
    · rw [f2 15 (by omega), l7 15 (by omega), r4 15 (by omega), c2 15 (by omega), show B.1 15 k = A.1 43 k from b2 4 (by omega) (by omega) k hk, a8 43 (by omega)]
    · rw [f2 16 (by omega), l7 16 (by omega), r4 16 (by omega), c2 16 (by omega), show B.1 16 k = A.1 44 k from b2 5 (by omega) (by omega) k hk, a8 44 (by omega)]
    · rw [f2 17 (by omega), l7 17 (by omega), r4 17 (by omega), c2 17 (by omega), show B.1 17 k = A.1 45 k from b2 6 (by omega) (by omega) k hk, a8 45 (by omega)]
    · rw [f2 18 (by omega), l7 18 (by omega), r4 18 (by omega), c2 18 (by omega), show B.1 18 k = A.1 46 k from b2 7 (by omega) (by omega) k hk, a8 46 (by omega)]
    · rw [f2 19 (by omega), l7 19 (by omega), r4 19 (by omega), c1 k hk, b3 47 (by omega), a8 47 (by omega)]
    · rw [f2 20 (by omega), l7 20 (by omega)]
      rcases (show k = 1 ∨ k = 2 by have h := h17 rfl; have h2 : k < 3 := hk; omega) with rfl | rfl
      · rw [r1, c2 48 (by omega), b3 48 (by omega), a8 48 (by omega)]
      · rw [r2, c2 48 (by omega), b3 48 (by omega), a8 48 (by omega)]
    · rw [f2 21 (by omega), l7 21 (by omega), r3 k hk, c2 49 (by omega), b3 49 (by omega), a8 49 (by omega)]
    · obtain rfl := h19 rfl
      rw [f2 22 (by omega), l1, r4 50 (by omega), c2 50 (by omega), b3 50 (by omega), a8 50 (by omega)]
    · rw [f2 23 (by omega), l2 k hk, r4 51 (by omega), c2 51 (by omega), b3 51 (by omega), a8 51 (by omega)]
    · rw [f2 24 (by omega), l3 k hk, r4 52 (by omega), c2 52 (by omega), b3 52 (by omega), a8 52 (by omega)]
    · rw [f2 25 (by omega), l4 k hk, r4 53 (by omega), c2 53 (by omega), b3 53 (by omega), a8 53 (by omega)]
    · rw [f2 26 (by omega), l5 k hk, r4 54 (by omega), c2 54 (by omega), b3 54 (by omega), a8 54 (by omega)]
    · rw [f1 k hk, l7 58 (by omega), r4 58 (by omega), c2 58 (by omega), b3 58 (by omega), a8 58 (by omega)]
  · intro k hk
    rw [f3, l6 k hk, r5, c3, b4, a9]
  · intro q hq
    rw [f2 q (by omega), l7 q (by omega), r4 q (by omega), c2 q (by omega), b3 q (by omega), a8 q (by omega)]
  · intro q hq
    rw [f3, l8 q hq, r5, c3, b4, a9]
/-- the reference's image, taken or gone back to -/
theorem fm_img_eq {S : zSt} {a : Int32} {s d : Nat} (hsd : s ≠ d) (ha : (a = 0 ∧ s = 2 ∧ d = 1) ∨ (¬ a = 0 ∧ s = 1 ∧ d = 2)) (j : zSt → Option (Int32 × zSt)) {fu : Nat} (hfu : 1480 < fu) : fm_image_L15 a j fu 0 S = j (zcI S d (fun k => if k < 1480 then S.1 s k else S.1 d k)) := by
  have key : ∀ (f i : Nat), i ≤ 1480 → 1480 < i + f → fm_image_L15 a j f (nI i) (zcI S d (fun k => if k < i then S.1 s k else S.1 d k)) = j (zcI S d (fun k => if k < 1480 then S.1 s k else S.1 d k)) := by
    intro f
    induction f with
    | zero => intro i h1 h2; omega
    | succ f ih =>
      intro i h1 h2
      rw [fm_image_L15]
      by_cases hi : i = 1480
      · subst hi
        rw [if_pos (show (1480 : Int32) ≤ nI 1480 from by decide)]
      · rw [if_neg (show ¬ (1480 : Int32) ≤ nI i from by rw [show (1480 : Int32) = nI 1480 from rfl]; exact nI_ge (by omega) (by omega))]
        simp only [znm]
        have hw : zpI (zcI S d (fun k => if k < i then S.1 s k else S.1 d k)) d i (S.1 s i) = zcI S d (fun k => if k < i + 1 then S.1 s k else S.1 d k) := z_wr (fun k => by
          by_cases e : k = i
          · subst e
            rw [if_pos rfl]
            simp only [if_pos (show k < k + 1 by omega)]
          · rw [if_neg e]
            by_cases e2 : k < i
            · simp only [if_pos e2, if_pos (show k < i + 1 by omega)]
            · simp only [if_neg e2, if_neg (show ¬ k < i + 1 by omega)])
        rcases ha with ⟨h0, rfl, rfl⟩ | ⟨h0, rfl, rfl⟩
        · rw [if_pos h0, zix_n (k := i) (by omega) (by omega), zck_t, zck_t, nI_clamp (n := i) (by omega), zcI_ne (by omega), hw, nI_1]
          exact ih (i + 1) (by omega) (by omega)
        · rw [if_neg h0, zix_n (k := i) (by omega) (by omega), zck_t, zck_t, nI_clamp (n := i) (by omega), zcI_ne (by omega), hw, nI_1]
          exact ih (i + 1) (by omega) (by omega)
  have := key fu 0 (by omega) (by omega)
  rw [z_wr0 (fun k => by simp)] at this
  exact this
