/-! sums -/
theorem ztS_le {b b' : Nat} {W : List Nat} (h : b ≤ b') (H : ztS b W) : ztS b' W := by
  rcases H with h1 | ⟨o, W1, h1, h2, h3⟩
  · exact Or.inl h1
  · exact Or.inr ⟨o, W1, h1, h2, h3.imp (fun z => z) (fun z => Nat.lt_of_lt_of_le z h)⟩
theorem ztS_c {b o : Nat} {W : List Nat} (h1 : o < 400) (h2 : ztB o < b) : ztS b (o :: W) := Or.inr ⟨o, W, rfl, h1, Or.inr h2⟩
theorem fm_sl_o {T : zSt} {f o : Nat} (ho : o = 0 ∨ o = 1) (h : T.1 0 14 = nI (143 + 2 * o)) : fm_sumUp_L9 (f + 1) T = zbd (fm_next0 T) fun _ S_9 => zbd (fm_product S_9) fun r_11 S_12 => if r_11 = 0 then some (0, S_12) else zbd (fm_lay S_12 (nI (13 + o)) 0) fun _ S_15 => fm_sumUp_L9 f S_15 := by
  rw [fm_sumUp_L9]
  simp only [znm_q]
  rcases ho with rfl | rfl
  · rw [h, if_pos (by decide), if_pos (by decide)]; rfl
  · rw [h, if_neg (by decide), if_pos (by decide), if_neg (by decide)]; rfl
theorem fm_sl_n {T : zSt} {f : Nat} (h : ¬ T.1 0 14 = 143) (h2 : ¬ T.1 0 14 = 145) : fm_sumUp_L9 (f + 1) T = some (1, T) := by
  rw [fm_sumUp_L9]
  simp only [znm_q]
  rw [if_neg h, if_neg h2]
section ztq
variable {t : Nat} {c v p r : Nat → Nat} {X0 M0 : zSt} {S T : zSt} {i q n m : Nat} {W0 : List Nat} {dp br lx ln A : Nat}
theorem zt_sloop (E : ztE t c v p r X0 M0) (st : i ≤ q ∧ n + W0.length ≤ q ∧ m ≤ q) (hA : A = 4 ∨ A = 5 ∨ A = 6) (hW : ztS 5 W0) (h5 : W0.length ≤ 49) : ∀ (f : Nat) (S' T' : zSt) (i' q' n' m' : Nat) (P : List Nat) (V : (Nat → Int32) → Int32), ztG t c v p r X0 M0 5 3 2 S T i q n m W0 dp br lx ln S' T' i' q' n' m' P A A V → c q' ≠ 42 → c q' ≠ 47 → t < q' + f → ztU X0 M0 (ztR i S) (fm_sumUp_L9 f T') ∨ ∃ (S2 T2 : zSt) (i2 q2 n2 m2 : Nat) (P2 : List Nat) (V2 : (Nat → Int32) → Int32), fm_sumUp_L9 f T' = some (1, T2) ∧ ztG t c v p r X0 M0 5 3 2 S T i q n m W0 dp br lx ln S2 T2 i2 q2 n2 m2 P2 A A V2 ∧ (c q2 ≠ 42 ∧ c q2 ≠ 47 ∧ c q2 ≠ 43 ∧ c q2 ≠ 45) ∧ q' ≤ q2 := by
  intro f
  induction f with
  | zero => intro S' T' i' q' n' m' P V G _ _ hf; have := G.2.2.2.2.1.1; omega
  | succ f ih =>
    intro S' T' i' q' n' m' P V G n42 n47 hf
    have t4 := E.t4
    have M := G.2.2.2.1
    have hq := G.2.2.2.2.1.1
    have hr := E.rt hq
    by_cases d : c q' = 43 ∨ c q' = 45
    · obtain ⟨o, o1, o2⟩ : ∃ o, (o = 0 ∨ o = 1) ∧ c q' = 43 + 2 * o := by
        rcases d with h | h
        · exact ⟨0, Or.inl rfl, h⟩
        · exact ⟨1, Or.inr rfl, h⟩
      have em : zmk (43 + 2 * o) = 143 + 2 * o := by rcases o1 with rfl | rfl <;> rfl
      have eb : ztB (43 + 2 * o) = 5 := by rcases o1 with rfl | rfl <;> rfl
      have ez : -nI (43 + 2 * o) = zoc o := by rcases o1 with rfl | rfl <;> rfl
      have e : T'.1 0 14 = nI (143 + 2 * o) := by rw [← em]; exact (ztM.is E M hq (43 + 2 * o) (by unfold zTk zSg; omega)).mpr o2
      have hr' := E.ro hq (by omega)
      obtain ⟨S1, T1, u1, H, I⟩ := ztop E st G o2 (by omega) (by rw [eb]; omega) (by rw [eb]; exact hW) (by omega) (by omega) 2 A (fun S7 S8 a b _ d e => by rw [zpI_id e]; exact zj_ar hA a b (by omega) 2 ⟨by omega, by omega⟩ d)
      rcases zt_prod E I (A := A) (Or.inl ⟨rfl, rfl⟩) hA (ztS_c (by omega) (by rw [eb]; omega)) (by rw [List.length_cons]; omega) with U | ⟨S2, T2, i2, q2, n2, m2, P2, V2, x1, G2, x2, x3, x4⟩
      · exact Or.inl (ztU_m U H.1 (fun Z h => by rw [fm_sl_o o1 e, u1, zbd_s, h, zbd_s, z_i0]))
      · obtain ⟨T3, y1, G3⟩ := ztcomb (l := 5) E st H G2 ⟨by omega, by rw [eb]; omega⟩ (by omega) (by omega) (by omega) (by decide) (zop o) (fun S x y => by rw [ez]; exact fx_ap_op (by omega)) (by rw [ez]; exact zoc_s o) (13 + o) (by omega) (fun S x y => fm_bo_op (by omega))
        have red : fm_sumUp_L9 (f + 1) T' = fm_sumUp_L9 f T3 := by rw [fm_sl_o o1 e, u1, zbd_s, x1, zbd_s, z_i1, y1, zbd_s]
        rw [red]
        rcases ih _ _ _ _ _ _ _ _ G3 x2 x3 (by omega) with U | ⟨S4, T4, i4, q4, n4, m4, P4, V4, z1, z2, z3, z5⟩
        · exact Or.inl U
        · exact Or.inr ⟨S4, T4, i4, q4, n4, m4, P4, V4, z1, z2, z3, by omega⟩
    · exact Or.inr ⟨S', T', i', q', n', m', P, V, fm_sl_n (fun z => d (Or.inl ((ztM.is E M hq 43 (by unfold zTk zSg; omega)).mp z))) (fun z => d (Or.inr ((ztM.is E M hq 45 (by unfold zTk zSg; omega)).mp z))), G, by omega, Nat.le_refl _⟩
theorem zt_sum (E : ztE t c v p r X0 M0) {e ao : Nat} (I : ztI t c v p r X0 M0 S T i q n m W0 e ao dp br lx ln) (hA : (e = 2 ∧ A = ao) ∨ (e = 1 ∧ c q ≠ 260 ∧ c q ≠ 40 ∧ A = 5)) (hA2 : A = 4 ∨ A = 5 ∨ A = 6) (hW : ztS 5 W0) (h5 : W0.length ≤ 49) : ztU X0 M0 (ztR i S) (fm_sumUp T) ∨ ∃ (S2 T2 : zSt) (i2 q2 n2 m2 : Nat) (P2 : List Nat) (V2 : (Nat → Int32) → Int32), fm_sumUp T = some (1, T2) ∧ ztG t c v p r X0 M0 5 3 2 S T i q n m W0 dp br lx ln S2 T2 i2 q2 n2 m2 P2 A A V2 ∧ (c q2 ≠ 42 ∧ c q2 ≠ 47 ∧ c q2 ≠ 43 ∧ c q2 ≠ 45) ∧ q ≤ q2 := by
  have st : i ≤ q ∧ n + W0.length ≤ q ∧ m ≤ q := ⟨I.2.2.2.2.1, I.2.2.2.2.2⟩
  have hq := I.2.2.2.1
  have t4 := E.t4
  rcases zt_prod E I hA hA2 (ztS_le (by omega) hW) (by omega) with U | ⟨S2, T2, i2, q2, n2, m2, P2, V2, x1, G2, x2, x3, x4⟩
  · exact Or.inl (ztU_m U rfl (fun Z h => by unfold fm_sumUp; rw [h, zbd_s, z_i0]))
  · have red : fm_sumUp T = fm_sumUp_L9 zFU T2 := by unfold fm_sumUp; rw [x1, zbd_s, z_i1]
    rw [red]
    rcases zt_sloop E st hA2 hW h5 zFU _ _ _ _ _ _ _ _ (ztG_w (by omega) (by omega) (by omega) G2) x2 x3 (by unfold zFU; omega) with U | ⟨S4, T4, i4, q4, n4, m4, P4, V4, z1, z2, z3, z5⟩
    · exact Or.inl U
    · exact Or.inr ⟨S4, T4, i4, q4, n4, m4, P4, V4, z1, z2, z3, by omega⟩
end ztq
