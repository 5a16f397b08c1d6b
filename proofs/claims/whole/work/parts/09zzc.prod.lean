/-! products and sums -/
theorem fm_pl_42 {T : zSt} {f : Nat} (h : T.1 0 14 = 142) : fm_product_L9 (f + 1) T = zbd (fm_next0 T) fun _ S_9 => zbd (fm_unit S_9) fun r_12 S_13 => if r_12 = 0 then some (0, S_13) else zbd (fm_lay S_13 15 0) fun _ S_16 => fm_product_L9 f S_16 := by
  rw [fm_product_L9]
  simp only [znm_q]
  rw [h, if_pos rfl, if_neg (by decide)]
  rfl
theorem fm_pl_47 {T : zSt} {f : Nat} (h : T.1 0 14 = 147) : fm_product_L9 (f + 1) T = zbd (fm_next0 T) fun _ S_9 => if S_9.1 0 14 = 2 then (if S_9.1 0 16 = 0 then fm_bad S_9 2 else zbd (fm_next0 S_9) fun _ S_21 => zbd (fm_lay S_21 16 (S_9.1 0 16)) fun _ S_24 => fm_product_L9 f S_24) else fm_bad S_9 1 := by
  rw [fm_product_L9]
  simp only [znm_q]
  rw [h, if_neg (by decide), if_pos rfl, if_pos rfl]
  simp only [fm_bad_z]
  rfl
theorem fm_pl_n {T : zSt} {f : Nat} (h : ¬ T.1 0 14 = 142) (h2 : ¬ T.1 0 14 = 147) : fm_product_L9 (f + 1) T = some (1, T) := by
  rw [fm_product_L9]
  simp only [znm_q]
  rw [if_neg h, if_neg h2]
theorem zj_3 {S : zSt} (h : S.1 125 8 = nI 3) : fx_Reader_judge S = fx_Reader_judgeDivisor S := by
  unfold fx_Reader_judge
  simp only [znm_q]
  rw [h, if_neg (by decide), if_neg (by decide), if_neg (by decide), if_pos (by decide), zbd_i]
section ztp
variable {t : Nat} {c v p r : Nat → Nat} {X0 M0 : zSt} {S T : zSt} {i q n m : Nat} {W0 : List Nat} {dp br lx ln A : Nat}
theorem zt_ploop (E : ztE t c v p r X0 M0) (st : i ≤ q ∧ n + W0.length ≤ q ∧ m ≤ q) (hA : A = 4 ∨ A = 5 ∨ A = 6) (hW : ztS 6 W0) (h5 : W0.length ≤ 50) : ∀ (f : Nat) (S' T' : zSt) (i' q' n' m' : Nat) (P : List Nat) (V : (Nat → Int32) → Int32), ztG t c v p r X0 M0 6 2 1 S T i q n m W0 dp br lx ln S' T' i' q' n' m' P A A V → t < q' + f → ztU X0 M0 (ztR i S) (fm_product_L9 f T') ∨ ∃ (S2 T2 : zSt) (i2 q2 n2 m2 : Nat) (P2 : List Nat) (V2 : (Nat → Int32) → Int32), fm_product_L9 f T' = some (1, T2) ∧ ztG t c v p r X0 M0 6 2 1 S T i q n m W0 dp br lx ln S2 T2 i2 q2 n2 m2 P2 A A V2 ∧ c q2 ≠ 42 ∧ c q2 ≠ 47 ∧ q' ≤ q2 := by
  intro f
  induction f with
  | zero => intro S' T' i' q' n' m' P V G hf; have := G.2.2.2.2.1.1; omega
  | succ f ih =>
    intro S' T' i' q' n' m' P V G hf
    have t4 := E.t4
    have M := G.2.2.2.1
    have hq := G.2.2.2.2.1.1
    have hr := E.rt hq
    by_cases d : c q' = 42
    · have e : T'.1 0 14 = 142 := (ztM.is E M hq 42 (by unfold zTk zSg; omega)).mpr d
      have hr' := E.ro hq (by omega)
      obtain ⟨S1, T1, u1, H, I⟩ := ztop E st G d (by omega) (by decide) hW (by omega) (by omega) 2 A (fun S7 S8 a b _ d e => by rw [zpI_id e]; exact zj_ar hA a b (by omega) 2 ⟨by omega, by omega⟩ d)
      rcases zt_unit E I (A := A) (Or.inl ⟨rfl, rfl⟩) with U | ⟨S2, T2, V2, x1, G2⟩
      · exact Or.inl (ztU_m U H.1 (fun Z h => by rw [fm_pl_42 e, u1, zbd_s, h, zbd_s, z_i0]))
      · obtain ⟨T3, y1, G3⟩ := ztcomb (l := 6) E st H G2 ⟨by decide, by decide⟩ (by omega) (by omega) (by omega) (by decide) (zop 2) (fun S x y => fx_ap_op (o := 2) (by omega)) (by decide) 15 (by decide) (fun S x y => fm_bo_op (o := 2) (by omega))
        have lr := E.rt hr.2
        have red : fm_product_L9 (f + 1) T' = fm_product_L9 f T3 := by rw [fm_pl_42 e, u1, zbd_s, x1, zbd_s, z_i1, show (15 : Int32) = nI 15 from rfl, y1, zbd_s]
        rw [red]
        rcases ih _ _ _ _ _ _ _ _ G3 (by omega) with U | ⟨S4, T4, i4, q4, n4, m4, P4, V4, z1, z2, z3, z4, z5⟩
        · exact Or.inl U
        · exact Or.inr ⟨S4, T4, i4, q4, n4, m4, P4, V4, z1, z2, z3, z4, by omega⟩
    by_cases d2 : c q' = 47
    · have e : T'.1 0 14 = 147 := (ztM.is E M hq 47 (by unfold zTk zSg; omega)).mpr d2
      have hr' := E.ro hq (by omega)
      obtain ⟨S1, T1, u1, H, I⟩ := ztop E st G d2 (by omega) (by decide) hW (by omega) (by omega) 3 A (fun S7 S8 a b _ d e => by rw [zpI_id e]; exact zj_ar hA a b (by omega) 3 ⟨by omega, by omega⟩ d)
      obtain ⟨Y, i2, M1, i4, i5, i6, i7⟩ := I
      obtain ⟨h1, h2, h3, h4, h5', h6, h7⟩ := H
      obtain ⟨S7, s1, s2, s3, s4, s5⟩ := ztrd (i := i' + 1) E Y i2 i5 i4 (by omega) (fun z => by omega)
      have c4 := E.c4 i4
      have j : fx_Reader_judge S7 = (if c (r q') = 300 then (if S7.1 125 15 = 0 then some (2, S7) else fx_Reader_judgeOperand S7) else some (1, S7)) := by
        rw [zj_3 s1.e_]
        unfold fx_Reader_judgeDivisor
        simp only [znm_q]
        rw [s2.2.2.1, show (300 : Int32) = nI 300 from rfl, zif_n (by omega) (by omega), zbd_i]
      have is2 : T1.1 0 14 = 2 ↔ c (r q') = 300 := ztM.is E M1 i4 300 (Or.inl rfl)
      by_cases d3 : c (r q') = 300
      · have v9 := E.v9 i4 d3
        have x16 := M1.2.2.1 d3
        have x15 := s2.2.2.2 d3
        rw [if_pos d3, x15] at j
        by_cases d4 : v (r q') = 0
        · rw [d4, nI_0, if_pos rfl] at j
          refine Or.inl ⟨2, p (r q'), by rw [h1]; exact s5 2 S7 (by omega) (by omega) j s1.o_ s1.l_ s2.2.1, ?_⟩
          rw [fm_pl_47 e, u1, zbd_s, if_pos (is2.mpr d3), x16, d4, nI_0, if_pos rfl]
          exact fm_bd M1 2
        · have nz : ¬ nI (v (r q')) = 0 := fun z => d4 ((nI_eq (a := v (r q')) (b := 0) (by omega) (by omega)).mp z)
          rw [if_neg nz] at j
          have hr1 := E.ro i4 (by omega)
          have hr2 := E.rt i4
          have o1 := (zj_operand E s1 s2 i4).1 (by omega) d3
          rw [o1] at j
          have Y8 := (s1.emit (nI (v (r q')))).se A
          obtain ⟨T2, w1, w2, w3, w4⟩ := fm_nx E M1 i4
          obtain ⟨T3, y1, y2, y3, y4, y5, y6⟩ := fm_ly w2 (by omega) 16 (nI (v (r q')))
          have red : fm_product_L9 (f + 1) T' = fm_product_L9 f T3 := by rw [fm_pl_47 e, u1, zbd_s, if_pos (is2.mpr d3), x16, if_neg nz, w1, zbd_s, y1, zbd_s]
          have cd : ∀ k, (zpI (zpI (zpI S7 126 (n' + P.length) (nI (v (r q')))) 125 2 (nI (n' + P.length + 1))) 125 8 (nI A)).1 126 k = (zpI S7 126 (n' + P.length) (nI (v (r q')))).1 126 k := fun k => by rw [zI_ne (by omega), zI_ne (by omega)]
          have fx : ∀ k, k < n' + P.length → (zpI (zpI (zpI S7 126 (n' + P.length) (nI (v (r q')))) 125 2 (nI (n' + P.length + 1))) 125 8 (nI A)).1 126 k = S1.1 126 k := fun k hk => by rw [cd, zI_nk (by omega), s3]
          have fy : ∀ k, k < 2 * m' → T3.1 5 k = T1.1 5 k := fun k hk => by rw [y6 k hk, w4]
          have lx1 := h6.1
          have lm1 := h7.1
          have G3 : ztG t c v p r X0 M0 6 2 1 S T i q n m W0 dp br lx ln (zpI (zpI (zpI S7 126 (n' + P.length) (nI (v (r q')))) 125 2 (nI (n' + P.length + 1))) 125 8 (nI A)) T3 (i' + 1 + 1) (r (r q')) (n' + P.length + 1) (m' + 1) ([] ++ [47]) A A (fun F => V F / nI (v (r q'))) := by
            refine ⟨h1.trans (s4 _ j Y8.f_), Y8, ?_, y2, ⟨by omega, by omega, ?_, by omega, Nat.le_refl _⟩, fun x hx => ?_, fun k hk => ?_, by rw [y3, w3, h4], fun k hk => ?_, ?_, ?_⟩
            · rw [zI_nk (by omega), zI_nk (by omega), zI_ne (by omega)]
              exact s2.1
            · show n' + P.length + 1 + 1 + q ≤ n + r (r q')
              omega
            · rw [List.nil_append, List.mem_singleton] at hx
              subst hx
              decide
            · rw [fx k (by omega)]
              exact h3 k hk
            · rw [fy k (by omega)]
              exact h5' k hk
            · exact ztF_d (D := max 2 (1 + 1)) (by omega) (ztF_2 (W := fun _ => nI (v (r q'))) (fun x y => x / y) (fun S x F => fx_ap_div (by omega) v9) (by decide) (by decide) (by decide) (by decide) (zXe_c (fun k _ hk => fx k hk) h6) (ztF_0 (zxn (v (r q')) v9 (by omega) (by rw [cd, zI_at]))))
            · exact zm1 16 (nI (v (r q'))) (fun x => x / nI (v (r q'))) (Or.inr ⟨rfl, nz, rfl⟩) (ztA_c fy h7) (by omega) (by rw [ztA_0]; exact y4) (fun _ => by rw [ztA_1]; exact y5)
          rw [red]
          rcases ih _ _ _ _ _ _ _ _ G3 (by omega) with U | ⟨S4, T4, i4, q4, n4, m4, P4, V4, z1, z2, z3, z4, z5⟩
          · exact Or.inl U
          · exact Or.inr ⟨S4, T4, i4, q4, n4, m4, P4, V4, z1, z2, z3, z4, by omega⟩
      · rw [if_neg d3] at j
        refine Or.inl ⟨1, p (r q'), by rw [h1]; exact s5 1 S7 (by omega) (by omega) j s1.o_ s1.l_ s2.2.1, ?_⟩
        rw [fm_pl_47 e, u1, zbd_s, if_neg (fun z => d3 (is2.mp z))]
        exact fm_bd M1 1
    · refine Or.inr ⟨S', T', i', q', n', m', P, V, fm_pl_n (fun z => d ((ztM.is E M hq 42 (by unfold zTk zSg; omega)).mp z)) (fun z => d2 ((ztM.is E M hq 47 (by unfold zTk zSg; omega)).mp z)), G, d, d2, Nat.le_refl _⟩
theorem zt_prod (E : ztE t c v p r X0 M0) {e ao : Nat} (I : ztI t c v p r X0 M0 S T i q n m W0 e ao dp br lx ln) (hA : (e = 2 ∧ A = ao) ∨ (e = 1 ∧ c q ≠ 260 ∧ c q ≠ 40 ∧ A = 5)) (hA2 : A = 4 ∨ A = 5 ∨ A = 6) (hW : ztS 6 W0) (h5 : W0.length ≤ 50) : ztU X0 M0 (ztR i S) (fm_product T) ∨ ∃ (S2 T2 : zSt) (i2 q2 n2 m2 : Nat) (P2 : List Nat) (V2 : (Nat → Int32) → Int32), fm_product T = some (1, T2) ∧ ztG t c v p r X0 M0 6 2 1 S T i q n m W0 dp br lx ln S2 T2 i2 q2 n2 m2 P2 A A V2 ∧ c q2 ≠ 42 ∧ c q2 ≠ 47 ∧ q ≤ q2 := by
  have st : i ≤ q ∧ n + W0.length ≤ q ∧ m ≤ q := ⟨I.2.2.2.2.1, I.2.2.2.2.2⟩
  have hq := I.2.2.2.1
  have hr := E.rt hq
  have t4 := E.t4
  rcases zt_unit E I hA with U | ⟨S2, T2, V2, x1, G2⟩
  · exact Or.inl (ztU_m U rfl (fun Z h => by unfold fm_product; rw [h, zbd_s, z_i0]))
  · have red : fm_product T = fm_product_L9 zFU T2 := by unfold fm_product; rw [x1, zbd_s, z_i1]
    rw [red]
    rcases zt_ploop E st hA2 hW h5 zFU _ _ _ _ _ _ _ _ (ztG_w (Nat.le_refl _) (by omega) (by omega) G2) (by unfold zFU; omega) with U | ⟨S4, T4, i4, q4, n4, m4, P4, V4, z1, z2, z3, z4, z5⟩
    · exact Or.inl U
    · exact Or.inr ⟨S4, T4, i4, q4, n4, m4, P4, V4, z1, z2, z3, z4, by omega⟩
end ztp
