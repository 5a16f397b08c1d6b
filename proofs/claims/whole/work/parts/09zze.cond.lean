/-! conditions: what is judged behind one, and many of them -/
section ztj
variable {S7 : zSt} {e x : Nat}
theorem zj_c (h8 : S7.1 125 8 = nI e) (h14 : S7.1 125 14 = nI x) (hx : x < 400) (he : e = 7 ∨ (e = 6 ∧ x ≠ 42 ∧ x ≠ 47 ∧ x ≠ 43 ∧ x ≠ 45)) : fx_Reader_judge S7 = fx_Reader_judgeAfterCondition S7 := by
  unfold fx_Reader_judge
  simp only [znm_q, zbd_i]
  rw [h8, h14]
  have f : ∀ k : Nat, k < 400 → x ≠ k → ¬ nI x = nI k := fun k hk n z => n ((nI_eq (by omega) (by omega)).mp z)
  rcases he with rfl | ⟨rfl, n1, n2, n3, n4⟩
  · rw [if_neg (by decide), if_neg (by decide), if_neg (by decide), if_neg (by decide), if_neg (by decide), if_neg (by decide), if_neg (by decide), if_pos (by decide)]
  · rw [if_neg (by decide), if_neg (by decide), if_neg (by decide), if_neg (by decide), if_neg (by decide), if_neg (by decide), if_pos (by decide), show (43 : Int32) = nI 43 from rfl, show (45 : Int32) = nI 45 from rfl, show (42 : Int32) = nI 42 from rfl, show (47 : Int32) = nI 47 from rfl, if_neg (f 43 (by omega) n3), if_neg (f 45 (by omega) n4), if_neg (f 42 (by omega) n1), if_neg (f 47 (by omega) n2), if_neg (by decide), if_neg (by decide)]
theorem zjc_ao (h14 : S7.1 125 14 = nI x) (hx : x = 258 ∨ x = 259) : fx_Reader_judgeAfterCondition S7 = zbd (fx_Reader_takeOperator S7 (nI 1)) fun _ S_3 => some (0, S_3) := by
  unfold fx_Reader_judgeAfterCondition
  simp only [znm_q]
  rcases hx with rfl | rfl
  · rw [h14, if_neg (by decide), if_pos (by decide)]; rfl
  · rw [h14, if_pos (by decide)]; rfl
theorem zjc_41 {br : Nat} (h14 : S7.1 125 14 = nI 41) (hb : S7.1 125 11 = nI (br + 1)) (b8 : br < 9) : fx_Reader_judgeAfterCondition S7 = zbd (fx_Reader_closeBracket S7) fun _ S_3 => some (0, S_3) := by
  unfold fx_Reader_judgeAfterCondition
  simp only [znm_q]
  rw [h14, if_neg (by decide), if_neg (by decide), if_pos (by decide), hb, if_neg (nI_nle (by omega) (by omega))]
theorem zjc_59 (h14 : S7.1 125 14 = nI 59) (hb : S7.1 125 11 = 0) : fx_Reader_judgeAfterCondition S7 = fx_Reader_endLine S7 (-257) := by
  unfold fx_Reader_judgeAfterCondition
  simp only [znm_q]
  rw [h14, if_neg (by decide), if_neg (by decide), if_neg (by decide), if_pos (by decide), hb, if_pos rfl, zbd_i]
theorem zjc_n {br : Nat} (h14 : S7.1 125 14 = nI x) (hx : x < 400) (hb : S7.1 125 11 = nI br) (b8 : br < 9) (n1 : x ≠ 258) (n2 : x ≠ 259) (n3 : x = 41 → br = 0) (n4 : x = 59 → br ≠ 0) : fx_Reader_judgeAfterCondition S7 = some (nI 1, S7) := by
  unfold fx_Reader_judgeAfterCondition
  simp only [znm_q]
  rw [h14, show (259 : Int32) = nI 259 from rfl, show (258 : Int32) = nI 258 from rfl, show (41 : Int32) = nI 41 from rfl, show (59 : Int32) = nI 59 from rfl, zif_n (by omega) (by omega), zif_n (by omega) (by omega), zif_n (by omega) (by omega), zif_n (by omega) (by omega), if_neg n2, if_neg n1, hb]
  by_cases d : x = 41
  · rw [if_pos d, n3 d, if_pos (by decide), if_neg (by omega)]
    rfl
  · rw [if_neg d]
    by_cases d2 : x = 59
    · rw [if_pos d2, if_neg (show ¬ nI br = 0 from fun z => n4 d2 ((nI_eq (a := br) (b := 0) (by omega) (by omega)).mp z))]
      rfl
    · rw [if_neg d2]
      rfl
end ztj
def ztV (e x : Nat) : Prop := e = 7 ∨ (e = 6 ∧ x ≠ 42 ∧ x ≠ 47 ∧ x ≠ 43 ∧ x ≠ 45)
theorem ztV_8 {e x : Nat} (h : ztV e x) : e < 8 ∧ e ≠ 0 := by unfold ztV at h; omega
/-- both read a condition alike -/
def ztQ (t : Nat) (c v p r : Nat → Nat) (X0 M0 : zSt) (F : zSt → Option (Int32 × zSt)) (l bs D B w dp : Nat) (X : Nat → Prop) : Prop := ∀ (S T : zSt) (i q n m : Nat) (W0 : List Nat) (ao br lx ln : Nat), ztI t c v p r X0 M0 S T i q n m W0 1 ao dp br lx ln → br ≤ dp → ztS bs W0 → W0.length ≤ w → ztU X0 M0 (ztR i S) (F T) ∨ ∃ (S2 T2 : zSt) (i2 q2 n2 m2 : Nat) (P2 : List Nat) (e2 ao2 : Nat) (V2 : (Nat → Int32) → Int32), F T = some (1, T2) ∧ ztG t c v p r X0 M0 l D B S T i q n m W0 dp br lx ln S2 T2 i2 q2 n2 m2 P2 e2 ao2 V2 ∧ ztV e2 (c q2) ∧ q ≤ q2 ∧ (∀ F, V2 F = 0 ∨ V2 F = 1) ∧ X (c q2)
section ztl
variable {t : Nat} {c v p r : Nat → Nat} {X0 M0 : zSt} {F : zSt → Option (Int32 × zSt)} {L : Nat → zSt → Option (Int32 × zSt)} {l2 bs2 D2 B2 w w2 dp o s : Nat} {X : Nat → Prop} {g : Int32 → Int32 → Int32}
theorem zt_cloop (E : ztE t c v p r X0 M0) (hF : ztQ t c v p r X0 M0 F l2 bs2 D2 B2 w2 dp X) (ho : o = 258 ∨ o = 259) (hl : ztB o ≤ l2 ∧ ztB o < bs2) (hL : ∀ f T, L (f + 1) T = if T.1 0 14 = nI (zmk o) then (zbd (fm_next0 T) fun _ S_6 => zbd (F S_6) fun r_8 S_9 => if r_8 = 0 then some (0, S_9) else zbd (fm_lay S_9 (nI s) 0) fun _ S_12 => L f S_12) else some (1, T)) (ha : ∀ (S : zSt) (x y : Int32), fx_Rule_apply S (-(-nI o)) x y = some (g x y, S)) (hs : 13 ≤ s ∧ s ≤ 22 ∧ s ≠ 16 ∧ s ≠ 20) (hb : ∀ (S : zSt) (x y : Int32), fm_both S (nI s) x y = some (g x y, S)) (hg : ∀ x y : Int32, (x = 0 ∨ x = 1) → (y = 0 ∨ y = 1) → g x y = 0 ∨ g x y = 1) (hw : w + 1 ≤ w2) (hB : B2 + w ≤ 50)
    {S T : zSt} {i q n m : Nat} {W0 : List Nat} {br lx ln : Nat} (st : i ≤ q ∧ n + W0.length ≤ q ∧ m ≤ q) (hbr : br ≤ dp) (hW : ztS (ztB o) W0) (h5 : W0.length ≤ w) : ∀ (f : Nat) (S' T' : zSt) (i' q' n' m' : Nat) (P : List Nat) (e' ao' : Nat) (V : (Nat → Int32) → Int32), ztG t c v p r X0 M0 (ztB o) (D2 + 1) (B2 + 1) S T i q n m W0 dp br lx ln S' T' i' q' n' m' P e' ao' V → ztV e' (c q') → (∀ F, V F = 0 ∨ V F = 1) → X (c q') → t < q' + f → ztU X0 M0 (ztR i S) (L f T') ∨ ∃ (S2 T2 : zSt) (i2 q2 n2 m2 : Nat) (P2 : List Nat) (e2 ao2 : Nat) (V2 : (Nat → Int32) → Int32), L f T' = some (1, T2) ∧ ztG t c v p r X0 M0 (ztB o) (D2 + 1) (B2 + 1) S T i q n m W0 dp br lx ln S2 T2 i2 q2 n2 m2 P2 e2 ao2 V2 ∧ ztV e2 (c q2) ∧ q' ≤ q2 ∧ (∀ F, V2 F = 0 ∨ V2 F = 1) ∧ X (c q2) ∧ c q2 ≠ o := by
  intro f
  induction f with
  | zero => intro S' T' i' q' n' m' P e' ao' V G _ _ _ hf; have := G.2.2.2.2.1.1; omega
  | succ f ih =>
    intro S' T' i' q' n' m' P e' ao' V G hV h01 hX hf
    have t4 := E.t4
    have M := G.2.2.2.1
    have hq := G.2.2.2.2.1.1
    have hr := E.rt hq
    have otk : zTk o := by unfold zTk; omega
    have is := ztM.is E M hq o otk
    by_cases d : c q' = o
    · have hr' := E.ro hq (by omega)
      obtain ⟨e8, e0⟩ := ztV_8 hV
      obtain ⟨S1, T1, u1, H, I⟩ := ztop E st G d (by omega) (Nat.le_refl _) hW (by omega) e8 1 ao' (fun S7 S8 a b _ x e => by
        rw [zpI_id e, zj_c a b (by omega) (by rw [← d]; exact hV), zjc_ao b ho, x, zbd_s])
      have k0 : -nI o < 0 ∧ ¬ -nI o = -59 ∧ ¬ -nI o = -257 ∧ ¬ -nI o = -260 := by rcases ho with rfl | rfl <;> decide
      rcases hF S1 T1 _ _ _ _ (o :: W0) ao' br lx ln I hbr (ztS_c (by omega) hl.2) (by rw [List.length_cons]; omega) with U | ⟨S2, T2, i2, q2, n2, m2, P2, e2, ao2, V2, x1, G2, x2, x3, x4, x5⟩
      · exact Or.inl (ztU_m U H.1 (fun Z h => by rw [hL, if_pos (is.mpr d), u1, zbd_s, h, zbd_s, z_i0]))
      · obtain ⟨T3, y1, G3⟩ := ztcomb (l := ztB o) E st H G2 ⟨hl.1, Nat.le_refl _⟩ (by omega) (by omega) (by omega) (by omega) g ha k0 s hs hb
        have red : L (f + 1) T' = L f T3 := by rw [hL, if_pos (is.mpr d), u1, zbd_s, x1, zbd_s, z_i1, y1, zbd_s]
        rw [red]
        rcases ih _ _ _ _ _ _ _ _ _ _ G3 x2 (fun F => hg _ _ (h01 F) (x4 F)) x5 (by omega) with U | ⟨S4, T4, i4, q4, n4, m4, P4, e4, a4, V4, z1, z2, z3, z4, z5, z6⟩
        · exact Or.inl U
        · exact Or.inr ⟨S4, T4, i4, q4, n4, m4, P4, e4, a4, V4, z1, z2, z3, by omega, z5, z6⟩
    · exact Or.inr ⟨S', T', i', q', n', m', P, e', ao', V, by rw [hL, if_neg (fun z => d (is.mp z))], G, hV, Nat.le_refl _, h01, hX, d⟩
theorem zt_cs (E : ztE t c v p r X0 M0) (hF : ztQ t c v p r X0 M0 F l2 bs2 D2 B2 w2 dp X) (ho : o = 258 ∨ o = 259) (hl : ztB o ≤ l2 ∧ ztB o < bs2) (hL : ∀ f T, L (f + 1) T = if T.1 0 14 = nI (zmk o) then (zbd (fm_next0 T) fun _ S_6 => zbd (F S_6) fun r_8 S_9 => if r_8 = 0 then some (0, S_9) else zbd (fm_lay S_9 (nI s) 0) fun _ S_12 => L f S_12) else some (1, T)) (ha : ∀ (S : zSt) (x y : Int32), fx_Rule_apply S (-(-nI o)) x y = some (g x y, S)) (hs : 13 ≤ s ∧ s ≤ 22 ∧ s ≠ 16 ∧ s ≠ 20) (hb : ∀ (S : zSt) (x y : Int32), fm_both S (nI s) x y = some (g x y, S)) (hg : ∀ x y : Int32, (x = 0 ∨ x = 1) → (y = 0 ∨ y = 1) → g x y = 0 ∨ g x y = 1) (hw : w + 1 ≤ w2) (hB : B2 + w ≤ 50) : ztQ t c v p r X0 M0 (fun T => zbd (F T) fun r_1 S_2 => if r_1 = 0 then some (0, S_2) else L zFU S_2) (ztB o) (ztB o) (D2 + 1) (B2 + 1) w dp (fun x => X x ∧ x ≠ o) := by
  intro S T i q n m W0 ao br lx ln I hbr hW h5
  have st : i ≤ q ∧ n + W0.length ≤ q ∧ m ≤ q := ⟨I.2.2.2.2.1, I.2.2.2.2.2⟩
  have hq := I.2.2.2.1
  have t4 := E.t4
  rcases hF S T i q n m W0 ao br lx ln I hbr (ztS_le (by omega) hW) (by omega) with U | ⟨S2, T2, i2, q2, n2, m2, P2, e2, ao2, V2, x1, G2, x2, x3, x4, x5⟩
  · exact Or.inl (ztU_m U rfl (fun Z h => by show (zbd (F T) fun r_1 S_2 => if r_1 = 0 then some (0, S_2) else L zFU S_2) = _; rw [h, zbd_s, z_i0]))
  · have red : (zbd (F T) fun r_1 S_2 => if r_1 = 0 then some (0, S_2) else L zFU S_2) = L zFU T2 := by rw [x1, zbd_s, z_i1]
    rcases zt_cloop E hF ho hl hL ha hs hb hg hw hB st hbr hW h5 zFU _ _ _ _ _ _ _ _ _ _ (ztG_w hl.1 (by omega) (by omega) G2) x2 x4 x5 (by unfold zFU; omega) with U | ⟨S4, T4, i4, q4, n4, m4, P4, e4, a4, V4, z1, z2, z3, z4, z5, z6⟩
    · exact Or.inl (by rw [← red] at U; exact U)
    · exact Or.inr ⟨S4, T4, i4, q4, n4, m4, P4, e4, a4, V4, by rw [← red] at z1; exact z1, z2, z3, by omega, z5, z6⟩
end ztl
