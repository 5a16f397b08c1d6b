/-! led, lent -/
theorem lg_lN {a b : Nat} (ha : a < 2 ^ 63) (hb : b < 2 ^ 63) : lg_cmp (lN a) (lN b) = if a < b then -1 else if a = b then 0 else 1 := by
  unfold lg_cmp
  rcases Nat.lt_trichotomy a b with h | h | h
  · have h1 : ¬ lN b < lN a := fun q => by have := (pk_lLT hb ha).mp q; omega
    have h2 : ¬ lN a = lN b := fun q => by have := (pk_lEQ ha hb).mp q; omega
    rw [if_neg h1, if_neg h2, if_pos h]
  · subst h
    rw [if_neg (fun q => Int64.lt_irrefl q), if_pos rfl, if_neg (by omega), if_pos rfl]
  · rw [if_pos ((pk_lLT hb ha).mpr h), if_neg (by omega), if_neg (by omega)]
theorem lg_lN0 {a : Nat} (ha : a < 2 ^ 63) : lg_cmp (lN a) 0 = if a = 0 then 0 else 1 := by
  rw [show (0 : Int64) = lN 0 from rfl, lg_lN ha (by omega), if_neg (by omega)]
theorem zq_63 {x : Nat → Nat → Int32} {y : Nat → Nat → Int64} {B : Nat} {a : Nat → Int32} {m n : Nat} (H : rL x y B a m n) (fr l : Nat) (hl : l < m) : zq a fr l < 2 ^ 63 := by
  have h1 := zq_le H fr (l + 1) l (by omega) hl
  have h2 : 2 ^ zg a l ≤ 2 ^ 30 := Nat.pow_le_pow_right (by omega) (rL_of H l hl).2.1
  omega
theorem fm_isLed_eq {x : Nat → Nat → Int32} {y : Nat → Nat → Int64} {B : Nat} {M : zSt} {m n b l : Nat} (H : rL x y B (M.1 1) m n) (hb : b < m) (hl : l < m) : ∃ Y : zSt, fm_isLed M (nI l) (nI b) = some (if 0 < zq (M.1 1) b l then 1 else 0, Y) ∧ Y.1 = M.1 := by
  have hm : m ≤ 60 := H.2.2.1
  obtain ⟨Y, y1, y2, y3⟩ := fm_parts_eq H hb
  refine ⟨Y, ?_, y2⟩
  unfold fm_isLed
  rw [y1, zbd_s, zix_n (show l < 60 by omega) (by omega), zck_t, nI_clamp (by omega), y3 l hl, lg_lN0 (zq_63 H b l hl)]
  simp only [znm_q]
  by_cases h : zq (M.1 1) b l = 0
  · rw [if_pos h, if_pos (by decide), zbo_0, zck_t, if_neg (by omega)]
  · rw [if_neg h, if_neg (by decide), zbo_1, zck_t, if_pos (by omega)]
theorem fx_isLed_eq {X : zSt} {b l : Nat} (hb : b < 60) (hl : l < 60) : fx_Leavens_isLed X (nI l) (nI b) = some (if zbt (X.2 27 l) b then 1 else 0, X) := by
  unfold fx_Leavens_isLed
  simp only [znm_q]
  rw [zix_n hl (by omega), zck_t, nI_clamp (by omega), zbt_s _ hb]
  by_cases h : zbt (X.2 27 l) b = true
  · rw [h, if_pos rfl, if_neg lg_11, if_pos rfl, zbo_1, zck_t]
  · rw [if_neg h, if_pos lg_01, if_neg h, zbo_0, zck_t]
section ops11
variable {RR : (Nat → Int32) → Int32 → Int32 → (Nat → Int32) → Prop}
theorem zI_m1 (hRR : zRok RR) {X M M' : zSt} (h : M'.1 = M.1) (hI : zInv RR X M) : zInv RR X M' := zI_same hRR (fun _ _ _ => rfl) ⟨rfl, rfl⟩ ⟨rfl, rfl, rfl, rfl⟩ (fun q _ => by rw [h]) (fun k _ => by rw [h]) (Or.inl ⟨rfl, by rw [h]⟩) hI
theorem zp_led (hRR : zRok RR) : zo_led (zInv RR) := by
  intro X M hI a1 a2
  obtain ⟨t, n, m, c, o, hT, hF, hC, hU, hK⟩ := id hI
  obtain ⟨hH, hTi, hS, hR, hL, hRi⟩ := id hC
  have lx : X.1 22 0 = nI m := hL.1
  have lm : M.1 1 585 = nI m := hL.2.1
  have hm : m ≤ 60 := hL.2.2.1
  unfold fx_led fm_led
  simp only [znm_q]
  by_cases ho : a1 < 0 ∨ nI m ≤ a1
  · rw [fx_lhas_lo lx ho, fm_lhas_lo lm hm ho, zbd_s, z_i0, zbd_s, z_i0]
    exact ⟨_, _, _, rfl, rfl, hI⟩
  obtain ⟨i, hi, rfl⟩ := zpos (by omega) ho
  rw [fx_lhas_in lx (by omega) hi, fm_lhas_in lm hm hi, zbd_s, z_i1, zbd_s, z_i1]
  by_cases ho2 : a2 < 0 ∨ nI m ≤ a2
  · rw [fx_lhas_lo lx ho2, fm_lhas_lo lm hm ho2, zbd_s, z_i0, zbd_s, z_i0]
    exact ⟨_, _, _, rfl, rfl, hI⟩
  obtain ⟨j, hj, rfl⟩ := zpos (by omega) ho2
  obtain ⟨Y, y1, y2⟩ := fm_isLed_eq hL hj hi
  have hb : zbt (X.2 27 i) j = true ↔ 0 < zq (M.1 1) j i := zq_bit hL j (by omega) (i + 1) i (by omega) hi
  rw [fx_lhas_in lx (by omega) hj, fm_lhas_in lm hm hj, zbd_s, z_i1, zbd_s, z_i1, fx_isLed_eq (by omega) (by omega), y1, zbd_s, zbd_s]
  by_cases h : 0 < zq (M.1 1) j i
  · rw [if_pos (hb.mpr h), if_pos h, z_i1, z_i1]
    exact ⟨_, _, _, rfl, rfl, zI_m1 hRR y2 hI⟩
  · rw [if_neg (fun q => h (hb.mp q)), if_neg h, z_i0, z_i0]
    exact ⟨_, _, _, rfl, rfl, zI_m1 hRR y2 hI⟩
end ops11
theorem zor9 : ∀ s, s < 512 → ∀ h, h < 9 → nI s ||| ((1 : Int32) <<< (nI h &&& 31)) = nI (s ||| 2 ^ h) ∧ s ||| 2 ^ h < 512 := by decide +kernel
/-- how many of the first nine bits, as the reference counts -/
def zc9 (s : Int32) : Nat → Int32
  | 0 => 0
  | h + 1 => zc9 s h + ((s >>> (nI h &&& 31)) &&& 1)
theorem fm_count_eq {s : Int32} {S : zSt} : fm_lent_L104 s zFU 0 0 S = some (zc9 s 9, S) := by
  have key : ∀ (f i : Nat), i ≤ 9 → 9 < i + f → fm_lent_L104 s f (zc9 s i) (nI i) S = some (zc9 s 9, S) := by
    intro f
    induction f with
    | zero => intro i a b; omega
    | succ f ih =>
      intro i a b
      rw [fm_lent_L104]
      by_cases e : i = 9
      · subst e
        rw [if_pos (by decide)]
      · rw [if_neg (show ¬ (9 : Int32) ≤ nI i from nI_ge (b := 9) (by omega) (by omega)), znm_q, znm_q, nI_1]
        exact ih (i + 1) (by omega) (by omega)
  exact key zFU 0 (by omega) (by unfold zFU; omega)
def zbc9 (a_1 : Int32) : Int32 :=
  let x_1 := (a_1 - (((a_1.toUInt32 >>> ((1 : Int32).toUInt32 &&& Int32.toUInt32 31)).toInt32) &&& (1431655765 : Int32)))
  let x_2 := ((x_1 &&& (858993459 : Int32)) + (((x_1.toUInt32 >>> ((2 : Int32).toUInt32 &&& Int32.toUInt32 31)).toInt32) &&& (858993459 : Int32)))
  let x_3 := ((x_2 + ((x_2.toUInt32 >>> ((4 : Int32).toUInt32 &&& Int32.toUInt32 31)).toInt32)) &&& (252645135 : Int32))
  let x_4 := (x_3 + ((x_3.toUInt32 >>> ((8 : Int32).toUInt32 &&& Int32.toUInt32 31)).toInt32))
  let x_5 := (x_4 + ((x_4.toUInt32 >>> ((16 : Int32).toUInt32 &&& Int32.toUInt32 31)).toInt32))
  x_5 &&& (63 : Int32)
theorem fj_bc_eq {S : zSt} {s : Int32} : fj6_bitCount S s = some (zbc9 s, S) := by
  unfold fj6_bitCount
  rw [znm_q, znm_q, znm_q, znm_q, znm_q]
  rfl
theorem zbc_9 : ∀ s, s < 512 → zbc9 (nI s) = zc9 (nI s) 9 := by decide +kernel
theorem fx_isNew_eq {X : zSt} {k : Nat} (hk : k < 60) : fx_Leavens_isNew X (nI k) = some (if X.1 24 k = -1 then 0 else 1, X) := by
  unfold fx_Leavens_isNew
  simp only [znm_q]
  rw [zix_n hk (by omega), zck_t, nI_clamp (by omega)]
  by_cases h : X.1 24 k = -1
  · rw [if_pos h, if_pos h, zbo_0, zck_t]
  · rw [if_neg h, if_neg h, zbo_1, zck_t]
theorem zlent_eq {X M : zSt} {m n l : Nat} (H : rL X.1 X.2 3 (M.1 1) m n) (hl : l < m) : ∃ (r : Int32) (Y : zSt), fx_Leavens_ownersWithin X (nI l) = some (r, X) ∧ fm_lent_L53 (nI l) (fun x_8 S_9 => fm_lent_L104 x_8 zFU 0 0 S_9) zFU 0 0 M = some (r, Y) ∧ Y.1 = M.1 := by
  have hm : m ≤ 60 := H.2.2.1
  have key : ∀ (f i s : Nat) (S : zSt), i ≤ l + 1 → l + 1 < i + f → s < 512 → S.1 = M.1 → ∃ (r : Int32) (Y : zSt), fx_Leavens_ownersWithin_L4 (nI l) f (nI s) (nI i) X = some (r, X) ∧ fm_lent_L53 (nI l) (fun x_8 S_9 => fm_lent_L104 x_8 zFU 0 0 S_9) f (nI s) (nI i) S = some (r, Y) ∧ Y.1 = M.1 := by
    intro f
    induction f with
    | zero => intro i s S a b; omega
    | succ f ih =>
      intro i s S h1 h2 hs hS
      rw [fx_Leavens_ownersWithin_L4, fm_lent_L53]
      by_cases e : i = l + 1
      · have c : nI l < nI i := nI_lt (by omega) (by omega)
        rw [if_pos c, if_pos c, fj_bc_eq, zbd_s, fm_count_eq, zbc_9 s hs]
        exact ⟨_, _, rfl, rfl, hS⟩
      · have c : ¬ nI l < nI i := nI_nlt (by omega) (by omega)
        have H' : rL X.1 X.2 3 (S.1 1) m n := by rw [hS]; exact H
        have hi : i < m := by omega
        have o0 : fm_ofLeaven S (nI i) 0 = some (M.1 1 (340 + 4 * i), S) := by
          rw [show (0 : Int32) = nI 0 from rfl, fm_ofL_eq (by omega) (by omega), hS]; rfl
        have ow : X.1 24 i = M.1 1 (342 + 4 * i) := (H.2.2.2.1 i hi).2.1
        rw [if_neg c, if_neg c, fx_isNew_eq (by omega), zbd_s, o0, zbd_s, ow]
        simp only [znm_q]
        rcases (rL_of H i hi).2.2 with ⟨q1, _, ⟨h, hh, q3⟩, _⟩ | ⟨q1, q2, _⟩
        · have ne : ¬ M.1 1 (342 + 4 * i) = -1 := fun q => by
            rw [q3] at q
            have := congrArg Int32.toInt q
            rw [nI_toInt (by omega), show (-1 : Int32).toInt = -1 from by decide] at this
            omega
          rw [if_neg ne, z_i1, if_pos q1, fx_isLed_eq (by omega) (by omega), zbd_s]
          obtain ⟨Y, y1, y2⟩ := fm_isLed_eq H' hi hl
          rw [y1, zbd_s, hS]
          have hb : zbt (X.2 27 l) i = true ↔ 0 < zq (M.1 1) i l := zq_bit H i (by omega) (l + 1) l (by omega) hl
          by_cases hq : 0 < zq (M.1 1) i l
          · have o2 : fm_ofLeaven Y (nI i) 2 = some (M.1 1 (342 + 4 * i), Y) := by
              rw [show (2 : Int32) = nI 2 from rfl, fm_ofL_eq (by omega) (by omega), y2, hS, show 340 + 4 * i + 2 = 342 + 4 * i by omega]
            rw [if_pos (hb.mpr hq), if_pos hq, z_i1, z_i1, zix_n (show i < 60 by omega) (by omega), zck_t, nI_clamp (n := i) (by omega), o2, zbd_s, ow, q3, (zor9 s hs h hh).1, nI_1]
            exact ih (i + 1) _ Y (by omega) (by omega) (zor9 s hs h hh).2 (by rw [y2, hS])
          · rw [if_neg (fun q => hq (hb.mp q)), if_neg hq, z_i0, z_i0, nI_1]
            exact ih (i + 1) s Y (by omega) (by omega) hs (by rw [y2, hS])
        · rw [if_pos q2, z_i0, if_neg q1, nI_1]
          exact ih (i + 1) s S (by omega) (by omega) hs hS
  unfold fx_Leavens_ownersWithin
  rw [← nI_0]
  exact key zFU 0 0 M (by omega) (by unfold zFU; omega) (by omega) rfl
