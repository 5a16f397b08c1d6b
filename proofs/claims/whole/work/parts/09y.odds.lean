theorem rH_mk {x : Nat → Nat → Int32} {B n h : Nat} {a : Nat → Int32} (H : rH x B a n) (hh : h < n) : ∃ L : Nat, L ≤ 5 ∧ a (29 + 16 * h) = nI L := by
  have q := H.2.2.2.2.2.1 h hh
  obtain ⟨j, j1, j2, j3⟩ := z_nat (v := a (29 + 16 * h)) (by omega)
  exact ⟨j, by omega, j2⟩
theorem z01 {a : Int32} (h : ¬ (a < 0 ∨ (1 : Int32) < a)) : a = 0 ∨ a = 1 := by
  have h1 : ¬ a.toInt < 0 := fun q => h (Or.inl (by rw [zlt]; exact q))
  have h2 : ¬ (1 : Int) < a.toInt := fun q => h (Or.inr (by rw [zlt]; exact q))
  have : a.toInt = 0 ∨ a.toInt = 1 := by omega
  rcases this with e | e
  · exact Or.inl (Int32.toInt_inj.mp e)
  · exact Or.inr (Int32.toInt_inj.mp e)
section ops14
variable {RR : (Nat → Int32) → Int32 → Int32 → (Nat → Int32) → Prop}
/-- the tape is emptied -/
theorem zI_t0 (hRR : zRok RR) {X M X' M' : zSt} (h1 : ∀ q, q ≠ 1 → (q < 126 ∨ q = 140 ∨ q = 141) → X'.1 q = X.1 q) (h2 : ∀ q, q ≠ 28 → X'.2 q = X.2 q) (h3 : X'.1 1 1 = 0) (h4 : ∀ q, (q = 1 ∨ q = 2 ∨ q = 3 ∨ q = 6) → M'.1 q = M.1 q) (h5 : ∀ k, (k = 3 ∨ k = 4 ∨ k = 19 ∨ k = 21) → M'.1 0 k = M.1 0 k) (h6 : M'.1 0 12 = 0) (hI : zInv RR X M) : zInv RR X' M' :=
  zI_same hRR (fun q a b => h1 q a (by omega)) ⟨h2 _ (by omega), h2 _ (by omega)⟩ ⟨by rw [h1 _ (by omega) (by omega)], by rw [h1 _ (by omega) (by omega)], by rw [h1 _ (by omega) (by omega)], by rw [h1 _ (by omega) (by omega)]⟩ h4 h5 (Or.inr ⟨h3, h6⟩) hI
theorem zp_odds (hRR : zRok RR) : zo_odds (zInv RR) := by
  intro X M hI a1 a2
  obtain ⟨t, n, m, c, o, hT, hF, hC, hU, hK⟩ := id hI
  obtain ⟨hH, hTi, hS, hR, hL, hRi⟩ := id hC
  obtain ⟨q1, q2, q3, q4, q5⟩ := hT
  have hn : n ≤ 9 := hH.2.2.1
  have ex : X.1 4 0 = nI n := hH.1
  have em : M.1 1 4 = nI n := hH.2.1
  have em' : (zpI M 0 12 0).1 1 4 = nI n := by rw [zI_ne (by omega)]; exact em
  have eb : X.1 2 = M.1 6 := funext q4
  have q5x : ∀ k, 0 ≤ (X.1 2 k).toInt ∧ (X.1 2 k).toInt ≤ 255 := by rw [eb]; exact q5
  have inv : ∀ Y : zSt, Y.1 = (zpI M 0 12 0).1 → zInv RR (zpI X 1 1 0) Y := fun Y hY => zI_t0 hRR (fun q a b => zI_ne a) (fun _ _ => rfl) zI_at (fun q hq => by rw [hY]; exact zI_ne (by omega)) (fun k hk => by rw [hY]; exact zI_nk (by omega)) (by rw [hY]; exact zI_at) hI
  unfold fx_odds fm_odds
  simp only [znm_q]
  by_cases hm : zMk (M.1 6) t
  rotate_left 1
  · rw [fx_mark_n q1 q3 q5x (by rw [eb]; exact hm), fm_mark_n q2 q3 hm, zbd_s, z_i0, zbd_s, if_pos rfl]
    exact ⟨_, _, _, rfl, rfl, inv _ rfl⟩
  have hmx : zMk (X.1 2) t := by rw [eb]; exact hm
  have tn : ¬ nI t = -1 := fun q => by
    have := congrArg Int32.toInt q
    rw [nI_toInt (by omega), show (-1 : Int32).toInt = -1 from by decide] at this
    omega
  rw [fx_mark_y q1 q5x hmx, fm_mark_y q2 hm, zbd_s, z_i1, zbd_s, if_neg tn]
  by_cases ho : a1 < 0 ∨ nI n ≤ a1
  · rw [fx_has_lo ex ho, fm_has_lo em' hn ho, zbd_s, z_i0, zbd_s, z_i0]
    exact ⟨_, _, _, rfl, rfl, inv _ rfl⟩
  obtain ⟨h, hh, rfl⟩ := zpos (by omega) ho
  rw [fx_has_in ex hn hh, fm_has_in em' hn hh, zbd_s, z_i1, zbd_s, z_i1]
  by_cases hw : a2 < 0 ∨ (1 : Int32) < a2
  · have w0 : ¬ a2 = 0 := fun e => by rw [e] at hw; exact absurd hw (by decide)
    have w1 : ¬ a2 = 1 := fun e => by rw [e] at hw; exact absurd hw (by decide)
    rw [if_neg w0, if_neg w1, fm_isIn_lo hw, zbd_s, z_i0]
    exact ⟨_, _, _, rfl, rfl, inv _ rfl⟩
  obtain ⟨L, hL5, eL⟩ := rH_mk hH hh
  have e1 : (zpI M 0 12 0).1 1 = M.1 1 := zI_ne (by omega)
  have e6 : (zpI M 0 12 0).1 6 = M.1 6 := zI_ne (by omega)
  obtain ⟨Y, y1, y2, y3, y4⟩ := fm_odds_eq (M := zpI M 0 12 0) (x := X.1) (B := 3) (t := t) (by rw [e1]; exact hH) (by rw [e1]; exact hRi) hn hh (by rw [e1]; exact eL) hL5 (by rw [e6]; exact hm)
  rw [e1, e6] at y3 y4
  have hA := zA_le hH hRi hh eL hL5 hm
  have hB := zB_le hH hRi hh eL hL5 hm
  rw [fm_isIn_in (fun q => hw (Or.inl q)) (fun q => hw (Or.inr q)), zbd_s, z_i1, y1, zbd_s, fx_above_eq hH hRi hn hh eL hL5 q1 hmx, zbd_s, fx_below_eq hH hRi hn hh eL hL5 hmx, zbd_s, eb, fx_gcd (by omega) (by omega), zbd_s]
  have gp : 0 < Nat.gcd (zA (M.1 1) (M.1 6) h L t) (zB (M.1 1) (M.1 6) h L t) := Nat.gcd_pos_of_pos_right _ hB.1
  have gl : Nat.gcd (zA (M.1 1) (M.1 6) h L t) (zB (M.1 1) (M.1 6) h L t) ≤ zB (M.1 1) (M.1 6) h L t := Nat.gcd_le_right _ hB.1
  have nz : znzL (lN (Nat.gcd (zA (M.1 1) (M.1 6) h L t) (zB (M.1 1) (M.1 6) h L t))) = true := by
    unfold znzL
    exact decide_eq_true (fun q => by have := (pk_lEQ (a := Nat.gcd (zA (M.1 1) (M.1 6) h L t) (zB (M.1 1) (M.1 6) h L t)) (b := 0) (by omega) (by omega)).mp q; omega)
  rw [lg_lN0 (by omega), if_neg (show ¬ Nat.gcd (zA (M.1 1) (M.1 6) h L t) (zB (M.1 1) (M.1 6) h L t) = 0 by omega), if_neg (show ¬ (1 : Int32) ≤ 0 by decide), nz]
  simp only [zck_t]
  rw [pk_lDiv (by omega) gp (by omega), pk_lDiv (by omega) gp (by omega), y3, y4]
  rcases z01 hw with rfl | rfl
  · rw [if_pos rfl, if_pos rfl, if_pos rfl]
    exact ⟨_, _, _, rfl, rfl, inv _ y2⟩
  · rw [if_neg (show ¬ (1 : Int32) = 0 by decide), if_pos rfl, if_neg (show ¬ (1 : Int32) = 0 by decide), if_neg (show ¬ (1 : Int32) = 0 by decide)]
    exact ⟨_, _, _, rfl, rfl, inv _ y2⟩
end ops14
theorem fj_cmp_eq {S : zSt} {x y : Nat} (hx : x < 2 ^ 63) (hy : y < 2 ^ 63) : fj13_compare S (lN x) (lN y) = some (if x < y then -1 else if x = y then 0 else 1, S) := by
  unfold fj13_compare
  rw [znm_q, lg_lN hx hy]
  by_cases h : x < y
  · rw [if_pos h, if_neg (by decide)]
  · rw [if_neg h]
    by_cases e : x = y
    · rw [if_pos e, if_pos (by decide), if_pos rfl]
    · rw [if_neg e, if_pos (by decide), if_neg (by decide)]
theorem zcr {A B a b g bA bB up dn : Nat} (hA : A = a * g) (hB : B = b * g) (hg : 0 < g) (hbB : 0 < bB) (hdn : 0 < dn) (hI : up * bB = bA * dn) : (A * bB < bA * B ↔ a * dn < up * b) ∧ (A * bB = bA * B ↔ a * dn = up * b) := by
  have k1 : A * bB * dn = a * dn * (bB * g) := by rw [hA]; simp only [Nat.mul_assoc, Nat.mul_comm, Nat.mul_left_comm]
  have k2 : bA * B * dn = up * b * (bB * g) := by
    rw [hB, show bA * (b * g) * dn = (bA * dn) * (b * g) by simp only [Nat.mul_assoc, Nat.mul_comm, Nat.mul_left_comm], ← hI]
    simp only [Nat.mul_assoc, Nat.mul_comm, Nat.mul_left_comm]
  have pg : 0 < bB * g := Nat.mul_pos hbB hg
  constructor
  · rw [← Nat.mul_lt_mul_right hdn, k1, k2, Nat.mul_lt_mul_right pg]
  · rw [← Nat.mul_right_cancel_iff hdn, k1, k2, Nat.mul_right_cancel_iff pg]
theorem zwho_eq {X M : zSt} {n t : Nat} (hH : rH X.1 3 (M.1 1) n) (hRi : rI X.1 3 (M.1 1)) (q1 : X.1 1 1 = nI t) (eb : X.1 2 = M.1 6) (hm : zMk (M.1 6) t) (a1 w : Int32) : ∃ (r ap : Int32) (Y : zSt), (ap = 0 ∨ ap = 1) ∧ Y.1 = M.1 ∧ (∀ j : Int32 → Int32 → zSt → Option (Int32 × zSt), fx_Rises_likeliest_L15 w j zFU (-1) 0 0 1 0 X = j r ap X) ∧ (∀ j : Int32 → Int32 → zSt → Option (Int32 × zSt), fm_whose_L36 a1 (nI t) j zFU (-1) 0 0 1 0 M = j r ap Y) := by
  have hn : n ≤ 9 := hH.2.2.1
  have ex : X.1 4 0 = nI n := hH.1
  have em : M.1 1 4 = nI n := hH.2.1
  have hmx : zMk (X.1 2) t := by rw [eb]; exact hm
  have key : ∀ (f h bA bB up dn : Nat) (r ap : Int32) (S : zSt), h ≤ n → n < h + f → S.1 = M.1 → (ap = 0 ∨ ap = 1) → 0 < bB → 0 < dn → bB < 2 ^ 31 → dn < 2 ^ 31 → bA ≤ 59049 → up ≤ 59049 → up * bB = bA * dn → (bA = 0 → ap = 0) → ∃ (r' ap' : Int32) (Y : zSt), (ap' = 0 ∨ ap' = 1) ∧ Y.1 = M.1 ∧ (∀ j : Int32 → Int32 → zSt → Option (Int32 × zSt), fx_Rises_likeliest_L15 w j f r ap (lN bA) (lN bB) (nI h) X = j r' ap' X) ∧ (∀ j : Int32 → Int32 → zSt → Option (Int32 × zSt), fm_whose_L36 a1 (nI t) j f r ap (lN up) (lN dn) (nI h) S = j r' ap' Y) := by
    intro f
    induction f with
    | zero => intro h bA bB up dn r ap S a b; omega
    | succ f ih =>
      intro h bA bB up dn r ap S h1 h2 hS hap pB pd bb bd ba bu hcr h0
      by_cases e : h = n
      · subst e
        exact ⟨r, ap, S, hap, hS, fun j => by rw [fx_Rises_likeliest_L15, ex, if_pos (nI_le (Nat.le_refl _) (by omega))], fun j => by rw [fm_whose_L36, hS, em, if_pos (nI_le (Nat.le_refl _) (by omega))]⟩
      have hh : h < n := by omega
      obtain ⟨L, hL5, eL⟩ := rH_mk hH hh
      have hA := zA_le hH hRi hh eL hL5 hm
      have hB := zB_le hH hRi hh eL hL5 hm
      have hSH : rH X.1 3 (S.1 1) n := by rw [hS]; exact hH
      have hSR : rI X.1 3 (S.1 1) := by rw [hS]; exact hRi
      have hSm : zMk (S.1 6) t := by rw [hS]; exact hm
      obtain ⟨Y, y1, y2, y3, y4⟩ := fm_odds_eq hSH hSR hn hh (by rw [hS]; exact eL) hL5 hSm
      rw [hS] at y2 y3 y4
      have fx1 := fx_above_eq hH hRi hn hh eL hL5 q1 hmx
      have fx2 := fx_below_eq hH hRi hn hh eL hL5 hmx
      rw [eb] at fx1 fx2
      have gp : 0 < Nat.gcd (zA (M.1 1) (M.1 6) h L t) (zB (M.1 1) (M.1 6) h L t) := Nat.gcd_pos_of_pos_right _ hB.1
      have dA := Nat.div_mul_cancel (Nat.gcd_dvd_left (zA (M.1 1) (M.1 6) h L t) (zB (M.1 1) (M.1 6) h L t))
      have dB := Nat.div_mul_cancel (Nat.gcd_dvd_right (zA (M.1 1) (M.1 6) h L t) (zB (M.1 1) (M.1 6) h L t))
      have lA := Nat.div_le_self (zA (M.1 1) (M.1 6) h L t) (Nat.gcd (zA (M.1 1) (M.1 6) h L t) (zB (M.1 1) (M.1 6) h L t))
      have lB := Nat.div_le_self (zB (M.1 1) (M.1 6) h L t) (Nat.gcd (zA (M.1 1) (M.1 6) h L t) (zB (M.1 1) (M.1 6) h L t))
      revert y3 y4 fx1 fx2 hA hB gp dA dB lA lB
      have hz : zA (M.1 1) (M.1 6) h L t = 0 → zB (M.1 1) (M.1 6) h L t = 1 := fun q => by unfold zB; rw [if_pos q]
      revert hz
      generalize zA (M.1 1) (M.1 6) h L t = A
      generalize zB (M.1 1) (M.1 6) h L t = B
      generalize Nat.gcd A B = g
      generalize ea : A / g = a
      generalize eb' : B / g = b
      intro hz hA hB y3 y4 fx1 fx2 gp dA dB lA lB
      obtain ⟨c1, c2⟩ := zcr dA.symm dB.symm gp pB pd hcr
      have m1 : A * bB < 2 ^ 63 := Nat.lt_of_le_of_lt (Nat.mul_le_mul hA (Nat.le_of_lt bb)) (by omega)
      have m2 : bA * B < 2 ^ 63 := Nat.lt_of_le_of_lt (Nat.mul_le_mul ba (Nat.le_of_lt hB.2)) (by omega)
      have m3 : a * dn < 2 ^ 63 := Nat.lt_of_le_of_lt (Nat.mul_le_mul (show a ≤ 59049 by omega) (Nat.le_of_lt bd)) (by omega)
      have m4 : up * b < 2 ^ 63 := Nat.lt_of_le_of_lt (Nat.mul_le_mul bu (show b ≤ 2 ^ 31 by omega)) (by omega)
      have pb : 0 < b := Nat.pos_of_ne_zero (fun q => by rw [q] at dB; omega)
      have stepX : ∀ j : Int32 → Int32 → zSt → Option (Int32 × zSt), fx_Rises_likeliest_L15 w j (f + 1) r ap (lN bA) (lN bB) (nI h) X = if bA * B < A * bB then fx_Rises_likeliest_L15 w j f (nI h) 1 (lN A) (lN B) (nI (h + 1)) X else if A * bB = bA * B then fx_Rises_likeliest_L15 w j f r 0 (lN bA) (lN bB) (nI (h + 1)) X else fx_Rises_likeliest_L15 w j f r ap (lN bA) (lN bB) (nI (h + 1)) X := fun j => by
        rw [fx_Rises_likeliest_L15, ex, if_neg (nI_ge hh (by omega)), fx1, zbd_s, fx2, zbd_s, lN_mul, lN_mul, fj_cmp_eq m1 m2, zbd_s, nI_1]
        simp only [znm_q]
        rcases Nat.lt_trichotomy (A * bB) (bA * B) with q | q | q
        · rw [if_pos q, if_neg (show ¬ bA * B < A * bB by omega), if_neg (show ¬ A * bB = bA * B by omega), if_pos (show (-1 : Int32) ≤ 0 by decide), if_neg (show ¬ (0 : Int32) < -1 by decide), if_neg (show ¬ (0 : Int32) ≤ -1 by decide)]
          rcases hap with rfl | rfl
          · rw [if_pos rfl]
          · rw [if_neg (by decide)]
        · rw [if_neg (show ¬ A * bB < bA * B by omega), if_pos q, if_neg (show ¬ bA * B < A * bB by omega), if_pos q, if_pos (show (0 : Int32) ≤ 0 by decide), if_neg (show ¬ (0 : Int32) < 0 by decide), if_pos (show (0 : Int32) ≤ 0 by decide)]
          rcases hap with rfl | rfl
          · rw [if_pos rfl]
          · rw [if_neg (by decide)]
        · rw [if_neg (show ¬ A * bB < bA * B by omega), if_neg (show ¬ A * bB = bA * B by omega), if_pos q, if_neg (show ¬ (1 : Int32) ≤ 0 by decide), if_pos (show (0 : Int32) < 1 by decide)]
      have stepM : ∀ j : Int32 → Int32 → zSt → Option (Int32 × zSt), fm_whose_L36 a1 (nI t) j (f + 1) r ap (lN up) (lN dn) (nI h) S = if a = 0 then fm_whose_L36 a1 (nI t) j f r ap (lN up) (lN dn) (nI (h + 1)) Y else if up * b < a * dn then fm_whose_L36 a1 (nI t) j f (nI h) 1 (lN a) (lN b) (nI (h + 1)) Y else if a * dn = up * b then fm_whose_L36 a1 (nI t) j f r 0 (lN a) (lN b) (nI (h + 1)) Y else fm_whose_L36 a1 (nI t) j f r ap (lN up) (lN dn) (nI (h + 1)) Y := fun j => by
        rw [fm_whose_L36, hS, em, if_neg (nI_ge hh (by omega)), y1, zbd_s]
        simp only [znm_q]
        rw [y3, y4, lg_lN0 (by omega), lN_mul, lN_mul, lg_lN m3 m4, nI_1]
        by_cases a0 : a = 0
        · rw [if_pos a0, if_pos rfl, if_pos a0]
        rw [if_neg a0, if_neg (show ¬ (1 : Int32) = 0 by decide), if_neg a0]
        rcases Nat.lt_trichotomy (a * dn) (up * b) with q | q | q
        · rw [if_pos q, if_neg (show ¬ up * b < a * dn by omega), if_neg (show ¬ a * dn = up * b by omega), if_neg (show ¬ (0 : Int32) ≤ -1 by decide)]
        · rw [if_neg (show ¬ a * dn < up * b by omega), if_pos q, if_neg (show ¬ up * b < a * dn by omega), if_pos q, if_pos (show (0 : Int32) ≤ 0 by decide), if_pos trivial, if_pos (show (0 : Int32) ≤ 0 by decide)]
        · rw [if_neg (show ¬ a * dn < up * b by omega), if_neg (show ¬ a * dn = up * b by omega), if_pos q, if_pos (show (0 : Int32) ≤ 1 by decide), if_neg (show ¬ (1 : Int32) ≤ 0 by decide), if_neg (show ¬ (1 : Int32) = 0 by decide)]
      rcases Nat.lt_trichotomy (A * bB) (bA * B) with q | q | q
      · have q' : a * dn < up * b := c1.mp q
        obtain ⟨r', ap', Z, z1, z2, z3, z4⟩ := ih (h + 1) bA bB up dn r ap Y (by omega) (by omega) y2 hap pB pd bb bd ba bu hcr h0
        refine ⟨r', ap', Z, z1, z2, fun j => ?_, fun j => ?_⟩
        · rw [stepX j, if_neg (by omega), if_neg (by omega)]; exact z3 j
        · rw [stepM j]
          by_cases a0 : a = 0
          · rw [if_pos a0]; exact z4 j
          · rw [if_neg a0, if_neg (by omega), if_neg (by omega)]; exact z4 j
      · have q' : a * dn = up * b := c2.mp q
        by_cases a0 : a = 0
        · have u0 : up = 0 := by
            rw [a0, Nat.zero_mul] at q'
            rcases Nat.mul_eq_zero.mp q'.symm with k | k
            · exact k
            · omega
          have b0 : bA = 0 := by
            rw [u0, Nat.zero_mul] at hcr
            rcases Nat.mul_eq_zero.mp hcr.symm with k | k
            · exact k
            · omega
          obtain ⟨r', ap', Z, z1, z2, z3, z4⟩ := ih (h + 1) bA bB up dn r ap Y (by omega) (by omega) y2 hap pB pd bb bd ba bu hcr h0
          refine ⟨r', ap', Z, z1, z2, fun j => ?_, fun j => ?_⟩
          · rw [stepX j, if_neg (by omega), if_pos q, ← h0 b0]; exact z3 j
          · rw [stepM j, if_pos a0]; exact z4 j
        · have hc2 : a * bB = bA * b := by
            have : a * bB * g = bA * b * g := by
              rw [show a * bB * g = a * g * bB by simp only [Nat.mul_assoc, Nat.mul_comm, Nat.mul_left_comm], dA, q, Nat.mul_assoc, dB]
            exact Nat.mul_right_cancel gp this
          obtain ⟨r', ap', Z, z1, z2, z3, z4⟩ := ih (h + 1) bA bB a b r 0 Y (by omega) (by omega) y2 (Or.inl rfl) pB pb bb (by omega) ba (by omega) hc2 (fun _ => rfl)
          refine ⟨r', ap', Z, z1, z2, fun j => ?_, fun j => ?_⟩
          · rw [stepX j, if_neg (by omega), if_pos q]; exact z3 j
          · rw [stepM j, if_neg a0, if_neg (by omega), if_pos q']; exact z4 j
      · have q' : up * b < a * dn := by
          have n1 : ¬ a * dn < up * b := fun k => by have := c1.mpr k; omega
          have n2 : ¬ a * dn = up * b := fun k => by have := c2.mpr k; omega
          omega
        have a0 : ¬ a = 0 := fun k => by rw [k, Nat.zero_mul] at q'; omega
        obtain ⟨r', ap', Z, z1, z2, z3, z4⟩ := ih (h + 1) A B a b (nI h) 1 Y (by omega) (by omega) y2 (Or.inr rfl) hB.1 pb hB.2 (by omega) hA (by omega) (by rw [← dA, ← dB]; simp only [Nat.mul_assoc, Nat.mul_comm, Nat.mul_left_comm]) (fun k => by rw [k] at q; simp at q)
        refine ⟨r', ap', Z, z1, z2, fun j => ?_, fun j => ?_⟩
        · rw [stepX j, if_pos q]; exact z3 j
        · rw [stepM j, if_neg a0, if_pos q']; exact z4 j
  exact key zFU 0 0 1 0 1 (-1) 0 M (by omega) (by unfold zFU; omega) rfl (Or.inl rfl) (by omega) (by omega) (by omega) (by omega) (by omega) (by omega) rfl (fun _ => rfl)
section ops15
variable {RR : (Nat → Int32) → Int32 → Int32 → (Nat → Int32) → Prop}
theorem zp_whose (hRR : zRok RR) : zo_whose (zInv RR) := by
  intro X M hI a1
  obtain ⟨t, n, m, c, o, hT, hF, hC, hU, hK⟩ := id hI
  obtain ⟨hH, hTi, hS, hR, hL, hRi⟩ := id hC
  obtain ⟨q1, q2, q3, q4, q5⟩ := hT
  have hn : n ≤ 9 := hH.2.2.1
  have eb : X.1 2 = M.1 6 := funext q4
  have q5x : ∀ k, 0 ≤ (X.1 2 k).toInt ∧ (X.1 2 k).toInt ≤ 255 := by rw [eb]; exact q5
  have inv : ∀ Y : zSt, Y.1 = (zpI M 0 12 0).1 → zInv RR (zpI X 1 1 0) Y := fun Y hY => zI_t0 hRR (fun q a b => zI_ne a) (fun _ _ => rfl) zI_at (fun q hq => by rw [hY]; exact zI_ne (by omega)) (fun k hk => by rw [hY]; exact zI_nk (by omega)) (by rw [hY]; exact zI_at) hI
  unfold fx_whose fm_whose fx_Rises_likeliest
  simp only [znm_q]
  by_cases hm : zMk (M.1 6) t
  rotate_left 1
  · rw [fx_mark_n q1 q3 q5x (by rw [eb]; exact hm), fm_mark_n q2 q3 hm, zbd_s, z_i0, zbd_s, if_pos rfl]
    exact ⟨_, _, _, rfl, rfl, inv _ rfl⟩
  have hmx : zMk (X.1 2) t := by rw [eb]; exact hm
  have tn : ¬ nI t = -1 := fun q => by
    have := congrArg Int32.toInt q
    rw [nI_toInt (by omega), show (-1 : Int32).toInt = -1 from by decide] at this
    omega
  have e1 : (zpI M 0 12 0).1 1 = M.1 1 := zI_ne (by omega)
  have e6 : (zpI M 0 12 0).1 6 = M.1 6 := zI_ne (by omega)
  rw [fx_mark_y q1 q5x hmx, fm_mark_y q2 hm, zbd_s, z_i1, zbd_s, if_neg tn]
  by_cases hw : a1 < 0 ∨ (1 : Int32) < a1
  · have w0 : ¬ a1 = 0 := fun e => by rw [e] at hw; exact absurd hw (by decide)
    have w1 : ¬ a1 = 1 := fun e => by rw [e] at hw; exact absurd hw (by decide)
    rw [if_neg w0, if_neg w1, fm_isIn_lo hw, zbd_s, z_i0]
    exact ⟨_, _, _, rfl, rfl, inv _ rfl⟩
  rw [fm_isIn_in (fun q => hw (Or.inl q)) (fun q => hw (Or.inr q)), zbd_s, z_i1]
  rcases z01 hw with rfl | rfl
  · obtain ⟨r, ap, Y, h1, h2, h3, h4⟩ := zwho_eq (M := zpI M 0 12 0) (by rw [e1]; exact hH) (by rw [e1]; exact hRi) q1 (by rw [e6]; exact eb) (by rw [e6]; exact hm) 0 0
    rw [if_pos rfl, if_neg (show ¬ (0 : Int32) = 1 by decide), h3, h4]
    simp only [if_true, zbd_s]
    exact ⟨_, _, _, rfl, rfl, inv _ h2⟩
  · obtain ⟨r, ap, Y, h1, h2, h3, h4⟩ := zwho_eq (M := zpI M 0 12 0) (by rw [e1]; exact hH) (by rw [e1]; exact hRi) q1 (by rw [e6]; exact eb) (by rw [e6]; exact hm) 1 1
    rw [if_neg (show ¬ (1 : Int32) = 0 by decide), if_pos rfl, if_pos rfl, h3, h4, if_neg (show ¬ (1 : Int32) = 0 by decide), if_neg (show ¬ (1 : Int32) = 0 by decide)]
    rcases h1 with rfl | rfl
    · rw [if_pos rfl, if_pos rfl, zbd_s]
      exact ⟨_, _, _, rfl, rfl, inv _ h2⟩
    · rw [if_neg (show ¬ (1 : Int32) = 0 by decide), if_neg (show ¬ (1 : Int32) = 0 by decide), zbd_s]
      exact ⟨_, _, _, rfl, rfl, inv _ h2⟩
end ops15
