/-! part -/
theorem fm_half_eq {a3 : Int32} {S : zSt} : ∀ (g f p : Nat), g ≤ 30 → 0 < p → p ≤ 2 ^ g → g < f → ∃ p' g' : Nat, p' % 2 = 1 ∧ g' ≤ g ∧ p = p' * 2 ^ (g - g') ∧ p' ≤ 2 ^ g' ∧ ∀ j : Int64 → Int64 → zSt → Option (Int32 × zSt), fm_part_L69 a3 j f (lN p) (lN (2 ^ g)) S = j (lN p') (lN (2 ^ g')) S := by
  intro g
  induction g with
  | zero =>
    intro f p hg hp hle hf
    obtain ⟨f, rfl⟩ : ∃ k, f = k + 1 := ⟨f - 1, by omega⟩
    obtain rfl : p = 1 := by omega
    refine ⟨1, 0, rfl, by omega, rfl, by omega, fun j => ?_⟩
    rw [fm_part_L69, if_neg (by decide)]
  | succ g ih =>
    intro f p hg hp hle hf
    obtain ⟨f, rfl⟩ : ∃ k, f = k + 1 := ⟨f - 1, by omega⟩
    have h30 : 2 ^ (g + 1) ≤ 2 ^ 30 := Nat.pow_le_pow_right (by omega) hg
    have hs : 2 ^ (g + 1) = 2 ^ g * 2 := Nat.pow_succ ..
    have hpos : 0 < 2 ^ g := Nat.pow_pos (by omega)
    have e2 : lN p - lN p / (2 : Int64) * (2 : Int64) = lN (p % 2) := pk_lRem (b := 2) (by omega) (by omega) (by omega)
    by_cases h : p % 2 = 0
    · obtain ⟨p', g', q1, q2, q3, q4, q5⟩ := ih f (p / 2) (by omega) (by omega) (by omega) (by omega)
      refine ⟨p', g', q1, by omega, ?_, q4, fun j => ?_⟩
      · rw [show g + 1 - g' = g - g' + 1 by omega, Nat.pow_succ, ← Nat.mul_assoc, ← q3]
        omega
      · have c1 : lg_cmp (lN (2 ^ (g + 1))) 1 = 1 := by
          rw [show (1 : Int64) = lN 1 from rfl, lg_lN (by omega) (by omega), if_neg (by omega), if_neg (by omega)]
        rw [fm_part_L69, e2, h, lg_lN0 (by omega), if_pos rfl, if_pos rfl, c1, if_neg (by decide), znm_q, znm_q, show lN p / (2 : Int64) = lN (p / 2) from pk_lDiv (b := 2) (by omega) (by omega) (by omega), show lN (2 ^ (g + 1)) / (2 : Int64) = lN (2 ^ g) from by
          rw [show (2 : Int64) = lN 2 from rfl, pk_lDiv (by omega) (by omega) (by omega), hs, Nat.mul_div_cancel _ (by omega)]]
        exact q5 j
    · refine ⟨p, g + 1, by omega, Nat.le_refl _, by rw [Nat.sub_self]; omega, hle, fun j => ?_⟩
      rw [fm_part_L69, e2, lg_lN0 (by omega), if_neg h, if_neg (by decide)]
theorem zgcd2 {p g : Nat} (hp : p % 2 = 1) (hg : g ≤ 30) : Nat.gcd (p * 2 ^ (30 - g)) (2 ^ 30) = 2 ^ (30 - g) := by
  have hc : Nat.gcd p (2 ^ g) = 1 := by
    have : Nat.Coprime p 2 := by
      unfold Nat.Coprime
      rw [Nat.gcd_comm, Nat.gcd_rec, hp]
      rfl
    exact Nat.Coprime.pow_right g this
  rw [show (2 : Nat) ^ 30 = 2 ^ g * 2 ^ (30 - g) by rw [← Nat.pow_add, show g + (30 - g) = 30 by omega], Nat.gcd_mul_right, hc, Nat.one_mul]
section ops13
variable {RR : (Nat → Int32) → Int32 → Int32 → (Nat → Int32) → Prop}
theorem zp_part (hRR : zRok RR) : zo_part (zInv RR) := by
  intro X M hI a1 a2 a3
  obtain ⟨t, n, m, c, o, hT, hF, hC, hU, hK⟩ := id hI
  obtain ⟨hH, hTi, hS, hR, hL, hRi⟩ := id hC
  have lx : X.1 22 0 = nI m := hL.1
  have lm : M.1 1 585 = nI m := hL.2.1
  have hm : m ≤ 60 := hL.2.2.1
  unfold fx_part fm_part
  simp only [znm_q]
  by_cases ho : a1 < 0 ∨ nI m ≤ a1
  · rw [fx_lhas_lo lx ho, fm_lhas_lo lm hm ho, zbd_s, z_i0, zbd_s, z_i0]
    exact ⟨_, _, _, rfl, rfl, hI⟩
  obtain ⟨l, hl, rfl⟩ := zpos (by omega) ho
  rw [fx_lhas_in lx (by omega) hl, fm_lhas_in lm hm hl, zbd_s, z_i1, zbd_s, z_i1]
  by_cases ho2 : a2 < 0 ∨ nI m ≤ a2
  · rw [fx_lhas_lo lx ho2, fm_lhas_lo lm hm ho2, zbd_s, z_i0, zbd_s, z_i0]
    exact ⟨_, _, _, rfl, rfl, hI⟩
  obtain ⟨fr, hfr, rfl⟩ := zpos (by omega) ho2
  have o0 : fm_ofLeaven M (nI fr) 0 = some (M.1 1 (340 + 4 * fr), M) := by
    rw [show (0 : Int32) = nI 0 from rfl, fm_ofL_eq (by omega) (by omega)]; rfl
  rw [fx_lhas_in lx (by omega) hfr, fm_lhas_in lm hm hfr, zbd_s, z_i1, zbd_s, z_i1, fx_isNew_eq (by omega), zbd_s, o0, zbd_s]
  have ow : X.1 24 fr = M.1 1 (342 + 4 * fr) := (hL.2.2.2.1 fr hfr).2.1
  rw [ow]
  rcases (rL_of hL fr hfr).2.2 with ⟨q1, _, ⟨h, hh, q3⟩, _⟩ | ⟨q1, q2, _⟩
  rotate_left 1
  · rw [if_pos q2, z_i0, if_neg q1]
    exact ⟨_, _, _, rfl, rfl, hI⟩
  have ne : ¬ M.1 1 (342 + 4 * fr) = -1 := fun q => by
    rw [q3] at q
    have := congrArg Int32.toInt q
    rw [nI_toInt (by omega), show (-1 : Int32).toInt = -1 from by decide] at this
    omega
  rw [if_neg ne, z_i1, if_pos q1]
  by_cases hw : a3 < 0 ∨ (1 : Int32) < a3
  · have w0 : ¬ a3 = 0 := fun e => by rw [e] at hw; exact absurd hw (by decide)
    have w1 : ¬ a3 = 1 := fun e => by rw [e] at hw; exact absurd hw (by decide)
    rw [if_neg w0, if_neg w1, fm_isIn_lo hw, zbd_s, z_i0]
    exact ⟨_, _, _, rfl, rfl, hI⟩
  obtain ⟨Y, y1, y2, y3⟩ := fm_parts_eq hL hfr
  obtain ⟨V, v1, v2, v3⟩ := fx_share_eq hL hfr q1 hl
  obtain ⟨g1, g2, _⟩ := rL_of hL l hl
  have ql := zq_le hL fr (l + 1) l (by omega) hl
  have h30 : 2 ^ zg (M.1 1) l ≤ 2 ^ 30 := Nat.pow_le_pow_right (by omega) g2
  have o3 : fm_ofLeaven Y (nI l) 3 = some (nI (zg (M.1 1) l), Y) := by
    rw [show (3 : Int32) = nI 3 from rfl, fm_ofL_eq (by omega) (by omega), y2, show 340 + 4 * l + 3 = 343 + 4 * l by omega, g1]
  have inv : zInv RR V Y := zI_m1 hRR y2 (zI_same hRR (fun q _ _ => by rw [v2]) ⟨v3 _ (by omega), v3 _ (by omega)⟩ ⟨by rw [v2], by rw [v2], by rw [v2], by rw [v2]⟩ (fun _ _ => rfl) (fun _ _ => rfl) (Or.inl ⟨by rw [v2], rfl⟩) hI)
  have bs : zq (M.1 1) fr l * 2 ^ (30 - zg (M.1 1) l) ≤ 2 ^ 30 := by
    have := Nat.mul_le_mul_right (2 ^ (30 - zg (M.1 1) l)) ql
    rw [← Nat.pow_add, show zg (M.1 1) l + (30 - zg (M.1 1) l) = 30 by omega] at this
    exact this
  rw [v1, zbd_s, show (1073741824 : Int64) = lN (2 ^ 30) from rfl, fx_gcd (by omega) (by omega), zbd_s, fm_isIn_in (fun q => hw (Or.inl q)) (fun q => hw (Or.inr q)), zbd_s, z_i1, y1, zbd_s, zix_n (show l < 60 by omega) (by omega), zck_t, nI_clamp (n := l) (by omega), y3 l hl, o3, zbd_s, lg_lN0 (zq_63 hL fr l hl), zsh1 (by omega)]
  have w01 : a3 = 0 ∨ a3 = 1 := by
    have h1 : ¬ a3.toInt < 0 := fun q => hw (Or.inl (by rw [zlt]; exact q))
    have h2 : ¬ (1 : Int) < a3.toInt := fun q => hw (Or.inr (by rw [zlt]; exact q))
    have : a3.toInt = 0 ∨ a3.toInt = 1 := by omega
    rcases this with e | e
    · exact Or.inl (Int32.toInt_inj.mp e)
    · exact Or.inr (Int32.toInt_inj.mp e)
  by_cases hz : zq (M.1 1) fr l = 0
  · rw [hz, Nat.zero_mul, Nat.gcd_zero_left, if_pos rfl, if_pos rfl]
    have c1 : lg_cmp (lN (2 ^ 30)) 0 = 1 := by rw [lg_lN0 (by omega), if_neg (by omega)]
    have nz : znzL (lN (2 ^ 30)) = true := by decide
    rw [c1, if_pos (show (0 : Int32) < 1 by decide), nz]
    simp only [zck_t]
    rw [pk_lDiv (by omega) (by omega) (by omega), pk_lDiv (by omega) (by omega) (by omega), lN_i, lN_i]
    rcases w01 with rfl | rfl
    · rw [if_pos rfl]
      exact ⟨_, _, _, rfl, rfl, inv⟩
    · rw [if_neg (show ¬ (1 : Int32) = 0 by decide), if_pos rfl]
      exact ⟨_, _, _, rfl, rfl, inv⟩
  · obtain ⟨p', g', k1, k2, k3, k4, k5⟩ := fm_half_eq (a3 := a3) (S := Y) (zg (M.1 1) l) zFU (zq (M.1 1) fr l) g2 (by omega) ql (by unfold zFU; omega)
    have eA : zq (M.1 1) fr l * 2 ^ (30 - zg (M.1 1) l) = p' * 2 ^ (30 - g') := by
      rw [k3, Nat.mul_assoc, ← Nat.pow_add, show zg (M.1 1) l - g' + (30 - zg (M.1 1) l) = 30 - g' by omega]
    have pg : 0 < 2 ^ (30 - g') := Nat.pow_pos (by omega)
    have pg2 : 2 ^ (30 - g') ≤ 2 ^ 30 := Nat.pow_le_pow_right (by omega) (by omega)
    have pe : 2 ^ 30 = 2 ^ g' * 2 ^ (30 - g') := by rw [← Nat.pow_add, show g' + (30 - g') = 30 by omega]
    have c1 : lg_cmp (lN (2 ^ (30 - g'))) 0 = 1 := by rw [lg_lN0 (by omega), if_neg (by omega)]
    have nz : znzL (lN (2 ^ (30 - g'))) = true := by
      unfold znzL
      exact decide_eq_true (fun q => by have := (pk_lEQ (a := 2 ^ (30 - g')) (b := 0) (by omega) (by omega)).mp q; omega)
    rw [eA] at bs
    rw [if_neg hz, if_neg (show ¬ (1 : Int32) = 0 by decide), eA, zgcd2 k1 (by omega), c1, if_pos (show (0 : Int32) < 1 by decide), nz, k5]
    simp only [zck_t]
    rw [pk_lDiv (a := p' * 2 ^ (30 - g')) (by omega) pg (by omega), pk_lDiv (a := 2 ^ 30) (by omega) pg (by omega), Nat.mul_div_cancel _ pg, show 2 ^ 30 / 2 ^ (30 - g') = 2 ^ g' from by rw [pe, Nat.mul_div_cancel _ pg]]
    rcases w01 with rfl | rfl
    · rw [if_pos rfl, if_pos rfl, if_pos rfl]
      exact ⟨_, _, _, rfl, rfl, inv⟩
    · rw [if_neg (show ¬ (1 : Int32) = 0 by decide), if_pos rfl, if_neg (show ¬ (1 : Int32) = 0 by decide), if_neg (show ¬ (1 : Int32) = 0 by decide)]
      exact ⟨_, _, _, rfl, rfl, inv⟩
end ops13
