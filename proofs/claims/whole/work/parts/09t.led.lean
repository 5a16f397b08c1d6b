/-! leavens: parts, and which is led from which -/
theorem zlN_bv (n : Nat) : (lN n).toBitVec = BitVec.ofNat 64 n := rfl
theorem zsh_k : ∀ s, s < 60 → BitVec.smod (((nI s).toInt64 &&& 63).toBitVec) 64 = BitVec.ofNat 64 s := by decide +kernel
theorem zsh (p : Nat) {s : Nat} (hs : s < 60) : lN p <<< ((nI s).toInt64 &&& 63) = lN (p * 2 ^ s) := by
  apply Int64.toBitVec_inj.mp
  show (lN p).toBitVec <<< (BitVec.smod (((nI s).toInt64 &&& 63).toBitVec) 64) = (lN (p * 2 ^ s)).toBitVec
  rw [zsh_k s hs, zlN_bv, zlN_bv]
  apply BitVec.eq_of_toNat_eq
  rw [BitVec.shiftLeft_eq', BitVec.toNat_shiftLeft, BitVec.toNat_ofNat, BitVec.toNat_ofNat, BitVec.toNat_ofNat, Nat.shiftLeft_eq, Nat.mod_eq_of_lt (a := s) (by omega), Nat.mod_mul_mod]
theorem zsh1 {s : Nat} (hs : s < 60) : (1 : Int64) <<< ((nI s).toInt64 &&& 63) = lN (2 ^ s) := by
  have := zsh 1 hs
  rw [Nat.one_mul] at this
  exact this
/-- bit b of the long y -/
def zbt (y : Int64) (b : Nat) : Bool := y.toBitVec.getLsbD b
theorem zbt_k : ∀ b, b < 60 → ((((nI b).toInt64.toUInt64 &&& Int64.toUInt64 63)).toBitVec % 64).toNat = b := by decide +kernel
theorem zbt_s (y : Int64) {b : Nat} (hb : b < 60) : (((y.toUInt64 >>> ((nI b).toInt64.toUInt64 &&& Int64.toUInt64 63)).toInt64) &&& (1 : Int64)) = if zbt y b then 1 else 0 := by
  apply Int64.toBitVec_inj.mp
  have e1 : (((y.toUInt64 >>> ((nI b).toInt64.toUInt64 &&& Int64.toUInt64 63)).toInt64) &&& (1 : Int64)).toBitVec = (y.toBitVec >>> b) &&& 1#64 := by
    show (y.toBitVec >>> (((nI b).toInt64.toUInt64 &&& Int64.toUInt64 63).toBitVec % 64)) &&& 1#64 = _
    rw [BitVec.ushiftRight_eq', zbt_k b hb]
  rw [e1]
  unfold zbt
  apply BitVec.eq_of_getLsbD_eq
  intro i hi
  rw [BitVec.getLsbD_and, BitVec.getLsbD_ushiftRight]
  by_cases h : i = 0
  · subst h
    rw [Nat.add_zero]
    cases y.toBitVec.getLsbD b <;> rfl
  · have : (1#64 : BitVec 64).getLsbD i = false := by
      rw [BitVec.getLsbD_one]; simp [h]
    rw [this, Bool.and_false]
    cases y.toBitVec.getLsbD b
    · simp
    · simp [h]
theorem zbt_or (x y : Int64) (b : Nat) : zbt (x ||| y) b = (zbt x b || zbt y b) := by
  unfold zbt
  rw [Int64.toBitVec_or, BitVec.getLsbD_or]
theorem zbt_1 {l b : Nat} (hl : l < 60) (hb : b < 60) : zbt ((1 : Int64) <<< ((nI l).toInt64 &&& 63)) b = decide (b = l) := by
  unfold zbt
  rw [zsh1 hl, zlN_bv, BitVec.getLsbD_ofNat, Nat.testBit_two_pow]
  by_cases h : b = l
  · subst h
    simp
    omega
  · rw [show decide (l = b) = false from decide_eq_false (fun q => h q.symm), show decide (b = l) = false from decide_eq_false h, Bool.and_false]
theorem lg_01 : lg_cmp 0 0 = 0 := by decide
theorem lg_11 : ¬ lg_cmp 1 0 = 0 := by decide
/-- ages and parts, as numbers -/
def zg (a : Nat → Int32) (l : Nat) : Nat := (a (343 + 4 * l)).toNatClampNeg
def zu (a : Nat → Int32) (l : Nat) : Nat := (a (340 + 4 * l)).toNatClampNeg
def zv (a : Nat → Int32) (l : Nat) : Nat := (a (341 + 4 * l)).toNatClampNeg
def zq (a : Nat → Int32) (fr l : Nat) : Nat :=
  if l = fr then 2 ^ zg a l else if a (340 + 4 * l) = -1 then 0 else
  if h : zu a l < l ∧ zv a l < l then zq a fr (zu a l) * 2 ^ (zg a l - 1 - zg a (zu a l)) + zq a fr (zv a l) * 2 ^ (zg a l - 1 - zg a (zv a l)) else 0
termination_by l
decreasing_by
  · exact h.1
  · exact h.2
/-- what the relation says of a leaven -/
theorem rL_of {x : Nat → Nat → Int32} {y : Nat → Nat → Int64} {B : Nat} {a : Nat → Int32} {m n : Nat} (H : rL x y B a m n) (l : Nat) (hl : l < m) : a (343 + 4 * l) = nI (zg a l) ∧ zg a l ≤ 30 ∧
    ((a (340 + 4 * l) = -1 ∧ zg a l = 0 ∧ (∃ h : Nat, h < 9 ∧ a (342 + 4 * l) = nI h) ∧ ∀ b, b < 60 → zbt (y (B + 24) l) b = decide (b = l)) ∨
     (¬ a (340 + 4 * l) = -1 ∧ a (342 + 4 * l) = -1 ∧ zu a l < l ∧ zv a l < l ∧ a (340 + 4 * l) = nI (zu a l) ∧ a (341 + 4 * l) = nI (zv a l) ∧ zg a l = 1 + max (zg a (zu a l)) (zg a (zv a l)) ∧ ∀ b, b < 60 → zbt (y (B + 24) l) b = (zbt (y (B + 24) (zu a l)) b || zbt (y (B + 24) (zv a l)) b || decide (b = l)))) := by
  have hm : m ≤ 60 := H.2.2.1
  rcases H.2.2.2.2 l hl with ⟨q1, q2, q3, q4, q5⟩ | ⟨q0, i, j, u, v, q1, q2, q3, q4, q5, q6, q7, q8, q9⟩
  · have eg : zg a l = 0 := by unfold zg; rw [q3]; rfl
    refine ⟨by rw [eg, q3]; rfl, by omega, Or.inl ⟨q1, eg, q4, fun b hb => ?_⟩⟩
    rw [q5, zbt_1 (by omega) hb]
  · have eu : zu a l = i := by unfold zu; rw [q3, nI_clamp (by omega)]
    have ev : zv a l = j := by unfold zv; rw [q4, nI_clamp (by omega)]
    have hu31 : u ≤ 30 := by omega
    have g1 : zg a i = u := by unfold zg; rw [q5, nI_clamp (by omega)]
    have g2 : zg a j = v := by unfold zg; rw [q6, nI_clamp (by omega)]
    have eg : zg a l = 1 + max u v := by unfold zg; rw [q7, nI_clamp (by omega)]
    refine ⟨by rw [eg]; exact q7, by omega, Or.inr ⟨fun q => ?_, q0, by omega, by omega, by rw [eu]; exact q3, by rw [ev]; exact q4, by rw [eu, ev, g1, g2]; exact eg, fun b hb => ?_⟩⟩
    · rw [q3] at q
      have := congrArg Int32.toInt q
      rw [nI_toInt (by omega), show (-1 : Int32).toInt = -1 from by decide] at this
      omega
    · rw [q9, zbt_or, zbt_or, zbt_1 (by omega) hb, eu, ev]
theorem zq_le {x : Nat → Nat → Int32} {y : Nat → Nat → Int64} {B : Nat} {a : Nat → Int32} {m n : Nat} (H : rL x y B a m n) (fr : Nat) : ∀ k l, l < k → l < m → zq a fr l ≤ 2 ^ zg a l := by
  intro k
  induction k with
  | zero => intro l h; omega
  | succ k ih =>
    intro l hlk hl
    rw [zq]
    by_cases e : l = fr
    · rw [if_pos e]; exact Nat.le_refl _
    rw [if_neg e]
    rcases (rL_of H l hl).2.2 with ⟨q1, q2, _⟩ | ⟨q1, _, q2, q3, _, _, q4, _⟩
    · rw [if_pos q1]; exact Nat.zero_le _
    · rw [if_neg q1, dif_pos ⟨q2, q3⟩]
      have h1 := Nat.mul_le_mul_right (2 ^ (zg a l - 1 - zg a (zu a l))) (ih (zu a l) (by omega) (by omega))
      have h2 := Nat.mul_le_mul_right (2 ^ (zg a l - 1 - zg a (zv a l))) (ih (zv a l) (by omega) (by omega))
      rw [← Nat.pow_add, show zg a (zu a l) + (zg a l - 1 - zg a (zu a l)) = zg a l - 1 by omega] at h1
      rw [← Nat.pow_add, show zg a (zv a l) + (zg a l - 1 - zg a (zv a l)) = zg a l - 1 by omega] at h2
      have : 2 ^ zg a l = 2 ^ (zg a l - 1) + 2 ^ (zg a l - 1) := by
        rw [← Nat.two_mul, ← Nat.pow_succ', show (zg a l - 1).succ = zg a l by omega]
      omega
theorem zq_bit {x : Nat → Nat → Int32} {y : Nat → Nat → Int64} {B : Nat} {a : Nat → Int32} {m n : Nat} (H : rL x y B a m n) (b : Nat) (hb : b < 60) : ∀ k l, l < k → l < m → (zbt (y (B + 24) l) b = true ↔ 0 < zq a b l) := by
  intro k
  induction k with
  | zero => intro l h; omega
  | succ k ih =>
    intro l hlk hl
    rw [zq]
    rcases (rL_of H l hl).2.2 with ⟨q1, q2, _, q3⟩ | ⟨q1, _, q2, q3, _, _, q4, q5⟩
    · rw [q3 b hb]
      by_cases e : l = b
      · rw [if_pos e]
        simp [e]
        exact Nat.pow_pos (by omega)
      · rw [if_neg e, if_pos q1]
        simp
        omega
    · rw [q5 b hb]
      by_cases e : l = b
      · rw [if_pos e]
        simp [e]
        exact Nat.pow_pos (by omega)
      · rw [if_neg e, if_neg q1, dif_pos ⟨q2, q3⟩]
        have i1 := ih (zu a l) (by omega) (by omega)
        have i2 := ih (zv a l) (by omega) (by omega)
        have p1 : 0 < 2 ^ (zg a l - 1 - zg a (zu a l)) := Nat.pow_pos (by omega)
        have p2 : 0 < 2 ^ (zg a l - 1 - zg a (zv a l)) := Nat.pow_pos (by omega)
        have e2 : (zbt (y (B + 24) (zu a l)) b || zbt (y (B + 24) (zv a l)) b || decide (b = l)) = true ↔ (zbt (y (B + 24) (zu a l)) b = true ∨ zbt (y (B + 24) (zv a l)) b = true) := by
          rw [show decide (b = l) = false from by simp; omega, Bool.or_false, Bool.or_eq_true]
        rw [e2, i1, i2]
        constructor
        · intro h
          rcases h with h | h
          · have := Nat.mul_pos h p1; omega
          · have := Nat.mul_pos h p2; omega
        · intro h
          by_cases c : 0 < zq a b (zu a l)
          · exact Or.inl c
          · refine Or.inr (Nat.pos_of_ne_zero (fun c2 => ?_))
            rw [show zq a b (zu a l) = 0 by omega, c2] at h
            simp at h
/-- the reference lays the parts -/
theorem fm_parts_eq {x : Nat → Nat → Int32} {y : Nat → Nat → Int64} {B : Nat} {M : zSt} {m n fr : Nat} (H : rL x y B (M.1 1) m n) (hfr : fr < m) : ∃ Y : zSt, fm_laysParts M (nI fr) = some ((), Y) ∧ Y.1 = M.1 ∧ (∀ l, l < m → Y.2 16 l = lN (zq (M.1 1) fr l)) := by
  have hm : m ≤ 60 := H.2.2.1
  have hM : M.1 1 585 = nI m := H.2.1
  have key : ∀ (f i : Nat) (S : zSt), i ≤ m → m < i + f → S.1 = M.1 → (∀ l, l < i → S.2 16 l = lN (zq (M.1 1) fr l)) → ∃ Y : zSt, fm_laysParts_L2 (nI fr) f (nI i) S = some ((), Y) ∧ Y.1 = M.1 ∧ (∀ l, l < m → Y.2 16 l = lN (zq (M.1 1) fr l)) := by
    intro f
    induction f with
    | zero => intro i S a b; omega
    | succ f ih =>
      intro i S h1 h2 hS hP
      rw [fm_laysParts_L2, hS, hM]
      by_cases e : i = m
      · subst e
        rw [if_pos (nI_le (Nat.le_refl _) (by omega))]
        exact ⟨S, rfl, hS, hP⟩
      have hi : i < m := by omega
      obtain ⟨g1, g2, g3⟩ := rL_of H i hi
      have o0 : ∀ S' : zSt, S'.1 = M.1 → ∀ l, l < 60 → fm_ofLeaven S' (nI l) 0 = some (M.1 1 (340 + 4 * l), S') := fun S' h l hl => by
        rw [show (0 : Int32) = nI 0 from rfl, fm_ofL_eq hl (by omega), h]; rfl
      have o1 : ∀ S' : zSt, S'.1 = M.1 → ∀ l, l < 60 → fm_ofLeaven S' (nI l) 1 = some (M.1 1 (341 + 4 * l), S') := fun S' h l hl => by
        rw [show (1 : Int32) = nI 1 from rfl, fm_ofL_eq hl (by omega), h, show 340 + 4 * l + 1 = 341 + 4 * l by omega]
      have o3 : ∀ S' : zSt, S'.1 = M.1 → ∀ l, l < 60 → fm_ofLeaven S' (nI l) 3 = some (M.1 1 (343 + 4 * l), S') := fun S' h l hl => by
        rw [show (3 : Int32) = nI 3 from rfl, fm_ofL_eq hl (by omega), h, show 340 + 4 * l + 3 = 343 + 4 * l by omega]
      rw [if_neg (nI_ge hi (by omega)), o0 S hS i (by omega), zbd_s, o1 S hS i (by omega), zbd_s, o3 S hS i (by omega), zbd_s]
      simp only [znm_q]
      rw [zix_n (show i < 60 by omega) (by omega)]
      simp only [zck_t]
      rw [nI_clamp (n := i) (by omega), nI_1]
      have put : ∀ v : Int64, v = lN (zq (M.1 1) fr i) → ∀ S' : zSt, S'.1 = M.1 → (∀ l, l < i → S'.2 16 l = lN (zq (M.1 1) fr l)) → ∀ l, l < i + 1 → (zpL S' 16 i v).2 16 l = lN (zq (M.1 1) fr l) := fun v hv S' _ hS' l hl => by
        rw [zL_eq]
        by_cases c : l = i
        · subst c
          simp only [vp_updL, if_true]
          exact hv
        · simp only [vp_updL, if_neg c]
          exact hS' l (by omega)
      by_cases ef : i = fr
      · have e1 : nI i = nI fr := by rw [ef]
        rw [if_pos e1, if_pos e1]
        refine ih (i + 1) _ (by omega) (by omega) hS (put _ ?_ S hS hP)
        rw [zq, if_pos ef, g1, zsh1 (by omega)]
      · have e1 : ¬ nI i = nI fr := fun q => ef ((nI_eq (by omega) (by omega)).mp q)
        rw [if_neg e1, if_neg e1]
        rcases g3 with ⟨q1, q2, _⟩ | ⟨q1, _, q2, q3, q4, q5, q6, _⟩
        · rw [if_pos q1]
          refine ih (i + 1) _ (by omega) (by omega) hS (put _ ?_ S hS hP)
          rw [zq, if_neg ef, if_pos q1]
          rfl
        · rw [if_neg q1, q4, q5, zix_n (show zu (M.1 1) i < 60 by omega) (by omega), zck_t, o3 _ (by exact hS) _ (by omega), zbd_s, zix_n (show zv (M.1 1) i < 60 by omega) (by omega), zck_t, o3 _ (by exact hS) _ (by omega), zbd_s]
          have gu := (rL_of H (zu (M.1 1) i) (by omega)).1
          have gv := (rL_of H (zv (M.1 1) i) (by omega)).1
          have lu : zg (M.1 1) (zu (M.1 1) i) + 1 ≤ zg (M.1 1) i := by
            rw [q6]; have := Nat.le_max_left (zg (M.1 1) (zu (M.1 1) i)) (zg (M.1 1) (zv (M.1 1) i)); omega
          have lv : zg (M.1 1) (zv (M.1 1) i) + 1 ≤ zg (M.1 1) i := by
            rw [q6]; have := Nat.le_max_right (zg (M.1 1) (zu (M.1 1) i)) (zg (M.1 1) (zv (M.1 1) i)); omega
          clear q6
          have lo : ∀ l, l < i → (zpL S 16 i 0).2 16 l = lN (zq (M.1 1) fr l) := fun l hl => by
            rw [zL_eq]
            simp only [vp_updL, if_neg (show ¬ l = i by omega)]
            exact hP l hl
          rw [nI_clamp (n := zu (M.1 1) i) (by omega), nI_clamp (n := zv (M.1 1) i) (by omega), lo _ q2, lo _ q3, g1, gu, gv]
          refine ih (i + 1) _ (by omega) (by omega) hS (put _ ?_ _ hS lo)
          rw [show nI (zg (M.1 1) i) - 1 - nI (zg (M.1 1) (zu (M.1 1) i)) = nI (zg (M.1 1) i - 1 - zg (M.1 1) (zu (M.1 1) i)) from by rw [show (1 : Int32) = nI 1 from rfl, pk_sub (by omega), pk_sub (by omega)], show nI (zg (M.1 1) i) - 1 - nI (zg (M.1 1) (zv (M.1 1) i)) = nI (zg (M.1 1) i - 1 - zg (M.1 1) (zv (M.1 1) i)) from by rw [show (1 : Int32) = nI 1 from rfl, pk_sub (by omega), pk_sub (by omega)], zsh _ (by omega), zsh _ (by omega), lN_add]
          conv => rhs; rw [zq, if_neg ef, if_neg q1, dif_pos ⟨q2, q3⟩]
  unfold fm_laysParts
  rw [← nI_0]
  exact key zFU 0 M (by omega) (by unfold zFU; omega) rfl (fun l hl => by omega)
