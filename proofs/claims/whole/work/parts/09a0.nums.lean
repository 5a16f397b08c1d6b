/-! from COUNTS.to-paste: sums and products without overflow -/
theorem fb_rng (x : Int32) : -2147483648 ≤ x.toInt ∧ x.toInt < 2147483648 := by
  have h1 := Int32.le_toInt x
  have h2 := Int32.toInt_lt x
  omega
theorem fb_bmod {z : Int} (h1 : -2147483648 ≤ z) (h2 : z < 2147483648) : z.bmod (2 ^ 32) = z := by
  rw [Int.bmod_eq_of_le (by omega) (by omega)]
theorem fb_addI {x y : Int32} (h1 : -2147483648 ≤ x.toInt + y.toInt) (h2 : x.toInt + y.toInt < 2147483648) : (x + y).toInt = x.toInt + y.toInt := by
  rw [Int32.toInt_add, fb_bmod h1 h2]
theorem fb_subI {x y : Int32} (h1 : -2147483648 ≤ x.toInt - y.toInt) (h2 : x.toInt - y.toInt < 2147483648) : (x - y).toInt = x.toInt - y.toInt := by
  rw [Int32.toInt_sub, fb_bmod h1 h2]
theorem fb_mulI {x y : Int32} (h1 : -2147483648 ≤ x.toInt * y.toInt) (h2 : x.toInt * y.toInt < 2147483648) : (x * y).toInt = x.toInt * y.toInt := by
  rw [Int32.toInt_mul, fb_bmod h1 h2]
theorem fb_negI {x : Int32} (h : x.toInt ≠ -2147483648) : (-x).toInt = -x.toInt := by
  have := fb_rng x
  rw [Int32.toInt_neg, fb_bmod (by omega) (by omega)]
theorem z_i0 {α : Type} {A B : α} : (if (0 : Int32) = 0 then A else B) = A := if_pos rfl
theorem z_i1 {α : Type} {A B : α} : (if (1 : Int32) = 0 then A else B) = B := if_neg (by decide)
theorem z_lt1 {n : Nat} (hn : n < 2 ^ 30) (a : Int32) : nI n - 1 < a ↔ nI n ≤ a := by
  rw [Int32.lt_iff_toInt_lt, Int32.le_iff_toInt_le, show (1 : Int32) = nI 1 from rfl, pk_sub_toInt (by omega) (by omega), nI_toInt (by omega)]
  omega
theorem z_rng {v : Int32} {u : Nat} (hu : u < 2 ^ 30) (h1 : ¬ v < 0) (h2 : ¬ nI u < v) : ∃ k : Nat, k ≤ u ∧ v = nI k := by
  obtain ⟨j, hj, rfl⟩ := nI_of h1
  refine ⟨j, ?_, rfl⟩
  rw [nI_ltI (by omega) hj] at h2
  omega
theorem z_own (h k : Nat) : ((20 : Int32) + (16 : Int32) * nI h) + nI k = nI (20 + 16 * h + k) := by
  rw [show (16 : Int32) = nI 16 from rfl, show (20 : Int32) = nI 20 from rfl, pk_mul, nI_add, nI_add]
theorem z_deb (i j : Nat) : ((180 : Int32) + (9 : Int32) * nI i) + nI j = nI (180 + 9 * i + j) := by
  rw [show (9 : Int32) = nI 9 from rfl, show (180 : Int32) = nI 180 from rfl, pk_mul, nI_add, nI_add]
