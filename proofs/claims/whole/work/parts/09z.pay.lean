/-! payments -/
def zmx (f : Nat → Nat) : Nat → Nat
  | 0 => 0
  | k + 1 => max (zmx f k) (f k)
theorem zmx_le {f : Nat → Nat} {m : Nat} : ∀ k, (∀ i, i < k → f i ≤ m) → zmx f k ≤ m := by
  intro k
  induction k with
  | zero => intro _; exact Nat.zero_le _
  | succ k ih =>
    intro h
    unfold zmx
    exact Nat.max_le.mpr ⟨ih (fun i hi => h i (by omega)), h k (by omega)⟩
theorem zmx_ge {f : Nat → Nat} : ∀ k i, i < k → f i ≤ zmx f k := by
  intro k
  induction k with
  | zero => intro i h; omega
  | succ k ih =>
    intro i h
    unfold zmx
    by_cases e : i = k
    · subst e; exact Nat.le_max_right ..
    · exact Nat.le_trans (ih i (by omega)) (Nat.le_max_left ..)
theorem zmx_at {f : Nat → Nat} : ∀ k, 0 < k → ∃ i, i < k ∧ f i = zmx f k := by
  intro k
  induction k with
  | zero => intro h; omega
  | succ k ih =>
    intro _
    unfold zmx
    by_cases h : zmx f k ≤ f k
    · exact ⟨k, by omega, by rw [Nat.max_eq_right h]⟩
    · by_cases k0 : k = 0
      · subst k0
        exact ⟨0, by omega, by simp [zmx]⟩
      · obtain ⟨i, h1, h2⟩ := ih (by omega)
        exact ⟨i, by omega, by rw [Nat.max_eq_left (by omega)]; exact h2⟩
theorem zmx_c {f g : Nat → Nat} : ∀ k, (∀ i, i < k → f i = g i) → zmx f k = zmx g k := by
  intro k
  induction k with
  | zero => intro _; rfl
  | succ k ih =>
    intro h
    unfold zmx
    rw [ih (fun i hi => h i (by omega)), h k (by omega)]
def zls : List Int32 → Int32
  | [] => 0
  | x :: r => x + zls r
theorem zls_ap (a b : List Int32) : zls (a ++ b) = zls a + zls b := by
  induction a with
  | nil => simp [zls]
  | cons x r ih => simp only [List.cons_append, zls, ih, Int32.add_assoc]
theorem zls_mid (a b : List Int32) (x : Int32) : zls (a ++ x :: b) = zls (a ++ b) + x := by
  rw [zls_ap, zls_ap, zls]
  ac_rfl
def zFn : Nat → List Int32 → Nat
  | 0, _ => 0
  | n + 1, l => zmx (fun i => zFn n (l.eraseIdx i)) (n + 1) + (if zls l = 0 then 1 else 0)
def zF (l : List Int32) : Nat := zFn l.length l
theorem zFn_le : ∀ n l, zFn n l ≤ n := by
  intro n
  induction n with
  | zero => intro l; exact Nat.le_refl _
  | succ n ih =>
    intro l
    unfold zFn
    have := zmx_le (f := fun i => zFn n (l.eraseIdx i)) (m := n) (n + 1) (fun i _ => ih _)
    by_cases h : zls l = 0
    · rw [if_pos h]; omega
    · rw [if_neg h]; omega
theorem zF_eq (l : List Int32) (h : l ≠ []) : zF l = zmx (fun i => zF (l.eraseIdx i)) l.length + (if zls l = 0 then 1 else 0) := by
  unfold zF
  obtain ⟨n, hn⟩ : ∃ n, l.length = n + 1 := ⟨l.length - 1, by have := List.length_pos_iff.mpr h; omega⟩
  rw [hn, zFn]
  congr 1
  refine zmx_c _ (fun i hi => ?_)
  rw [List.length_eraseIdx_of_lt (by omega), hn]
  rfl
theorem zer_comm (l : List Int32) (i j : Nat) (h : i < j) : (l.eraseIdx j).eraseIdx i = (l.eraseIdx i).eraseIdx (j - 1) := by
  apply List.ext_getElem?
  intro k
  simp only [List.getElem?_eraseIdx]
  by_cases h1 : k < i
  · rw [if_pos h1, if_pos (by omega), if_pos (by omega), if_pos h1]
  · rw [if_neg h1]
    by_cases h2 : k + 1 < j
    · rw [if_pos h2, if_pos (by omega), if_neg h1]
    · rw [if_neg h2, if_neg (by omega), if_neg (by omega)]
theorem zls_er (l : List Int32) (j : Nat) (h : l[j]? = some 0) : zls (l.eraseIdx j) = zls l := by
  obtain ⟨hj, e⟩ := List.getElem?_eq_some_iff.mp h
  have : l = l.take j ++ 0 :: l.drop (j + 1) := by
    rw [← e, List.getElem_cons_drop, List.take_append_drop]
  conv => rhs; rw [this, zls_mid]
  rw [List.eraseIdx_eq_take_drop_succ, Int32.add_zero]
theorem zFn_0 : ∀ n l j, l.length = n + 1 → l[j]? = some 0 → zFn (n + 1) l = zFn n (l.eraseIdx j) + 1 := by
  intro n
  induction n with
  | zero =>
    intro l j hl hj
    obtain ⟨x, rfl⟩ := List.length_eq_one_iff.mp hl
    have : j = 0 := by
      have := (List.getElem?_eq_some_iff.mp hj).1
      simp at this
      omega
    subst this
    simp at hj
    subst hj
    decide
  | succ n ih =>
    intro l j hl hj
    have hjl : j < n + 2 := by have := (List.getElem?_eq_some_iff.mp hj).1; omega
    have hs := zls_er l j hj
    have hP : zFn (n + 1) (l.eraseIdx j) = zmx (fun i => zFn n ((l.eraseIdx j).eraseIdx i)) (n + 1) + (if zls l = 0 then 1 else 0) := by
      rw [zFn, hs]
    obtain ⟨i0, i1, i2⟩ := zmx_at (f := fun i => zFn n ((l.eraseIdx j).eraseIdx i)) (n + 1) (by omega)
    have val : ∀ i, i < n + 2 → i ≠ j → ∃ i', i' < n + 1 ∧ zFn (n + 1) (l.eraseIdx i) = zFn n ((l.eraseIdx j).eraseIdx i') + 1 ∧ (i < j → i' = i) ∧ (j < i → i' = i - 1) := by
      intro i hi hij
      have hle : (l.eraseIdx i).length = n + 1 := by rw [List.length_eraseIdx_of_lt (by omega), hl]; rfl
      rcases Nat.lt_or_gt_of_ne hij with c | c
      · refine ⟨i, by omega, ?_, fun _ => rfl, fun q => by omega⟩
        rw [ih (l.eraseIdx i) (j - 1) hle (by rw [List.getElem?_eraseIdx, if_neg (by omega), show j - 1 + 1 = j by omega]; exact hj), zer_comm l i j c]
      · refine ⟨i - 1, by omega, ?_, fun q => by omega, fun _ => rfl⟩
        rw [ih (l.eraseIdx i) j hle (by rw [List.getElem?_eraseIdx, if_pos c]; exact hj), zer_comm l j i c]
    have hz : zmx (fun i => zFn (n + 1) (l.eraseIdx i)) (n + 2) = zmx (fun i => zFn n ((l.eraseIdx j).eraseIdx i)) (n + 1) + 1 := by
      apply Nat.le_antisymm
      · refine zmx_le _ (fun i hi => ?_)
        by_cases c : i = j
        · subst c
          rw [hP]
          by_cases d : zls l = 0
          · rw [if_pos d]; exact Nat.le_refl _
          · rw [if_neg d]; exact Nat.le_succ _
        · obtain ⟨i', h1, h2, _⟩ := val i hi c
          rw [h2]
          exact Nat.succ_le_succ (zmx_ge (f := fun i => zFn n ((l.eraseIdx j).eraseIdx i)) (n + 1) i' h1)
      · rw [← i2]
        by_cases c : i0 < j
        · obtain ⟨i', h1, h2, h3, h4⟩ := val i0 (by omega) (by omega)
          obtain rfl := h3 c
          have := zmx_ge (f := fun i => zFn (n + 1) (l.eraseIdx i)) (n + 2) i' (by omega)
          rw [h2] at this
          exact this
        · obtain ⟨i', h1, h2, h3, h4⟩ := val (i0 + 1) (by omega) (by omega)
          have e : i' = i0 := by have := h4 (by omega); omega
          subst e
          have := zmx_ge (f := fun i => zFn (n + 1) (l.eraseIdx i)) (n + 2) (i' + 1) (by omega)
          rw [h2] at this
          exact this
    rw [zFn, hz, hP]
    omega
theorem zF_0 (p l : List Int32) : zF (p ++ 0 :: l) = zF (p ++ l) + 1 := by
  unfold zF
  rw [show (p ++ 0 :: l).length = (p ++ l).length + 1 by simp; omega, zFn_0 _ _ p.length (by simp; omega) (by simp)]
  rw [List.eraseIdx_append_of_length_le (Nat.le_refl _)]
  simp
theorem zF_fil (l : List Int32) : ∀ p, zF (p ++ l) + (l.filter (fun x => decide (x ≠ 0))).length = zF (p ++ l.filter (fun x => decide (x ≠ 0))) + l.length := by
  induction l with
  | nil => intro p; rfl
  | cons x r ih =>
    intro p
    by_cases h : x = 0
    · subst h
      rw [zF_0, List.filter_cons_of_neg (by simp)]
      have := ih p
      simp only [List.length_cons]
      omega
    · rw [List.filter_cons_of_pos (by simp [h])]
      have := ih (p ++ [x])
      rw [List.append_assoc, List.append_assoc] at this
      simp only [List.length_cons]
      simp only [List.singleton_append] at this
      omega
/-- the values of the bits i .. i + c - 1 that stand in s -/
def zsg (v : Nat → Int32) (s i : Nat) : Nat → List Int32
  | 0 => []
  | c + 1 => (if s.testBit i then [v i] else []) ++ zsg v s (i + 1) c
theorem zsg_ad (v : Nat → Int32) (s : Nat) : ∀ a i b, zsg v s i (a + b) = zsg v s i a ++ zsg v s (i + a) b := by
  intro a
  induction a with
  | zero => intro i b; simp [zsg]
  | succ a ih =>
    intro i b
    rw [show a + 1 + b = a + b + 1 by omega, zsg, zsg, ih (i + 1) b, List.append_assoc, show i + 1 + a = i + (a + 1) by omega]
theorem zsg_c {v w : Nat → Int32} {s t : Nat} : ∀ c i, (∀ k, i ≤ k → k < i + c → t.testBit k = s.testBit k ∧ (s.testBit k = true → w k = v k)) → zsg w t i c = zsg v s i c := by
  intro c
  induction c with
  | zero => intro i _; rfl
  | succ c ih =>
    intro i h
    rw [zsg, zsg, ih (i + 1) (fun k h1 h2 => h k (by omega) (by omega)), (h i (by omega) (by omega)).1]
    by_cases b : s.testBit i = true
    · rw [if_pos b, if_pos b, (h i (by omega) (by omega)).2 b]
    · rw [if_neg b, if_neg b]
theorem zsg_len (v : Nat → Int32) (s : Nat) : ∀ c i, (zsg v s i c).length ≤ c := by
  intro c
  induction c with
  | zero => intro i; exact Nat.le_refl _
  | succ c ih =>
    intro i
    rw [zsg, List.length_append]
    have := ih (i + 1)
    by_cases b : s.testBit i = true
    · rw [if_pos b]; simp only [List.length_singleton]; omega
    · rw [if_neg b]; simp only [List.length_nil]; omega
theorem zF_le (l : List Int32) : zF l ≤ l.length := zFn_le _ _
/-- s without its bit h -/
theorem zsg_rm {v : Nat → Int32} {s h n : Nat} (hh : h < n) (hb : s.testBit h = true) : zsg v (s ^^^ 2 ^ h) 0 n = (zsg v s 0 n).eraseIdx (zsg v s 0 h).length ∧ zsg v s 0 n = zsg v s 0 h ++ v h :: zsg v s (h + 1) (n - (h + 1)) := by
  have tb : ∀ k, k ≠ h → (s ^^^ 2 ^ h).testBit k = s.testBit k := fun k hk => by
    rw [Nat.testBit_xor, Nat.testBit_two_pow, show decide (h = k) = false from decide_eq_false (fun q => hk q.symm), Bool.xor_false]
  have th : (s ^^^ 2 ^ h).testBit h = false := by
    rw [Nat.testBit_xor, Nat.testBit_two_pow, hb]; simp
  have e : zsg v s 0 n = zsg v s 0 h ++ v h :: zsg v s (h + 1) (n - (h + 1)) := by
    have h1 := zsg_ad v s h 0 (1 + (n - (h + 1)))
    rw [show h + (1 + (n - (h + 1))) = n by omega] at h1
    rw [h1, Nat.zero_add, zsg_ad v s 1 h, zsg, zsg, if_pos hb]
    rfl
  refine ⟨?_, e⟩
  have h1 := zsg_ad v (s ^^^ 2 ^ h) h 0 (1 + (n - (h + 1)))
  rw [show h + (1 + (n - (h + 1))) = n by omega] at h1
  rw [h1, Nat.zero_add, zsg_ad v _ 1 h, zsg, zsg, if_neg (by rw [th]; decide), e, List.eraseIdx_append_of_length_le (Nat.le_refl _), Nat.sub_self]
  rw [zsg_c (v := v) (s := s) h 0 (fun k _ hk => ⟨tb k (by omega), fun _ => rfl⟩), zsg_c (v := v) (s := s) _ (h + 1) (fun k h1 _ => ⟨tb k (by omega), fun _ => rfl⟩)]
  rfl
theorem zmk9 : ∀ s, s < 512 → ∀ h, h < 9 → (if s.testBit h then (nI s &&& (((1 : Int32) <<< (nI h &&& 31)) ^^^ -1) = nI (s ^^^ 2 ^ h) ∧ nI s ^^^ ((1 : Int32) <<< (nI h &&& 31)) = nI (s ^^^ 2 ^ h) ∧ ¬ (nI s &&& ((1 : Int32) <<< (nI h &&& 31))) = 0 ∧ ¬ ((nI s >>> (nI h &&& 31)) &&& (1 : Int32)) = 0 ∧ s ^^^ 2 ^ h < s) else ((nI s &&& ((1 : Int32) <<< (nI h &&& 31))) = 0 ∧ ((nI s >>> (nI h &&& 31)) &&& (1 : Int32)) = 0)) := by decide +kernel
theorem zpw9 : ∀ n, n ≤ 9 → (1 : Int32) <<< (nI n &&& 31) = nI (2 ^ n) := by decide +kernel
theorem zbit9 : ∀ n, n ≤ 9 → ∀ s, s < 2 ^ n → 0 < s → ∃ h, h < n ∧ s.testBit h = true := by
  intro n hn s hs h0
  obtain ⟨i, hi⟩ := Nat.exists_testBit_of_ne_zero (by omega : s ≠ 0)
  refine ⟨i, ?_, hi⟩
  refine Classical.byContradiction (fun q => ?_)
  rw [Nat.testBit_lt_two_pow (Nat.lt_of_lt_of_le hs (Nat.pow_le_pow_right (by omega) (by omega)))] at hi
  cases hi
/-- all bits: all values -/
def zlv (v : Nat → Int32) : Nat → List Int32
  | 0 => []
  | k + 1 => zlv v k ++ [v k]
theorem zlv_len (v : Nat → Int32) : ∀ n, (zlv v n).length = n := by
  intro n
  induction n with
  | zero => rfl
  | succ n ih => rw [zlv, List.length_append, ih]; rfl
theorem zsg_all (v : Nat → Int32) (c : Nat) : ∀ k, k ≤ c → zsg v (2 ^ c - 1) 0 k = zlv v k := by
  intro k
  induction k with
  | zero => intro _; rfl
  | succ k ih =>
    intro hk
    rw [zsg_ad v _ k 0 1, ih (by omega), Nat.zero_add, zsg, zsg, if_pos (by rw [Nat.testBit_two_pow_sub_one]; simp; omega), zlv]
    rfl
theorem zlv_at (l : List Int32) : ∀ k, k ≤ l.length → zlv (fun i => l.getD i 0) k = l.take k := by
  intro k
  induction k with
  | zero => intro _; simp [zlv]
  | succ k ih =>
    intro hk
    rw [zlv, ih (by omega), List.take_succ_eq_append_getElem (by omega)]
    simp [List.getD_eq_getElem?_getD, List.getElem?_eq_getElem (show k < l.length by omega)]
