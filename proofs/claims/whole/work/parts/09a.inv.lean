/-! THE PURE LAYER. How the class's state and the reference's state are matched. x: the class's ints; a: the reference's row w (or kept, or a row of back). -/
theorem z1 {S : zSt} {q k : Nat} {v : Int32} {q' k' : Nat} : (zpI S q k v).1 q' k' = if q' = q then (if k' = k then v else S.1 q k') else S.1 q' k' := by
  unfold zpI
  by_cases h : q' = q
  · subst h; simp [upd]
  · simp [h]
theorem z2 {S : zSt} {q k : Nat} {v : Int32} : (zpI S q k v).2 = S.2 := rfl
theorem z3 {S : zSt} {q k : Nat} {v : Int64} {q' k' : Nat} : (zpL S q k v).2 q' k' = if q' = q then (if k' = k then v else S.2 q k') else S.2 q' k' := by
  unfold zpL
  by_cases h : q' = q
  · subst h; simp [vp_updL]
  · simp [h]
theorem z4 {S : zSt} {q k : Nat} {v : Int64} : (zpL S q k v).1 = S.1 := rfl
theorem z5 {S : zSt} {q : Nat} {f : Nat → Int32} {q' k' : Nat} : (zcI S q f).1 q' k' = if q' = q then f k' else S.1 q' k' := by
  unfold zcI
  by_cases h : q' = q
  · subst h; simp
  · simp [h]
theorem z6 {S : zSt} {q : Nat} {f : Nat → Int32} : (zcI S q f).2 = S.2 := rfl
theorem z7 {S : zSt} {q : Nat} {f : Nat → Int64} {q' k' : Nat} : (zcL S q f).2 q' k' = if q' = q then f k' else S.2 q' k' := by
  unfold zcL
  by_cases h : q' = q
  · subst h; simp
  · simp [h]
theorem z8 {S : zSt} {q : Nat} {f : Nat → Int64} : (zcL S q f).1 = S.1 := rfl
theorem zck_t {α : Type} (k : Option α) : zck true k = k := rfl
theorem zbd_s {α β : Type} (v : α) (S : zSt) (k : α → zSt → Option β) : zbd (some (v, S)) k = k v S := rfl
theorem zix_n {k n : Nat} (h : k < n) (hk : k < 2 ^ 31) : zix (nI k) n = true := by
  unfold zix
  rw [nI_toInt hk]
  simp
  omega
theorem zix_i {i : Int32} {n : Nat} (h0 : 0 ≤ i.toInt) (h : i.toInt < n) : zix i n = true := by
  unfold zix
  simp
  omega
theorem zbo_0 : zbo 0 = true := rfl
theorem zbo_1 : zbo 1 = true := rfl
/-- debts of a house: what others owe it less what it owes, over the first n -/
def zNet (a : Nat → Int32) (h : Nat) : Nat → Int32
  | 0 => 0
  | o + 1 => zNet a h o + (a (180 + 9 * o + h) - a (180 + 9 * h + o))
/-- houses; B: the place of Commons -/
def rH (x : Nat → Nat → Int32) (B : Nat) (a : Nat → Int32) (n : Nat) : Prop :=
  x (B + 1) 0 = nI n ∧ a 4 = nI n ∧ n ≤ 9 ∧
  (∀ h, h < n → x (B + 2) h = a (20 + 16 * h) ∧ x (B + 3) h = a (21 + 16 * h) ∧ x (B + 4) h = a (22 + 16 * h) ∧ x (B + 6) h = a (29 + 16 * h)) ∧
  (∀ h, h < n → ∀ k : Nat, (k : Int) < (a (29 + 16 * h)).toInt → x (B + 5) (5 * h + k) = a (30 + 16 * h + k) ∧ 0 ≤ (a (30 + 16 * h + k)).toInt ∧ (a (30 + 16 * h + k)).toInt ≤ 7) ∧
  (∀ h, h < n → 0 ≤ (a (20 + 16 * h)).toInt ∧ (a (20 + 16 * h)).toInt ≤ 999 ∧ 1 ≤ (a (21 + 16 * h)).toInt ∧ (a (21 + 16 * h)).toInt ≤ 999 ∧ 1 ≤ (a (22 + 16 * h)).toInt ∧ (a (22 + 16 * h)).toInt ≤ 99 ∧ 1 ≤ (a (29 + 16 * h)).toInt ∧ (a (29 + 16 * h)).toInt ≤ 5) ∧
  (∀ h, h < n → x (B + 7) h = zNet a h n) ∧ (∀ h, n ≤ h → h < 9 → x (B + 7) h = 0) ∧ (∀ i j, i < 9 → j < 9 → (n ≤ i ∨ n ≤ j) → a (180 + 9 * i + j) = 0)
/-- times; T: the place of the object Times -/
def rT (x : Nat → Nat → Int32) (T : Nat) (a : Nat → Int32) (n : Nat) : Prop :=
  x T 0 = a 6 ∧ x T 1 = a 5 ∧ x T 2 = a 8 ∧ 0 ≤ (a 5).toInt ∧ (a 5).toInt ≤ 9999 ∧
  (∀ h, h < n → x (T + 1) h = a (23 + 16 * h) ∧ x (T + 2) h = a (24 + 16 * h) ∧ x (T + 3) h = a (25 + 16 * h) ∧ x (T + 4) h = a (26 + 16 * h) ∧ x (T + 5) h = a (27 + 16 * h) ∧ x (T + 6) h = a (28 + 16 * h)) ∧
  (∀ h, h < n → 0 ≤ (a (23 + 16 * h)).toInt ∧ (a (23 + 16 * h)).toInt ≤ 999999) ∧
  (∀ h, n ≤ h → h < 9 → x (T + 1) h = 0 ∧ x (T + 2) h = 0 ∧ x (T + 3) h = 0 ∧ x (T + 4) h = 0 ∧ x (T + 5) h = 0 ∧ x (T + 6) h = 0) ∧
  ((a 9 = -1 ∧ x T 10 = 0 ∧ x T 11 = -1) ∨ ∃ c : Nat, c ≤ 9 ∧ a 9 = nI c ∧ x T 10 = nI c ∧ x T 11 = a 10 ∧ ∀ i, i < c → x (T + 7) i = a (170 + i))
/-- settings -/
def rS (x : Nat → Nat → Int32) (B : Nat) (a : Nat → Int32) : Prop :=
  (∀ k, k < 4 → x (B + 16) k = a k) ∧ 1 ≤ (a 0).toInt ∧ (a 0).toInt ≤ 99 ∧ 0 ≤ (a 1).toInt ∧ (a 1).toInt ≤ 99 ∧ 0 ≤ (a 2).toInt ∧ (a 2).toInt ≤ 99 ∧ 0 ≤ (a 3).toInt ∧ (a 3).toInt ≤ 100
/-- leavens: what each is, and from which it is led (bit k: from leaven k) -/
def rL (x : Nat → Nat → Int32) (y : Nat → Nat → Int64) (B : Nat) (a : Nat → Int32) (m n : Nat) : Prop :=
  x (B + 19) 0 = nI m ∧ a 585 = nI m ∧ m ≤ 60 ∧
  (∀ l, l < m → x (B + 20) l = a (343 + 4 * l) ∧ x (B + 21) l = a (342 + 4 * l) ∧ x (B + 22) l = a (340 + 4 * l) ∧ x (B + 23) l = a (341 + 4 * l)) ∧
  (∀ l, l < m → (a (340 + 4 * l) = -1 ∧ a (341 + 4 * l) = -1 ∧ a (343 + 4 * l) = 0 ∧ (∃ h : Nat, h < 9 ∧ a (342 + 4 * l) = nI h) ∧ y (B + 24) l = 1 <<< ((nI l).toInt64 &&& 63)) ∨
    (a (342 + 4 * l) = -1 ∧ ∃ i j u v : Nat, i < l ∧ j < l ∧ a (340 + 4 * l) = nI i ∧ a (341 + 4 * l) = nI j ∧ a (343 + 4 * i) = nI u ∧ a (343 + 4 * j) = nI v ∧ a (343 + 4 * l) = nI (1 + max u v) ∧ 1 + max u v ≤ 30 ∧ y (B + 24) l = (y (B + 24) i ||| y (B + 24) j) ||| 1 <<< ((nI l).toInt64 &&& 63)))
/-- rises -/
def rI (x : Nat → Nat → Int32) (B : Nat) (a : Nat → Int32) : Prop := ∀ k, k < 64 → x (B + 27) k = a (270 + k) ∧ 0 ≤ (a (270 + k)).toInt ∧ (a (270 + k)).toInt ≤ 9
/-- a rule's predicate hangs on the code, its length, and the reference's places from 590 on -/
def zRok (RR : (Nat → Int32) → Int32 → Int32 → (Nat → Int32) → Prop) : Prop := ∀ (c c' : Nat → Int32) (l k : Int32) (a a' : Nat → Int32), (∀ i, i < 400 → c' i = c i) → (∀ i, 590 ≤ i → i < 1480 → a' i = a i) → RR c l k a → RR c' l k a'
/-- Commons -/
def rC (RR : (Nat → Int32) → Int32 → Int32 → (Nat → Int32) → Prop) (x : Nat → Nat → Int32) (y : Nat → Nat → Int64) (B : Nat) (a : Nat → Int32) (n m : Nat) : Prop :=
  rH x B a n ∧ rT x (B + 8) a n ∧ rS x B a ∧ (x (B + 17) 2 = a 590 ∧ RR (x (B + 18)) (x (B + 17) 1) (x (B + 17) 2) a) ∧ rL x y B a m n ∧ rI x B a
/-- what stays the same while days can be undone -/
def zStat (a b : Nat → Int32) (n : Nat) : Prop := (∀ k, k < 5 → b k = a k) ∧ ∀ h, h < n → b (20 + 16 * h) = a (20 + 16 * h) ∧ b (21 + 16 * h) = a (21 + 16 * h) ∧ b (22 + 16 * h) = a (22 + 16 * h) ∧ ∀ k, k < 6 → b (29 + 16 * h + k) = a (29 + 16 * h + k)
/-- the days that can be undone -/
def rU (x : Nat → Nat → Int32) (M : Nat → Nat → Int32) (n c o : Nat) : Prop :=
  x 59 2 = nI c ∧ M 0 3 = nI c ∧ c ≤ 8 ∧ x 59 1 = nI o ∧ o < 8 ∧ ∀ j, j < c → rT x (61 + 8 * ((o + j) % 8)) (fun k => M 3 (180 * j + k)) n ∧ zStat (M 1) (fun k => M 3 (180 * j + k)) n
def rTape (x : Nat → Nat → Int32) (M : Nat → Nat → Int32) (t : Nat) : Prop := x 1 1 = nI t ∧ M 0 12 = nI t ∧ t ≤ 400 ∧ (∀ k, x 2 k = M 6 k) ∧ ∀ k, 0 ≤ (M 6 k).toInt ∧ (M 6 k).toInt ≤ 255
def zInv (RR : (Nat → Int32) → Int32 → Int32 → (Nat → Int32) → Prop) (X M : zSt) : Prop := ∃ t n m c o : Nat,
  rTape X.1 M.1 t ∧ (X.1 125 4 = M.1 0 19 ∧ X.1 125 5 = M.1 0 21 ∧ X.1 140 0 = 0 ∧ X.1 141 0 = 0) ∧ rC RR X.1 X.2 3 (M.1 1) n m ∧ rU X.1 M.1 n c o ∧
  (X.1 0 3 = M.1 0 4 ∧ (M.1 0 4 = 0 ∨ M.1 0 4 = 1) ∧ (M.1 0 4 = 1 → ∃ n' m' : Nat, rC RR X.1 X.2 31 (M.1 2) n' m'))
