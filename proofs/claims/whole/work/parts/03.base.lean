/-! A system whose cells are fixed: its state is what the cells hold, ints and longs by cell and place. -/
abbrev zSt : Type := (Nat → Nat → Int32) × (Nat → Nat → Int64)
def zpI (S : zSt) (q k : Nat) (x : Int32) : zSt := (fun a => if a = q then upd (S.1 q) k x else S.1 a, S.2)
def zpL (S : zSt) (q k : Nat) (x : Int64) : zSt := (S.1, fun a => if a = q then vp_updL (S.2 q) k x else S.2 a)
/-- cell q1 becomes f -/
def zcI (S : zSt) (q1 : Nat) (f : Nat → Int32) : zSt := (fun a => if a = q1 then f else S.1 a, S.2)
def zcL (S : zSt) (q1 : Nat) (f : Nat → Int64) : zSt := (S.1, fun a => if a = q1 then f else S.2 a)
/-- what a method does, as a function: none where an index is out of its row, a divisor is 0, or a loop is longer than its fuel -/
def znm {α β : Type} (x : α) (k : α → β) : β := k x
def zck {α : Type} (b : Bool) (k : Option α) : Option α := match b with
  | true => k
  | false => none
def zbd {α β : Type} (x : Option (α × zSt)) (k : α → zSt → Option β) : Option β := match x with
  | some (a, S) => k a S
  | none => none
def zix (i : Int32) (n : Nat) : Bool := decide (0 ≤ i.toInt) && decide (i.toInt < (n : Int))
def znz (y : Int32) : Bool := decide (¬ y = 0)
def znzL (y : Int64) : Bool := decide (¬ y = 0)
def zbo (v : Int32) : Bool := decide (v = 0 ∨ v = 1)
def zrg (sp dp n : Int32) (n0 n1 : Nat) : Bool := decide (¬ sp < 0) && decide (¬ dp < 0) && decide (¬ n < 0) && decide (sp.toNatClampNeg + n.toNatClampNeg ≤ n0) && decide (dp.toNatClampNeg + n.toNatClampNeg ≤ n1)
/-- the fuel of every loop -/
def zFU : Nat := 8192
theorem z_nm {α β : Type} {x : α} {k : α → β} {o : β} (h : znm x k = o) : ∃ y, y = x ∧ k y = o := ⟨x, rfl, h⟩
theorem z_nv {α β : Type} {x y : α} {k : α → β} {o : β} (e : y = x) (h : znm x k = o) : k y = o := by subst e; exact h
theorem z_ck {α : Type} {b : Bool} {k : Option α} {o : α} (h : zck b k = some o) : b = true ∧ k = some o := by
  cases b with
  | true => exact ⟨rfl, h⟩
  | false => cases h
theorem z_bd {α β : Type} {x : Option (α × zSt)} {k : α → zSt → Option β} {o : β} (h : zbd x k = some o) : ∃ a S, x = some (a, S) ∧ k a S = some o := by
  cases x with
  | none => cases h
  | some q => exact ⟨q.1, q.2, rfl, h⟩
theorem z_ix {α : Type} {i : Int32} {n : Nat} {k : Option α} {o : α} (h : zck (zix i n) k = some o) : vp_in i n ∧ k = some o := by
  obtain ⟨h1, h2⟩ := z_ck h
  unfold zix at h1
  exact ⟨vp_in_iff.mpr (by simpa using h1), h2⟩
theorem z_nz {α : Type} {y : Int32} {k : Option α} {o : α} (h : zck (znz y) k = some o) : ¬ y = 0 ∧ k = some o := by
  obtain ⟨h1, h2⟩ := z_ck h
  exact ⟨of_decide_eq_true h1, h2⟩
theorem z_nzL {α : Type} {y : Int64} {k : Option α} {o : α} (h : zck (znzL y) k = some o) : ¬ y = 0 ∧ k = some o := by
  obtain ⟨h1, h2⟩ := z_ck h
  exact ⟨of_decide_eq_true h1, h2⟩
theorem z_narb {v : Int32} (h : v = 0 ∨ v = 1) : narrow .boolean (.int v) = .int v := by
  rcases h with rfl | rfl <;> rfl
theorem z_bo {α : Type} {v : Int32} {k : Option α} {o : α} (h : zck (zbo v) k = some o) : narrow .boolean (.int v) = .int v ∧ k = some o := by
  obtain ⟨h1, h2⟩ := z_ck h
  exact ⟨z_narb (of_decide_eq_true h1), h2⟩
theorem z_rg {α : Type} {sp dp n : Int32} {n0 n1 : Nat} {k : Option α} {o : α} (h : zck (zrg sp dp n n0 n1) k = some o) : (¬ sp < 0 ∧ ¬ dp < 0 ∧ ¬ n < 0 ∧ sp.toNatClampNeg + n.toNatClampNeg ≤ n0 ∧ dp.toNatClampNeg + n.toNatClampNeg ≤ n1) ∧ k = some o := by
  obtain ⟨h1, h2⟩ := z_ck h
  unfold zrg at h1
  simp only [Bool.and_eq_true, decide_eq_true_eq] at h1
  exact ⟨⟨h1.1.1.1.1, h1.1.1.1.2, h1.1.1.2, h1.1.2, h1.2⟩, h2⟩
theorem z_it {α : Type} {c : Prop} [Decidable c] {a b o : α} (hc : c) (h : (if c then a else b) = o) : a = o := by rwa [if_pos hc] at h
theorem z_if {α : Type} {c : Prop} [Decidable c] {a b o : α} (hc : ¬ c) (h : (if c then a else b) = o) : b = o := by rwa [if_neg hc] at h
theorem z_so {α : Type} {a b : α} (h : some a = some b) : a = b := Option.some.inj h
theorem z_s2 {α β : Type} {a c : α} {b d : β} (h : some (a, b) = some (c, d)) : a = c ∧ b = d := by cases h; exact ⟨rfl, rfl⟩
theorem z_no {α : Type} {P : Prop} {o : α} (h : none = some o) : P := by cases h
/-- the world: N cells, cell q at the address ad q, with what C says of the ints and longs there -/
def zW (N : Nat) (ad : Nat → Nat) (C : Nat → (Nat → Int32) → (Nat → Int64) → va_E) (S : zSt) : va_W := (List.range N).map (fun q => (ad q, C q (S.1 q) (S.2 q)))
theorem zW_at {N : Nat} {ad : Nat → Nat} {C : Nat → (Nat → Int32) → (Nat → Int64) → va_E} {S : zSt} {q : Nat} (h : q < N) : (zW N ad C S)[q]? = some (ad q, C q (S.1 q) (S.2 q)) := by
  simp [zW, h]
theorem zW_inv {N : Nat} {ad : Nat → Nat} {C : Nat → (Nat → Int32) → (Nat → Int64) → va_E} {S : zSt} {k : Nat} {x : Nat × va_E} (h : (zW N ad C S)[k]? = some x) : k < N ∧ x.1 = ad k := by
  by_cases hk : k < N
  · rw [zW_at hk] at h
    cases h
    exact ⟨hk, rfl⟩
  · simp [zW, hk] at h
theorem zW_set {N : Nat} {ad : Nat → Nat} {C : Nat → (Nat → Int32) → (Nat → Int64) → va_E} {S S' : zSt} {q : Nat} {e : va_E} (hq : q < N) (he : e = C q (S'.1 q) (S'.2 q)) (h1 : ∀ a, a ≠ q → S'.1 a = S.1 a) (h2 : ∀ a, a ≠ q → S'.2 a = S.2 a) : (zW N ad C S).set q (ad q, e) = zW N ad C S' := by
  apply List.ext_getElem?
  intro i
  by_cases hi : i < N
  · rw [List.getElem?_set, zW_at hi, zW_at hi]
    by_cases hqi : q = i
    · subst hqi
      simp [zW, hq, he]
    · rw [if_neg hqi, h1 i (fun x => hqi x.symm), h2 i (fun x => hqi x.symm)]
  · have hl : (zW N ad C S').length = N := by simp [zW]
    have hl2 : ((zW N ad C S).set q (ad q, e)).length = N := by simp [zW]
    rw [List.getElem?_eq_none (by omega), List.getElem?_eq_none (by omega)]
theorem zW_putI {D : va_G} {cl : List vw_C} {H : Heap} {N : Nat} {ad : Nat → Nat} {C : Nat → (Nat → Int32) → (Nat → Int64) → va_E} {S S1 : zSt} {q k : Nat} {x : Int32} {e : va_E} (h : va_P D cl ((zW N ad C S).set q (ad q, e)) H) (hS : S1 = zpI S q k x) (hq : q < N) (he : e = C q ((zpI S q k x).1 q) (S.2 q)) : va_P D cl (zW N ad C S1) H := by
  subst hS
  rw [zW_set (S := S) (S' := zpI S q k x) hq he (fun a ha => by simp [zpI, ha]) (fun a _ => rfl)] at h
  exact h
theorem zW_putL {D : va_G} {cl : List vw_C} {H : Heap} {N : Nat} {ad : Nat → Nat} {C : Nat → (Nat → Int32) → (Nat → Int64) → va_E} {S S1 : zSt} {q k : Nat} {x : Int64} {e : va_E} (h : va_P D cl ((zW N ad C S).set q (ad q, e)) H) (hS : S1 = zpL S q k x) (hq : q < N) (he : e = C q (S.1 q) ((zpL S q k x).2 q)) : va_P D cl (zW N ad C S1) H := by
  subst hS
  rw [zW_set (S := S) (S' := zpL S q k x) hq he (fun a _ => rfl) (fun a ha => by simp [zpL, ha])] at h
  exact h
theorem zW_cpyI {D : va_G} {cl : List vw_C} {H : Heap} {N : Nat} {ad : Nat → Nat} {C : Nat → (Nat → Int32) → (Nat → Int64) → va_E} {S S1 : zSt} {q : Nat} {f : Nat → Int32} {e : va_E} (h : va_P D cl ((zW N ad C S).set q (ad q, e)) H) (hS : S1 = zcI S q f) (hq : q < N) (he : e = C q ((zcI S q f).1 q) (S.2 q)) : va_P D cl (zW N ad C S1) H := by
  subst hS
  rw [zW_set (S := S) (S' := zcI S q f) hq he (fun a ha => by simp [zcI, ha]) (fun a _ => rfl)] at h
  exact h
theorem zW_cpyL {D : va_G} {cl : List vw_C} {H : Heap} {N : Nat} {ad : Nat → Nat} {C : Nat → (Nat → Int32) → (Nat → Int64) → va_E} {S S1 : zSt} {q : Nat} {f : Nat → Int64} {e : va_E} (h : va_P D cl ((zW N ad C S).set q (ad q, e)) H) (hS : S1 = zcL S q f) (hq : q < N) (he : e = C q (S.1 q) ((zcL S q f).2 q)) : va_P D cl (zW N ad C S1) H := by
  subst hS
  rw [zW_set (S := S) (S' := zcL S q f) hq he (fun a _ => rfl) (fun a ha => by simp [zcL, ha])] at h
  exact h
theorem zW_D {A B : Nat → Prop} {N : Nat} {ad : Nat → Nat} {C : Nat → (Nat → Int32) → (Nat → Int64) → va_E} {S : zSt} (h : va_D A (zW N ad C S)) (hB : ∀ q, q < N → A (ad q) → B (ad q)) (S' : zSt) : va_D B (zW N ad C S') := by
  refine ⟨fun i j p q hi hj e => ?_, fun k q hk => ?_⟩
  · obtain ⟨i1, i2⟩ := zW_inv hi
    obtain ⟨j1, j2⟩ := zW_inv hj
    exact h.1 i j _ _ (zW_at i1) (zW_at j1) (by rw [i2, j2] at e; exact e)
  · obtain ⟨k1, k2⟩ := zW_inv hk
    rw [k2]
    exact hB k k1 (h.2 k _ (zW_at k1))
theorem zW_A {N : Nat} {ad : Nat → Nat} {C : Nat → (Nat → Int32) → (Nat → Int64) → va_E} {S : zSt} {sz q : Nat} (h : va_A (zW N ad C S) sz q) : (∃ k, k < N ∧ q = ad k) ∨ sz ≤ q := by
  rcases h with ⟨k, e, h⟩ | h
  · obtain ⟨k1, k2⟩ := zW_inv h
    exact Or.inl ⟨k, k1, k2⟩
  · exact Or.inr h
/-! what lies outside the system and stays: String constants, statics of the JDK, links between nest mates -/
def zSO : List (String × Nat × String) := [(RX7, 108, "worthwhen or   and  not  size need doughbreadwood firstsour houseday  owes "), (RX7, 90, ";+-*/()<=>"), (RX12, 118, "when"), (RX12, 120, "or"), (RX12, 122, "and"), (RX12, 124, "not"), (RX12, 126, "worth"), (RX12, 94, "size"), (RX12, 100, "need"), (RX12, 102, "dough"), (RX12, 104, "bread"), (RX12, 106, "wood"), (RX12, 108, "first"), (RX12, 110, "sour"), (RX12, 112, "house"), (RX12, 114, "day"), (RX12, 116, "owes")]
def zSL : List Nat := [75, 10, 4, 2, 3, 3, 5, 4, 4, 5, 5, 4, 5, 4, 5, 3, 4]
def zSB : List (List Int32) := [[119, 111, 114, 116, 104, 119, 104, 101, 110, 32, 111, 114, 32, 32, 32, 97, 110, 100, 32, 32, 110, 111, 116, 32, 32, 115, 105, 122, 101, 32, 110, 101, 101, 100, 32, 100, 111, 117, 103, 104, 98, 114, 101, 97, 100, 119, 111, 111, 100, 32, 102, 105, 114, 115, 116, 115, 111, 117, 114, 32, 104, 111, 117, 115, 101, 100, 97, 121, 32, 32, 111, 119, 101, 115, 32], [59, 43, 45, 42, 47, 40, 41, 60, 61, 62], [119, 104, 101, 110], [111, 114], [97, 110, 100], [110, 111, 116], [119, 111, 114, 116, 104], [115, 105, 122, 101], [110, 101, 101, 100], [100, 111, 117, 103, 104], [98, 114, 101, 97, 100], [119, 111, 111, 100], [102, 105, 114, 115, 116], [115, 111, 117, 114], [104, 111, 117, 115, 101], [100, 97, 121], [111, 119, 101, 115]]
def zNe : List (String × Nat × MethodName) := [(RX11, 11, yX9_init), (RX11, 18, yX0_init), (RX0, 11, yX2_init), (RX0, 20, yX10_init), (RX0, 31, yX6_init), (RX0, 38, yX3_init), (RX1, 17, yX10_init), (RX11, 53, yX8_init), (RX7, 101, yX11_isWithin)]
def zE (K : (Nat → Nat) × (Nat → Nat)) (A : Nat → Prop) (U : State) (H : Heap) : Prop :=
  vk_S 17 zSL zSB K.1 K.2 A U H ∧ (∀ (i : Nat) (q : String × Nat × String), zSO[i]? = some q → vk_R q.1 q.2.1 q.2.2 (K.1 i) U) ∧ va_Z "java/lang/String" "COMPACT_STRINGS" "Z" (.int 1) A U H ∧ va_Zq "jdk/internal/util/Preconditions" "SIOOBE_FORMATTER" "Ljava/util/function/BiFunction;" A U H ∧ (∀ q ∈ zNe, va_Nw (.methodLinkNest q.1 q.2.1 q.2.2 "DoughDebts") U) ∧ va_AO "DoughDebts$Times" U
theorem zE.kept {K : (Nat → Nat) × (Nat → Nat)} {A : Nat → Prop} {U : State} {H H1 : Heap} (h : zE K A U H) (hq : ∀ a : Nat, a < H.size → ¬ A a → H1[a]? = H[a]?) : zE K A U H1 := ⟨h.1.kept hq, h.2.1, h.2.2.1.kept hq, h.2.2.2.1.kept hq, h.2.2.2.2.1, h.2.2.2.2.2⟩
theorem zE.narrow {K : (Nat → Nat) × (Nat → Nat)} {A B : Nat → Prop} {U : State} {H : Heap} (h : zE K A U H) (hAB : ∀ q, B q → A q) : zE K B U H := ⟨h.1.narrow hAB, h.2.1, h.2.2.1.narrow hAB, h.2.2.2.1.narrow hAB, h.2.2.2.2.1, h.2.2.2.2.2⟩
theorem zE.warm {K : (Nat → Nat) × (Nat → Nat)} {A : Nat → Prop} {s U : State} {H : Heap} (hW : s.WarmedH U.vm) (h : zE K A s H) : zE K A U H := ⟨vk_S.moved hW.alike h.1, fun i q hq => vk_R.warm hW (h.2.1 i q hq), va_Z.moved hW.alike h.2.2.1, va_Zq.moved hW.alike h.2.2.2.1, fun q hq => va_Nw.warmM hW (h.2.2.2.2.1 q hq), va_AO.moved hW.alike h.2.2.2.2.2⟩
theorem zE.call {K : (Nat → Nat) × (Nat → Nat)} {A : Nat → Prop} {u U : State} {H : Heap} (hv : u.vm = U.vm) (h : zE K A u H) : zE K A U H := by
  have ha : u.vm.Alike U.vm := by rw [hv]; exact Vm.Alike.refl U.vm
  exact ⟨vk_S.moved ha h.1, fun i q hq => vk_R.same hv.symm (h.2.1 i q hq), va_Z.moved ha h.2.2.1, va_Zq.moved ha h.2.2.2.1, fun q hq => va_Nw.same rfl hv (h.2.2.2.2.1 q hq), va_AO.moved ha h.2.2.2.2.2⟩
/-! contracts over such a world -/
def zPw (D : va_G) (tys : List (ClassId × FieldType)) (K : (Nat → Nat) × (Nat → Nat)) (w : va_W) (sz : Nat) (U : State) : Prop := U.heap.size = sz ∧ va_P D vwCl w U.heap ∧ va_K D vwCl tys U ∧ va_D (fun _ => True) w ∧ zE K (va_A w sz) U U.heap
def zQw (D : va_G) (tys : List (ClassId × FieldType)) (w : zSt → va_W) (A : Nat → Prop) (u : zSt) (t : State) : Prop := va_P D vwCl (w u) t.heap ∧ va_K D vwCl tys t ∧ va_D A (w u)
def zMI (l : Launch) (y : MethodName) (ws : List Cond) (rm : Room) (D : va_G) (tys : List (ClassId × FieldType)) (K : (Nat → Nat) × (Nat → Nat)) (w : zSt → va_W) (av : List Value) (S : zSt) (r : Int32) (S1 : zSt) : Prop := ∀ sz : Nat, Met l y ws rm (va_Pc av (zPw D tys K (w S) sz)) (va_Qi (fun (r' : Int32) (u : zSt) => r' = r ∧ u = S1) (zQw D tys w (va_A (w S) sz)) (va_A (w S) sz)) 0 0 (va_A (w S) sz)
def zML (l : Launch) (y : MethodName) (ws : List Cond) (rm : Room) (D : va_G) (tys : List (ClassId × FieldType)) (K : (Nat → Nat) × (Nat → Nat)) (w : zSt → va_W) (av : List Value) (S : zSt) (r : Int64) (S1 : zSt) : Prop := ∀ sz : Nat, Met l y ws rm (va_Pc av (zPw D tys K (w S) sz)) (va_Ql (fun (r' : Int64) (u : zSt) => r' = r ∧ u = S1) (zQw D tys w (va_A (w S) sz)) (va_A (w S) sz)) 0 0 (va_A (w S) sz)
def zMV (l : Launch) (y : MethodName) (ws : List Cond) (rm : Room) (D : va_G) (tys : List (ClassId × FieldType)) (K : (Nat → Nat) × (Nat → Nat)) (w : zSt → va_W) (av : List Value) (S : zSt) (S1 : zSt) : Prop := ∀ sz : Nat, Met l y ws rm (va_Pc av (zPw D tys K (w S) sz)) (va_Qv (fun (u : zSt) => u = S1) (zQw D tys w (va_A (w S) sz)) (va_A (w S) sz)) 0 0 (va_A (w S) sz)
theorem zP_blind {D : va_G} {tys : List (ClassId × FieldType)} {w : va_W} {K : (Nat → Nat) × (Nat → Nat)} {sz : Nat} {av : List Value} : FrameBlind (va_Pc av (zPw D tys K w sz)) := fun a U g mk q => by
  obtain ⟨q0, q1, qP, qK, qD, qE⟩ := q
  exact ⟨q0, q1, qP, va_K.moved (u := U) (U := U.calling g mk a) (Vm.Alike.refl U.vm) qK, qD, zE.call (u := U) (U := U.calling g mk a) rfl qE⟩
section zMet
variable {l : Launch} {y : MethodName} {ws ws' : List Cond} {rm : Room} {D : va_G} {tys : List (ClassId × FieldType)} {K : (Nat → Nat) × (Nat → Nat)} {N : Nat} {ad : Nat → Nat} {C : Nat → (Nat → Int32) → (Nat → Int64) → va_E} {av : List Value} {S S1 : zSt} {cc : ByteArray} {maxL : Nat} {own : String} {lv : List (Nat × Value)}
theorem z_metI {r : Int32} (hy : plainName y.cls = true) (hw : ws = Cond.code y cc maxL (some .int) :: ws') (ho : y.cls = own) (hn : (lg_sl av).length ≤ maxL) (hlv : lv_args 0 av = lv)
    (body : ∀ (p : Program) (e : Env) (s : State) (m : MethodId) (below : List Frame) (meth : Method) (c : Code) (A : Nat → Prop) (Q : State → Prop), CallFix p m c cc maxL s av.toArray ws own → va_K D vwCl tys s → zE K A s s.heap → (∀ S, va_D A (zW N ad C S)) → (∀ q, s.heap.size ≤ q → A q) → (∀ (H : Heap) (locs : List Loc) (pc : Nat) (ls : Array Slot), va_P D vwCl (zW N ad C S1) H → va_S A s.heap H locs → decode cc pc = .ok (.ireturn, 1) → W p l e rm s m av.toArray below meth c H locs 0 0 Q (F0 m pc ls [.int r])) → va_P D vwCl (zW N ad C S) s.heap → va_S A s.heap s.heap [] → ∀ ls, lv_has ls maxL lv → W p l e rm s m av.toArray below meth c s.heap [] 0 0 Q (F0 m 0 ls [])) : zMI l y ws rm D tys K (zW N ad C) av S r S1 := by
  intro sz
  refine Met.ofW (cc := cc) (maxL := maxL) (ret := some .int) hy hw ?_
  intro p e s m args below meth c s₁ B hml hv
  obtain ⟨rfl, hsz, hP, hK, hD0, hE⟩ := hv
  have hr := B.returns
  have hts := atoms_spec (ws := ws) B.pre
  have hown : s.vm.findClass own = some m.cls := by rw [← ho]; exact findClass_of_methodNamed B.named
  subst hsz
  have hD : ∀ S2, va_D (va_A (zW N ad C S) s.heap.size) (zW N ad C S2) := fun S2 => zW_D hD0 (fun q hq _ => Or.inl ⟨q, _, zW_at hq⟩) S2
  have hl := lv_entry av (n := maxL) hn
  rw [lg_entry_eq]
  rw [hlv] at hl
  refine body p e s m below meth c (va_A (zW N ad C S) s.heap.size) _ ⟨B.exec, B.bytes, hml, hown, hts⟩ hK hE hD (fun q h => Or.inr h) ?_ hP va_S.rf _ hl
  intro H locs pc ls hP hS hd
  exact W.iret (v := r) B.exec B.bytes hr (fun t ht hW => ⟨⟨r, S1, rfl, ⟨rfl, rfl⟩, by rw [ht]; exact hP, va_K.moved hW.alike hK, hD S1⟩, hS.F ht⟩) hS.2.2 hd
theorem z_metZ {r : Int32} (hy : plainName y.cls = true) (hw : ws = Cond.code y cc maxL (some .boolean) :: ws') (ho : y.cls = own) (hn : (lg_sl av).length ≤ maxL) (hlv : lv_args 0 av = lv)
    (body : ∀ (p : Program) (e : Env) (s : State) (m : MethodId) (below : List Frame) (meth : Method) (c : Code) (A : Nat → Prop) (Q : State → Prop), CallFix p m c cc maxL s av.toArray ws own → va_K D vwCl tys s → zE K A s s.heap → (∀ S, va_D A (zW N ad C S)) → (∀ q, s.heap.size ≤ q → A q) → (∀ (H : Heap) (locs : List Loc) (pc : Nat) (ls : Array Slot), narrow .boolean (.int r) = .int r → va_P D vwCl (zW N ad C S1) H → va_S A s.heap H locs → decode cc pc = .ok (.ireturn, 1) → W p l e rm s m av.toArray below meth c H locs 0 0 Q (F0 m pc ls [.int r])) → va_P D vwCl (zW N ad C S) s.heap → va_S A s.heap s.heap [] → ∀ ls, lv_has ls maxL lv → W p l e rm s m av.toArray below meth c s.heap [] 0 0 Q (F0 m 0 ls [])) : zMI l y ws rm D tys K (zW N ad C) av S r S1 := by
  intro sz
  refine Met.ofW (cc := cc) (maxL := maxL) (ret := some .boolean) hy hw ?_
  intro p e s m args below meth c s₁ B hml hv
  obtain ⟨rfl, hsz, hP, hK, hD0, hE⟩ := hv
  have hr := B.returns
  have hts := atoms_spec (ws := ws) B.pre
  have hown : s.vm.findClass own = some m.cls := by rw [← ho]; exact findClass_of_methodNamed B.named
  subst hsz
  have hD : ∀ S2, va_D (va_A (zW N ad C S) s.heap.size) (zW N ad C S2) := fun S2 => zW_D hD0 (fun q hq _ => Or.inl ⟨q, _, zW_at hq⟩) S2
  have hl := lv_entry av (n := maxL) hn
  rw [lg_entry_eq]
  rw [hlv] at hl
  refine body p e s m below meth c (va_A (zW N ad C S) s.heap.size) _ ⟨B.exec, B.bytes, hml, hown, hts⟩ hK hE hD (fun q h => Or.inr h) ?_ hP va_S.rf _ hl
  intro H locs pc ls hnr hP hS hd
  exact W.zret (v := r) B.exec B.bytes hr hnr (fun t ht hW => ⟨⟨r, S1, rfl, ⟨rfl, rfl⟩, by rw [ht]; exact hP, va_K.moved hW.alike hK, hD S1⟩, hS.F ht⟩) hS.2.2 hd
theorem z_metL {r : Int64} (hy : plainName y.cls = true) (hw : ws = Cond.code y cc maxL (some .long) :: ws') (ho : y.cls = own) (hn : (lg_sl av).length ≤ maxL) (hlv : lv_args 0 av = lv)
    (body : ∀ (p : Program) (e : Env) (s : State) (m : MethodId) (below : List Frame) (meth : Method) (c : Code) (A : Nat → Prop) (Q : State → Prop), CallFix p m c cc maxL s av.toArray ws own → va_K D vwCl tys s → zE K A s s.heap → (∀ S, va_D A (zW N ad C S)) → (∀ q, s.heap.size ≤ q → A q) → (∀ (H : Heap) (locs : List Loc) (pc : Nat) (ls : Array Slot), va_P D vwCl (zW N ad C S1) H → va_S A s.heap H locs → decode cc pc = .ok (.lreturn, 1) → W p l e rm s m av.toArray below meth c H locs 0 0 Q (F0 m pc ls [.long r])) → va_P D vwCl (zW N ad C S) s.heap → va_S A s.heap s.heap [] → ∀ ls, lv_has ls maxL lv → W p l e rm s m av.toArray below meth c s.heap [] 0 0 Q (F0 m 0 ls [])) : zML l y ws rm D tys K (zW N ad C) av S r S1 := by
  intro sz
  refine Met.ofW (cc := cc) (maxL := maxL) (ret := some .long) hy hw ?_
  intro p e s m args below meth c s₁ B hml hv
  obtain ⟨rfl, hsz, hP, hK, hD0, hE⟩ := hv
  have hr := B.returns
  have hts := atoms_spec (ws := ws) B.pre
  have hown : s.vm.findClass own = some m.cls := by rw [← ho]; exact findClass_of_methodNamed B.named
  subst hsz
  have hD : ∀ S2, va_D (va_A (zW N ad C S) s.heap.size) (zW N ad C S2) := fun S2 => zW_D hD0 (fun q hq _ => Or.inl ⟨q, _, zW_at hq⟩) S2
  have hl := lv_entry av (n := maxL) hn
  rw [lg_entry_eq]
  rw [hlv] at hl
  refine body p e s m below meth c (va_A (zW N ad C S) s.heap.size) _ ⟨B.exec, B.bytes, hml, hown, hts⟩ hK hE hD (fun q h => Or.inr h) ?_ hP va_S.rf _ hl
  intro H locs pc ls hP hS hd
  exact W.lret (v := r) B.exec B.bytes hr (fun t ht hW => ⟨⟨r, S1, rfl, ⟨rfl, rfl⟩, by rw [ht]; exact hP, va_K.moved hW.alike hK, hD S1⟩, hS.F ht⟩) hS.2.2 hd
theorem z_metV (hy : plainName y.cls = true) (hw : ws = Cond.code y cc maxL none :: ws') (ho : y.cls = own) (hn : (lg_sl av).length ≤ maxL) (hlv : lv_args 0 av = lv)
    (body : ∀ (p : Program) (e : Env) (s : State) (m : MethodId) (below : List Frame) (meth : Method) (c : Code) (A : Nat → Prop) (Q : State → Prop), CallFix p m c cc maxL s av.toArray ws own → va_K D vwCl tys s → zE K A s s.heap → (∀ S, va_D A (zW N ad C S)) → (∀ q, s.heap.size ≤ q → A q) → (∀ (H : Heap) (locs : List Loc) (pc : Nat) (ls : Array Slot), va_P D vwCl (zW N ad C S1) H → va_S A s.heap H locs → decode cc pc = .ok (.return_, 1) → W p l e rm s m av.toArray below meth c H locs 0 0 Q (F0 m pc ls [])) → va_P D vwCl (zW N ad C S) s.heap → va_S A s.heap s.heap [] → ∀ ls, lv_has ls maxL lv → W p l e rm s m av.toArray below meth c s.heap [] 0 0 Q (F0 m 0 ls [])) : zMV l y ws rm D tys K (zW N ad C) av S S1 := by
  intro sz
  refine Met.ofW (cc := cc) (maxL := maxL) (ret := none) hy hw ?_
  intro p e s m args below meth c s₁ B hml hv
  obtain ⟨rfl, hsz, hP, hK, hD0, hE⟩ := hv
  have hr := B.returns
  have hts := atoms_spec (ws := ws) B.pre
  have hown : s.vm.findClass own = some m.cls := by rw [← ho]; exact findClass_of_methodNamed B.named
  subst hsz
  have hD : ∀ S2, va_D (va_A (zW N ad C S) s.heap.size) (zW N ad C S2) := fun S2 => zW_D hD0 (fun q hq _ => Or.inl ⟨q, _, zW_at hq⟩) S2
  have hl := lv_entry av (n := maxL) hn
  rw [lg_entry_eq]
  rw [hlv] at hl
  refine body p e s m below meth c (va_A (zW N ad C S) s.heap.size) _ ⟨B.exec, B.bytes, hml, hown, hts⟩ hK hE hD (fun q h => Or.inr h) ?_ hP va_S.rf _ hl
  intro H locs pc ls hP hS hd
  exact W.vret B.exec B.bytes hr (fun t ht hW => ⟨⟨S1, rfl, rfl, by rw [ht]; exact hP, va_K.moved hW.alike hK, hD S1⟩, hS.F ht⟩) hS.2.2 hd
end zMet
section zCall
variable {p : Program} {l : Launch} {e : Env} {R : Room} {s : State} {m : MethodId} {args : Array Value} {below : List Frame} {meth : Method} {c : Code} {H : Heap} {locs : List Loc} {Q : State → Prop} {D : va_G} {tys : List (ClassId × FieldType)} {K : (Nat → Nat) × (Nat → Nat)} {A : Nat → Prop} {N : Nat} {ad : Nat → Nat} {C : Nat → (Nat → Int32) → (Nat → Int64) → va_E} {S S1 : zSt}
  {cc bytes : ByteArray} {nL maxL index n : Nat} {Ts ws : List Cond} {own Cn : String} {y : MethodName} {ret : Option FieldType} {rm : Room} {b : Nat} {As rest st0 : List Value} {pc : Nat} {ls : Array Slot}
theorem z_freeA (hD : ∀ S, va_D A (zW N ad C S)) (hA : ∀ q, s.heap.size ≤ q → A q) (hS : va_S A s.heap H locs) (S : zSt) : ∀ q, va_A (zW N ad C S) H.size q → A q := by
  intro q h
  rcases zW_A h with ⟨k, k1, rfl⟩ | h
  · exact (hD S).2 k _ (zW_at k1)
  · exact hA q (Nat.le_trans hS.1 h)
theorem z_pre (hK : va_K D vwCl tys s) (hE : zE K A s s.heap) (hD : ∀ S, va_D A (zW N ad C S)) (hF : ∀ q, va_A (zW N ad C S) H.size q → A q) (hS : va_S A s.heap H locs) (hP : va_P D vwCl (zW N ad C S) H) (av : List Value) : ∀ U : State, U.heap = H → s.WarmedH U.vm → va_Pc av (zPw D tys K (zW N ad C S) H.size) av.toArray U := fun U hU hW => ⟨rfl, by rw [hU], by rw [hU]; exact hP, va_K.moved hW.alike hK, (hD S).weaken (fun _ _ _ _ => trivial), by rw [hU]; exact zE.warm hW ((hE.kept hS.2.1).narrow hF)⟩
theorem z_cVI (X : CallFix p m c cc nL s args Ts own) (hK : va_K D vwCl tys s) (hE : zE K A s s.heap) (hD : ∀ S, va_D A (zW N ad C S)) (hA : ∀ q, s.heap.size ≤ q → A q) (hP : va_P D vwCl (zW N ad C S) H) (hS : va_S A s.heap H locs) {r : Int32} (hM : zMI l y ws rm D tys K (zW N ad C) (.ref b :: As) S r S1) (cw : CallW R s args own Cn index y bytes maxL ret ws rm 0 0 n) (hrc : ∃ cellB : Cell, H[b]? = some cellB ∧ cellB.vm.isStatics = false ∧ s.vm.findClass Cn = some cellB.cls) (hsize : ls.size = nL) (hn : As.length = n) (hst : st0 = As.reverse ++ .ref b :: rest) (hW : (rest.map fun v => v.category).sum ≤ 8) (hdg : decode cc pc = .ok (.invokevirtual index, 3))
    (kk : ∀ (H1 : Heap) (locs1 : List Loc), va_P D vwCl (zW N ad C S1) H1 → va_S A s.heap H1 locs1 → W p l e R s m args below meth c H1 locs1 0 0 Q (F0 m (pc + 3) ls (.int r :: rest))) : W p l e R s m args below meth c H locs 0 0 Q (F0 m pc ls st0) := by
  have hF := z_freeA hD hA hS S
  refine va_calli (va_runV (As := As) (rest := rest) X (hM H.size) cw ⟨zP_blind, hrc, z_pre hK hE hD hF hS hP _⟩ rfl hn hsize hst (lv_room hW) hdg ⟨Nat.zero_le _, Nat.zero_le _⟩) hS (fun q _ h => hF q h) hF (fun r1 u t H1 locs1 ht hvm hw hB hz1 hk1 hS1 => ?_)
  obtain ⟨rfl, rfl⟩ := hw
  obtain ⟨hP1, -, -⟩ := hB
  rw [ht] at hP1
  exact kk H1 locs1 hP1 hS1
theorem z_cVL (X : CallFix p m c cc nL s args Ts own) (hK : va_K D vwCl tys s) (hE : zE K A s s.heap) (hD : ∀ S, va_D A (zW N ad C S)) (hA : ∀ q, s.heap.size ≤ q → A q) (hP : va_P D vwCl (zW N ad C S) H) (hS : va_S A s.heap H locs) {r : Int64} (hM : zML l y ws rm D tys K (zW N ad C) (.ref b :: As) S r S1) (cw : CallW R s args own Cn index y bytes maxL ret ws rm 0 0 n) (hrc : ∃ cellB : Cell, H[b]? = some cellB ∧ cellB.vm.isStatics = false ∧ s.vm.findClass Cn = some cellB.cls) (hsize : ls.size = nL) (hn : As.length = n) (hst : st0 = As.reverse ++ .ref b :: rest) (hW : (rest.map fun v => v.category).sum ≤ 8) (hdg : decode cc pc = .ok (.invokevirtual index, 3))
    (kk : ∀ (H1 : Heap) (locs1 : List Loc), va_P D vwCl (zW N ad C S1) H1 → va_S A s.heap H1 locs1 → W p l e R s m args below meth c H1 locs1 0 0 Q (F0 m (pc + 3) ls (.long r :: rest))) : W p l e R s m args below meth c H locs 0 0 Q (F0 m pc ls st0) := by
  have hF := z_freeA hD hA hS S
  refine va_calll (va_runV (As := As) (rest := rest) X (hM H.size) cw ⟨zP_blind, hrc, z_pre hK hE hD hF hS hP _⟩ rfl hn hsize hst (lv_room hW) hdg ⟨Nat.zero_le _, Nat.zero_le _⟩) hS (fun q _ h => hF q h) hF (fun r1 u t H1 locs1 ht hvm hw hB hz1 hk1 hS1 => ?_)
  obtain ⟨rfl, rfl⟩ := hw
  obtain ⟨hP1, -, -⟩ := hB
  rw [ht] at hP1
  exact kk H1 locs1 hP1 hS1
theorem z_cVV (X : CallFix p m c cc nL s args Ts own) (hK : va_K D vwCl tys s) (hE : zE K A s s.heap) (hD : ∀ S, va_D A (zW N ad C S)) (hA : ∀ q, s.heap.size ≤ q → A q) (hP : va_P D vwCl (zW N ad C S) H) (hS : va_S A s.heap H locs) (hM : zMV l y ws rm D tys K (zW N ad C) (.ref b :: As) S S1) (cw : CallW R s args own Cn index y bytes maxL ret ws rm 0 0 n) (hrc : ∃ cellB : Cell, H[b]? = some cellB ∧ cellB.vm.isStatics = false ∧ s.vm.findClass Cn = some cellB.cls) (hsize : ls.size = nL) (hn : As.length = n) (hst : st0 = As.reverse ++ .ref b :: rest) (hW : (rest.map fun v => v.category).sum ≤ 8) (hdg : decode cc pc = .ok (.invokevirtual index, 3))
    (kk : ∀ (H1 : Heap) (locs1 : List Loc), va_P D vwCl (zW N ad C S1) H1 → va_S A s.heap H1 locs1 → W p l e R s m args below meth c H1 locs1 0 0 Q (F0 m (pc + 3) ls rest)) : W p l e R s m args below meth c H locs 0 0 Q (F0 m pc ls st0) := by
  have hF := z_freeA hD hA hS S
  refine va_callv (va_runV (As := As) (rest := rest) X (hM H.size) cw ⟨zP_blind, hrc, z_pre hK hE hD hF hS hP _⟩ rfl hn hsize hst (lv_room hW) hdg ⟨Nat.zero_le _, Nat.zero_le _⟩) hS (fun q _ h => hF q h) hF (fun u t H1 locs1 ht hvm hw hB hz1 hk1 hS1 => ?_)
  obtain rfl := hw
  obtain ⟨hP1, -, -⟩ := hB
  rw [ht] at hP1
  exact kk H1 locs1 hP1 hS1
theorem z_cSV (X : CallFix p m c cc nL s args Ts own) (hK : va_K D vwCl tys s) (hE : zE K A s s.heap) (hD : ∀ S, va_D A (zW N ad C S)) (hA : ∀ q, s.heap.size ≤ q → A q) (hP : va_P D vwCl (zW N ad C S) H) (hS : va_S A s.heap H locs) (hM : zMV l y ws rm D tys K (zW N ad C) As S S1) (cw : CallB R s args own index y bytes maxL ret ws rm 0 0 n ∧ (Cond.static y).before args s = true) (hsize : ls.size = nL) (hn : As.length = n) (hst : st0 = As.reverse ++ rest) (hW : (rest.map fun v => v.category).sum ≤ 8) (hdg : decode cc pc = .ok (.invokestatic index, 3))
    (kk : ∀ (H1 : Heap) (locs1 : List Loc), va_P D vwCl (zW N ad C S1) H1 → va_S A s.heap H1 locs1 → W p l e R s m args below meth c H1 locs1 0 0 Q (F0 m (pc + 3) ls rest)) : W p l e R s m args below meth c H locs 0 0 Q (F0 m pc ls st0) := by
  have hF := z_freeA hD hA hS S
  refine va_callv (va_runS (As := As) (rest := rest) X (hM H.size) cw ⟨zP_blind, z_pre hK hE hD hF hS hP _⟩ rfl hn hsize hst (lv_room hW) hdg ⟨Nat.zero_le _, Nat.zero_le _⟩) hS (fun q _ h => hF q h) hF (fun u t H1 locs1 ht hvm hw hB hz1 hk1 hS1 => ?_)
  obtain rfl := hw
  obtain ⟨hP1, -, -⟩ := hB
  rw [ht] at hP1
  exact kk H1 locs1 hP1 hS1
theorem z_cSI (X : CallFix p m c cc nL s args Ts own) (hK : va_K D vwCl tys s) (hE : zE K A s s.heap) (hD : ∀ S, va_D A (zW N ad C S)) (hA : ∀ q, s.heap.size ≤ q → A q) (hP : va_P D vwCl (zW N ad C S) H) (hS : va_S A s.heap H locs) {r : Int32} (hM : zMI l y ws rm D tys K (zW N ad C) As S r S1) (cw : CallB R s args own index y bytes maxL ret ws rm 0 0 n ∧ (Cond.static y).before args s = true) (hsize : ls.size = nL) (hn : As.length = n) (hst : st0 = As.reverse ++ rest) (hW : (rest.map fun v => v.category).sum ≤ 8) (hdg : decode cc pc = .ok (.invokestatic index, 3))
    (kk : ∀ (H1 : Heap) (locs1 : List Loc), va_P D vwCl (zW N ad C S1) H1 → va_S A s.heap H1 locs1 → W p l e R s m args below meth c H1 locs1 0 0 Q (F0 m (pc + 3) ls (.int r :: rest))) : W p l e R s m args below meth c H locs 0 0 Q (F0 m pc ls st0) := by
  have hF := z_freeA hD hA hS S
  refine va_calli (va_runS (As := As) (rest := rest) X (hM H.size) cw ⟨zP_blind, z_pre hK hE hD hF hS hP _⟩ rfl hn hsize hst (lv_room hW) hdg ⟨Nat.zero_le _, Nat.zero_le _⟩) hS (fun q _ h => hF q h) hF (fun r1 u t H1 locs1 ht hvm hw hB hz1 hk1 hS1 => ?_)
  obtain ⟨rfl, rfl⟩ := hw
  obtain ⟨hP1, -, -⟩ := hB
  rw [ht] at hP1
  exact kk H1 locs1 hP1 hS1
theorem z_cSL (X : CallFix p m c cc nL s args Ts own) (hK : va_K D vwCl tys s) (hE : zE K A s s.heap) (hD : ∀ S, va_D A (zW N ad C S)) (hA : ∀ q, s.heap.size ≤ q → A q) (hP : va_P D vwCl (zW N ad C S) H) (hS : va_S A s.heap H locs) {r : Int64} (hM : zML l y ws rm D tys K (zW N ad C) As S r S1) (cw : CallB R s args own index y bytes maxL ret ws rm 0 0 n ∧ (Cond.static y).before args s = true) (hsize : ls.size = nL) (hn : As.length = n) (hst : st0 = As.reverse ++ rest) (hW : (rest.map fun v => v.category).sum ≤ 8) (hdg : decode cc pc = .ok (.invokestatic index, 3))
    (kk : ∀ (H1 : Heap) (locs1 : List Loc), va_P D vwCl (zW N ad C S1) H1 → va_S A s.heap H1 locs1 → W p l e R s m args below meth c H1 locs1 0 0 Q (F0 m (pc + 3) ls (.long r :: rest))) : W p l e R s m args below meth c H locs 0 0 Q (F0 m pc ls st0) := by
  have hF := z_freeA hD hA hS S
  refine va_calll (va_runS (As := As) (rest := rest) X (hM H.size) cw ⟨zP_blind, z_pre hK hE hD hF hS hP _⟩ rfl hn hsize hst (lv_room hW) hdg ⟨Nat.zero_le _, Nat.zero_le _⟩) hS (fun q _ h => hF q h) hF (fun r1 u t H1 locs1 ht hvm hw hB hz1 hk1 hS1 => ?_)
  obtain ⟨rfl, rfl⟩ := hw
  obtain ⟨hP1, -, -⟩ := hB
  rw [ht] at hP1
  exact kk H1 locs1 hP1 hS1
theorem z_cSNI {host : String} (X : CallFix p m c cc nL s args Ts own) (hK : va_K D vwCl tys s) (hE : zE K A s s.heap) (hD : ∀ S, va_D A (zW N ad C S)) (hA : ∀ q, s.heap.size ≤ q → A q) (hP : va_P D vwCl (zW N ad C S) H) (hS : va_S A s.heap H locs) {r : Int32} (hM : zMI l y ws rm D tys K (zW N ad C) As S r S1) (cw : va_CN R s args own index y host bytes maxL ret ws rm 0 0 n ∧ (Cond.static y).before args s = true ∧ True) (hsize : ls.size = nL) (hn : As.length = n) (hst : st0 = As.reverse ++ rest) (hW : (rest.map fun v => v.category).sum ≤ 8) (hdg : decode cc pc = .ok (.invokestatic index, 3))
    (kk : ∀ (H1 : Heap) (locs1 : List Loc), va_P D vwCl (zW N ad C S1) H1 → va_S A s.heap H1 locs1 → W p l e R s m args below meth c H1 locs1 0 0 Q (F0 m (pc + 3) ls (.int r :: rest))) : W p l e R s m args below meth c H locs 0 0 Q (F0 m pc ls st0) := by
  have hF := z_freeA hD hA hS S
  refine va_calli (va_runSN (As := As) (rest := rest) X (hM H.size) cw ⟨zP_blind, z_pre hK hE hD hF hS hP _⟩ rfl hn hsize hst (lv_room hW) hdg ⟨Nat.zero_le _, Nat.zero_le _⟩) hS (fun q _ h => hF q h) hF (fun r1 u t H1 locs1 ht hvm hw hB hz1 hk1 hS1 => ?_)
  obtain ⟨rfl, rfl⟩ := hw
  obtain ⟨hP1, -, -⟩ := hB
  rw [ht] at hP1
  exact kk H1 locs1 hP1 hS1
theorem z_cSNL {host : String} (X : CallFix p m c cc nL s args Ts own) (hK : va_K D vwCl tys s) (hE : zE K A s s.heap) (hD : ∀ S, va_D A (zW N ad C S)) (hA : ∀ q, s.heap.size ≤ q → A q) (hP : va_P D vwCl (zW N ad C S) H) (hS : va_S A s.heap H locs) {r : Int64} (hM : zML l y ws rm D tys K (zW N ad C) As S r S1) (cw : va_CN R s args own index y host bytes maxL ret ws rm 0 0 n ∧ (Cond.static y).before args s = true ∧ True) (hsize : ls.size = nL) (hn : As.length = n) (hst : st0 = As.reverse ++ rest) (hW : (rest.map fun v => v.category).sum ≤ 8) (hdg : decode cc pc = .ok (.invokestatic index, 3))
    (kk : ∀ (H1 : Heap) (locs1 : List Loc), va_P D vwCl (zW N ad C S1) H1 → va_S A s.heap H1 locs1 → W p l e R s m args below meth c H1 locs1 0 0 Q (F0 m (pc + 3) ls (.long r :: rest))) : W p l e R s m args below meth c H locs 0 0 Q (F0 m pc ls st0) := by
  have hF := z_freeA hD hA hS S
  refine va_calll (va_runSN (As := As) (rest := rest) X (hM H.size) cw ⟨zP_blind, z_pre hK hE hD hF hS hP _⟩ rfl hn hsize hst (lv_room hW) hdg ⟨Nat.zero_le _, Nat.zero_le _⟩) hS (fun q _ h => hF q h) hF (fun r1 u t H1 locs1 ht hvm hw hB hz1 hk1 hS1 => ?_)
  obtain ⟨rfl, rfl⟩ := hw
  obtain ⟨hP1, -, -⟩ := hB
  rw [ht] at hP1
  exact kk H1 locs1 hP1 hS1
end zCall
/-- a method's words: its code, and all words that stay -/
abbrev zws (y : MethodName) (cc : ByteArray) (maxL : Nat) (ret : Option FieldType) : List Cond := Cond.code y cc maxL ret :: zT
theorem z_gT {y : MethodName} {cc : ByteArray} {maxL : Nat} {ret : Option FieldType} {w0 : Cond} (h : Cond.code y cc maxL ret ∈ zT) : GoodIn (w0 :: zT) (zws y cc maxL ret) := by
  intro w hw
  have hz : w ∈ zT := by
    rcases List.mem_cons.mp hw with rfl | h1
    · exact h
    · exact h1
  exact ⟨List.mem_cons_of_mem _ hz, good_of_word (List.mem_filter.mp hz).2⟩
theorem z_gV {own Cn : String} {index : Nat} {y : MethodName} {cc : ByteArray} {maxL : Nat} {ret : Option FieldType} {w0 : Cond} (h1 : Cond.methodLink own index y ∈ zT) (h2 : Cond.instanceMethod y ∈ zT) (h3 : Cond.selects Cn y y ∈ zT) (h4 : Cond.initialized Cn ∈ zT) (h5 : Cond.code y cc maxL ret ∈ zT) : GoodIn (w0 :: zT) (wsV own index Cn y (zws y cc maxL ret)) := by
  intro w hw
  unfold wsV at hw
  rcases List.mem_append.mp hw with h | h
  · simp only [List.mem_cons, List.not_mem_nil, or_false] at h
    have hz : w ∈ zT := by
      rcases h with rfl | rfl | rfl | rfl
      all_goals assumption
    exact ⟨List.mem_cons_of_mem _ hz, good_of_word (List.mem_filter.mp hz).2⟩
  · exact z_gT h5 w h
theorem z_gS {own : String} {index : Nat} {y : MethodName} {cc : ByteArray} {maxL : Nat} {ret : Option FieldType} {w0 : Cond} (h1 : Cond.methodLink own index y ∈ zT) (h2 : Cond.static y ∈ zT) (h4 : Cond.initialized y.cls ∈ zT) (h5 : Cond.code y cc maxL ret ∈ zT) : GoodIn (w0 :: zT) (va_wsS own index y (zws y cc maxL ret)) := by
  intro w hw
  unfold va_wsS at hw
  rcases List.mem_append.mp hw with h | h
  · simp only [List.mem_cons, List.not_mem_nil, or_false] at h
    have hz : w ∈ zT := by
      rcases h with rfl | rfl | rfl
      all_goals assumption
    exact ⟨List.mem_cons_of_mem _ hz, good_of_word (List.mem_filter.mp hz).2⟩
  · exact z_gT h5 w h
theorem z_ne {x k : Int32} {j : Int} (h : ¬ x = k) (hk : k.toInt = j) : x.toInt ≠ j := fun e => h (Int32.toInt_inj.mp (e.trans hk.symm))
theorem z_ixlt {i : Int32} {n : Nat} (h : vp_in i n) : i.toNatClampNeg < n := Nat.not_le.mp fun q => h (Or.inr q)
def zTy (cy : Nat → ClassId) : List (ClassId × FieldType) := [(cy 0, .int), (cy 1, .long), (cy 2, .boolean), (cy 3, .object "DoughDebts$Times")]
