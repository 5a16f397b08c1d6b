/-! a named function is its body -/
theorem z_e1 {α1 β : Type} {F j : α1 → β} {o : β} {x1 : α1} (e : j = F) (h : j x1 = o) : F x1 = o := by subst e; exact h
theorem z_e2 {α1 α2 β : Type} {F j : α1 → α2 → β} {o : β} {x1 : α1} {x2 : α2} (e : j = F) (h : j x1 x2 = o) : F x1 x2 = o := by subst e; exact h
theorem z_e3 {α1 α2 α3 β : Type} {F j : α1 → α2 → α3 → β} {o : β} {x1 : α1} {x2 : α2} {x3 : α3} (e : j = F) (h : j x1 x2 x3 = o) : F x1 x2 x3 = o := by subst e; exact h
theorem z_e4 {α1 α2 α3 α4 β : Type} {F j : α1 → α2 → α3 → α4 → β} {o : β} {x1 : α1} {x2 : α2} {x3 : α3} {x4 : α4} (e : j = F) (h : j x1 x2 x3 x4 = o) : F x1 x2 x3 x4 = o := by subst e; exact h
theorem z_e5 {α1 α2 α3 α4 α5 β : Type} {F j : α1 → α2 → α3 → α4 → α5 → β} {o : β} {x1 : α1} {x2 : α2} {x3 : α3} {x4 : α4} {x5 : α5} (e : j = F) (h : j x1 x2 x3 x4 x5 = o) : F x1 x2 x3 x4 x5 = o := by subst e; exact h
theorem z_e6 {α1 α2 α3 α4 α5 α6 β : Type} {F j : α1 → α2 → α3 → α4 → α5 → α6 → β} {o : β} {x1 : α1} {x2 : α2} {x3 : α3} {x4 : α4} {x5 : α5} {x6 : α6} (e : j = F) (h : j x1 x2 x3 x4 x5 x6 = o) : F x1 x2 x3 x4 x5 x6 = o := by subst e; exact h
theorem z_e7 {α1 α2 α3 α4 α5 α6 α7 β : Type} {F j : α1 → α2 → α3 → α4 → α5 → α6 → α7 → β} {o : β} {x1 : α1} {x2 : α2} {x3 : α3} {x4 : α4} {x5 : α5} {x6 : α6} {x7 : α7} (e : j = F) (h : j x1 x2 x3 x4 x5 x6 x7 = o) : F x1 x2 x3 x4 x5 x6 x7 = o := by subst e; exact h
theorem z_e8 {α1 α2 α3 α4 α5 α6 α7 α8 β : Type} {F j : α1 → α2 → α3 → α4 → α5 → α6 → α7 → α8 → β} {o : β} {x1 : α1} {x2 : α2} {x3 : α3} {x4 : α4} {x5 : α5} {x6 : α6} {x7 : α7} {x8 : α8} (e : j = F) (h : j x1 x2 x3 x4 x5 x6 x7 x8 = o) : F x1 x2 x3 x4 x5 x6 x7 x8 = o := by subst e; exact h
theorem z_e9 {α1 α2 α3 α4 α5 α6 α7 α8 α9 β : Type} {F j : α1 → α2 → α3 → α4 → α5 → α6 → α7 → α8 → α9 → β} {o : β} {x1 : α1} {x2 : α2} {x3 : α3} {x4 : α4} {x5 : α5} {x6 : α6} {x7 : α7} {x8 : α8} {x9 : α9} (e : j = F) (h : j x1 x2 x3 x4 x5 x6 x7 x8 x9 = o) : F x1 x2 x3 x4 x5 x6 x7 x8 x9 = o := by subst e; exact h
theorem z_e10 {α1 α2 α3 α4 α5 α6 α7 α8 α9 α10 β : Type} {F j : α1 → α2 → α3 → α4 → α5 → α6 → α7 → α8 → α9 → α10 → β} {o : β} {x1 : α1} {x2 : α2} {x3 : α3} {x4 : α4} {x5 : α5} {x6 : α6} {x7 : α7} {x8 : α8} {x9 : α9} {x10 : α10} (e : j = F) (h : j x1 x2 x3 x4 x5 x6 x7 x8 x9 x10 = o) : F x1 x2 x3 x4 x5 x6 x7 x8 x9 x10 = o := by subst e; exact h
/-! rows for arrays at a named place, and for copies with constant numbers -/
section zArr
variable {p : Program} {l : Launch} {e : Env} {R : Room} {s : State} {m : MethodId} {args : Array Value} {below : List Frame} {meth : Method} {c : Code} {H : Heap} {locs : List Loc} {cells slots : Nat} {Q : State → Prop}
variable {cc : ByteArray} {pc : Nat} {ls : Array Slot} {rest : List Value} {D : va_G} {cl : List vw_C} {A : Nat → Prop} {a : Nat} {tys : List (ClassId × FieldType)} {ws : va_W} {H0 : Heap}
theorem z_iald (hexec : p.tables.exec = Jvm.exec) (hb : c.code = cc) (hK : va_K D cl tys s) (hP : va_P D cl ws H) (q0 t0 : Nat) {cA : ClassId} {n : Nat} {f : Nat → Int32} (ha : ws[q0]? = some (a, .inl (cA, n, .inl f))) (ht : tys[t0]? = some (cA, .int)) {i : Int32} (hin : vp_in i n) {k : Nat} (hk : i.toNatClampNeg = k) (hdg : decode cc pc = .ok (.iaload, 1))
    (kk : W p l e R s m args below meth c H locs cells slots Q (F0 m (pc + 1) ls (.int (f k) :: rest))) : W p l e R s m args below meth c H locs cells slots Q (F0 m pc ls (.int i :: .ref a :: rest)) := by
  subst hk
  exact va_iald hexec hb hK hP q0 t0 ha ht hin hdg kk
theorem z_zald (hexec : p.tables.exec = Jvm.exec) (hb : c.code = cc) (hK : va_K D cl tys s) (hP : va_P D cl ws H) (q0 t0 : Nat) {cA : ClassId} {n : Nat} {f : Nat → Int32} (ha : ws[q0]? = some (a, .inl (cA, n, .inl f))) (ht : tys[t0]? = some (cA, .boolean)) {i : Int32} (hin : vp_in i n) {k : Nat} (hk : i.toNatClampNeg = k) (hdg : decode cc pc = .ok (.baload, 1))
    (kk : W p l e R s m args below meth c H locs cells slots Q (F0 m (pc + 1) ls (.int (f k) :: rest))) : W p l e R s m args below meth c H locs cells slots Q (F0 m pc ls (.int i :: .ref a :: rest)) := by
  subst hk
  exact va_zald hexec hb hK hP q0 t0 ha ht hin hdg kk
theorem z_lald (hexec : p.tables.exec = Jvm.exec) (hb : c.code = cc) (hK : va_K D cl tys s) (hP : va_P D cl ws H) (q0 t0 : Nat) {cA : ClassId} {n : Nat} {f : Nat → Int64} (ha : ws[q0]? = some (a, .inl (cA, n, .inr (.inl f)))) (ht : tys[t0]? = some (cA, .long)) {i : Int32} (hin : vp_in i n) {k : Nat} (hk : i.toNatClampNeg = k) (hdg : decode cc pc = .ok (.laload, 1))
    (kk : W p l e R s m args below meth c H locs cells slots Q (F0 m (pc + 1) ls (.long (f k) :: rest))) : W p l e R s m args below meth c H locs cells slots Q (F0 m pc ls (.int i :: .ref a :: rest)) := by
  subst hk
  exact va_lald hexec hb hK hP q0 t0 ha ht hin hdg kk
theorem z_iast (hexec : p.tables.exec = Jvm.exec) (hb : c.code = cc) (hK : va_K D cl tys s) (hP : va_P D cl ws H) (hD : va_D A ws) (hS : va_S A H0 H locs) (q0 t0 : Nat) {cA : ClassId} {n : Nat} {f : Nat → Int32} (ha : ws[q0]? = some (a, .inl (cA, n, .inl f))) (ht : tys[t0]? = some (cA, .int)) {i : Int32} {x : Int32} (hin : vp_in i n) {k : Nat} (hk : i.toNatClampNeg = k) (hdg : decode cc pc = .ok (.iastore, 1))
    (kk : ∀ (H1 : Heap) (locs1 : List Loc), va_P D cl (ws.set q0 (a, .inl (cA, n, .inl (upd f k x)))) H1 → va_S A H0 H1 locs1 → W p l e R s m args below meth c H1 locs1 cells slots Q (F0 m (pc + 1) ls rest)) : W p l e R s m args below meth c H locs cells slots Q (F0 m pc ls (.int x :: .int i :: .ref a :: rest)) := by
  subst hk
  exact va_iast hexec hb hK hP hD hS q0 t0 ha ht hin hdg (fun H1 l1 h1 _ h3 => kk H1 l1 h1 h3)
theorem z_zast (hexec : p.tables.exec = Jvm.exec) (hb : c.code = cc) (hK : va_K D cl tys s) (hP : va_P D cl ws H) (hD : va_D A ws) (hS : va_S A H0 H locs) (q0 t0 : Nat) {cA : ClassId} {n : Nat} {f : Nat → Int32} (ha : ws[q0]? = some (a, .inl (cA, n, .inl f))) (ht : tys[t0]? = some (cA, .boolean)) {i : Int32} {x : Int32} (hin : vp_in i n) {k : Nat} (hk : i.toNatClampNeg = k) (hx : vp_nar .boolean x = x) (hdg : decode cc pc = .ok (.bastore, 1))
    (kk : ∀ (H1 : Heap) (locs1 : List Loc), va_P D cl (ws.set q0 (a, .inl (cA, n, .inl (upd f k x)))) H1 → va_S A H0 H1 locs1 → W p l e R s m args below meth c H1 locs1 cells slots Q (F0 m (pc + 1) ls rest)) : W p l e R s m args below meth c H locs cells slots Q (F0 m pc ls (.int x :: .int i :: .ref a :: rest)) := by
  subst hk
  exact va_zast hexec hb hK hP hD hS q0 t0 ha ht hin hdg (fun H1 l1 h1 _ h3 => kk H1 l1 (by rw [hx] at h1; exact h1) h3)
theorem z_last (hexec : p.tables.exec = Jvm.exec) (hb : c.code = cc) (hK : va_K D cl tys s) (hP : va_P D cl ws H) (hD : va_D A ws) (hS : va_S A H0 H locs) (q0 t0 : Nat) {cA : ClassId} {n : Nat} {f : Nat → Int64} (ha : ws[q0]? = some (a, .inl (cA, n, .inr (.inl f)))) (ht : tys[t0]? = some (cA, .long)) {i : Int32} {x : Int64} (hin : vp_in i n) {k : Nat} (hk : i.toNatClampNeg = k) (hdg : decode cc pc = .ok (.lastore, 1))
    (kk : ∀ (H1 : Heap) (locs1 : List Loc), va_P D cl (ws.set q0 (a, .inl (cA, n, .inr (.inl (vp_updL f k x))))) H1 → va_S A H0 H1 locs1 → W p l e R s m args below meth c H1 locs1 cells slots Q (F0 m (pc + 1) ls rest)) : W p l e R s m args below meth c H locs cells slots Q (F0 m pc ls (.long x :: .int i :: .ref a :: rest)) := by
  subst hk
  exact va_last hexec hb hK hP hD hS q0 t0 ha ht hin hdg (fun H1 l1 h1 _ h3 => kk H1 l1 h1 h3)
theorem z_copyi (hexec : p.tables.exec = Jvm.exec) (hb : c.code = cc) (hml : c.maxLocals = ls.size) {own : String} {index : Nat} (hown : s.vm.findClass own = some m.cls) (hlink : (Cond.methodLink own index arraycopyName).before args s = true) (hnat : (Cond.native arraycopyName).before args s = true) (hstat : (Cond.static arraycopyName).before args s = true) (hini : (Cond.initialized "java/lang/System").before args s = true)
    (hK : va_K D cl tys s) (hP : va_P D cl ws H) (hD : va_D A ws) (hS : va_S A H0 H locs) (q0 q1 t0 : Nat) {a0 : Nat} {c0 : ClassId} {n0 n1 : Nat} {f g : Nat → Int32} (ha0 : ws[q0]? = some (a0, .inl (c0, n0, .inl f))) (ha1 : ws[q1]? = some (a, .inl (c0, n1, .inl g))) (ht0 : tys[t0]? = some (c0, .int))
    {n : Int32} {k : Nat} (h3 : ¬ n < 0) (hk : n.toNatClampNeg = k) (h4 : k ≤ n0) (h5 : k ≤ n1)
    (hframes : 1 ≤ R.frames) (hlocals : (rest.map fun v => v.category).sum + (nativeFrameWords "java/lang/System" "arraycopy" 5 + 11) ≤ R.locals) (hdg : decode cc pc = .ok (.invokestatic index, 3))
    (kk : ∀ (H1 : Heap) (locs1 : List Loc), va_P D cl (ws.set q1 (a, .inl (c0, n1, .inl (va_cpy f g 0 0 k)))) H1 → va_S A H0 H1 locs1 → W p l e R s m args below meth c H1 locs1 cells slots Q (F0 m (pc + 3) ls rest)) : W p l e R s m args below meth c H locs cells slots Q (F0 m pc ls (.int n :: .int 0 :: .ref a :: .int 0 :: .ref a0 :: rest)) := by
  subst hk
  exact va_copyi hexec hb hml hown hlink hnat hstat hini hK hP hD hS q0 q1 t0 t0 ha0 ha1 ht0 ht0 rfl (by decide) (by decide) h3 (by rw [sb_cl0]; omega) (by rw [sb_cl0]; omega) (fun _ _ => rfl) hframes hlocals hdg (fun H1 l1 h1 _ h3 => kk H1 l1 (by rw [sb_cl0] at h1; exact h1) h3)
theorem z_copyl (hexec : p.tables.exec = Jvm.exec) (hb : c.code = cc) (hml : c.maxLocals = ls.size) {own : String} {index : Nat} (hown : s.vm.findClass own = some m.cls) (hlink : (Cond.methodLink own index arraycopyName).before args s = true) (hnat : (Cond.native arraycopyName).before args s = true) (hstat : (Cond.static arraycopyName).before args s = true) (hini : (Cond.initialized "java/lang/System").before args s = true)
    (hK : va_K D cl tys s) (hP : va_P D cl ws H) (hD : va_D A ws) (hS : va_S A H0 H locs) (q0 q1 t0 : Nat) {a0 : Nat} {c0 : ClassId} {n0 n1 : Nat} {f g : Nat → Int64} (ha0 : ws[q0]? = some (a0, .inl (c0, n0, .inr (.inl f)))) (ha1 : ws[q1]? = some (a, .inl (c0, n1, .inr (.inl g)))) (ht0 : tys[t0]? = some (c0, .long))
    {n : Int32} {k : Nat} (h3 : ¬ n < 0) (hk : n.toNatClampNeg = k) (h4 : k ≤ n0) (h5 : k ≤ n1)
    (hframes : 1 ≤ R.frames) (hlocals : (rest.map fun v => v.category).sum + (nativeFrameWords "java/lang/System" "arraycopy" 5 + 11) ≤ R.locals) (hdg : decode cc pc = .ok (.invokestatic index, 3))
    (kk : ∀ (H1 : Heap) (locs1 : List Loc), va_P D cl (ws.set q1 (a, .inl (c0, n1, .inr (.inl (va_cpy f g 0 0 k))))) H1 → va_S A H0 H1 locs1 → W p l e R s m args below meth c H1 locs1 cells slots Q (F0 m (pc + 3) ls rest)) : W p l e R s m args below meth c H locs cells slots Q (F0 m pc ls (.int n :: .int 0 :: .ref a :: .int 0 :: .ref a0 :: rest)) := by
  subst hk
  exact va_copyl hexec hb hml hown hlink hnat hstat hini hK hP hD hS q0 q1 t0 t0 ha0 ha1 ht0 ht0 rfl (by decide) (by decide) h3 (by rw [sb_cl0]; omega) (by rw [sb_cl0]; omega) (fun _ _ => rfl) hframes hlocals hdg (fun H1 l1 h1 _ h3 => kk H1 l1 (by rw [sb_cl0] at h1; exact h1) h3)
end zArr
