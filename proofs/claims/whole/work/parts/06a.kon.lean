/-! constructors: a world that grows -/
section zNew
variable {p : Program} {l : Launch} {e : Env} {R : Room} {s : State} {m : MethodId} {args : Array Value} {below : List Frame} {meth : Method} {c : Code} {H : Heap} {locs : List Loc} {cells slots : Nat} {Q : State → Prop}
variable {cc : ByteArray} {pc : Nat} {ls : Array Slot} {rest : List Value} {D : va_G} {cl : List vw_C} {A : Nat → Prop} {a : Nat} {tys : List (ClassId × FieldType)} {ws : va_W} {H0 : Heap}
theorem z_newa (hexec : p.tables.exec = Jvm.exec) (hb : c.code = cc) {atype : ArrayType} (harr : (Cond.arrayClass (newarray.typeOf atype)).before args s = true) {ty : FieldType} (hty : newarray.typeOf atype = ty) (hK : va_K D cl tys s) (hP : va_P D cl ws H) (hD : va_D A ws) (hS : va_S A H0 H locs) (hA : ∀ q, H0.size ≤ q → A q)
    (t0 : Nat) {cA : ClassId} (ht : tys[t0]? = some (cA, ty)) {n : Int32} {N' : Nat} {a0 : vp_A} (ha : ∀ cA : ClassId, vp_cell cA a0 = arrV cA N' (fun _ => defaultValue ty)) (hn : ¬ n < 0) (hN : n.toNatClampNeg = N') (hbytes : N' * componentBytes ty ≤ 536870912) (hcells : cells + 1 ≤ R.cells) (hslots : slots + N' ≤ R.slots) (hdg : decode cc pc = .ok (.newarray atype, 2))
    (kk : ∀ (q : Nat) (H1 : Heap), va_P D cl (ws ++ [(q, .inl (cA, a0))]) H1 → va_D A (ws ++ [(q, .inl (cA, a0))]) → va_S A H0 H1 locs →
      W p l e R s m args below meth c H1 locs (cells + 1) (slots + N') Q (F0 m (pc + 2) ls (.ref q :: rest))) : W p l e R s m args below meth c H locs cells slots Q (F0 m pc ls (.int n :: rest)) := by
  refine va_newa hexec hb harr hty hK hP hD hS hA ha hn hN hbytes hcells hslots hdg (fun q cB H1 hK1 hP1 hD1 hS1 => ?_)
  have h1 := (hK.2 t0 _ ht).2
  have h2 := (hK1.2 tys.length (cB, ty) (by simp)).2
  have hc : cB = cA := by
    subst hty
    cases atype <;> exact Option.some.inj (h2.symm.trans h1)
  subst hc
  exact kk q H1 hP1 hD1 hS1
theorem z_newq (hexec : p.tables.exec = Jvm.exec) (hb : c.code = cc) {own C : String} {index : Nat} (hown : s.vm.findClass own = some m.cls) (hclink : (Cond.classLink own index C).before args s = true) (hover : va_AO C s) (hK : va_K D cl tys s) (hP : va_P D cl ws H) (hD : va_D A ws) (hS : va_S A H0 H locs) (hA : ∀ q, H0.size ≤ q → A q)
    (t0 : Nat) {cA : ClassId} (ht : tys[t0]? = some (cA, .object C)) {n : Int32} {N' : Nat} (hn : ¬ n < 0) (hN : n.toNatClampNeg = N') (hbytes : N' * 4 ≤ 536870912) (hcells : cells + 1 ≤ R.cells) (hslots : slots + N' ≤ R.slots) (hdg : decode cc pc = .ok (.anewarray index, 3))
    (kk : ∀ (q : Nat) (H1 : Heap), va_P D cl (ws ++ [(q, .inl (cA, N', .inr (.inr (.inr (.inr (fun _ => none))))))]) H1 → va_D A (ws ++ [(q, .inl (cA, N', .inr (.inr (.inr (.inr (fun _ => none))))))]) → va_S A H0 H1 locs →
      W p l e R s m args below meth c H1 locs (cells + 1) (slots + N') Q (F0 m (pc + 3) ls (.ref q :: rest))) : W p l e R s m args below meth c H locs cells slots Q (F0 m pc ls (.int n :: rest)) := by
  refine va_newq hexec hb hown hclink hover hK hP hD hS hA hn hN hbytes hcells hslots hdg (fun q cB H1 hK1 hP1 hD1 hS1 => ?_)
  obtain ⟨_, _, _, _, _, h1⟩ := (hK.2 t0 _ ht).2
  obtain ⟨_, _, _, _, _, h2⟩ := (hK1.2 tys.length (cB, .object C) (by simp)).2
  obtain rfl : cB = cA := Option.some.inj (h2.symm.trans h1)
  exact kk q H1 hP1 hD1 hS1
end zNew
/-- a constructor's contract: from the bare object to the block of cells that it makes -/
def zMK (l : Launch) (y : MethodName) (ws : List Cond) (rm : Room) (D : va_G) (tys : List (ClassId × FieldType)) (K : (Nat → Nat) × (Nat → Nat)) (e0 : Nat × va_E) (bk : (Nat → Nat) → va_W) (av : List Value) (mc ms : Nat) : Prop := ∀ sz : Nat, Met l y ws rm (va_Pc av (zPw D tys K [e0] sz)) (va_Qv (fun (u : Nat → Nat) => u 0 = e0.1) (fun u t => va_P D vwCl (bk u) t.heap ∧ va_K D vwCl tys t ∧ va_D (va_A [e0] sz) (bk u)) (va_A [e0] sz)) mc ms (va_A [e0] sz)
section zKon
variable {l : Launch} {y : MethodName} {ws ws' : List Cond} {rm : Room} {D : va_G} {tys : List (ClassId × FieldType)} {K : (Nat → Nat) × (Nat → Nat)} {e0 : Nat × va_E} {bk : (Nat → Nat) → va_W} {av : List Value} {cc : ByteArray} {maxL mc ms : Nat} {own : String} {lv : List (Nat × Value)}
theorem z_metK (hy : plainName y.cls = true) (hw : ws = Cond.code y cc maxL none :: ws') (ho : y.cls = own) (hyn : y.name = "<init>") (hn : (lg_sl av).length ≤ maxL) (hlv : lv_args 0 av = lv)
    (body : ∀ (p : Program) (e : Env) (s : State) (m : MethodId) (below : List Frame) (meth : Method) (c : Code) (A : Nat → Prop) (Q : State → Prop), CallFix p m c cc maxL s av.toArray ws own → va_K D vwCl tys s → zE K A s s.heap → va_D A [e0] → (∀ q, s.heap.size ≤ q → A q) → meth.name = "<init>" → (∀ (u : Nat → Nat) (H : Heap) (locs : List Loc) (pc : Nat) (ls : Array Slot), u 0 = e0.1 → va_P D vwCl (bk u) H → va_D A (bk u) → va_S A s.heap H locs → decode cc pc = .ok (.return_, 1) → W p l e rm s m av.toArray below meth c H locs mc ms Q (F0 m pc ls [])) → va_P D vwCl [e0] s.heap → va_S A s.heap s.heap [] → ∀ ls, lv_has ls maxL lv → W p l e rm s m av.toArray below meth c s.heap [] 0 0 Q (F0 m 0 ls [])) : zMK l y ws rm D tys K e0 bk av mc ms := by
  intro sz
  refine Met.ofW (cc := cc) (maxL := maxL) (ret := none) hy hw ?_
  intro p e s m args below meth c s₁ B hml hv
  obtain ⟨rfl, hsz, hP, hK, hD0, hE⟩ := hv
  have hr := B.returns
  have hts := atoms_spec (ws := ws) B.pre
  have hown : s.vm.findClass own = some m.cls := by rw [← ho]; exact findClass_of_methodNamed B.named
  have hin : meth.name = "<init>" := by rw [← hyn]; exact (name_of_methodNamed B.named B.method).1
  subst hsz
  have hl := lv_entry av (n := maxL) hn
  rw [lg_entry_eq]
  rw [hlv] at hl
  refine body p e s m below meth c (va_A [e0] s.heap.size) _ ⟨B.exec, B.bytes, hml, hown, hts⟩ hK hE (hD0.self) (fun q h => Or.inr h) hin ?_ hP va_S.rf _ hl
  intro u H locs pc ls hu hP hD hS hd
  exact W.vret B.exec B.bytes hr (fun t ht hW => ⟨⟨u, rfl, hu, by rw [ht]; exact hP, va_K.moved hW.alike hK, hD⟩, hS.F ht⟩) hS.2.2 hd
end zKon
section zKcall
variable {p : Program} {l : Launch} {e : Env} {R : Room} {s : State} {m : MethodId} {args : Array Value} {below : List Frame} {meth : Method} {c : Code} {H : Heap} {locs : List Loc} {cells slots : Nat} {Q : State → Prop} {D : va_G} {tys : List (ClassId × FieldType)} {K : (Nat → Nat) × (Nat → Nat)} {A : Nat → Prop} {ws wr : va_W} {e0 : Nat × va_E} {bk : (Nat → Nat) → va_W}
  {cc bytes : ByteArray} {nL maxL index n mc ms : Nat} {Ts wy : List Cond} {own host : String} {y : MethodName} {rm : Room} {As rest st0 : List Value} {pc : Nat} {ls : Array Slot}
theorem z_preK (hK : va_K D vwCl tys s) (hE : zE K A s s.heap) (hDc : va_D A [e0]) (hF : ∀ q, va_A [e0] H.size q → A q) (hS : va_S A s.heap H locs) (hPc : va_P D vwCl [e0] H) (av : List Value) : ∀ U : State, U.heap = H → s.WarmedH U.vm → va_Pc av (zPw D tys K [e0] H.size) av.toArray U := fun U hU hW => ⟨rfl, by rw [hU], by rw [hU]; exact hPc, va_K.moved hW.alike hK, hDc.weaken (fun _ _ _ _ => trivial), by rw [hU]; exact zE.warm hW ((hE.kept hS.2.1).narrow hF)⟩
theorem z_cK (X : CallFix p m c cc nL s args Ts own) (hK : va_K D vwCl tys s) (hE : zE K A s s.heap) (hD : va_D A ws) (hA : ∀ q, s.heap.size ≤ q → A q) (hP : va_P D vwCl ws H) (hS : va_S A s.heap H locs) (pl : Nat) (prs : List Nat) (hC : [pl].map (fun i => ws[i]?) = [e0].map some) (hC2 : [pl].filterMap (fun i => ws[i]?) = [e0]) (hR : prs.map (fun i => ws[i]?) = wr.map some) (hnd : va_nd prs = true) (hdis : ∀ i ∈ prs, i ∉ [pl])
    (hM : zMK l y wy rm D tys K e0 bk (.ref e0.1 :: As) mc ms) (cw : CallB R s args own index y bytes maxL none wy rm mc ms n ∧ y.name = "<init>" ∧ (Cond.instanceMethod y).before args s = true) (hsize : ls.size = nL) (hn : As.length = n) (hst : st0 = As.reverse ++ .ref e0.1 :: rest) (hW : (rest.map fun v => v.category).sum ≤ 8) (hdg : decode cc pc = .ok (.invokespecial index, 3)) (hf : cells + mc ≤ R.cells ∧ slots + ms ≤ R.slots)
    (kk : ∀ (u : Nat → Nat) (H1 : Heap) (locs1 : List Loc), u 0 = e0.1 → va_P D vwCl (wr ++ bk u) H1 → va_D A (wr ++ bk u) → va_S A s.heap H1 locs1 → W p l e R s m args below meth c H1 locs1 (cells + mc) (slots + ms) Q (F0 m (pc + 3) ls rest)) : W p l e R s m args below meth c H locs cells slots Q (F0 m pc ls st0) := by
  have hPc : va_P D vwCl [e0] H := hP.sub [pl] hC2
  have hDc : va_D A [e0] := hD.sub [pl] rfl hC
  have hF := va_free (wc := [e0]) hD hS hA [pl] hC
  refine va_callv (va_runI (As := As) (rest := rest) X (hM H.size) cw ⟨zP_blind, z_preK hK hE hDc hF hS hPc _⟩ rfl hn hsize hst (lv_room hW) hdg hf) hS (fun q _ h => hF q h) hF (fun u t H1 locs1 ht hvm hw hB hz1 hk1 hS1 => ?_)
  obtain ⟨hP1, -, hD1⟩ := hB
  rw [ht] at hP1
  obtain ⟨hP2, hD2⟩ := va_join (wr := wr) (w1 := bk u) hP hD [pl] prs hC hR hnd hdis hk1 hF hP1 hD1
  exact kk u H1 locs1 hw hP2 hD2 hS1
theorem z_cKN (X : CallFix p m c cc nL s args Ts own) (hK : va_K D vwCl tys s) (hE : zE K A s s.heap) (hD : va_D A ws) (hA : ∀ q, s.heap.size ≤ q → A q) (hP : va_P D vwCl ws H) (hS : va_S A s.heap H locs) (pl : Nat) (prs : List Nat) (hC : [pl].map (fun i => ws[i]?) = [e0].map some) (hC2 : [pl].filterMap (fun i => ws[i]?) = [e0]) (hR : prs.map (fun i => ws[i]?) = wr.map some) (hnd : va_nd prs = true) (hdis : ∀ i ∈ prs, i ∉ [pl])
    (hM : zMK l y wy rm D tys K e0 bk (.ref e0.1 :: As) mc ms) (cw : va_CN R s args own index y host bytes maxL none wy rm mc ms n ∧ y.name = "<init>" ∧ (Cond.instanceMethod y).before args s = true) (hsize : ls.size = nL) (hn : As.length = n) (hst : st0 = As.reverse ++ .ref e0.1 :: rest) (hW : (rest.map fun v => v.category).sum ≤ 8) (hdg : decode cc pc = .ok (.invokespecial index, 3)) (hf : cells + mc ≤ R.cells ∧ slots + ms ≤ R.slots)
    (kk : ∀ (u : Nat → Nat) (H1 : Heap) (locs1 : List Loc), u 0 = e0.1 → va_P D vwCl (wr ++ bk u) H1 → va_D A (wr ++ bk u) → va_S A s.heap H1 locs1 → W p l e R s m args below meth c H1 locs1 (cells + mc) (slots + ms) Q (F0 m (pc + 3) ls rest)) : W p l e R s m args below meth c H locs cells slots Q (F0 m pc ls st0) := by
  have hPc : va_P D vwCl [e0] H := hP.sub [pl] hC2
  have hDc : va_D A [e0] := hD.sub [pl] rfl hC
  have hF := va_free (wc := [e0]) hD hS hA [pl] hC
  refine va_callv (va_runIN (As := As) (rest := rest) X (hM H.size) cw ⟨zP_blind, z_preK hK hE hDc hF hS hPc _⟩ rfl hn hsize hst (lv_room hW) hdg hf) hS (fun q _ h => hF q h) hF (fun u t H1 locs1 ht hvm hw hB hz1 hk1 hS1 => ?_)
  obtain ⟨hP1, -, hD1⟩ := hB
  rw [ht] at hP1
  obtain ⟨hP2, hD2⟩ := va_join (wr := wr) (w1 := bk u) hP hD [pl] prs hC hR hnd hdis hk1 hF hP1 hD1
  exact kk u H1 locs1 hw hP2 hD2 hS1
end zKcall
