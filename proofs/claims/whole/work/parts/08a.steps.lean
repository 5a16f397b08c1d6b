/-! one step of both: the answers are the same, and the states stay matched -/
def zo_state (Inv : zSt → zSt → Prop) : Prop := ∀ (SX SM : zSt), Inv SX SM → ∀ (a1 : Int32), ∃ (r : Int32) (X M : zSt), fx_state SX a1 = some (r, X) ∧ fm_state SM a1 = some (r, M) ∧ Inv X M
def zo_feed (Inv : zSt → zSt → Prop) : Prop := ∀ (SX SM : zSt), Inv SX SM → ∀ (a1 : Int32), ∀ (a2 : Int32), ∀ (a3 : Int32), ∀ (a4 : Int32), ∀ (a5 : Int32), ∃ (r : Int32) (X M : zSt), fx_feed SX a1 a2 a3 a4 a5 = some (r, X) ∧ fm_feed SM a1 a2 a3 a4 a5 = some (r, M) ∧ Inv X M
def zo_end (Inv : zSt → zSt → Prop) : Prop := ∀ (SX SM : zSt), Inv SX SM → ∀ (a1 : Int32), ∃ (r : Int32) (X M : zSt), fx_end SX a1 = some (r, X) ∧ fm_end SM a1 = some (r, M) ∧ Inv X M
def zo_house (Inv : zSt → zSt → Prop) : Prop := ∀ (SX SM : zSt), Inv SX SM → ∀ (a1 : Int32), ∀ (a2 : Int32), ∀ (a3 : Int32), ∃ (r : Int32) (X M : zSt), fx_house SX a1 a2 a3 = some (r, X) ∧ fm_house SM a1 a2 a3 = some (r, M) ∧ Inv X M
def zo_give (Inv : zSt → zSt → Prop) : Prop := ∀ (SX SM : zSt), Inv SX SM → ∀ (a1 : Int32), ∀ (a2 : Int32), ∃ (r : Int32) (X M : zSt), fx_give SX a1 a2 = some (r, X) ∧ fm_give SM a1 a2 = some (r, M) ∧ Inv X M
def zo_set (Inv : zSt → zSt → Prop) : Prop := ∀ (SX SM : zSt), Inv SX SM → ∀ (a1 : Int32), ∀ (a2 : Int32), ∃ (r : Int32) (X M : zSt), fx_set SX a1 a2 = some (r, X) ∧ fm_set SM a1 a2 = some (r, M) ∧ Inv X M
def zo_text (Inv : zSt → zSt → Prop) : Prop := ∀ (SX SM : zSt), Inv SX SM → ∃ (r : Int32) (X M : zSt), fx_text SX = some (r, X) ∧ fm_text SM = some (r, M) ∧ Inv X M
def zo_fault (Inv : zSt → zSt → Prop) : Prop := ∀ (SX SM : zSt), Inv SX SM → ∀ (a1 : Int32), ∃ (r : Int32) (X M : zSt), fx_fault SX a1 = some (r, X) ∧ fm_fault SM a1 = some (r, M) ∧ Inv X M
def zo_order (Inv : zSt → zSt → Prop) : Prop := ∀ (SX SM : zSt), Inv SX SM → ∀ (a1 : Int32), ∃ (r : Int32) (X M : zSt), fx_order SX a1 = some (r, X) ∧ fm_order SM a1 = some (r, M) ∧ Inv X M
def zo_days (Inv : zSt → zSt → Prop) : Prop := ∀ (SX SM : zSt), Inv SX SM → ∀ (a1 : Int32), ∃ (r : Int32) (X M : zSt), fx_days SX a1 = some (r, X) ∧ fm_days SM a1 = some (r, M) ∧ Inv X M
def zo_of (Inv : zSt → zSt → Prop) : Prop := ∀ (SX SM : zSt), Inv SX SM → ∀ (a1 : Int32), ∀ (a2 : Int32), ∃ (r : Int32) (X M : zSt), fx_of SX a1 a2 = some (r, X) ∧ fm_of SM a1 a2 = some (r, M) ∧ Inv X M
def zo_book (Inv : zSt → zSt → Prop) : Prop := ∀ (SX SM : zSt), Inv SX SM → ∀ (a1 : Int32), ∃ (r : Int32) (X M : zSt), fx_book SX a1 = some (r, X) ∧ fm_book SM a1 = some (r, M) ∧ Inv X M
def zo_gain (Inv : zSt → zSt → Prop) : Prop := ∀ (SX SM : zSt), Inv SX SM → ∀ (a1 : Int32), ∃ (r : Int32) (X M : zSt), fx_gain SX a1 = some (r, X) ∧ fm_gain SM a1 = some (r, M) ∧ Inv X M
def zo_orders (Inv : zSt → zSt → Prop) : Prop := ∀ (SX SM : zSt), Inv SX SM → ∀ (a1 : Int32), ∃ (r : Int32) (X M : zSt), fx_orders SX a1 = some (r, X) ∧ fm_orders SM a1 = some (r, M) ∧ Inv X M
def zo_round (Inv : zSt → zSt → Prop) : Prop := ∀ (SX SM : zSt), Inv SX SM → ∀ (a1 : Int32), ∃ (r : Int32) (X M : zSt), fx_round SX a1 = some (r, X) ∧ fm_round SM a1 = some (r, M) ∧ Inv X M
def zo_least (Inv : zSt → zSt → Prop) : Prop := ∀ (SX SM : zSt), Inv SX SM → ∀ (a1 : Int32), ∃ (r : Int32) (X M : zSt), fx_least SX a1 = some (r, X) ∧ fm_least SM a1 = some (r, M) ∧ Inv X M
def zo_leaven (Inv : zSt → zSt → Prop) : Prop := ∀ (SX SM : zSt), Inv SX SM → ∀ (a1 : Int32), ∀ (a2 : Int32), ∃ (r : Int32) (X M : zSt), fx_leaven SX a1 a2 = some (r, X) ∧ fm_leaven SM a1 a2 = some (r, M) ∧ Inv X M
def zo_part (Inv : zSt → zSt → Prop) : Prop := ∀ (SX SM : zSt), Inv SX SM → ∀ (a1 : Int32), ∀ (a2 : Int32), ∀ (a3 : Int32), ∃ (r : Int32) (X M : zSt), fx_part SX a1 a2 a3 = some (r, X) ∧ fm_part SM a1 a2 a3 = some (r, M) ∧ Inv X M
def zo_lent (Inv : zSt → zSt → Prop) : Prop := ∀ (SX SM : zSt), Inv SX SM → ∀ (a1 : Int32), ∀ (a2 : Int32), ∃ (r : Int32) (X M : zSt), fx_lent SX a1 a2 = some (r, X) ∧ fm_lent SM a1 a2 = some (r, M) ∧ Inv X M
def zo_led (Inv : zSt → zSt → Prop) : Prop := ∀ (SX SM : zSt), Inv SX SM → ∀ (a1 : Int32), ∀ (a2 : Int32), ∃ (r : Int32) (X M : zSt), fx_led SX a1 a2 = some (r, X) ∧ fm_led SM a1 a2 = some (r, M) ∧ Inv X M
def zo_rise (Inv : zSt → zSt → Prop) : Prop := ∀ (SX SM : zSt), Inv SX SM → ∀ (a1 : Int32), ∀ (a2 : Int32), ∀ (a3 : Int32), ∃ (r : Int32) (X M : zSt), fx_rise SX a1 a2 a3 = some (r, X) ∧ fm_rise SM a1 a2 a3 = some (r, M) ∧ Inv X M
def zo_odds (Inv : zSt → zSt → Prop) : Prop := ∀ (SX SM : zSt), Inv SX SM → ∀ (a1 : Int32), ∀ (a2 : Int32), ∃ (r : Int64) (X M : zSt), fx_odds SX a1 a2 = some (r, X) ∧ fm_odds SM a1 a2 = some (r, M) ∧ Inv X M
def zo_whose (Inv : zSt → zSt → Prop) : Prop := ∀ (SX SM : zSt), Inv SX SM → ∀ (a1 : Int32), ∃ (r : Int32) (X M : zSt), fx_whose SX a1 = some (r, X) ∧ fm_whose SM a1 = some (r, M) ∧ Inv X M
def zo_owe (Inv : zSt → zSt → Prop) : Prop := ∀ (SX SM : zSt), Inv SX SM → ∀ (a1 : Int32), ∀ (a2 : Int32), ∀ (a3 : Int32), ∃ (r : Int32) (X M : zSt), fx_owe SX a1 a2 a3 = some (r, X) ∧ fm_owe SM a1 a2 a3 = some (r, M) ∧ Inv X M
def zo_payments (Inv : zSt → zSt → Prop) : Prop := ∀ (SX SM : zSt), Inv SX SM → ∃ (r : Int32) (X M : zSt), fx_payments SX = some (r, X) ∧ fm_payments SM = some (r, M) ∧ Inv X M
def zo_undo (Inv : zSt → zSt → Prop) : Prop := ∀ (SX SM : zSt), Inv SX SM → ∃ (r : Int32) (X M : zSt), fx_undo SX = some (r, X) ∧ fm_undo SM = some (r, M) ∧ Inv X M
def zo_image (Inv : zSt → zSt → Prop) : Prop := ∀ (SX SM : zSt), Inv SX SM → ∀ (a1 : Int32), (a1 = 0 ∨ a1 = 1) → ∃ (r : Int32) (X M : zSt), fx_image SX a1 = some (r, X) ∧ fm_image SM a1 = some (r, M) ∧ Inv X M
def zo_look (Inv : zSt → zSt → Prop) : Prop := ∀ (SX SM : zSt), Inv SX SM → ∀ (a1 : Int32), ∃ (r : Int32) (X M : zSt), fx_look SX a1 = some (r, X) ∧ fm_look SM a1 = some (r, M) ∧ Inv X M
def zStep (Inv : zSt → zSt → Prop) : Prop := zo_state Inv ∧ zo_feed Inv ∧ zo_end Inv ∧ zo_house Inv ∧ zo_give Inv ∧ zo_set Inv ∧ zo_text Inv ∧ zo_fault Inv ∧ zo_order Inv ∧ zo_days Inv ∧ zo_of Inv ∧ zo_book Inv ∧ zo_gain Inv ∧ zo_orders Inv ∧ zo_round Inv ∧ zo_least Inv ∧ zo_leaven Inv ∧ zo_part Inv ∧ zo_lent Inv ∧ zo_led Inv ∧ zo_rise Inv ∧ zo_odds Inv ∧ zo_whose Inv ∧ zo_owe Inv ∧ zo_payments Inv ∧ zo_undo Inv ∧ zo_image Inv ∧ zo_look Inv
def zS0X : zSt := (fun q => if q = 11 then (fun k => if k = 11 then (-1) else 0) else if q = 19 then (upd (upd (upd (upd (fun _ => 0) 0 10) 1 1) 2 1) 3 0) else if q = 30 then (upd (upd (upd (upd (upd (upd (upd (upd (fun _ => 0) 0 9) 9 9) 18 9) 27 9) 36 9) 45 9) 54 9) 63 9) else if q = 39 then (fun k => if k = 11 then (-1) else 0) else if q = 47 then (upd (upd (upd (upd (fun _ => 0) 0 10) 1 1) 2 1) 3 0) else if q = 58 then (upd (upd (upd (upd (upd (upd (upd (upd (fun _ => 0) 0 9) 9 9) 18 9) 27 9) 36 9) 45 9) 54 9) 63 9) else if q = 61 then (fun k => if k = 11 then (-1) else 0) else if q = 69 then (fun k => if k = 11 then (-1) else 0) else if q = 77 then (fun k => if k = 11 then (-1) else 0) else if q = 85 then (fun k => if k = 11 then (-1) else 0) else if q = 93 then (fun k => if k = 11 then (-1) else 0) else if q = 101 then (fun k => if k = 11 then (-1) else 0) else if q = 109 then (fun k => if k = 11 then (-1) else 0) else if q = 117 then (fun k => if k = 11 then (-1) else 0) else if q = 125 then (fun k => if k = 5 then (-1) else 0) else (fun _ => 0), fun _ _ => 0)
def zS0M : zSt := (fun q => if q = 0 then (fun k => if k = 21 then (-1) else 0) else if q = 1 then (upd (upd (upd (upd (upd (upd (upd (upd (upd (upd (upd (upd (fun _ => 0) 0 10) 1 1) 2 1) 9 (-1)) 270 9) 279 9) 288 9) 297 9) 306 9) 315 9) 324 9) 333 9) else (fun _ => 0), fun _ _ => 0)
set_option maxHeartbeats 4000000 in
set_option maxRecDepth 100000 in
theorem zBX (cy : Nat → ClassId) (u : Nat → Nat) : bk_x cy u = zX cy u zS0X := rfl
set_option maxHeartbeats 4000000 in
set_option maxRecDepth 100000 in
theorem zBM (cy : Nat → ClassId) (u : Nat → Nat) : bk_M cy u = zM cy u zS0M := rfl
section zC2
variable {p : Program} {l : Launch} {e : Env} {R : Room} {s : State} {m : MethodId} {args : Array Value} {below : List Frame} {meth : Method} {c : Code} {H : Heap} {locs : List Loc} {Q : State → Prop} {D : va_G} {tys : List (ClassId × FieldType)} {K : (Nat → Nat) × (Nat → Nat)} {A : Nat → Prop} {N N2 : Nat} {ad ad2 : Nat → Nat} {C C2 : Nat → (Nat → Int32) → (Nat → Int64) → va_E} {S S1 S2 : zSt} {cells slots : Nat}
  {cc bytes : ByteArray} {nL maxL index n : Nat} {Ts ws : List Cond} {own Cn : String} {y : MethodName} {ret : Option FieldType} {rm : Room} {b : Nat} {As rest st0 : List Value} {pc : Nat} {ls : Array Slot}
theorem z_keep2 (hP2 : va_P D vwCl (zW N2 ad2 C2 S2) H) (hxy : ∀ i j, i < N → j < N2 → ad i ≠ ad2 j) {H1 : Heap} (hk : ∀ q : Nat, q < H.size → ¬ va_A (zW N ad C S) H.size q → H1[q]? = H[q]?) : va_P D vwCl (zW N2 ad2 C2 S2) H1 := by
  refine hP2.kept (fun k x hx => ?_)
  obtain ⟨k1, k2⟩ := zW_inv hx
  have hlt : x.1 < H.size := (hP2 k x hx).lt
  refine hk x.1 hlt (fun h => ?_)
  rcases zW_A h with ⟨i, i1, i2⟩ | h
  · exact hxy i k i1 k1 (i2.symm.trans k2)
  · omega

theorem z_c2I (X : CallFix p m c cc nL s args Ts own) (hK : va_K D vwCl tys s) (hE : zE K A s s.heap) (hD : ∀ S, va_D A (zW N ad C S)) (hA : ∀ q, s.heap.size ≤ q → A q) (hP : va_P D vwCl (zW N ad C S) H) (hP2 : va_P D vwCl (zW N2 ad2 C2 S2) H) (hxy : ∀ i j, i < N → j < N2 → ad i ≠ ad2 j) (hS : va_S A s.heap H locs) {r : Int32} (hM : zMI l y ws rm D tys K (zW N ad C) (.ref b :: As) S r S1) (cw : CallW R s args own Cn index y bytes maxL ret ws rm 0 0 n) (hrc : ∃ cellB : Cell, H[b]? = some cellB ∧ cellB.vm.isStatics = false ∧ s.vm.findClass Cn = some cellB.cls) (hsize : ls.size = nL) (hn : As.length = n) (hst : st0 = As.reverse ++ .ref b :: rest) (hW : (rest.map fun v => v.category).sum ≤ 8) (hdg : decode cc pc = .ok (.invokevirtual index, 3)) (hf : cells ≤ R.cells ∧ slots ≤ R.slots)
    (kk : ∀ (H1 : Heap) (locs1 : List Loc), va_P D vwCl (zW N ad C S1) H1 → va_P D vwCl (zW N2 ad2 C2 S2) H1 → va_S A s.heap H1 locs1 → W p l e R s m args below meth c H1 locs1 cells slots Q (F0 m (pc + 3) ls (.int r :: rest))) : W p l e R s m args below meth c H locs cells slots Q (F0 m pc ls st0) := by
  have hF := z_freeA hD hA hS S
  refine va_calli (va_runV (As := As) (rest := rest) X (hM H.size) cw ⟨zP_blind, hrc, z_pre hK hE hD hF hS hP _⟩ rfl hn hsize hst (lv_room hW) hdg hf) hS (fun q _ h => hF q h) hF (fun r1 u t H1 locs1 ht hvm hw hB hz1 hk1 hS1 => ?_)
  obtain ⟨rfl, rfl⟩ := hw
  obtain ⟨hP1, -, -⟩ := hB
  rw [ht] at hP1
  exact kk H1 locs1 hP1 (z_keep2 hP2 hxy hk1) hS1
theorem z_c2L (X : CallFix p m c cc nL s args Ts own) (hK : va_K D vwCl tys s) (hE : zE K A s s.heap) (hD : ∀ S, va_D A (zW N ad C S)) (hA : ∀ q, s.heap.size ≤ q → A q) (hP : va_P D vwCl (zW N ad C S) H) (hP2 : va_P D vwCl (zW N2 ad2 C2 S2) H) (hxy : ∀ i j, i < N → j < N2 → ad i ≠ ad2 j) (hS : va_S A s.heap H locs) {r : Int64} (hM : zML l y ws rm D tys K (zW N ad C) (.ref b :: As) S r S1) (cw : CallW R s args own Cn index y bytes maxL ret ws rm 0 0 n) (hrc : ∃ cellB : Cell, H[b]? = some cellB ∧ cellB.vm.isStatics = false ∧ s.vm.findClass Cn = some cellB.cls) (hsize : ls.size = nL) (hn : As.length = n) (hst : st0 = As.reverse ++ .ref b :: rest) (hW : (rest.map fun v => v.category).sum ≤ 8) (hdg : decode cc pc = .ok (.invokevirtual index, 3)) (hf : cells ≤ R.cells ∧ slots ≤ R.slots)
    (kk : ∀ (H1 : Heap) (locs1 : List Loc), va_P D vwCl (zW N ad C S1) H1 → va_P D vwCl (zW N2 ad2 C2 S2) H1 → va_S A s.heap H1 locs1 → W p l e R s m args below meth c H1 locs1 cells slots Q (F0 m (pc + 3) ls (.long r :: rest))) : W p l e R s m args below meth c H locs cells slots Q (F0 m pc ls st0) := by
  have hF := z_freeA hD hA hS S
  refine va_calll (va_runV (As := As) (rest := rest) X (hM H.size) cw ⟨zP_blind, hrc, z_pre hK hE hD hF hS hP _⟩ rfl hn hsize hst (lv_room hW) hdg hf) hS (fun q _ h => hF q h) hF (fun r1 u t H1 locs1 ht hvm hw hB hz1 hk1 hS1 => ?_)
  obtain ⟨rfl, rfl⟩ := hw
  obtain ⟨hP1, -, -⟩ := hB
  rw [ht] at hP1
  exact kk H1 locs1 hP1 (z_keep2 hP2 hxy hk1) hS1
end zC2
theorem lg_self (x : Int64) : lg_cmp x x = 0 := by unfold lg_cmp; simp [Int64.lt_irrefl]
theorem lw_go {L i : Nat} (hL : L ≤ 3072) (hi : i ≤ L + 5) (h : ¬ nI L - 6 < nI i) : i + 6 ≤ L := by
  rw [Int32.lt_iff_toInt_lt, show (6 : Int32) = nI 6 from rfl, pk_sub_toInt (by omega) (by omega), nI_toInt (by omega)] at h
  omega
theorem lw_ix {L i k : Nat} (hL : L ≤ 3072) (h : i + 6 ≤ L) (hk : k < 6) : vp_in (nI i + nI k) L := by
  rw [nI_add]
  exact vp_in_nI (by omega) (by omega)
theorem lw_ix0 {L i : Nat} (hL : L ≤ 3072) (h : i + 6 ≤ L) : vp_in (nI i) L := vp_in_nI (by omega) (by omega)
