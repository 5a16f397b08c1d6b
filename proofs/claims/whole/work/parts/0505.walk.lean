theorem yd_yX7_endLine : (yX7_endLine).cls ≠ "java/lang/invoke/MethodHandle" ∧ (yX7_endLine).cls ≠ "java/lang/invoke/VarHandle" ∧ (parseMethodDescriptor (yX7_endLine).desc).map (fun d => d.parameters.length) = some 1 := by decide +kernel
def fx_Reader_endLine (S_0 : zSt) (a_1 : Int32) : Option (Int32 × zSt) :=
  zbd (fx_Reader_emitWaiting S_0 (0 : Int32)) fun _ S_2 =>
  zbd (fx_Reader_emit S_2 a_1) fun _ S_5 =>
  znm (zpI S_5 125 8 (0 : Int32)) fun S_7 =>
  some ((0 : Int32), S_7)
set_option maxHeartbeats 4000000 in
set_option maxRecDepth 100000 in
theorem cx_Reader_endLine (l : Launch) (D : va_G) (K : (Nat → Nat) × (Nat → Nat)) (cy : Nat → ClassId) (ad : Nat → Nat) (S_0 : zSt) (a_1 : Int32) (ro : Int32) (So : zSt) (hf : fx_Reader_endLine S_0 a_1 = some (ro, So)) : zMI l yX7_endLine (zws yX7_endLine cX7_endLine 2 (Option.some .int)) ({ frames := 2, cells := 0, slots := 0, locals := 42 }) D (zTy cy) K (zX cy ad) [.ref (ad 125), .int a_1] S_0 ro So := by
  refine z_metI (own := RX7) (lv := [(0, .ref (ad 125)), (1, .int a_1)]) (by decide) rfl rfl (Nat.le_of_ble_eq_true rfl) rfl ?_
  intro p e s m below meth c A Q X hK hE hD hA hret hP hS ls hl
  obtain ⟨hx, hb, hml, hown, hts⟩ := id X
  have k0 := (fun w h => List.mem_cons_of_mem _ (zFX7 w h) : ∀ w ∈ u_ws RX7 TX7 16, w ∈ zws yX7_endLine cX7_endLine 2 (Option.some .int))
  have k1 := hts _ (List.mem_cons_of_mem _ wt_2_61)
  refine lv_aload_n hx hb dX7_endLine_0 rfl (lv_at hl 0 rfl) ?_
  refine lv_iconst (v := 0) hx hb dX7_endLine_1 (by decide) ?_
  obtain ⟨r_1, S_2, h_3, hf⟩ := z_bd hf
  refine z_cVV (As := [.int (0 : Int32)]) (rest := []) X hK hE hD hA hP hS (cx_Reader_emitWaiting l D K cy ad S_0 _ _ h_3) (cwV 1 hts (z_gV wt_3_204 wt_3_206 wp_17 wt_1_10 wt_3_207) rfl rfl rfl ⟨rfl, yd_yX7_emitWaiting⟩ ⟨Nat.le_of_ble_eq_true rfl, Nat.le_of_ble_eq_true rfl⟩) (va_recv hK hP (ci := 7) (q0 := 125) rfl (zX_125 cy ad S_0)) hl.1 rfl rfl (Nat.le_of_ble_eq_true rfl) dX7_endLine_2 (fun H locs hP hS => ?_)
  refine lv_aload_n hx hb dX7_endLine_5 rfl (lv_at hl 0 rfl) ?_
  refine lv_iload_n hx hb dX7_endLine_6 rfl (lv_at hl 1 rfl) ?_
  obtain ⟨r_4, S_5, h_6, hf⟩ := z_bd hf
  refine z_cVV (As := [.int a_1]) (rest := []) X hK hE hD hA hP hS (cx_Reader_emit l D K cy ad S_2 _ _ h_6) (cwV 1 hts (z_gV wt_3_181 wt_3_183 wp_12 wt_1_10 wt_3_184) rfl rfl rfl ⟨rfl, yd_yX7_emit⟩ ⟨Nat.le_of_ble_eq_true rfl, Nat.le_of_ble_eq_true rfl⟩) (va_recv hK hP (ci := 7) (q0 := 125) rfl (zX_125 cy ad S_2)) hl.1 rfl rfl (Nat.le_of_ble_eq_true rfl) dX7_endLine_7 (fun H locs hP hS => ?_)
  refine lv_aload_n hx hb dX7_endLine_10 rfl (lv_at hl 0 rfl) ?_
  refine lv_iconst (v := 0) hx hb dX7_endLine_11 (by decide) ?_
  refine va_put (D := D) (ci := 7) (v := .int (0 : Int32)) (ty := .int) (C := RX7) (T := TX7) (N := 16) hx hb hts k0 tyX7 tyX7_ok nmX7 hown hK hP (hD S_5) hS 125 (zX_125 cy ad S_5) rfl 8 (by decide) k1 (fun _ h9 => h9) rfl (tyX7_ok 8 (by decide)) rfl rfl (Nat.le_of_ble_eq_true rfl) dX7_endLine_12 (fun H locs hP _ hS => ?_)
  obtain ⟨S_7, eS_7, hf⟩ := z_nm hf
  have hP := zW_putI hP eS_7 (by decide) rfl
  refine lv_iconst (v := 0) hx hb dX7_endLine_15 (by decide) ?_
  obtain ⟨h1, h2⟩ := z_s2 hf
  subst h1 h2
  exact hret _ _ _ _ hP hS dX7_endLine_16
theorem yd_yX7_push : (yX7_push).cls ≠ "java/lang/invoke/MethodHandle" ∧ (yX7_push).cls ≠ "java/lang/invoke/VarHandle" ∧ (parseMethodDescriptor (yX7_push).desc).map (fun d => d.parameters.length) = some 1 := by decide +kernel
def fx_Reader_push (S_0 : zSt) (a_1 : Int32) : Option (Unit × zSt) :=
  znm (fun (S_1 : zSt) =>
  some ((), S_1)) fun j_29 =>
  if (64 : Int32) ≤ (S_0.1 125 7) then (
  j_29  S_0) else (
  zck (zix (S_0.1 125 7) 64) <|
  znm (zpI S_0 127 ((S_0.1 125 7).toNatClampNeg) a_1) fun S_3 =>
  znm (zpI S_3 125 7 ((S_3.1 125 7) + (1 : Int32))) fun S_4 =>
  j_29  S_4)
set_option maxHeartbeats 4000000 in
set_option maxRecDepth 100000 in
theorem cx_Reader_push (l : Launch) (D : va_G) (K : (Nat → Nat) × (Nat → Nat)) (cy : Nat → ClassId) (ad : Nat → Nat) (S_0 : zSt) (a_1 : Int32) (So : zSt) (hf : fx_Reader_push S_0 a_1 = some ((), So)) : zMV l yX7_push (zws yX7_push cX7_push 2 none) ({ frames := 0, cells := 0, slots := 0, locals := 0 }) D (zTy cy) K (zX cy ad) [.ref (ad 125), .int a_1] S_0 So := by
  refine z_metV (own := RX7) (lv := [(0, .ref (ad 125)), (1, .int a_1)]) (by decide) rfl rfl (Nat.le_of_ble_eq_true rfl) rfl ?_
  intro p e s m below meth c A Q X hK hE hD hA hret hP hS ls hl
  obtain ⟨hx, hb, hml, hown, hts⟩ := id X
  have k0 := (fun w h => List.mem_cons_of_mem _ (zFX7 w h) : ∀ w ∈ u_ws RX7 TX7 16, w ∈ zws yX7_push cX7_push 2 none)
  have k1 := hts _ (List.mem_cons_of_mem _ wt_2_60)
  have k2 := hts _ (List.mem_cons_of_mem _ wt_2_59)
  refine lv_aload_n hx hb dX7_push_0 rfl (lv_at hl 0 rfl) ?_
  refine va_get (D := D) (ci := 7) (v := .int (S_0.1 125 7)) (C := RX7) (T := TX7) (N := 16) hx hb hts k0 hown hK hP 125 (zX_125 cy ad S_0) rfl 7 (by decide) k1 (fun _ h9 => h9) rfl dX7_push_1 ?_
  refine lv_bipush (v := 64) hx hb dX7_push_4 (by decide) ?_
  obtain ⟨j_29, ej_29, hf⟩ := z_nm hf
  have J_29 : ∀ (S_1 : zSt) (H : Heap) (locs : List Loc) (ls : Array Slot), j_29  S_1 = some ((), So) → va_P D vwCl (zX cy ad S_1) H → va_S A s.heap H locs → lv_has ls 2 [] → W p l e ({ frames := 0, cells := 0, slots := 0, locals := 0 }) s m ([.ref (ad 125), .int a_1] : List Value).toArray below meth c H locs 0 0 Q (F0 m 29 ls []) := by
    intro  S_1 H locs ls hf hP hS hl
    have hf := z_e1 ej_29 hf
    obtain ⟨h1, h2⟩ := z_s2 hf
    subst h2
    exact hret _ _ _ _ hP hS dX7_push_29
  refine lv_icmp_ge (tgt := 29) hx hb dX7_push_6 (by decide) (fun c_5 => ?_) (fun c_5 => ?_)
  · have hf := z_it c_5 hf
    exact J_29  S_0 _ _ _ hf hP hS (lv_sub hl [] rfl)
  · have hf := z_if c_5 hf
    refine lv_aload_n hx hb dX7_push_9 rfl (lv_at hl 0 rfl) ?_
    refine va_get (D := D) (ci := 7) (v := .ref (ad 127)) (C := RX7) (T := TX7) (N := 16) hx hb hts k0 hown hK hP 125 (zX_125 cy ad S_0) rfl 6 (by decide) k2 (fun _ h9 => h9) rfl dX7_push_10 ?_
    refine lv_aload_n hx hb dX7_push_13 rfl (lv_at hl 0 rfl) ?_
    refine va_get (D := D) (ci := 7) (v := .int (S_0.1 125 7)) (C := RX7) (T := TX7) (N := 16) hx hb hts k0 hown hK hP 125 (zX_125 cy ad S_0) rfl 7 (by decide) k1 (fun _ h9 => h9) rfl dX7_push_14 ?_
    refine lv_iload_n hx hb dX7_push_17 rfl (lv_at hl 1 rfl) ?_
    obtain ⟨h_2, hf⟩ := z_ix hf
    refine z_iast hx hb hK hP (hD S_0) hS 127 0 (zX_127 cy ad S_0) rfl h_2 (k := ((S_0.1 125 7).toNatClampNeg)) rfl dX7_push_18 (fun H locs hP hS => ?_)
    obtain ⟨S_3, eS_3, hf⟩ := z_nm hf
    have hP := zW_putI hP eS_3 (by decide) rfl
    refine lv_aload_n hx hb dX7_push_19 rfl (lv_at hl 0 rfl) ?_
    refine lv_dup hx hb dX7_push_20 rfl ?_
    refine va_get (D := D) (ci := 7) (v := .int (S_3.1 125 7)) (C := RX7) (T := TX7) (N := 16) hx hb hts k0 hown hK hP 125 (zX_125 cy ad S_3) rfl 7 (by decide) k1 (fun _ h9 => h9) rfl dX7_push_21 ?_
    refine lv_iconst (v := 1) hx hb dX7_push_24 (by decide) ?_
    refine lv_iadd hx hb dX7_push_25 ?_
    refine va_put (D := D) (ci := 7) (v := .int ((S_3.1 125 7) + (1 : Int32))) (ty := .int) (C := RX7) (T := TX7) (N := 16) hx hb hts k0 tyX7 tyX7_ok nmX7 hown hK hP (hD S_3) hS 125 (zX_125 cy ad S_3) rfl 7 (by decide) k1 (fun _ h9 => h9) rfl (tyX7_ok 7 (by decide)) rfl rfl (Nat.le_of_ble_eq_true rfl) dX7_push_26 (fun H locs hP _ hS => ?_)
    obtain ⟨S_4, eS_4, hf⟩ := z_nm hf
    have hP := zW_putI hP eS_4 (by decide) rfl
    exact J_29  S_4 _ _ _ hf hP hS (lv_sub hl [] rfl)
theorem yd_yX7_takeOperator : (yX7_takeOperator).cls ≠ "java/lang/invoke/MethodHandle" ∧ (yX7_takeOperator).cls ≠ "java/lang/invoke/VarHandle" ∧ (parseMethodDescriptor (yX7_takeOperator).desc).map (fun d => d.parameters.length) = some 1 := by decide +kernel
def fx_Reader_takeOperator (S_0 : zSt) (a_1 : Int32) : Option (Unit × zSt) :=
  zbd (fx_Reader_bindingOf S_0 (S_0.1 125 14)) fun r_1 S_2 =>
  zbd (fx_Reader_emitWaiting S_2 r_1) fun _ S_5 =>
  zbd (fx_Reader_push S_5 (S_5.1 125 14)) fun _ S_8 =>
  znm (zpI S_8 125 8 a_1) fun S_10 =>
  some ((), S_10)
set_option maxHeartbeats 4000000 in
set_option maxRecDepth 100000 in
theorem cx_Reader_takeOperator (l : Launch) (D : va_G) (K : (Nat → Nat) × (Nat → Nat)) (cy : Nat → ClassId) (ad : Nat → Nat) (S_0 : zSt) (a_1 : Int32) (So : zSt) (hf : fx_Reader_takeOperator S_0 a_1 = some ((), So)) : zMV l yX7_takeOperator (zws yX7_takeOperator cX7_takeOperator 2 none) ({ frames := 2, cells := 0, slots := 0, locals := 42 }) D (zTy cy) K (zX cy ad) [.ref (ad 125), .int a_1] S_0 So := by
  refine z_metV (own := RX7) (lv := [(0, .ref (ad 125)), (1, .int a_1)]) (by decide) rfl rfl (Nat.le_of_ble_eq_true rfl) rfl ?_
  intro p e s m below meth c A Q X hK hE hD hA hret hP hS ls hl
  obtain ⟨hx, hb, hml, hown, hts⟩ := id X
  have k0 := (fun w h => List.mem_cons_of_mem _ (zFX7 w h) : ∀ w ∈ u_ws RX7 TX7 16, w ∈ zws yX7_takeOperator cX7_takeOperator 2 none)
  have k1 := hts _ (List.mem_cons_of_mem _ wt_2_67)
  have k2 := hts _ (List.mem_cons_of_mem _ wt_2_61)
  refine lv_aload_n hx hb dX7_takeOperator_0 rfl (lv_at hl 0 rfl) ?_
  refine lv_aload_n hx hb dX7_takeOperator_1 rfl (lv_at hl 0 rfl) ?_
  refine va_get (D := D) (ci := 7) (v := .int (S_0.1 125 14)) (C := RX7) (T := TX7) (N := 16) hx hb hts k0 hown hK hP 125 (zX_125 cy ad S_0) rfl 14 (by decide) k1 (fun _ h9 => h9) rfl dX7_takeOperator_2 ?_
  obtain ⟨r_1, S_2, h_3, hf⟩ := z_bd hf
  refine z_cSI (As := [.int (S_0.1 125 14)]) (rest := [.ref (ad 125)]) X hK hE hD hA hP hS (cx_Reader_bindingOf l D K cy ad S_0 _ _ _ h_3) (va_cwS 1 hts (z_gS wt_3_201 wt_3_202 wt_1_10 wt_3_203) rfl rfl rfl yd_yX7_bindingOf ⟨Nat.le_of_ble_eq_true rfl, Nat.le_of_ble_eq_true rfl⟩) hl.1 rfl rfl (Nat.le_of_ble_eq_true rfl) dX7_takeOperator_5 (fun H locs hP hS => ?_)
  obtain ⟨r_4, S_5, h_6, hf⟩ := z_bd hf
  refine z_cVV (As := [.int r_1]) (rest := []) X hK hE hD hA hP hS (cx_Reader_emitWaiting l D K cy ad S_2 _ _ h_6) (cwV 1 hts (z_gV wt_3_204 wt_3_206 wp_17 wt_1_10 wt_3_207) rfl rfl rfl ⟨rfl, yd_yX7_emitWaiting⟩ ⟨Nat.le_of_ble_eq_true rfl, Nat.le_of_ble_eq_true rfl⟩) (va_recv hK hP (ci := 7) (q0 := 125) rfl (zX_125 cy ad S_2)) hl.1 rfl rfl (Nat.le_of_ble_eq_true rfl) dX7_takeOperator_8 (fun H locs hP hS => ?_)
  refine lv_aload_n hx hb dX7_takeOperator_11 rfl (lv_at hl 0 rfl) ?_
  refine lv_aload_n hx hb dX7_takeOperator_12 rfl (lv_at hl 0 rfl) ?_
  refine va_get (D := D) (ci := 7) (v := .int (S_5.1 125 14)) (C := RX7) (T := TX7) (N := 16) hx hb hts k0 hown hK hP 125 (zX_125 cy ad S_5) rfl 14 (by decide) k1 (fun _ h9 => h9) rfl dX7_takeOperator_13 ?_
  obtain ⟨r_7, S_8, h_9, hf⟩ := z_bd hf
  refine z_cVV (As := [.int (S_5.1 125 14)]) (rest := []) X hK hE hD hA hP hS (cx_Reader_push l D K cy ad S_5 _ _ h_9) (cwV 1 hts (z_gV wt_3_185 wt_3_187 wp_13 wt_1_10 wt_3_188) rfl rfl rfl ⟨rfl, yd_yX7_push⟩ ⟨Nat.le_of_ble_eq_true rfl, Nat.le_of_ble_eq_true rfl⟩) (va_recv hK hP (ci := 7) (q0 := 125) rfl (zX_125 cy ad S_5)) hl.1 rfl rfl (Nat.le_of_ble_eq_true rfl) dX7_takeOperator_16 (fun H locs hP hS => ?_)
  refine lv_aload_n hx hb dX7_takeOperator_19 rfl (lv_at hl 0 rfl) ?_
  refine lv_iload_n hx hb dX7_takeOperator_20 rfl (lv_at hl 1 rfl) ?_
  refine va_put (D := D) (ci := 7) (v := .int a_1) (ty := .int) (C := RX7) (T := TX7) (N := 16) hx hb hts k0 tyX7 tyX7_ok nmX7 hown hK hP (hD S_8) hS 125 (zX_125 cy ad S_8) rfl 8 (by decide) k2 (fun _ h9 => h9) rfl (tyX7_ok 8 (by decide)) rfl rfl (Nat.le_of_ble_eq_true rfl) dX7_takeOperator_21 (fun H locs hP _ hS => ?_)
  obtain ⟨S_10, eS_10, hf⟩ := z_nm hf
  have hP := zW_putI hP eS_10 (by decide) rfl
  obtain ⟨h1, h2⟩ := z_s2 hf
  subst h2
  exact hret _ _ _ _ hP hS dX7_takeOperator_24
theorem yd_yX7_judgeAfterCondition : (yX7_judgeAfterCondition).cls ≠ "java/lang/invoke/MethodHandle" ∧ (yX7_judgeAfterCondition).cls ≠ "java/lang/invoke/VarHandle" ∧ (parseMethodDescriptor (yX7_judgeAfterCondition).desc).map (fun d => d.parameters.length) = some 0 := by decide +kernel
def fx_Reader_judgeAfterCondition (S_0 : zSt) : Option (Int32 × zSt) :=
  znm (fun (S_1 : zSt) =>
  zbd (fx_Reader_takeOperator S_1 (1 : Int32)) fun _ S_3 =>
  some ((0 : Int32), S_3)) fun j_20 =>
  if (S_0.1 125 14) = (259 : Int32) then (
  j_20  S_0) else (
  if (S_0.1 125 14) = (258 : Int32) then (
  j_20  S_0) else (
  znm (fun (S_5 : zSt) =>
  znm (fun (x_6 : Int32) (S_7 : zSt) =>
  some (x_6, S_7)) fun j_76 =>
  znm (fun (S_8 : zSt) =>
  j_76 (1 : Int32) S_8) fun j_75 =>
  if (S_5.1 125 14) = (59 : Int32) then (
  if (S_5.1 125 11) = 0 then (
  zbd (fx_Reader_endLine S_5 (-257 : Int32)) fun r_9 S_10 =>
  j_76 r_9 S_10) else (
  j_75  S_5)) else (
  j_75  S_5)) fun j_49 =>
  if (S_0.1 125 14) = (41 : Int32) then (
  if (S_0.1 125 11) ≤ 0 then (
  j_49  S_0) else (
  zbd (fx_Reader_closeBracket S_0) fun _ S_15 =>
  some ((0 : Int32), S_15))) else (
  j_49  S_0)))
set_option maxHeartbeats 4000000 in
set_option maxRecDepth 100000 in
theorem cx_Reader_judgeAfterCondition (l : Launch) (D : va_G) (K : (Nat → Nat) × (Nat → Nat)) (cy : Nat → ClassId) (ad : Nat → Nat) (S_0 : zSt) (ro : Int32) (So : zSt) (hf : fx_Reader_judgeAfterCondition S_0 = some (ro, So)) : zMI l yX7_judgeAfterCondition (zws yX7_judgeAfterCondition cX7_judgeAfterCondition 1 (Option.some .int)) ({ frames := 3, cells := 0, slots := 0, locals := 220 }) D (zTy cy) K (zX cy ad) [.ref (ad 125)] S_0 ro So := by
  refine z_metI (own := RX7) (lv := [(0, .ref (ad 125))]) (by decide) rfl rfl (Nat.le_of_ble_eq_true rfl) rfl ?_
  intro p e s m below meth c A Q X hK hE hD hA hret hP hS ls hl
  obtain ⟨hx, hb, hml, hown, hts⟩ := id X
  have k0 := (fun w h => List.mem_cons_of_mem _ (zFX7 w h) : ∀ w ∈ u_ws RX7 TX7 16, w ∈ zws yX7_judgeAfterCondition cX7_judgeAfterCondition 1 (Option.some .int))
  have k1 := hts _ (List.mem_cons_of_mem _ wt_2_67)
  have k2 := hts _ (List.mem_cons_of_mem _ wt_2_64)
  refine lv_aload_n hx hb dX7_judgeAfterCondition_0 rfl (lv_at hl 0 rfl) ?_
  refine va_get (D := D) (ci := 7) (v := .int (S_0.1 125 14)) (C := RX7) (T := TX7) (N := 16) hx hb hts k0 hown hK hP 125 (zX_125 cy ad S_0) rfl 14 (by decide) k1 (fun _ h9 => h9) rfl dX7_judgeAfterCondition_1 ?_
  refine lv_sipush (v := 259) hx hb dX7_judgeAfterCondition_4 (by decide) ?_
  obtain ⟨j_20, ej_20, hf⟩ := z_nm hf
  have J_20 : ∀ (S_1 : zSt) (H : Heap) (locs : List Loc) (ls : Array Slot), j_20  S_1 = some (ro, So) → va_P D vwCl (zX cy ad S_1) H → va_S A s.heap H locs → lv_has ls 1 [(0, .ref (ad 125))] → W p l e ({ frames := 3, cells := 0, slots := 0, locals := 220 }) s m ([.ref (ad 125)] : List Value).toArray below meth c H locs 0 0 Q (F0 m 20 ls []) := by
    intro  S_1 H locs ls hf hP hS hl
    have hf := z_e1 ej_20 hf
    refine lv_aload_n hx hb dX7_judgeAfterCondition_20 rfl (lv_at hl 0 rfl) ?_
    refine lv_iconst (v := 1) hx hb dX7_judgeAfterCondition_21 (by decide) ?_
    obtain ⟨r_2, S_3, h_4, hf⟩ := z_bd hf
    refine z_cVV (As := [.int (1 : Int32)]) (rest := []) X hK hE hD hA hP hS (cx_Reader_takeOperator l D K cy ad S_1 _ _ h_4) (cwV 1 hts (z_gV wt_3_197 wt_3_199 wp_16 wt_1_10 wt_3_200) rfl rfl rfl ⟨rfl, yd_yX7_takeOperator⟩ ⟨Nat.le_of_ble_eq_true rfl, Nat.le_of_ble_eq_true rfl⟩) (va_recv hK hP (ci := 7) (q0 := 125) rfl (zX_125 cy ad S_1)) hl.1 rfl rfl (Nat.le_of_ble_eq_true rfl) dX7_judgeAfterCondition_22 (fun H locs hP hS => ?_)
    refine lv_iconst (v := 0) hx hb dX7_judgeAfterCondition_25 (by decide) ?_
    obtain ⟨h1, h2⟩ := z_s2 hf
    subst h1 h2
    exact hret _ _ _ _ hP hS dX7_judgeAfterCondition_26
  refine lv_icmp_eq (tgt := 20) hx hb dX7_judgeAfterCondition_7 (by decide) (fun c_20 => ?_) (fun c_20 => ?_)
  · have hf := z_it c_20 hf
    exact J_20  S_0 _ _ _ hf hP hS (lv_sub hl [0] rfl)
  · have hf := z_if c_20 hf
    refine lv_aload_n hx hb dX7_judgeAfterCondition_10 rfl (lv_at hl 0 rfl) ?_
    refine va_get (D := D) (ci := 7) (v := .int (S_0.1 125 14)) (C := RX7) (T := TX7) (N := 16) hx hb hts k0 hown hK hP 125 (zX_125 cy ad S_0) rfl 14 (by decide) k1 (fun _ h9 => h9) rfl dX7_judgeAfterCondition_11 ?_
    refine lv_sipush (v := 258) hx hb dX7_judgeAfterCondition_14 (by decide) ?_
    refine lv_icmp_ne (tgt := 27) hx hb dX7_judgeAfterCondition_17 (by decide) (fun c_19 => ?_) (fun c_19 => ?_)
    · have hf := z_if c_19 hf
      refine lv_aload_n hx hb dX7_judgeAfterCondition_27 rfl (lv_at hl 0 rfl) ?_
      refine va_get (D := D) (ci := 7) (v := .int (S_0.1 125 14)) (C := RX7) (T := TX7) (N := 16) hx hb hts k0 hown hK hP 125 (zX_125 cy ad S_0) rfl 14 (by decide) k1 (fun _ h9 => h9) rfl dX7_judgeAfterCondition_28 ?_
      refine lv_bipush (v := 41) hx hb dX7_judgeAfterCondition_31 (by decide) ?_
      obtain ⟨j_49, ej_49, hf⟩ := z_nm hf
      have J_49 : ∀ (S_5 : zSt) (H : Heap) (locs : List Loc) (ls : Array Slot), j_49  S_5 = some (ro, So) → va_P D vwCl (zX cy ad S_5) H → va_S A s.heap H locs → lv_has ls 1 [(0, .ref (ad 125))] → W p l e ({ frames := 3, cells := 0, slots := 0, locals := 220 }) s m ([.ref (ad 125)] : List Value).toArray below meth c H locs 0 0 Q (F0 m 49 ls []) := by
        intro  S_5 H locs ls hf hP hS hl
        have hf := z_e1 ej_49 hf
        refine lv_aload_n hx hb dX7_judgeAfterCondition_49 rfl (lv_at hl 0 rfl) ?_
        refine va_get (D := D) (ci := 7) (v := .int (S_5.1 125 14)) (C := RX7) (T := TX7) (N := 16) hx hb hts k0 hown hK hP 125 (zX_125 cy ad S_5) rfl 14 (by decide) k1 (fun _ h9 => h9) rfl dX7_judgeAfterCondition_50 ?_
        refine lv_bipush (v := 59) hx hb dX7_judgeAfterCondition_53 (by decide) ?_
        obtain ⟨j_76, ej_76, hf⟩ := z_nm hf
        have J_76 : ∀ (x_6 : Int32) (S_7 : zSt) (H : Heap) (locs : List Loc) (ls : Array Slot), j_76 x_6 S_7 = some (ro, So) → va_P D vwCl (zX cy ad S_7) H → va_S A s.heap H locs → lv_has ls 1 [] → W p l e ({ frames := 3, cells := 0, slots := 0, locals := 220 }) s m ([.ref (ad 125)] : List Value).toArray below meth c H locs 0 0 Q (F0 m 76 ls [.int x_6]) := by
          intro x_6 S_7 H locs ls hf hP hS hl
          have hf := z_e2 ej_76 hf
          obtain ⟨h1, h2⟩ := z_s2 hf
          subst h1 h2
          exact hret _ _ _ _ hP hS dX7_judgeAfterCondition_76
        obtain ⟨j_75, ej_75, hf⟩ := z_nm hf
        have J_75 : ∀ (S_8 : zSt) (H : Heap) (locs : List Loc) (ls : Array Slot), j_75  S_8 = some (ro, So) → va_P D vwCl (zX cy ad S_8) H → va_S A s.heap H locs → lv_has ls 1 [] → W p l e ({ frames := 3, cells := 0, slots := 0, locals := 220 }) s m ([.ref (ad 125)] : List Value).toArray below meth c H locs 0 0 Q (F0 m 75 ls []) := by
          intro  S_8 H locs ls hf hP hS hl
          have hf := z_e1 ej_75 hf
          refine lv_iconst (v := 1) hx hb dX7_judgeAfterCondition_75 (by decide) ?_
          exact J_76 (1 : Int32) S_8 _ _ _ hf hP hS (lv_sub hl [] rfl)
        refine lv_icmp_ne (tgt := 75) hx hb dX7_judgeAfterCondition_55 (by decide) (fun c_13 => ?_) (fun c_13 => ?_)
        · have hf := z_if c_13 hf
          exact J_75  S_5 _ _ _ hf hP hS (lv_sub hl [] rfl)
        · have hf := z_it c_13 hf
          refine lv_aload_n hx hb dX7_judgeAfterCondition_58 rfl (lv_at hl 0 rfl) ?_
          refine va_get (D := D) (ci := 7) (v := .int (S_5.1 125 11)) (C := RX7) (T := TX7) (N := 16) hx hb hts k0 hown hK hP 125 (zX_125 cy ad S_5) rfl 11 (by decide) k2 (fun _ h9 => h9) rfl dX7_judgeAfterCondition_59 ?_
          refine lv_if_ne (tgt := 75) hx hb dX7_judgeAfterCondition_62 (by decide) (fun c_12 => ?_) (fun c_12 => ?_)
          · have hf := z_if c_12 hf
            exact J_75  S_5 _ _ _ hf hP hS (lv_sub hl [] rfl)
          · have hf := z_it c_12 hf
            refine lv_aload_n hx hb dX7_judgeAfterCondition_65 rfl (lv_at hl 0 rfl) ?_
            refine lv_sipush (v := -257) hx hb dX7_judgeAfterCondition_66 (by decide) ?_
            obtain ⟨r_9, S_10, h_11, hf⟩ := z_bd hf
            refine z_cVI (As := [.int (-257 : Int32)]) (rest := []) X hK hE hD hA hP hS (cx_Reader_endLine l D K cy ad S_5 _ _ _ h_11) (cwV 1 hts (z_gV wt_3_213 wt_3_215 wp_19 wt_1_10 wt_3_216) rfl rfl rfl ⟨rfl, yd_yX7_endLine⟩ ⟨Nat.le_of_ble_eq_true rfl, Nat.le_of_ble_eq_true rfl⟩) (va_recv hK hP (ci := 7) (q0 := 125) rfl (zX_125 cy ad S_5)) hl.1 rfl rfl (Nat.le_of_ble_eq_true rfl) dX7_judgeAfterCondition_69 (fun H locs hP hS => ?_)
            refine lv_goto (tgt := 76) hx hb dX7_judgeAfterCondition_72 (by decide) ?_
            exact J_76 r_9 S_10 _ _ _ hf hP hS (lv_sub hl [] rfl)
      refine lv_icmp_ne (tgt := 49) hx hb dX7_judgeAfterCondition_33 (by decide) (fun c_18 => ?_) (fun c_18 => ?_)
      · have hf := z_if c_18 hf
        exact J_49  S_0 _ _ _ hf hP hS (lv_sub hl [0] rfl)
      · have hf := z_it c_18 hf
        refine lv_aload_n hx hb dX7_judgeAfterCondition_36 rfl (lv_at hl 0 rfl) ?_
        refine va_get (D := D) (ci := 7) (v := .int (S_0.1 125 11)) (C := RX7) (T := TX7) (N := 16) hx hb hts k0 hown hK hP 125 (zX_125 cy ad S_0) rfl 11 (by decide) k2 (fun _ h9 => h9) rfl dX7_judgeAfterCondition_37 ?_
        refine lv_if_le (tgt := 49) hx hb dX7_judgeAfterCondition_40 (by decide) (fun c_17 => ?_) (fun c_17 => ?_)
        · have hf := z_it c_17 hf
          exact J_49  S_0 _ _ _ hf hP hS (lv_sub hl [0] rfl)
        · have hf := z_if c_17 hf
          refine lv_aload_n hx hb dX7_judgeAfterCondition_43 rfl (lv_at hl 0 rfl) ?_
          obtain ⟨r_14, S_15, h_16, hf⟩ := z_bd hf
          refine z_cVV (As := []) (rest := []) X hK hE hD hA hP hS (cx_Reader_closeBracket l D K cy ad S_0 _ h_16) (cwV 0 hts (z_gV wt_3_208 wt_3_210 wp_18 wt_1_10 wt_3_211) rfl rfl rfl ⟨rfl, yd_yX7_closeBracket⟩ ⟨Nat.le_of_ble_eq_true rfl, Nat.le_of_ble_eq_true rfl⟩) (va_recv hK hP (ci := 7) (q0 := 125) rfl (zX_125 cy ad S_0)) hl.1 rfl rfl (Nat.le_of_ble_eq_true rfl) dX7_judgeAfterCondition_44 (fun H locs hP hS => ?_)
          refine lv_iconst (v := 0) hx hb dX7_judgeAfterCondition_47 (by decide) ?_
          obtain ⟨h1, h2⟩ := z_s2 hf
          subst h1 h2
          exact hret _ _ _ _ hP hS dX7_judgeAfterCondition_48
    · have hf := z_it c_19 hf
      exact J_20  S_0 _ _ _ hf hP hS (lv_sub hl [0] rfl)
theorem yd_yX7_judgeAfterWorth : (yX7_judgeAfterWorth).cls ≠ "java/lang/invoke/MethodHandle" ∧ (yX7_judgeAfterWorth).cls ≠ "java/lang/invoke/VarHandle" ∧ (parseMethodDescriptor (yX7_judgeAfterWorth).desc).map (fun d => d.parameters.length) = some 0 := by decide +kernel
def fx_Reader_judgeAfterWorth (S_0 : zSt) : Option (Int32 × zSt) :=
  if (S_0.1 125 14) = (257 : Int32) then (
  zbd (fx_Reader_emitWaiting S_0 (0 : Int32)) fun _ S_8 =>
  znm (zpI S_8 125 8 (1 : Int32)) fun S_10 =>
  some ((0 : Int32), S_10)) else (
  znm (fun (x_1 : Int32) (S_2 : zSt) =>
  some (x_1, S_2)) fun j_41 =>
  if (S_0.1 125 14) = (59 : Int32) then (
  zbd (fx_Reader_endLine S_0 (-59 : Int32)) fun r_3 S_4 =>
  j_41 r_3 S_4) else (
  j_41 (1 : Int32) S_0))
set_option maxHeartbeats 4000000 in
set_option maxRecDepth 100000 in
theorem cx_Reader_judgeAfterWorth (l : Launch) (D : va_G) (K : (Nat → Nat) × (Nat → Nat)) (cy : Nat → ClassId) (ad : Nat → Nat) (S_0 : zSt) (ro : Int32) (So : zSt) (hf : fx_Reader_judgeAfterWorth S_0 = some (ro, So)) : zMI l yX7_judgeAfterWorth (zws yX7_judgeAfterWorth cX7_judgeAfterWorth 1 (Option.some .int)) ({ frames := 3, cells := 0, slots := 0, locals := 63 }) D (zTy cy) K (zX cy ad) [.ref (ad 125)] S_0 ro So := by
  refine z_metI (own := RX7) (lv := [(0, .ref (ad 125))]) (by decide) rfl rfl (Nat.le_of_ble_eq_true rfl) rfl ?_
  intro p e s m below meth c A Q X hK hE hD hA hret hP hS ls hl
  obtain ⟨hx, hb, hml, hown, hts⟩ := id X
  have k0 := (fun w h => List.mem_cons_of_mem _ (zFX7 w h) : ∀ w ∈ u_ws RX7 TX7 16, w ∈ zws yX7_judgeAfterWorth cX7_judgeAfterWorth 1 (Option.some .int))
  have k1 := hts _ (List.mem_cons_of_mem _ wt_2_67)
  have k2 := hts _ (List.mem_cons_of_mem _ wt_2_61)
  refine lv_aload_n hx hb dX7_judgeAfterWorth_0 rfl (lv_at hl 0 rfl) ?_
  refine va_get (D := D) (ci := 7) (v := .int (S_0.1 125 14)) (C := RX7) (T := TX7) (N := 16) hx hb hts k0 hown hK hP 125 (zX_125 cy ad S_0) rfl 14 (by decide) k1 (fun _ h9 => h9) rfl dX7_judgeAfterWorth_1 ?_
  refine lv_sipush (v := 257) hx hb dX7_judgeAfterWorth_4 (by decide) ?_
  refine lv_icmp_ne (tgt := 22) hx hb dX7_judgeAfterWorth_7 (by decide) (fun c_11 => ?_) (fun c_11 => ?_)
  · have hf := z_if c_11 hf
    refine lv_aload_n hx hb dX7_judgeAfterWorth_22 rfl (lv_at hl 0 rfl) ?_
    refine va_get (D := D) (ci := 7) (v := .int (S_0.1 125 14)) (C := RX7) (T := TX7) (N := 16) hx hb hts k0 hown hK hP 125 (zX_125 cy ad S_0) rfl 14 (by decide) k1 (fun _ h9 => h9) rfl dX7_judgeAfterWorth_23 ?_
    refine lv_bipush (v := 59) hx hb dX7_judgeAfterWorth_26 (by decide) ?_
    obtain ⟨j_41, ej_41, hf⟩ := z_nm hf
    have J_41 : ∀ (x_1 : Int32) (S_2 : zSt) (H : Heap) (locs : List Loc) (ls : Array Slot), j_41 x_1 S_2 = some (ro, So) → va_P D vwCl (zX cy ad S_2) H → va_S A s.heap H locs → lv_has ls 1 [] → W p l e ({ frames := 3, cells := 0, slots := 0, locals := 63 }) s m ([.ref (ad 125)] : List Value).toArray below meth c H locs 0 0 Q (F0 m 41 ls [.int x_1]) := by
      intro x_1 S_2 H locs ls hf hP hS hl
      have hf := z_e2 ej_41 hf
      obtain ⟨h1, h2⟩ := z_s2 hf
      subst h1 h2
      exact hret _ _ _ _ hP hS dX7_judgeAfterWorth_41
    refine lv_icmp_ne (tgt := 40) hx hb dX7_judgeAfterWorth_28 (by decide) (fun c_6 => ?_) (fun c_6 => ?_)
    · have hf := z_if c_6 hf
      refine lv_iconst (v := 1) hx hb dX7_judgeAfterWorth_40 (by decide) ?_
      exact J_41 (1 : Int32) S_0 _ _ _ hf hP hS (lv_sub hl [] rfl)
    · have hf := z_it c_6 hf
      refine lv_aload_n hx hb dX7_judgeAfterWorth_31 rfl (lv_at hl 0 rfl) ?_
      refine lv_bipush (v := -59) hx hb dX7_judgeAfterWorth_32 (by decide) ?_
      obtain ⟨r_3, S_4, h_5, hf⟩ := z_bd hf
      refine z_cVI (As := [.int (-59 : Int32)]) (rest := []) X hK hE hD hA hP hS (cx_Reader_endLine l D K cy ad S_0 _ _ _ h_5) (cwV 1 hts (z_gV wt_3_213 wt_3_215 wp_19 wt_1_10 wt_3_216) rfl rfl rfl ⟨rfl, yd_yX7_endLine⟩ ⟨Nat.le_of_ble_eq_true rfl, Nat.le_of_ble_eq_true rfl⟩) (va_recv hK hP (ci := 7) (q0 := 125) rfl (zX_125 cy ad S_0)) hl.1 rfl rfl (Nat.le_of_ble_eq_true rfl) dX7_judgeAfterWorth_34 (fun H locs hP hS => ?_)
      refine lv_goto (tgt := 41) hx hb dX7_judgeAfterWorth_37 (by decide) ?_
      exact J_41 r_3 S_4 _ _ _ hf hP hS (lv_sub hl [] rfl)
  · have hf := z_it c_11 hf
    refine lv_aload_n hx hb dX7_judgeAfterWorth_10 rfl (lv_at hl 0 rfl) ?_
    refine lv_iconst (v := 0) hx hb dX7_judgeAfterWorth_11 (by decide) ?_
    obtain ⟨r_7, S_8, h_9, hf⟩ := z_bd hf
    refine z_cVV (As := [.int (0 : Int32)]) (rest := []) X hK hE hD hA hP hS (cx_Reader_emitWaiting l D K cy ad S_0 _ _ h_9) (cwV 1 hts (z_gV wt_3_204 wt_3_206 wp_17 wt_1_10 wt_3_207) rfl rfl rfl ⟨rfl, yd_yX7_emitWaiting⟩ ⟨Nat.le_of_ble_eq_true rfl, Nat.le_of_ble_eq_true rfl⟩) (va_recv hK hP (ci := 7) (q0 := 125) rfl (zX_125 cy ad S_0)) hl.1 rfl rfl (Nat.le_of_ble_eq_true rfl) dX7_judgeAfterWorth_12 (fun H locs hP hS => ?_)
    refine lv_aload_n hx hb dX7_judgeAfterWorth_15 rfl (lv_at hl 0 rfl) ?_
    refine lv_iconst (v := 1) hx hb dX7_judgeAfterWorth_16 (by decide) ?_
    refine va_put (D := D) (ci := 7) (v := .int (1 : Int32)) (ty := .int) (C := RX7) (T := TX7) (N := 16) hx hb hts k0 tyX7 tyX7_ok nmX7 hown hK hP (hD S_8) hS 125 (zX_125 cy ad S_8) rfl 8 (by decide) k2 (fun _ h9 => h9) rfl (tyX7_ok 8 (by decide)) rfl rfl (Nat.le_of_ble_eq_true rfl) dX7_judgeAfterWorth_17 (fun H locs hP _ hS => ?_)
    obtain ⟨S_10, eS_10, hf⟩ := z_nm hf
    have hP := zW_putI hP eS_10 (by decide) rfl
    refine lv_iconst (v := 0) hx hb dX7_judgeAfterWorth_20 (by decide) ?_
    obtain ⟨h1, h2⟩ := z_s2 hf
    subst h1 h2
    exact hret _ _ _ _ hP hS dX7_judgeAfterWorth_21
theorem yd_yX7_judgeComparison : (yX7_judgeComparison).cls ≠ "java/lang/invoke/MethodHandle" ∧ (yX7_judgeComparison).cls ≠ "java/lang/invoke/VarHandle" ∧ (parseMethodDescriptor (yX7_judgeComparison).desc).map (fun d => d.parameters.length) = some 0 := by decide +kernel
def fx_Reader_judgeComparison (S_0 : zSt) : Option (Int32 × zSt) :=
  znm (fun (S_1 : zSt) =>
  zbd (fx_Reader_takeOperator S_1 (2 : Int32)) fun _ S_3 =>
  znm (zpI S_3 125 9 (6 : Int32)) fun S_5 =>
  some ((0 : Int32), S_5)) fun j_29 =>
  if (S_0.1 125 14) = (60 : Int32) then (
  j_29  S_0) else (
  if (S_0.1 125 14) = (61 : Int32) then (
  j_29  S_0) else (
  if (S_0.1 125 14) = (62 : Int32) then (
  j_29  S_0) else (
  some ((1 : Int32), S_0))))
set_option maxHeartbeats 4000000 in
set_option maxRecDepth 100000 in
theorem cx_Reader_judgeComparison (l : Launch) (D : va_G) (K : (Nat → Nat) × (Nat → Nat)) (cy : Nat → ClassId) (ad : Nat → Nat) (S_0 : zSt) (ro : Int32) (So : zSt) (hf : fx_Reader_judgeComparison S_0 = some (ro, So)) : zMI l yX7_judgeComparison (zws yX7_judgeComparison cX7_judgeComparison 1 (Option.some .int)) ({ frames := 3, cells := 0, slots := 0, locals := 63 }) D (zTy cy) K (zX cy ad) [.ref (ad 125)] S_0 ro So := by
  refine z_metI (own := RX7) (lv := [(0, .ref (ad 125))]) (by decide) rfl rfl (Nat.le_of_ble_eq_true rfl) rfl ?_
  intro p e s m below meth c A Q X hK hE hD hA hret hP hS ls hl
  obtain ⟨hx, hb, hml, hown, hts⟩ := id X
  have k0 := (fun w h => List.mem_cons_of_mem _ (zFX7 w h) : ∀ w ∈ u_ws RX7 TX7 16, w ∈ zws yX7_judgeComparison cX7_judgeComparison 1 (Option.some .int))
  have k1 := hts _ (List.mem_cons_of_mem _ wt_2_67)
  have k2 := hts _ (List.mem_cons_of_mem _ wt_2_62)
  refine lv_aload_n hx hb dX7_judgeComparison_0 rfl (lv_at hl 0 rfl) ?_
  refine va_get (D := D) (ci := 7) (v := .int (S_0.1 125 14)) (C := RX7) (T := TX7) (N := 16) hx hb hts k0 hown hK hP 125 (zX_125 cy ad S_0) rfl 14 (by decide) k1 (fun _ h9 => h9) rfl dX7_judgeComparison_1 ?_
  refine lv_bipush (v := 60) hx hb dX7_judgeComparison_4 (by decide) ?_
  obtain ⟨j_29, ej_29, hf⟩ := z_nm hf
  have J_29 : ∀ (S_1 : zSt) (H : Heap) (locs : List Loc) (ls : Array Slot), j_29  S_1 = some (ro, So) → va_P D vwCl (zX cy ad S_1) H → va_S A s.heap H locs → lv_has ls 1 [(0, .ref (ad 125))] → W p l e ({ frames := 3, cells := 0, slots := 0, locals := 63 }) s m ([.ref (ad 125)] : List Value).toArray below meth c H locs 0 0 Q (F0 m 29 ls []) := by
    intro  S_1 H locs ls hf hP hS hl
    have hf := z_e1 ej_29 hf
    refine lv_aload_n hx hb dX7_judgeComparison_29 rfl (lv_at hl 0 rfl) ?_
    refine lv_iconst (v := 2) hx hb dX7_judgeComparison_30 (by decide) ?_
    obtain ⟨r_2, S_3, h_4, hf⟩ := z_bd hf
    refine z_cVV (As := [.int (2 : Int32)]) (rest := []) X hK hE hD hA hP hS (cx_Reader_takeOperator l D K cy ad S_1 _ _ h_4) (cwV 1 hts (z_gV wt_3_197 wt_3_199 wp_16 wt_1_10 wt_3_200) rfl rfl rfl ⟨rfl, yd_yX7_takeOperator⟩ ⟨Nat.le_of_ble_eq_true rfl, Nat.le_of_ble_eq_true rfl⟩) (va_recv hK hP (ci := 7) (q0 := 125) rfl (zX_125 cy ad S_1)) hl.1 rfl rfl (Nat.le_of_ble_eq_true rfl) dX7_judgeComparison_31 (fun H locs hP hS => ?_)
    refine lv_aload_n hx hb dX7_judgeComparison_34 rfl (lv_at hl 0 rfl) ?_
    refine lv_bipush (v := 6) hx hb dX7_judgeComparison_35 (by decide) ?_
    refine va_put (D := D) (ci := 7) (v := .int (6 : Int32)) (ty := .int) (C := RX7) (T := TX7) (N := 16) hx hb hts k0 tyX7 tyX7_ok nmX7 hown hK hP (hD S_3) hS 125 (zX_125 cy ad S_3) rfl 9 (by decide) k2 (fun _ h9 => h9) rfl (tyX7_ok 9 (by decide)) rfl rfl (Nat.le_of_ble_eq_true rfl) dX7_judgeComparison_37 (fun H locs hP _ hS => ?_)
    obtain ⟨S_5, eS_5, hf⟩ := z_nm hf
    have hP := zW_putI hP eS_5 (by decide) rfl
    refine lv_iconst (v := 0) hx hb dX7_judgeComparison_40 (by decide) ?_
    obtain ⟨h1, h2⟩ := z_s2 hf
    subst h1 h2
    exact hret _ _ _ _ hP hS dX7_judgeComparison_41
  refine lv_icmp_eq (tgt := 29) hx hb dX7_judgeComparison_6 (by decide) (fun c_8 => ?_) (fun c_8 => ?_)
  · have hf := z_it c_8 hf
    exact J_29  S_0 _ _ _ hf hP hS (lv_sub hl [0] rfl)
  · have hf := z_if c_8 hf
    refine lv_aload_n hx hb dX7_judgeComparison_9 rfl (lv_at hl 0 rfl) ?_
    refine va_get (D := D) (ci := 7) (v := .int (S_0.1 125 14)) (C := RX7) (T := TX7) (N := 16) hx hb hts k0 hown hK hP 125 (zX_125 cy ad S_0) rfl 14 (by decide) k1 (fun _ h9 => h9) rfl dX7_judgeComparison_10 ?_
    refine lv_bipush (v := 61) hx hb dX7_judgeComparison_13 (by decide) ?_
    refine lv_icmp_eq (tgt := 29) hx hb dX7_judgeComparison_15 (by decide) (fun c_7 => ?_) (fun c_7 => ?_)
    · have hf := z_it c_7 hf
      exact J_29  S_0 _ _ _ hf hP hS (lv_sub hl [0] rfl)
    · have hf := z_if c_7 hf
      refine lv_aload_n hx hb dX7_judgeComparison_18 rfl (lv_at hl 0 rfl) ?_
      refine va_get (D := D) (ci := 7) (v := .int (S_0.1 125 14)) (C := RX7) (T := TX7) (N := 16) hx hb hts k0 hown hK hP 125 (zX_125 cy ad S_0) rfl 14 (by decide) k1 (fun _ h9 => h9) rfl dX7_judgeComparison_19 ?_
      refine lv_bipush (v := 62) hx hb dX7_judgeComparison_22 (by decide) ?_
      refine lv_icmp_eq (tgt := 29) hx hb dX7_judgeComparison_24 (by decide) (fun c_6 => ?_) (fun c_6 => ?_)
      · have hf := z_it c_6 hf
        exact J_29  S_0 _ _ _ hf hP hS (lv_sub hl [0] rfl)
      · have hf := z_if c_6 hf
        refine lv_iconst (v := 1) hx hb dX7_judgeComparison_27 (by decide) ?_
        obtain ⟨h1, h2⟩ := z_s2 hf
        subst h1 h2
        exact hret _ _ _ _ hP hS dX7_judgeComparison_28
theorem yd_yX11_isWithin : (yX11_isWithin).cls ≠ "java/lang/invoke/MethodHandle" ∧ (yX11_isWithin).cls ≠ "java/lang/invoke/VarHandle" ∧ (parseMethodDescriptor (yX11_isWithin).desc).map (fun d => d.parameters.length) = some 3 := by decide +kernel
def fx_isWithin (S_0 : zSt) (a_1 : Int32) (a_2 : Int32) (a_3 : Int32) : Option (Int32 × zSt) :=
  znm (fun (x_1 : Int32) (S_2 : zSt) =>
  zck (zbo x_1) <|
  some (x_1, S_2)) fun j_15 =>
  znm (fun (S_4 : zSt) =>
  j_15 (0 : Int32) S_4) fun j_14 =>
  if a_1 < a_2 then (
  j_14  S_0) else (
  if a_3 < a_1 then (
  j_14  S_0) else (
  j_15 (1 : Int32) S_0))
set_option maxHeartbeats 4000000 in
set_option maxRecDepth 100000 in
theorem cx_isWithin (l : Launch) (D : va_G) (K : (Nat → Nat) × (Nat → Nat)) (cy : Nat → ClassId) (ad : Nat → Nat) (S_0 : zSt) (a_1 : Int32) (a_2 : Int32) (a_3 : Int32) (ro : Int32) (So : zSt) (hf : fx_isWithin S_0 a_1 a_2 a_3 = some (ro, So)) : zMI l yX11_isWithin (zws yX11_isWithin cX11_isWithin 3 (Option.some .boolean)) ({ frames := 0, cells := 0, slots := 0, locals := 0 }) D (zTy cy) K (zX cy ad) [.int a_1, .int a_2, .int a_3] S_0 ro So := by
  refine z_metZ (own := RX11) (lv := [(0, .int a_1), (1, .int a_2), (2, .int a_3)]) (by decide) rfl rfl (Nat.le_of_ble_eq_true rfl) rfl ?_
  intro p e s m below meth c A Q X hK hE hD hA hret hP hS ls hl
  obtain ⟨hx, hb, hml, hown, hts⟩ := id X
  refine lv_iload_n hx hb dX11_isWithin_0 rfl (lv_at hl 0 rfl) ?_
  refine lv_iload_n hx hb dX11_isWithin_1 rfl (lv_at hl 1 rfl) ?_
  obtain ⟨j_15, ej_15, hf⟩ := z_nm hf
  have J_15 : ∀ (x_1 : Int32) (S_2 : zSt) (H : Heap) (locs : List Loc) (ls : Array Slot), j_15 x_1 S_2 = some (ro, So) → va_P D vwCl (zX cy ad S_2) H → va_S A s.heap H locs → lv_has ls 3 [] → W p l e ({ frames := 0, cells := 0, slots := 0, locals := 0 }) s m ([.int a_1, .int a_2, .int a_3] : List Value).toArray below meth c H locs 0 0 Q (F0 m 15 ls [.int x_1]) := by
    intro x_1 S_2 H locs ls hf hP hS hl
    have hf := z_e2 ej_15 hf
    obtain ⟨h_3, hf⟩ := z_bo hf
    obtain ⟨h1, h2⟩ := z_s2 hf
    subst h1 h2
    exact hret _ _ _ _ h_3 hP hS dX11_isWithin_15
  obtain ⟨j_14, ej_14, hf⟩ := z_nm hf
  have J_14 : ∀ (S_4 : zSt) (H : Heap) (locs : List Loc) (ls : Array Slot), j_14  S_4 = some (ro, So) → va_P D vwCl (zX cy ad S_4) H → va_S A s.heap H locs → lv_has ls 3 [] → W p l e ({ frames := 0, cells := 0, slots := 0, locals := 0 }) s m ([.int a_1, .int a_2, .int a_3] : List Value).toArray below meth c H locs 0 0 Q (F0 m 14 ls []) := by
    intro  S_4 H locs ls hf hP hS hl
    have hf := z_e1 ej_14 hf
    refine lv_iconst (v := 0) hx hb dX11_isWithin_14 (by decide) ?_
    exact J_15 (0 : Int32) S_4 _ _ _ hf hP hS (lv_sub hl [] rfl)
  refine lv_icmp_lt (tgt := 14) hx hb dX11_isWithin_2 (by decide) (fun c_6 => ?_) (fun c_6 => ?_)
  · have hf := z_it c_6 hf
    exact J_14  S_0 _ _ _ hf hP hS (lv_sub hl [] rfl)
  · have hf := z_if c_6 hf
    refine lv_iload_n hx hb dX11_isWithin_5 rfl (lv_at hl 0 rfl) ?_
    refine lv_iload_n hx hb dX11_isWithin_6 rfl (lv_at hl 2 rfl) ?_
    refine lv_icmp_gt (tgt := 14) hx hb dX11_isWithin_7 (by decide) (fun c_5 => ?_) (fun c_5 => ?_)
    · have hf := z_it c_5 hf
      exact J_14  S_0 _ _ _ hf hP hS (lv_sub hl [] rfl)
    · have hf := z_if c_5 hf
      refine lv_iconst (v := 1) hx hb dX11_isWithin_10 (by decide) ?_
      refine lv_goto (tgt := 15) hx hb dX11_isWithin_11 (by decide) ?_
      exact J_15 (1 : Int32) S_0 _ _ _ hf hP hS (lv_sub hl [] rfl)
theorem yd_yX7_judgeOperand : (yX7_judgeOperand).cls ≠ "java/lang/invoke/MethodHandle" ∧ (yX7_judgeOperand).cls ≠ "java/lang/invoke/VarHandle" ∧ (parseMethodDescriptor (yX7_judgeOperand).desc).map (fun d => d.parameters.length) = some 0 := by decide +kernel
def fx_Reader_judgeOperand (S_0 : zSt) : Option (Int32 × zSt) :=
  znm (fun (S_1 : zSt) =>
  znm (zpI S_1 125 8 (S_1.1 125 9)) fun S_2 =>
  some ((0 : Int32), S_2)) fun j_58 =>
  if (S_0.1 125 14) = (300 : Int32) then (
  zbd (fx_Reader_emit S_0 (S_0.1 125 15)) fun _ S_11 =>
  j_58  S_11) else (
  zbd (fx_isWithin S_0 (S_0.1 125 14) (261 : Int32) (270 : Int32)) fun r_3 S_4 =>
  if r_3 = 0 then (
  some ((1 : Int32), S_4)) else (
  zbd (fx_Reader_emit S_4 (((10000 : Int32) + (S_4.1 125 14)) - (261 : Int32))) fun _ S_7 =>
  j_58  S_7))
set_option maxHeartbeats 4000000 in
set_option maxRecDepth 100000 in
theorem cx_Reader_judgeOperand (l : Launch) (D : va_G) (K : (Nat → Nat) × (Nat → Nat)) (cy : Nat → ClassId) (ad : Nat → Nat) (S_0 : zSt) (ro : Int32) (So : zSt) (hf : fx_Reader_judgeOperand S_0 = some (ro, So)) : zMI l yX7_judgeOperand (zws yX7_judgeOperand cX7_judgeOperand 1 (Option.some .int)) ({ frames := 1, cells := 0, slots := 0, locals := 22 }) D (zTy cy) K (zX cy ad) [.ref (ad 125)] S_0 ro So := by
  refine z_metI (own := RX7) (lv := [(0, .ref (ad 125))]) (by decide) rfl rfl (Nat.le_of_ble_eq_true rfl) rfl ?_
  intro p e s m below meth c A Q X hK hE hD hA hret hP hS ls hl
  obtain ⟨hx, hb, hml, hown, hts⟩ := id X
  have k0 := (fun w h => List.mem_cons_of_mem _ (zFX7 w h) : ∀ w ∈ u_ws RX7 TX7 16, w ∈ zws yX7_judgeOperand cX7_judgeOperand 1 (Option.some .int))
  have k1 := hts _ (List.mem_cons_of_mem _ wt_2_67)
  have k2 := hts _ (List.mem_cons_of_mem _ wt_2_62)
  have k3 := hts _ (List.mem_cons_of_mem _ wt_2_61)
  have k4 := hts _ (List.mem_cons_of_mem _ wt_1_1)
  have k5 := hts _ (List.mem_cons_of_mem _ wt_2_220)
  have k6 := hts _ (List.mem_cons_of_mem _ wt_2_68)
  refine lv_aload_n hx hb dX7_judgeOperand_0 rfl (lv_at hl 0 rfl) ?_
  refine va_get (D := D) (ci := 7) (v := .int (S_0.1 125 14)) (C := RX7) (T := TX7) (N := 16) hx hb hts k0 hown hK hP 125 (zX_125 cy ad S_0) rfl 14 (by decide) k1 (fun _ h9 => h9) rfl dX7_judgeOperand_1 ?_
  refine lv_sipush (v := 300) hx hb dX7_judgeOperand_4 (by decide) ?_
  obtain ⟨j_58, ej_58, hf⟩ := z_nm hf
  have J_58 : ∀ (S_1 : zSt) (H : Heap) (locs : List Loc) (ls : Array Slot), j_58  S_1 = some (ro, So) → va_P D vwCl (zX cy ad S_1) H → va_S A s.heap H locs → lv_has ls 1 [(0, .ref (ad 125))] → W p l e ({ frames := 1, cells := 0, slots := 0, locals := 22 }) s m ([.ref (ad 125)] : List Value).toArray below meth c H locs 0 0 Q (F0 m 58 ls []) := by
    intro  S_1 H locs ls hf hP hS hl
    have hf := z_e1 ej_58 hf
    refine lv_aload_n hx hb dX7_judgeOperand_58 rfl (lv_at hl 0 rfl) ?_
    refine lv_aload_n hx hb dX7_judgeOperand_59 rfl (lv_at hl 0 rfl) ?_
    refine va_get (D := D) (ci := 7) (v := .int (S_1.1 125 9)) (C := RX7) (T := TX7) (N := 16) hx hb hts k0 hown hK hP 125 (zX_125 cy ad S_1) rfl 9 (by decide) k2 (fun _ h9 => h9) rfl dX7_judgeOperand_60 ?_
    refine va_put (D := D) (ci := 7) (v := .int (S_1.1 125 9)) (ty := .int) (C := RX7) (T := TX7) (N := 16) hx hb hts k0 tyX7 tyX7_ok nmX7 hown hK hP (hD S_1) hS 125 (zX_125 cy ad S_1) rfl 8 (by decide) k3 (fun _ h9 => h9) rfl (tyX7_ok 8 (by decide)) rfl rfl (Nat.le_of_ble_eq_true rfl) dX7_judgeOperand_63 (fun H locs hP _ hS => ?_)
    obtain ⟨S_2, eS_2, hf⟩ := z_nm hf
    have hP := zW_putI hP eS_2 (by decide) rfl
    refine lv_iconst (v := 0) hx hb dX7_judgeOperand_66 (by decide) ?_
    obtain ⟨h1, h2⟩ := z_s2 hf
    subst h1 h2
    exact hret _ _ _ _ hP hS dX7_judgeOperand_67
  refine lv_icmp_ne (tgt := 21) hx hb dX7_judgeOperand_7 (by decide) (fun c_13 => ?_) (fun c_13 => ?_)
  · have hf := z_if c_13 hf
    refine lv_aload_n hx hb dX7_judgeOperand_21 rfl (lv_at hl 0 rfl) ?_
    refine va_get (D := D) (ci := 7) (v := .int (S_0.1 125 14)) (C := RX7) (T := TX7) (N := 16) hx hb hts k0 hown hK hP 125 (zX_125 cy ad S_0) rfl 14 (by decide) k1 (fun _ h9 => h9) rfl dX7_judgeOperand_22 ?_
    refine lv_sipush (v := 261) hx hb dX7_judgeOperand_25 (by decide) ?_
    refine lv_sipush (v := 270) hx hb dX7_judgeOperand_28 (by decide) ?_
    obtain ⟨r_3, S_4, h_5, hf⟩ := z_bd hf
    refine z_cSNI (As := [.int (S_0.1 125 14), .int (261 : Int32), .int (270 : Int32)]) (rest := []) X hK hE hD hA hP hS (cx_isWithin l D K cy ad S_0 _ _ _ _ _ h_5) ⟨va_cnB 3 hts (z_gT wt_2_221) rfl rfl rfl (hE.2.2.2.2.1 _ (List.mem_of_getElem? (i := 8) rfl)) k4 yd_yX11_isWithin ⟨Nat.le_of_ble_eq_true rfl, Nat.le_of_ble_eq_true rfl⟩, k5, trivial⟩ hl.1 rfl rfl (Nat.le_of_ble_eq_true rfl) dX7_judgeOperand_31 (fun H locs hP hS => ?_)
    refine lv_if_eq (tgt := 56) hx hb dX7_judgeOperand_34 (by decide) (fun c_9 => ?_) (fun c_9 => ?_)
    · have hf := z_it c_9 hf
      refine lv_iconst (v := 1) hx hb dX7_judgeOperand_56 (by decide) ?_
      obtain ⟨h1, h2⟩ := z_s2 hf
      subst h1 h2
      exact hret _ _ _ _ hP hS dX7_judgeOperand_57
    · have hf := z_if c_9 hf
      refine lv_aload_n hx hb dX7_judgeOperand_37 rfl (lv_at hl 0 rfl) ?_
      refine lv_sipush (v := 10000) hx hb dX7_judgeOperand_38 (by decide) ?_
      refine lv_aload_n hx hb dX7_judgeOperand_41 rfl (lv_at hl 0 rfl) ?_
      refine va_get (D := D) (ci := 7) (v := .int (S_4.1 125 14)) (C := RX7) (T := TX7) (N := 16) hx hb hts k0 hown hK hP 125 (zX_125 cy ad S_4) rfl 14 (by decide) k1 (fun _ h9 => h9) rfl dX7_judgeOperand_42 ?_
      refine lv_iadd hx hb dX7_judgeOperand_45 ?_
      refine lv_sipush (v := 261) hx hb dX7_judgeOperand_46 (by decide) ?_
      refine lv_isub hx hb dX7_judgeOperand_49 ?_
      obtain ⟨r_6, S_7, h_8, hf⟩ := z_bd hf
      refine z_cVV (As := [.int (((10000 : Int32) + (S_4.1 125 14)) - (261 : Int32))]) (rest := []) X hK hE hD hA hP hS (cx_Reader_emit l D K cy ad S_4 _ _ h_8) (cwV 1 hts (z_gV wt_3_181 wt_3_183 wp_12 wt_1_10 wt_3_184) rfl rfl rfl ⟨rfl, yd_yX7_emit⟩ ⟨Nat.le_of_ble_eq_true rfl, Nat.le_of_ble_eq_true rfl⟩) (va_recv hK hP (ci := 7) (q0 := 125) rfl (zX_125 cy ad S_4)) hl.1 rfl rfl (Nat.le_of_ble_eq_true rfl) dX7_judgeOperand_50 (fun H locs hP hS => ?_)
      refine lv_goto (tgt := 58) hx hb dX7_judgeOperand_53 (by decide) ?_
      exact J_58  S_7 _ _ _ hf hP hS (lv_sub hl [0] rfl)
  · have hf := z_it c_13 hf
    refine lv_aload_n hx hb dX7_judgeOperand_10 rfl (lv_at hl 0 rfl) ?_
    refine lv_aload_n hx hb dX7_judgeOperand_11 rfl (lv_at hl 0 rfl) ?_
    refine va_get (D := D) (ci := 7) (v := .int (S_0.1 125 15)) (C := RX7) (T := TX7) (N := 16) hx hb hts k0 hown hK hP 125 (zX_125 cy ad S_0) rfl 15 (by decide) k6 (fun _ h9 => h9) rfl dX7_judgeOperand_12 ?_
    obtain ⟨r_10, S_11, h_12, hf⟩ := z_bd hf
    refine z_cVV (As := [.int (S_0.1 125 15)]) (rest := []) X hK hE hD hA hP hS (cx_Reader_emit l D K cy ad S_0 _ _ h_12) (cwV 1 hts (z_gV wt_3_181 wt_3_183 wp_12 wt_1_10 wt_3_184) rfl rfl rfl ⟨rfl, yd_yX7_emit⟩ ⟨Nat.le_of_ble_eq_true rfl, Nat.le_of_ble_eq_true rfl⟩) (va_recv hK hP (ci := 7) (q0 := 125) rfl (zX_125 cy ad S_0)) hl.1 rfl rfl (Nat.le_of_ble_eq_true rfl) dX7_judgeOperand_15 (fun H locs hP hS => ?_)
    refine lv_goto (tgt := 58) hx hb dX7_judgeOperand_18 (by decide) ?_
    exact J_58  S_11 _ _ _ hf hP hS (lv_sub hl [0] rfl)
theorem yd_yX7_judgeCondition : (yX7_judgeCondition).cls ≠ "java/lang/invoke/MethodHandle" ∧ (yX7_judgeCondition).cls ≠ "java/lang/invoke/VarHandle" ∧ (parseMethodDescriptor (yX7_judgeCondition).desc).map (fun d => d.parameters.length) = some 0 := by decide +kernel
def fx_Reader_judgeCondition (S_0 : zSt) : Option (Int32 × zSt) :=
  znm (fun (S_1 : zSt) =>
  if (S_1.1 125 10) < (8 : Int32) then (
  znm (zpI S_1 125 10 ((S_1.1 125 10) + (1 : Int32))) fun S_2 =>
  znm (fun (S_3 : zSt) =>
  zbd (fx_Reader_push S_3 (S_3.1 125 14)) fun _ S_5 =>
  some ((0 : Int32), S_5)) fun j_69 =>
  if (S_2.1 125 14) = (40 : Int32) then (
  znm (zpI S_2 125 11 ((S_2.1 125 11) + (1 : Int32))) fun S_7 =>
  j_69  S_7) else (
  j_69  S_2)) else (
  some ((3 : Int32), S_1))) fun j_29 =>
  if (S_0.1 125 14) = (260 : Int32) then (
  j_29  S_0) else (
  if (S_0.1 125 14) = (40 : Int32) then (
  j_29  S_0) else (
  znm (zpI S_0 125 9 (5 : Int32)) fun S_10 =>
  zbd (fx_Reader_judgeOperand S_10) fun r_11 S_12 =>
  some (r_11, S_12)))
set_option maxHeartbeats 4000000 in
set_option maxRecDepth 100000 in
theorem cx_Reader_judgeCondition (l : Launch) (D : va_G) (K : (Nat → Nat) × (Nat → Nat)) (cy : Nat → ClassId) (ad : Nat → Nat) (S_0 : zSt) (ro : Int32) (So : zSt) (hf : fx_Reader_judgeCondition S_0 = some (ro, So)) : zMI l yX7_judgeCondition (zws yX7_judgeCondition cX7_judgeCondition 1 (Option.some .int)) ({ frames := 2, cells := 0, slots := 0, locals := 42 }) D (zTy cy) K (zX cy ad) [.ref (ad 125)] S_0 ro So := by
  refine z_metI (own := RX7) (lv := [(0, .ref (ad 125))]) (by decide) rfl rfl (Nat.le_of_ble_eq_true rfl) rfl ?_
  intro p e s m below meth c A Q X hK hE hD hA hret hP hS ls hl
  obtain ⟨hx, hb, hml, hown, hts⟩ := id X
  have k0 := (fun w h => List.mem_cons_of_mem _ (zFX7 w h) : ∀ w ∈ u_ws RX7 TX7 16, w ∈ zws yX7_judgeCondition cX7_judgeCondition 1 (Option.some .int))
  have k1 := hts _ (List.mem_cons_of_mem _ wt_2_67)
  have k2 := hts _ (List.mem_cons_of_mem _ wt_2_63)
  have k3 := hts _ (List.mem_cons_of_mem _ wt_2_64)
  have k4 := hts _ (List.mem_cons_of_mem _ wt_2_62)
  refine lv_aload_n hx hb dX7_judgeCondition_0 rfl (lv_at hl 0 rfl) ?_
  refine va_get (D := D) (ci := 7) (v := .int (S_0.1 125 14)) (C := RX7) (T := TX7) (N := 16) hx hb hts k0 hown hK hP 125 (zX_125 cy ad S_0) rfl 14 (by decide) k1 (fun _ h9 => h9) rfl dX7_judgeCondition_1 ?_
  refine lv_sipush (v := 260) hx hb dX7_judgeCondition_4 (by decide) ?_
  obtain ⟨j_29, ej_29, hf⟩ := z_nm hf
  have J_29 : ∀ (S_1 : zSt) (H : Heap) (locs : List Loc) (ls : Array Slot), j_29  S_1 = some (ro, So) → va_P D vwCl (zX cy ad S_1) H → va_S A s.heap H locs → lv_has ls 1 [(0, .ref (ad 125))] → W p l e ({ frames := 2, cells := 0, slots := 0, locals := 42 }) s m ([.ref (ad 125)] : List Value).toArray below meth c H locs 0 0 Q (F0 m 29 ls []) := by
    intro  S_1 H locs ls hf hP hS hl
    have hf := z_e1 ej_29 hf
    refine lv_aload_n hx hb dX7_judgeCondition_29 rfl (lv_at hl 0 rfl) ?_
    refine va_get (D := D) (ci := 7) (v := .int (S_1.1 125 10)) (C := RX7) (T := TX7) (N := 16) hx hb hts k0 hown hK hP 125 (zX_125 cy ad S_1) rfl 10 (by decide) k2 (fun _ h9 => h9) rfl dX7_judgeCondition_30 ?_
    refine lv_bipush (v := 8) hx hb dX7_judgeCondition_33 (by decide) ?_
    refine lv_icmp_lt (tgt := 40) hx hb dX7_judgeCondition_35 (by decide) (fun c_9 => ?_) (fun c_9 => ?_)
    · have hf := z_it c_9 hf
      refine lv_aload_n hx hb dX7_judgeCondition_40 rfl (lv_at hl 0 rfl) ?_
      refine lv_dup hx hb dX7_judgeCondition_41 rfl ?_
      refine va_get (D := D) (ci := 7) (v := .int (S_1.1 125 10)) (C := RX7) (T := TX7) (N := 16) hx hb hts k0 hown hK hP 125 (zX_125 cy ad S_1) rfl 10 (by decide) k2 (fun _ h9 => h9) rfl dX7_judgeCondition_42 ?_
      refine lv_iconst (v := 1) hx hb dX7_judgeCondition_45 (by decide) ?_
      refine lv_iadd hx hb dX7_judgeCondition_46 ?_
      refine va_put (D := D) (ci := 7) (v := .int ((S_1.1 125 10) + (1 : Int32))) (ty := .int) (C := RX7) (T := TX7) (N := 16) hx hb hts k0 tyX7 tyX7_ok nmX7 hown hK hP (hD S_1) hS 125 (zX_125 cy ad S_1) rfl 10 (by decide) k2 (fun _ h9 => h9) rfl (tyX7_ok 10 (by decide)) rfl rfl (Nat.le_of_ble_eq_true rfl) dX7_judgeCondition_47 (fun H locs hP _ hS => ?_)
      obtain ⟨S_2, eS_2, hf⟩ := z_nm hf
      have hP := zW_putI hP eS_2 (by decide) rfl
      refine lv_aload_n hx hb dX7_judgeCondition_50 rfl (lv_at hl 0 rfl) ?_
      refine va_get (D := D) (ci := 7) (v := .int (S_2.1 125 14)) (C := RX7) (T := TX7) (N := 16) hx hb hts k0 hown hK hP 125 (zX_125 cy ad S_2) rfl 14 (by decide) k1 (fun _ h9 => h9) rfl dX7_judgeCondition_51 ?_
      refine lv_bipush (v := 40) hx hb dX7_judgeCondition_54 (by decide) ?_
      obtain ⟨j_69, ej_69, hf⟩ := z_nm hf
      have J_69 : ∀ (S_3 : zSt) (H : Heap) (locs : List Loc) (ls : Array Slot), j_69  S_3 = some (ro, So) → va_P D vwCl (zX cy ad S_3) H → va_S A s.heap H locs → lv_has ls 1 [(0, .ref (ad 125))] → W p l e ({ frames := 2, cells := 0, slots := 0, locals := 42 }) s m ([.ref (ad 125)] : List Value).toArray below meth c H locs 0 0 Q (F0 m 69 ls []) := by
        intro  S_3 H locs ls hf hP hS hl
        have hf := z_e1 ej_69 hf
        refine lv_aload_n hx hb dX7_judgeCondition_69 rfl (lv_at hl 0 rfl) ?_
        refine lv_aload_n hx hb dX7_judgeCondition_70 rfl (lv_at hl 0 rfl) ?_
        refine va_get (D := D) (ci := 7) (v := .int (S_3.1 125 14)) (C := RX7) (T := TX7) (N := 16) hx hb hts k0 hown hK hP 125 (zX_125 cy ad S_3) rfl 14 (by decide) k1 (fun _ h9 => h9) rfl dX7_judgeCondition_71 ?_
        obtain ⟨r_4, S_5, h_6, hf⟩ := z_bd hf
        refine z_cVV (As := [.int (S_3.1 125 14)]) (rest := []) X hK hE hD hA hP hS (cx_Reader_push l D K cy ad S_3 _ _ h_6) (cwV 1 hts (z_gV wt_3_185 wt_3_187 wp_13 wt_1_10 wt_3_188) rfl rfl rfl ⟨rfl, yd_yX7_push⟩ ⟨Nat.le_of_ble_eq_true rfl, Nat.le_of_ble_eq_true rfl⟩) (va_recv hK hP (ci := 7) (q0 := 125) rfl (zX_125 cy ad S_3)) hl.1 rfl rfl (Nat.le_of_ble_eq_true rfl) dX7_judgeCondition_74 (fun H locs hP hS => ?_)
        refine lv_iconst (v := 0) hx hb dX7_judgeCondition_77 (by decide) ?_
        obtain ⟨h1, h2⟩ := z_s2 hf
        subst h1 h2
        exact hret _ _ _ _ hP hS dX7_judgeCondition_78
      refine lv_icmp_ne (tgt := 69) hx hb dX7_judgeCondition_56 (by decide) (fun c_8 => ?_) (fun c_8 => ?_)
      · have hf := z_if c_8 hf
        exact J_69  S_2 _ _ _ hf hP hS (lv_sub hl [0] rfl)
      · have hf := z_it c_8 hf
        refine lv_aload_n hx hb dX7_judgeCondition_59 rfl (lv_at hl 0 rfl) ?_
        refine lv_dup hx hb dX7_judgeCondition_60 rfl ?_
        refine va_get (D := D) (ci := 7) (v := .int (S_2.1 125 11)) (C := RX7) (T := TX7) (N := 16) hx hb hts k0 hown hK hP 125 (zX_125 cy ad S_2) rfl 11 (by decide) k3 (fun _ h9 => h9) rfl dX7_judgeCondition_61 ?_
        refine lv_iconst (v := 1) hx hb dX7_judgeCondition_64 (by decide) ?_
        refine lv_iadd hx hb dX7_judgeCondition_65 ?_
        refine va_put (D := D) (ci := 7) (v := .int ((S_2.1 125 11) + (1 : Int32))) (ty := .int) (C := RX7) (T := TX7) (N := 16) hx hb hts k0 tyX7 tyX7_ok nmX7 hown hK hP (hD S_2) hS 125 (zX_125 cy ad S_2) rfl 11 (by decide) k3 (fun _ h9 => h9) rfl (tyX7_ok 11 (by decide)) rfl rfl (Nat.le_of_ble_eq_true rfl) dX7_judgeCondition_66 (fun H locs hP _ hS => ?_)
        obtain ⟨S_7, eS_7, hf⟩ := z_nm hf
        have hP := zW_putI hP eS_7 (by decide) rfl
        exact J_69  S_7 _ _ _ hf hP hS (lv_sub hl [0] rfl)
    · have hf := z_if c_9 hf
      refine lv_iconst (v := 3) hx hb dX7_judgeCondition_38 (by decide) ?_
      obtain ⟨h1, h2⟩ := z_s2 hf
      subst h1 h2
      exact hret _ _ _ _ hP hS dX7_judgeCondition_39
  refine lv_icmp_eq (tgt := 29) hx hb dX7_judgeCondition_7 (by decide) (fun c_15 => ?_) (fun c_15 => ?_)
  · have hf := z_it c_15 hf
    exact J_29  S_0 _ _ _ hf hP hS (lv_sub hl [0] rfl)
  · have hf := z_if c_15 hf
    refine lv_aload_n hx hb dX7_judgeCondition_10 rfl (lv_at hl 0 rfl) ?_
    refine va_get (D := D) (ci := 7) (v := .int (S_0.1 125 14)) (C := RX7) (T := TX7) (N := 16) hx hb hts k0 hown hK hP 125 (zX_125 cy ad S_0) rfl 14 (by decide) k1 (fun _ h9 => h9) rfl dX7_judgeCondition_11 ?_
    refine lv_bipush (v := 40) hx hb dX7_judgeCondition_14 (by decide) ?_
    refine lv_icmp_eq (tgt := 29) hx hb dX7_judgeCondition_16 (by decide) (fun c_14 => ?_) (fun c_14 => ?_)
    · have hf := z_it c_14 hf
      exact J_29  S_0 _ _ _ hf hP hS (lv_sub hl [0] rfl)
    · have hf := z_if c_14 hf
      refine lv_aload_n hx hb dX7_judgeCondition_19 rfl (lv_at hl 0 rfl) ?_
      refine lv_iconst (v := 5) hx hb dX7_judgeCondition_20 (by decide) ?_
      refine va_put (D := D) (ci := 7) (v := .int (5 : Int32)) (ty := .int) (C := RX7) (T := TX7) (N := 16) hx hb hts k0 tyX7 tyX7_ok nmX7 hown hK hP (hD S_0) hS 125 (zX_125 cy ad S_0) rfl 9 (by decide) k4 (fun _ h9 => h9) rfl (tyX7_ok 9 (by decide)) rfl rfl (Nat.le_of_ble_eq_true rfl) dX7_judgeCondition_21 (fun H locs hP _ hS => ?_)
      obtain ⟨S_10, eS_10, hf⟩ := z_nm hf
      have hP := zW_putI hP eS_10 (by decide) rfl
      refine lv_aload_n hx hb dX7_judgeCondition_24 rfl (lv_at hl 0 rfl) ?_
      obtain ⟨r_11, S_12, h_13, hf⟩ := z_bd hf
      refine z_cVI (As := []) (rest := []) X hK hE hD hA hP hS (cx_Reader_judgeOperand l D K cy ad S_10 _ _ h_13) (cwV 0 hts (z_gV wt_3_177 wt_3_179 wp_11 wt_1_10 wt_3_180) rfl rfl rfl ⟨rfl, yd_yX7_judgeOperand⟩ ⟨Nat.le_of_ble_eq_true rfl, Nat.le_of_ble_eq_true rfl⟩) (va_recv hK hP (ci := 7) (q0 := 125) rfl (zX_125 cy ad S_10)) hl.1 rfl rfl (Nat.le_of_ble_eq_true rfl) dX7_judgeCondition_25 (fun H locs hP hS => ?_)
      obtain ⟨h1, h2⟩ := z_s2 hf
      subst h1 h2
      exact hret _ _ _ _ hP hS dX7_judgeCondition_28
theorem yd_yX7_judgeDivisor : (yX7_judgeDivisor).cls ≠ "java/lang/invoke/MethodHandle" ∧ (yX7_judgeDivisor).cls ≠ "java/lang/invoke/VarHandle" ∧ (parseMethodDescriptor (yX7_judgeDivisor).desc).map (fun d => d.parameters.length) = some 0 := by decide +kernel
def fx_Reader_judgeDivisor (S_0 : zSt) : Option (Int32 × zSt) :=
  if (S_0.1 125 14) = (300 : Int32) then (
  znm (fun (x_1 : Int32) (S_2 : zSt) =>
  some (x_1, S_2)) fun j_27 =>
  if (S_0.1 125 15) = 0 then (
  j_27 (2 : Int32) S_0) else (
  zbd (fx_Reader_judgeOperand S_0) fun r_3 S_4 =>
  j_27 r_3 S_4)) else (
  some ((1 : Int32), S_0))
set_option maxHeartbeats 4000000 in
set_option maxRecDepth 100000 in
theorem cx_Reader_judgeDivisor (l : Launch) (D : va_G) (K : (Nat → Nat) × (Nat → Nat)) (cy : Nat → ClassId) (ad : Nat → Nat) (S_0 : zSt) (ro : Int32) (So : zSt) (hf : fx_Reader_judgeDivisor S_0 = some (ro, So)) : zMI l yX7_judgeDivisor (zws yX7_judgeDivisor cX7_judgeDivisor 1 (Option.some .int)) ({ frames := 2, cells := 0, slots := 0, locals := 42 }) D (zTy cy) K (zX cy ad) [.ref (ad 125)] S_0 ro So := by
  refine z_metI (own := RX7) (lv := [(0, .ref (ad 125))]) (by decide) rfl rfl (Nat.le_of_ble_eq_true rfl) rfl ?_
  intro p e s m below meth c A Q X hK hE hD hA hret hP hS ls hl
  obtain ⟨hx, hb, hml, hown, hts⟩ := id X
  have k0 := (fun w h => List.mem_cons_of_mem _ (zFX7 w h) : ∀ w ∈ u_ws RX7 TX7 16, w ∈ zws yX7_judgeDivisor cX7_judgeDivisor 1 (Option.some .int))
  have k1 := hts _ (List.mem_cons_of_mem _ wt_2_67)
  have k2 := hts _ (List.mem_cons_of_mem _ wt_2_68)
  refine lv_aload_n hx hb dX7_judgeDivisor_0 rfl (lv_at hl 0 rfl) ?_
  refine va_get (D := D) (ci := 7) (v := .int (S_0.1 125 14)) (C := RX7) (T := TX7) (N := 16) hx hb hts k0 hown hK hP 125 (zX_125 cy ad S_0) rfl 14 (by decide) k1 (fun _ h9 => h9) rfl dX7_judgeDivisor_1 ?_
  refine lv_sipush (v := 300) hx hb dX7_judgeDivisor_4 (by decide) ?_
  refine lv_icmp_eq (tgt := 12) hx hb dX7_judgeDivisor_7 (by decide) (fun c_7 => ?_) (fun c_7 => ?_)
  · have hf := z_it c_7 hf
    refine lv_aload_n hx hb dX7_judgeDivisor_12 rfl (lv_at hl 0 rfl) ?_
    refine va_get (D := D) (ci := 7) (v := .int (S_0.1 125 15)) (C := RX7) (T := TX7) (N := 16) hx hb hts k0 hown hK hP 125 (zX_125 cy ad S_0) rfl 15 (by decide) k2 (fun _ h9 => h9) rfl dX7_judgeDivisor_13 ?_
    obtain ⟨j_27, ej_27, hf⟩ := z_nm hf
    have J_27 : ∀ (x_1 : Int32) (S_2 : zSt) (H : Heap) (locs : List Loc) (ls : Array Slot), j_27 x_1 S_2 = some (ro, So) → va_P D vwCl (zX cy ad S_2) H → va_S A s.heap H locs → lv_has ls 1 [] → W p l e ({ frames := 2, cells := 0, slots := 0, locals := 42 }) s m ([.ref (ad 125)] : List Value).toArray below meth c H locs 0 0 Q (F0 m 27 ls [.int x_1]) := by
      intro x_1 S_2 H locs ls hf hP hS hl
      have hf := z_e2 ej_27 hf
      obtain ⟨h1, h2⟩ := z_s2 hf
      subst h1 h2
      exact hret _ _ _ _ hP hS dX7_judgeDivisor_27
    refine lv_if_ne (tgt := 23) hx hb dX7_judgeDivisor_16 (by decide) (fun c_6 => ?_) (fun c_6 => ?_)
    · have hf := z_if c_6 hf
      refine lv_aload_n hx hb dX7_judgeDivisor_23 rfl (lv_at hl 0 rfl) ?_
      obtain ⟨r_3, S_4, h_5, hf⟩ := z_bd hf
      refine z_cVI (As := []) (rest := []) X hK hE hD hA hP hS (cx_Reader_judgeOperand l D K cy ad S_0 _ _ h_5) (cwV 0 hts (z_gV wt_3_177 wt_3_179 wp_11 wt_1_10 wt_3_180) rfl rfl rfl ⟨rfl, yd_yX7_judgeOperand⟩ ⟨Nat.le_of_ble_eq_true rfl, Nat.le_of_ble_eq_true rfl⟩) (va_recv hK hP (ci := 7) (q0 := 125) rfl (zX_125 cy ad S_0)) hl.1 rfl rfl (Nat.le_of_ble_eq_true rfl) dX7_judgeDivisor_24 (fun H locs hP hS => ?_)
      exact J_27 r_3 S_4 _ _ _ hf hP hS (lv_sub hl [] rfl)
    · have hf := z_it c_6 hf
      refine lv_iconst (v := 2) hx hb dX7_judgeDivisor_19 (by decide) ?_
      refine lv_goto (tgt := 27) hx hb dX7_judgeDivisor_20 (by decide) ?_
      exact J_27 (2 : Int32) S_0 _ _ _ hf hP hS (lv_sub hl [] rfl)
  · have hf := z_if c_7 hf
    refine lv_iconst (v := 1) hx hb dX7_judgeDivisor_10 (by decide) ?_
    obtain ⟨h1, h2⟩ := z_s2 hf
    subst h1 h2
    exact hret _ _ _ _ hP hS dX7_judgeDivisor_11
theorem yd_yX7_judgeLine : (yX7_judgeLine).cls ≠ "java/lang/invoke/MethodHandle" ∧ (yX7_judgeLine).cls ≠ "java/lang/invoke/VarHandle" ∧ (parseMethodDescriptor (yX7_judgeLine).desc).map (fun d => d.parameters.length) = some 0 := by decide +kernel
def fx_Reader_judgeLine (S_0 : zSt) : Option (Int32 × zSt) :=
  if (S_0.1 125 14) = (256 : Int32) then (
  if (S_0.1 125 3) < (16 : Int32) then (
  znm (zpI S_0 125 3 ((S_0.1 125 3) + (1 : Int32))) fun S_1 =>
  znm (zpI S_1 125 9 (4 : Int32)) fun S_2 =>
  znm (zpI S_2 125 8 (2 : Int32)) fun S_3 =>
  some ((0 : Int32), S_3)) else (
  some ((3 : Int32), S_0))) else (
  some ((1 : Int32), S_0))
set_option maxHeartbeats 4000000 in
set_option maxRecDepth 100000 in
theorem cx_Reader_judgeLine (l : Launch) (D : va_G) (K : (Nat → Nat) × (Nat → Nat)) (cy : Nat → ClassId) (ad : Nat → Nat) (S_0 : zSt) (ro : Int32) (So : zSt) (hf : fx_Reader_judgeLine S_0 = some (ro, So)) : zMI l yX7_judgeLine (zws yX7_judgeLine cX7_judgeLine 1 (Option.some .int)) ({ frames := 0, cells := 0, slots := 0, locals := 0 }) D (zTy cy) K (zX cy ad) [.ref (ad 125)] S_0 ro So := by
  refine z_metI (own := RX7) (lv := [(0, .ref (ad 125))]) (by decide) rfl rfl (Nat.le_of_ble_eq_true rfl) rfl ?_
  intro p e s m below meth c A Q X hK hE hD hA hret hP hS ls hl
  obtain ⟨hx, hb, hml, hown, hts⟩ := id X
  have k0 := (fun w h => List.mem_cons_of_mem _ (zFX7 w h) : ∀ w ∈ u_ws RX7 TX7 16, w ∈ zws yX7_judgeLine cX7_judgeLine 1 (Option.some .int))
  have k1 := hts _ (List.mem_cons_of_mem _ wt_2_67)
  have k2 := hts _ (List.mem_cons_of_mem _ wt_2_53)
  have k3 := hts _ (List.mem_cons_of_mem _ wt_2_62)
  have k4 := hts _ (List.mem_cons_of_mem _ wt_2_61)
  refine lv_aload_n hx hb dX7_judgeLine_0 rfl (lv_at hl 0 rfl) ?_
  refine va_get (D := D) (ci := 7) (v := .int (S_0.1 125 14)) (C := RX7) (T := TX7) (N := 16) hx hb hts k0 hown hK hP 125 (zX_125 cy ad S_0) rfl 14 (by decide) k1 (fun _ h9 => h9) rfl dX7_judgeLine_1 ?_
  refine lv_sipush (v := 256) hx hb dX7_judgeLine_4 (by decide) ?_
  refine lv_icmp_eq (tgt := 12) hx hb dX7_judgeLine_7 (by decide) (fun c_5 => ?_) (fun c_5 => ?_)
  · have hf := z_it c_5 hf
    refine lv_aload_n hx hb dX7_judgeLine_12 rfl (lv_at hl 0 rfl) ?_
    refine va_get (D := D) (ci := 7) (v := .int (S_0.1 125 3)) (C := RX7) (T := TX7) (N := 16) hx hb hts k0 hown hK hP 125 (zX_125 cy ad S_0) rfl 3 (by decide) k2 (fun _ h9 => h9) rfl dX7_judgeLine_13 ?_
    refine lv_bipush (v := 16) hx hb dX7_judgeLine_16 (by decide) ?_
    refine lv_icmp_lt (tgt := 23) hx hb dX7_judgeLine_18 (by decide) (fun c_4 => ?_) (fun c_4 => ?_)
    · have hf := z_it c_4 hf
      refine lv_aload_n hx hb dX7_judgeLine_23 rfl (lv_at hl 0 rfl) ?_
      refine lv_dup hx hb dX7_judgeLine_24 rfl ?_
      refine va_get (D := D) (ci := 7) (v := .int (S_0.1 125 3)) (C := RX7) (T := TX7) (N := 16) hx hb hts k0 hown hK hP 125 (zX_125 cy ad S_0) rfl 3 (by decide) k2 (fun _ h9 => h9) rfl dX7_judgeLine_25 ?_
      refine lv_iconst (v := 1) hx hb dX7_judgeLine_28 (by decide) ?_
      refine lv_iadd hx hb dX7_judgeLine_29 ?_
      refine va_put (D := D) (ci := 7) (v := .int ((S_0.1 125 3) + (1 : Int32))) (ty := .int) (C := RX7) (T := TX7) (N := 16) hx hb hts k0 tyX7 tyX7_ok nmX7 hown hK hP (hD S_0) hS 125 (zX_125 cy ad S_0) rfl 3 (by decide) k2 (fun _ h9 => h9) rfl (tyX7_ok 3 (by decide)) rfl rfl (Nat.le_of_ble_eq_true rfl) dX7_judgeLine_30 (fun H locs hP _ hS => ?_)
      obtain ⟨S_1, eS_1, hf⟩ := z_nm hf
      have hP := zW_putI hP eS_1 (by decide) rfl
      refine lv_aload_n hx hb dX7_judgeLine_33 rfl (lv_at hl 0 rfl) ?_
      refine lv_iconst (v := 4) hx hb dX7_judgeLine_34 (by decide) ?_
      refine va_put (D := D) (ci := 7) (v := .int (4 : Int32)) (ty := .int) (C := RX7) (T := TX7) (N := 16) hx hb hts k0 tyX7 tyX7_ok nmX7 hown hK hP (hD S_1) hS 125 (zX_125 cy ad S_1) rfl 9 (by decide) k3 (fun _ h9 => h9) rfl (tyX7_ok 9 (by decide)) rfl rfl (Nat.le_of_ble_eq_true rfl) dX7_judgeLine_35 (fun H locs hP _ hS => ?_)
      obtain ⟨S_2, eS_2, hf⟩ := z_nm hf
      have hP := zW_putI hP eS_2 (by decide) rfl
      refine lv_aload_n hx hb dX7_judgeLine_38 rfl (lv_at hl 0 rfl) ?_
      refine lv_iconst (v := 2) hx hb dX7_judgeLine_39 (by decide) ?_
      refine va_put (D := D) (ci := 7) (v := .int (2 : Int32)) (ty := .int) (C := RX7) (T := TX7) (N := 16) hx hb hts k0 tyX7 tyX7_ok nmX7 hown hK hP (hD S_2) hS 125 (zX_125 cy ad S_2) rfl 8 (by decide) k4 (fun _ h9 => h9) rfl (tyX7_ok 8 (by decide)) rfl rfl (Nat.le_of_ble_eq_true rfl) dX7_judgeLine_40 (fun H locs hP _ hS => ?_)
      obtain ⟨S_3, eS_3, hf⟩ := z_nm hf
      have hP := zW_putI hP eS_3 (by decide) rfl
      refine lv_iconst (v := 0) hx hb dX7_judgeLine_43 (by decide) ?_
      obtain ⟨h1, h2⟩ := z_s2 hf
      subst h1 h2
      exact hret _ _ _ _ hP hS dX7_judgeLine_44
    · have hf := z_if c_4 hf
      refine lv_iconst (v := 3) hx hb dX7_judgeLine_21 (by decide) ?_
      obtain ⟨h1, h2⟩ := z_s2 hf
      subst h1 h2
      exact hret _ _ _ _ hP hS dX7_judgeLine_22
  · have hf := z_if c_5 hf
    refine lv_iconst (v := 1) hx hb dX7_judgeLine_10 (by decide) ?_
    obtain ⟨h1, h2⟩ := z_s2 hf
    subst h1 h2
    exact hret _ _ _ _ hP hS dX7_judgeLine_11
theorem yd_yX7_judge : (yX7_judge).cls ≠ "java/lang/invoke/MethodHandle" ∧ (yX7_judge).cls ≠ "java/lang/invoke/VarHandle" ∧ (parseMethodDescriptor (yX7_judge).desc).map (fun d => d.parameters.length) = some 0 := by decide +kernel
def fx_Reader_judge (S_0 : zSt) : Option (Int32 × zSt) :=
  znm (fun (S_1 : zSt) =>
  znm (fun (S_2 : zSt) =>
  znm (fun (x_3 : Int32) (S_4 : zSt) =>
  zbd (fx_Reader_takeOperator S_4 x_3) fun _ S_6 =>
  some ((0 : Int32), S_6)) fun j_128 =>
  if (S_2.1 125 14) = (47 : Int32) then (
  j_128 (3 : Int32) S_2) else (
  j_128 (2 : Int32) S_2)) fun j_113 =>
  if (S_1.1 125 14) = (43 : Int32) then (
  j_113  S_1) else (
  if (S_1.1 125 14) = (45 : Int32) then (
  j_113  S_1) else (
  if (S_1.1 125 14) = (42 : Int32) then (
  j_113  S_1) else (
  if (S_1.1 125 14) = (47 : Int32) then (
  j_113  S_1) else (
  if (S_1.1 125 8) = (4 : Int32) then (
  zbd (fx_Reader_judgeAfterWorth S_1) fun r_9 S_10 =>
  some (r_9, S_10)) else (
  if (S_1.1 125 8) = (5 : Int32) then (
  zbd (fx_Reader_judgeComparison S_1) fun r_14 S_15 =>
  some (r_14, S_15)) else (
  zbd (fx_Reader_judgeAfterCondition S_1) fun r_19 S_20 =>
  some (r_19, S_20)))))))) fun j_77 =>
  if (S_0.1 125 8) = (0 : Int32) then (
  zbd (fx_Reader_judgeLine S_0) fun r_26 S_27 =>
  some (r_26, S_27)) else (
  if (S_0.1 125 8) = (1 : Int32) then (
  zbd (fx_Reader_judgeCondition S_0) fun r_31 S_32 =>
  some (r_31, S_32)) else (
  if (S_0.1 125 8) = (2 : Int32) then (
  zbd (fx_Reader_judgeOperand S_0) fun r_36 S_37 =>
  some (r_36, S_37)) else (
  if (S_0.1 125 8) = (3 : Int32) then (
  zbd (fx_Reader_judgeDivisor S_0) fun r_41 S_42 =>
  some (r_41, S_42)) else (
  if (S_0.1 125 8) = (4 : Int32) then (
  j_77  S_0) else (
  if (S_0.1 125 8) = (5 : Int32) then (
  j_77  S_0) else (
  if (S_0.1 125 8) = (6 : Int32) then (
  j_77  S_0) else (
  if (S_0.1 125 8) = (7 : Int32) then (
  zbd (fx_Reader_judgeAfterCondition S_0) fun r_52 S_53 =>
  some (r_52, S_53)) else (
  j_77  S_0))))))))
set_option maxHeartbeats 4000000 in
set_option maxRecDepth 100000 in
theorem cx_Reader_judge (l : Launch) (D : va_G) (K : (Nat → Nat) × (Nat → Nat)) (cy : Nat → ClassId) (ad : Nat → Nat) (S_0 : zSt) (ro : Int32) (So : zSt) (hf : fx_Reader_judge S_0 = some (ro, So)) : zMI l yX7_judge (zws yX7_judge cX7_judge 1 (Option.some .int)) ({ frames := 4, cells := 0, slots := 0, locals := 240 }) D (zTy cy) K (zX cy ad) [.ref (ad 125)] S_0 ro So := by
  refine z_metI (own := RX7) (lv := [(0, .ref (ad 125))]) (by decide) rfl rfl (Nat.le_of_ble_eq_true rfl) rfl ?_
  intro p e s m below meth c A Q X hK hE hD hA hret hP hS ls hl
  obtain ⟨hx, hb, hml, hown, hts⟩ := id X
  have k0 := (fun w h => List.mem_cons_of_mem _ (zFX7 w h) : ∀ w ∈ u_ws RX7 TX7 16, w ∈ zws yX7_judge cX7_judge 1 (Option.some .int))
  have k1 := hts _ (List.mem_cons_of_mem _ wt_2_61)
  have k2 := hts _ (List.mem_cons_of_mem _ wt_2_67)
  refine lv_aload_n hx hb dX7_judge_0 rfl (lv_at hl 0 rfl) ?_
  refine va_get (D := D) (ci := 7) (v := .int (S_0.1 125 8)) (C := RX7) (T := TX7) (N := 16) hx hb hts k0 hown hK hP 125 (zX_125 cy ad S_0) rfl 8 (by decide) k1 (fun _ h9 => h9) rfl dX7_judge_1 ?_
  obtain ⟨j_77, ej_77, hf⟩ := z_nm hf
  have J_77 : ∀ (S_1 : zSt) (H : Heap) (locs : List Loc) (ls : Array Slot), j_77  S_1 = some (ro, So) → va_P D vwCl (zX cy ad S_1) H → va_S A s.heap H locs → lv_has ls 1 [(0, .ref (ad 125))] → W p l e ({ frames := 4, cells := 0, slots := 0, locals := 240 }) s m ([.ref (ad 125)] : List Value).toArray below meth c H locs 0 0 Q (F0 m 77 ls []) := by
    intro  S_1 H locs ls hf hP hS hl
    have hf := z_e1 ej_77 hf
    refine lv_aload_n hx hb dX7_judge_77 rfl (lv_at hl 0 rfl) ?_
    refine va_get (D := D) (ci := 7) (v := .int (S_1.1 125 14)) (C := RX7) (T := TX7) (N := 16) hx hb hts k0 hown hK hP 125 (zX_125 cy ad S_1) rfl 14 (by decide) k2 (fun _ h9 => h9) rfl dX7_judge_78 ?_
    refine lv_bipush (v := 43) hx hb dX7_judge_81 (by decide) ?_
    obtain ⟨j_113, ej_113, hf⟩ := z_nm hf
    have J_113 : ∀ (S_2 : zSt) (H : Heap) (locs : List Loc) (ls : Array Slot), j_113  S_2 = some (ro, So) → va_P D vwCl (zX cy ad S_2) H → va_S A s.heap H locs → lv_has ls 1 [(0, .ref (ad 125))] → W p l e ({ frames := 4, cells := 0, slots := 0, locals := 240 }) s m ([.ref (ad 125)] : List Value).toArray below meth c H locs 0 0 Q (F0 m 113 ls []) := by
      intro  S_2 H locs ls hf hP hS hl
      have hf := z_e1 ej_113 hf
      refine lv_aload_n hx hb dX7_judge_113 rfl (lv_at hl 0 rfl) ?_
      refine lv_aload_n hx hb dX7_judge_114 rfl (lv_at hl 0 rfl) ?_
      refine va_get (D := D) (ci := 7) (v := .int (S_2.1 125 14)) (C := RX7) (T := TX7) (N := 16) hx hb hts k0 hown hK hP 125 (zX_125 cy ad S_2) rfl 14 (by decide) k2 (fun _ h9 => h9) rfl dX7_judge_115 ?_
      refine lv_bipush (v := 47) hx hb dX7_judge_118 (by decide) ?_
      obtain ⟨j_128, ej_128, hf⟩ := z_nm hf
      have J_128 : ∀ (x_3 : Int32) (S_4 : zSt) (H : Heap) (locs : List Loc) (ls : Array Slot), j_128 x_3 S_4 = some (ro, So) → va_P D vwCl (zX cy ad S_4) H → va_S A s.heap H locs → lv_has ls 1 [] → W p l e ({ frames := 4, cells := 0, slots := 0, locals := 240 }) s m ([.ref (ad 125)] : List Value).toArray below meth c H locs 0 0 Q (F0 m 128 ls [.int x_3, .ref (ad 125)]) := by
        intro x_3 S_4 H locs ls hf hP hS hl
        have hf := z_e2 ej_128 hf
        obtain ⟨r_5, S_6, h_7, hf⟩ := z_bd hf
        refine z_cVV (As := [.int x_3]) (rest := []) X hK hE hD hA hP hS (cx_Reader_takeOperator l D K cy ad S_4 _ _ h_7) (cwV 1 hts (z_gV wt_3_197 wt_3_199 wp_16 wt_1_10 wt_3_200) rfl rfl rfl ⟨rfl, yd_yX7_takeOperator⟩ ⟨Nat.le_of_ble_eq_true rfl, Nat.le_of_ble_eq_true rfl⟩) (va_recv hK hP (ci := 7) (q0 := 125) rfl (zX_125 cy ad S_4)) hl.1 rfl rfl (Nat.le_of_ble_eq_true rfl) dX7_judge_128 (fun H locs hP hS => ?_)
        refine lv_iconst (v := 0) hx hb dX7_judge_131 (by decide) ?_
        obtain ⟨h1, h2⟩ := z_s2 hf
        subst h1 h2
        exact hret _ _ _ _ hP hS dX7_judge_132
      refine lv_icmp_ne (tgt := 127) hx hb dX7_judge_120 (by decide) (fun c_8 => ?_) (fun c_8 => ?_)
      · have hf := z_if c_8 hf
        refine lv_iconst (v := 2) hx hb dX7_judge_127 (by decide) ?_
        exact J_128 (2 : Int32) S_2 _ _ _ hf hP hS (lv_sub hl [] rfl)
      · have hf := z_it c_8 hf
        refine lv_iconst (v := 3) hx hb dX7_judge_123 (by decide) ?_
        refine lv_goto (tgt := 128) hx hb dX7_judge_124 (by decide) ?_
        exact J_128 (3 : Int32) S_2 _ _ _ hf hP hS (lv_sub hl [] rfl)
    refine lv_icmp_eq (tgt := 113) hx hb dX7_judge_83 (by decide) (fun c_25 => ?_) (fun c_25 => ?_)
    · have hf := z_it c_25 hf
      exact J_113  S_1 _ _ _ hf hP hS (lv_sub hl [0] rfl)
    · have hf := z_if c_25 hf
      refine lv_aload_n hx hb dX7_judge_86 rfl (lv_at hl 0 rfl) ?_
      refine va_get (D := D) (ci := 7) (v := .int (S_1.1 125 14)) (C := RX7) (T := TX7) (N := 16) hx hb hts k0 hown hK hP 125 (zX_125 cy ad S_1) rfl 14 (by decide) k2 (fun _ h9 => h9) rfl dX7_judge_87 ?_
      refine lv_bipush (v := 45) hx hb dX7_judge_90 (by decide) ?_
      refine lv_icmp_eq (tgt := 113) hx hb dX7_judge_92 (by decide) (fun c_24 => ?_) (fun c_24 => ?_)
      · have hf := z_it c_24 hf
        exact J_113  S_1 _ _ _ hf hP hS (lv_sub hl [0] rfl)
      · have hf := z_if c_24 hf
        refine lv_aload_n hx hb dX7_judge_95 rfl (lv_at hl 0 rfl) ?_
        refine va_get (D := D) (ci := 7) (v := .int (S_1.1 125 14)) (C := RX7) (T := TX7) (N := 16) hx hb hts k0 hown hK hP 125 (zX_125 cy ad S_1) rfl 14 (by decide) k2 (fun _ h9 => h9) rfl dX7_judge_96 ?_
        refine lv_bipush (v := 42) hx hb dX7_judge_99 (by decide) ?_
        refine lv_icmp_eq (tgt := 113) hx hb dX7_judge_101 (by decide) (fun c_23 => ?_) (fun c_23 => ?_)
        · have hf := z_it c_23 hf
          exact J_113  S_1 _ _ _ hf hP hS (lv_sub hl [0] rfl)
        · have hf := z_if c_23 hf
          refine lv_aload_n hx hb dX7_judge_104 rfl (lv_at hl 0 rfl) ?_
          refine va_get (D := D) (ci := 7) (v := .int (S_1.1 125 14)) (C := RX7) (T := TX7) (N := 16) hx hb hts k0 hown hK hP 125 (zX_125 cy ad S_1) rfl 14 (by decide) k2 (fun _ h9 => h9) rfl dX7_judge_105 ?_
          refine lv_bipush (v := 47) hx hb dX7_judge_108 (by decide) ?_
          refine lv_icmp_ne (tgt := 133) hx hb dX7_judge_110 (by decide) (fun c_22 => ?_) (fun c_22 => ?_)
          · have hf := z_if c_22 hf
            refine lv_aload_n hx hb dX7_judge_133 rfl (lv_at hl 0 rfl) ?_
            refine va_get (D := D) (ci := 7) (v := .int (S_1.1 125 8)) (C := RX7) (T := TX7) (N := 16) hx hb hts k0 hown hK hP 125 (zX_125 cy ad S_1) rfl 8 (by decide) k1 (fun _ h9 => h9) rfl dX7_judge_134 ?_
            by_cases c_12 : (S_1.1 125 8) = (4 : Int32)
            · have hf := z_it c_12 hf
              refine lv_lookup (off := 27) (tgt := 164) hx hb dX7_judge_137 (by decide) (by rw [c_12]; rfl) (by decide) ?_
              refine lv_aload_n hx hb dX7_judge_164 rfl (lv_at hl 0 rfl) ?_
              obtain ⟨r_9, S_10, h_11, hf⟩ := z_bd hf
              refine z_cVI (As := []) (rest := []) X hK hE hD hA hP hS (cx_Reader_judgeAfterWorth l D K cy ad S_1 _ _ h_11) (cwV 0 hts (z_gV wt_3_217 wt_3_219 wp_20 wt_1_10 wt_3_220) rfl rfl rfl ⟨rfl, yd_yX7_judgeAfterWorth⟩ ⟨Nat.le_of_ble_eq_true rfl, Nat.le_of_ble_eq_true rfl⟩) (va_recv hK hP (ci := 7) (q0 := 125) rfl (zX_125 cy ad S_1)) hl.1 rfl rfl (Nat.le_of_ble_eq_true rfl) dX7_judge_165 (fun H locs hP hS => ?_)
              obtain ⟨h1, h2⟩ := z_s2 hf
              subst h1 h2
              exact hret _ _ _ _ hP hS dX7_judge_168
            have hf := z_if c_12 hf
            have n_13 : (S_1.1 125 8).toInt ≠ 4 := z_ne c_12 (by decide)
            by_cases c_17 : (S_1.1 125 8) = (5 : Int32)
            · have hf := z_it c_17 hf
              refine lv_lookup (off := 32) (tgt := 169) hx hb dX7_judge_137 (by decide) (by rw [c_17]; rfl) (by decide) ?_
              refine lv_aload_n hx hb dX7_judge_169 rfl (lv_at hl 0 rfl) ?_
              obtain ⟨r_14, S_15, h_16, hf⟩ := z_bd hf
              refine z_cVI (As := []) (rest := []) X hK hE hD hA hP hS (cx_Reader_judgeComparison l D K cy ad S_1 _ _ h_16) (cwV 0 hts (z_gV wt_3_221 wt_3_223 wp_21 wt_1_10 wt_3_224) rfl rfl rfl ⟨rfl, yd_yX7_judgeComparison⟩ ⟨Nat.le_of_ble_eq_true rfl, Nat.le_of_ble_eq_true rfl⟩) (va_recv hK hP (ci := 7) (q0 := 125) rfl (zX_125 cy ad S_1)) hl.1 rfl rfl (Nat.le_of_ble_eq_true rfl) dX7_judge_170 (fun H locs hP hS => ?_)
              obtain ⟨h1, h2⟩ := z_s2 hf
              subst h1 h2
              exact hret _ _ _ _ hP hS dX7_judge_173
            have hf := z_if c_17 hf
            have n_18 : (S_1.1 125 8).toInt ≠ 5 := z_ne c_17 (by decide)
            refine lv_lookup (off := 37) (tgt := 174) hx hb dX7_judge_137 (by decide) (by simp only [Op.lookupswitch.offset_cons, Op.lookupswitch.offset_nil, ne_eq]; simp [n_13, n_18, Ne.symm n_13, Ne.symm n_18]) (by decide) ?_
            refine lv_aload_n hx hb dX7_judge_174 rfl (lv_at hl 0 rfl) ?_
            obtain ⟨r_19, S_20, h_21, hf⟩ := z_bd hf
            refine z_cVI (As := []) (rest := []) X hK hE hD hA hP hS (cx_Reader_judgeAfterCondition l D K cy ad S_1 _ _ h_21) (cwV 0 hts (z_gV wt_3_193 wt_3_195 wp_15 wt_1_10 wt_3_196) rfl rfl rfl ⟨rfl, yd_yX7_judgeAfterCondition⟩ ⟨Nat.le_of_ble_eq_true rfl, Nat.le_of_ble_eq_true rfl⟩) (va_recv hK hP (ci := 7) (q0 := 125) rfl (zX_125 cy ad S_1)) hl.1 rfl rfl (Nat.le_of_ble_eq_true rfl) dX7_judge_175 (fun H locs hP hS => ?_)
            obtain ⟨h1, h2⟩ := z_s2 hf
            subst h1 h2
            exact hret _ _ _ _ hP hS dX7_judge_178
          · have hf := z_it c_22 hf
            exact J_113  S_1 _ _ _ hf hP hS (lv_sub hl [0] rfl)
  by_cases c_29 : (S_0.1 125 8) = (0 : Int32)
  · have hf := z_it c_29 hf
    refine lv_tableIn (off := 48) (tgt := 52) hx hb dX7_judge_4 (by rw [c_29]; decide) (by rw [c_29]; decide) (by rw [c_29]; rfl) (by decide) ?_
    refine lv_aload_n hx hb dX7_judge_52 rfl (lv_at hl 0 rfl) ?_
    obtain ⟨r_26, S_27, h_28, hf⟩ := z_bd hf
    refine z_cVI (As := []) (rest := []) X hK hE hD hA hP hS (cx_Reader_judgeLine l D K cy ad S_0 _ _ h_28) (cwV 0 hts (z_gV wt_3_169 wt_3_171 wp_9 wt_1_10 wt_3_172) rfl rfl rfl ⟨rfl, yd_yX7_judgeLine⟩ ⟨Nat.le_of_ble_eq_true rfl, Nat.le_of_ble_eq_true rfl⟩) (va_recv hK hP (ci := 7) (q0 := 125) rfl (zX_125 cy ad S_0)) hl.1 rfl rfl (Nat.le_of_ble_eq_true rfl) dX7_judge_53 (fun H locs hP hS => ?_)
    obtain ⟨h1, h2⟩ := z_s2 hf
    subst h1 h2
    exact hret _ _ _ _ hP hS dX7_judge_56
  have hf := z_if c_29 hf
  have n_30 : (S_0.1 125 8).toInt ≠ 0 := z_ne c_29 (by decide)
  by_cases c_34 : (S_0.1 125 8) = (1 : Int32)
  · have hf := z_it c_34 hf
    refine lv_tableIn (off := 53) (tgt := 57) hx hb dX7_judge_4 (by rw [c_34]; decide) (by rw [c_34]; decide) (by rw [c_34]; rfl) (by decide) ?_
    refine lv_aload_n hx hb dX7_judge_57 rfl (lv_at hl 0 rfl) ?_
    obtain ⟨r_31, S_32, h_33, hf⟩ := z_bd hf
    refine z_cVI (As := []) (rest := []) X hK hE hD hA hP hS (cx_Reader_judgeCondition l D K cy ad S_0 _ _ h_33) (cwV 0 hts (z_gV wt_3_173 wt_3_175 wp_10 wt_1_10 wt_3_176) rfl rfl rfl ⟨rfl, yd_yX7_judgeCondition⟩ ⟨Nat.le_of_ble_eq_true rfl, Nat.le_of_ble_eq_true rfl⟩) (va_recv hK hP (ci := 7) (q0 := 125) rfl (zX_125 cy ad S_0)) hl.1 rfl rfl (Nat.le_of_ble_eq_true rfl) dX7_judge_58 (fun H locs hP hS => ?_)
    obtain ⟨h1, h2⟩ := z_s2 hf
    subst h1 h2
    exact hret _ _ _ _ hP hS dX7_judge_61
  have hf := z_if c_34 hf
  have n_35 : (S_0.1 125 8).toInt ≠ 1 := z_ne c_34 (by decide)
  by_cases c_39 : (S_0.1 125 8) = (2 : Int32)
  · have hf := z_it c_39 hf
    refine lv_tableIn (off := 58) (tgt := 62) hx hb dX7_judge_4 (by rw [c_39]; decide) (by rw [c_39]; decide) (by rw [c_39]; rfl) (by decide) ?_
    refine lv_aload_n hx hb dX7_judge_62 rfl (lv_at hl 0 rfl) ?_
    obtain ⟨r_36, S_37, h_38, hf⟩ := z_bd hf
    refine z_cVI (As := []) (rest := []) X hK hE hD hA hP hS (cx_Reader_judgeOperand l D K cy ad S_0 _ _ h_38) (cwV 0 hts (z_gV wt_3_177 wt_3_179 wp_11 wt_1_10 wt_3_180) rfl rfl rfl ⟨rfl, yd_yX7_judgeOperand⟩ ⟨Nat.le_of_ble_eq_true rfl, Nat.le_of_ble_eq_true rfl⟩) (va_recv hK hP (ci := 7) (q0 := 125) rfl (zX_125 cy ad S_0)) hl.1 rfl rfl (Nat.le_of_ble_eq_true rfl) dX7_judge_63 (fun H locs hP hS => ?_)
    obtain ⟨h1, h2⟩ := z_s2 hf
    subst h1 h2
    exact hret _ _ _ _ hP hS dX7_judge_66
  have hf := z_if c_39 hf
  have n_40 : (S_0.1 125 8).toInt ≠ 2 := z_ne c_39 (by decide)
  by_cases c_44 : (S_0.1 125 8) = (3 : Int32)
  · have hf := z_it c_44 hf
    refine lv_tableIn (off := 63) (tgt := 67) hx hb dX7_judge_4 (by rw [c_44]; decide) (by rw [c_44]; decide) (by rw [c_44]; rfl) (by decide) ?_
    refine lv_aload_n hx hb dX7_judge_67 rfl (lv_at hl 0 rfl) ?_
    obtain ⟨r_41, S_42, h_43, hf⟩ := z_bd hf
    refine z_cVI (As := []) (rest := []) X hK hE hD hA hP hS (cx_Reader_judgeDivisor l D K cy ad S_0 _ _ h_43) (cwV 0 hts (z_gV wt_3_189 wt_3_191 wp_14 wt_1_10 wt_3_192) rfl rfl rfl ⟨rfl, yd_yX7_judgeDivisor⟩ ⟨Nat.le_of_ble_eq_true rfl, Nat.le_of_ble_eq_true rfl⟩) (va_recv hK hP (ci := 7) (q0 := 125) rfl (zX_125 cy ad S_0)) hl.1 rfl rfl (Nat.le_of_ble_eq_true rfl) dX7_judge_68 (fun H locs hP hS => ?_)
    obtain ⟨h1, h2⟩ := z_s2 hf
    subst h1 h2
    exact hret _ _ _ _ hP hS dX7_judge_71
  have hf := z_if c_44 hf
  have n_45 : (S_0.1 125 8).toInt ≠ 3 := z_ne c_44 (by decide)
  by_cases c_46 : (S_0.1 125 8) = (4 : Int32)
  · have hf := z_it c_46 hf
    refine lv_tableIn (off := 73) (tgt := 77) hx hb dX7_judge_4 (by rw [c_46]; decide) (by rw [c_46]; decide) (by rw [c_46]; rfl) (by decide) ?_
    exact J_77  S_0 _ _ _ hf hP hS (lv_sub hl [0] rfl)
  have hf := z_if c_46 hf
  have n_47 : (S_0.1 125 8).toInt ≠ 4 := z_ne c_46 (by decide)
  by_cases c_48 : (S_0.1 125 8) = (5 : Int32)
  · have hf := z_it c_48 hf
    refine lv_tableIn (off := 73) (tgt := 77) hx hb dX7_judge_4 (by rw [c_48]; decide) (by rw [c_48]; decide) (by rw [c_48]; rfl) (by decide) ?_
    exact J_77  S_0 _ _ _ hf hP hS (lv_sub hl [0] rfl)
  have hf := z_if c_48 hf
  have n_49 : (S_0.1 125 8).toInt ≠ 5 := z_ne c_48 (by decide)
  by_cases c_50 : (S_0.1 125 8) = (6 : Int32)
  · have hf := z_it c_50 hf
    refine lv_tableIn (off := 73) (tgt := 77) hx hb dX7_judge_4 (by rw [c_50]; decide) (by rw [c_50]; decide) (by rw [c_50]; rfl) (by decide) ?_
    exact J_77  S_0 _ _ _ hf hP hS (lv_sub hl [0] rfl)
  have hf := z_if c_50 hf
  have n_51 : (S_0.1 125 8).toInt ≠ 6 := z_ne c_50 (by decide)
  by_cases c_55 : (S_0.1 125 8) = (7 : Int32)
  · have hf := z_it c_55 hf
    refine lv_tableIn (off := 68) (tgt := 72) hx hb dX7_judge_4 (by rw [c_55]; decide) (by rw [c_55]; decide) (by rw [c_55]; rfl) (by decide) ?_
    refine lv_aload_n hx hb dX7_judge_72 rfl (lv_at hl 0 rfl) ?_
    obtain ⟨r_52, S_53, h_54, hf⟩ := z_bd hf
    refine z_cVI (As := []) (rest := []) X hK hE hD hA hP hS (cx_Reader_judgeAfterCondition l D K cy ad S_0 _ _ h_54) (cwV 0 hts (z_gV wt_3_193 wt_3_195 wp_15 wt_1_10 wt_3_196) rfl rfl rfl ⟨rfl, yd_yX7_judgeAfterCondition⟩ ⟨Nat.le_of_ble_eq_true rfl, Nat.le_of_ble_eq_true rfl⟩) (va_recv hK hP (ci := 7) (q0 := 125) rfl (zX_125 cy ad S_0)) hl.1 rfl rfl (Nat.le_of_ble_eq_true rfl) dX7_judge_73 (fun H locs hP hS => ?_)
    obtain ⟨h1, h2⟩ := z_s2 hf
    subst h1 h2
    exact hret _ _ _ _ hP hS dX7_judge_76
  have hf := z_if c_55 hf
  have n_56 : (S_0.1 125 8).toInt ≠ 7 := z_ne c_55 (by decide)
  refine lv_tableOut (tgt := 77) hx hb dX7_judge_4 (by omega) (by decide) ?_
  exact J_77  S_0 _ _ _ hf hP hS (lv_sub hl [0] rfl)
theorem yd_yX7_isDigit : (yX7_isDigit).cls ≠ "java/lang/invoke/MethodHandle" ∧ (yX7_isDigit).cls ≠ "java/lang/invoke/VarHandle" ∧ (parseMethodDescriptor (yX7_isDigit).desc).map (fun d => d.parameters.length) = some 1 := by decide +kernel
def fx_Reader_isDigit (S_0 : zSt) (a_1 : Int32) : Option (Int32 × zSt) :=
  zck (zix a_1 400) <|
  zbd (fx_isWithin S_0 (S_0.1 2 (a_1.toNatClampNeg)) (48 : Int32) (57 : Int32)) fun r_2 S_3 =>
  zck (zbo r_2) <|
  some (r_2, S_3)
set_option maxHeartbeats 4000000 in
set_option maxRecDepth 100000 in
theorem cx_Reader_isDigit (l : Launch) (D : va_G) (K : (Nat → Nat) × (Nat → Nat)) (cy : Nat → ClassId) (ad : Nat → Nat) (S_0 : zSt) (a_1 : Int32) (ro : Int32) (So : zSt) (hf : fx_Reader_isDigit S_0 a_1 = some (ro, So)) : zMI l yX7_isDigit (zws yX7_isDigit cX7_isDigit 2 (Option.some .boolean)) ({ frames := 1, cells := 0, slots := 0, locals := 22 }) D (zTy cy) K (zX cy ad) [.ref (ad 125), .int a_1] S_0 ro So := by
  refine z_metZ (own := RX7) (lv := [(0, .ref (ad 125)), (1, .int a_1)]) (by decide) rfl rfl (Nat.le_of_ble_eq_true rfl) rfl ?_
  intro p e s m below meth c A Q X hK hE hD hA hret hP hS ls hl
  obtain ⟨hx, hb, hml, hown, hts⟩ := id X
  have k0 := (fun w h => List.mem_cons_of_mem _ (zFX7 w h) : ∀ w ∈ u_ws RX7 TX7 16, w ∈ zws yX7_isDigit cX7_isDigit 2 (Option.some .boolean))
  have k1 := hts _ (List.mem_cons_of_mem _ wt_2_48)
  have k2 := (fun w h => List.mem_cons_of_mem _ (zFX9 w h) : ∀ w ∈ u_ws RX9 TX9 2, w ∈ zws yX7_isDigit cX7_isDigit 2 (Option.some .boolean))
  have k3 := hts _ (List.mem_cons_of_mem _ wt_1_39)
  have k4 := hts _ (List.mem_cons_of_mem _ wt_1_1)
  have k5 := hts _ (List.mem_cons_of_mem _ wt_2_220)
  refine lv_aload_n hx hb dX7_isDigit_0 rfl (lv_at hl 0 rfl) ?_
  refine va_get (D := D) (ci := 7) (v := .ref (ad 1)) (C := RX7) (T := TX7) (N := 16) hx hb hts k0 hown hK hP 125 (zX_125 cy ad S_0) rfl 0 (by decide) k1 (fun _ h9 => h9) rfl dX7_isDigit_1 ?_
  refine va_get (D := D) (ci := 9) (v := .ref (ad 2)) (C := RX9) (T := TX9) (N := 2) hx hb hts k2 hown hK hP 1 (zX_1 cy ad S_0) rfl 0 (by decide) k3 (fun _ h9 => h9) rfl dX7_isDigit_4 ?_
  refine lv_iload_n hx hb dX7_isDigit_7 rfl (lv_at hl 1 rfl) ?_
  obtain ⟨h_1, hf⟩ := z_ix hf
  refine z_iald hx hb hK hP 2 0 (zX_2 cy ad S_0) rfl h_1 (k := (a_1.toNatClampNeg)) rfl dX7_isDigit_8 ?_
  refine lv_bipush (v := 48) hx hb dX7_isDigit_9 (by decide) ?_
  refine lv_bipush (v := 57) hx hb dX7_isDigit_11 (by decide) ?_
  obtain ⟨r_2, S_3, h_4, hf⟩ := z_bd hf
  refine z_cSNI (As := [.int (S_0.1 2 (a_1.toNatClampNeg)), .int (48 : Int32), .int (57 : Int32)]) (rest := []) X hK hE hD hA hP hS (cx_isWithin l D K cy ad S_0 _ _ _ _ _ h_4) ⟨va_cnB 3 hts (z_gT wt_2_221) rfl rfl rfl (hE.2.2.2.2.1 _ (List.mem_of_getElem? (i := 8) rfl)) k4 yd_yX11_isWithin ⟨Nat.le_of_ble_eq_true rfl, Nat.le_of_ble_eq_true rfl⟩, k5, trivial⟩ hl.1 rfl rfl (Nat.le_of_ble_eq_true rfl) dX7_isDigit_13 (fun H locs hP hS => ?_)
  obtain ⟨h_5, hf⟩ := z_bo hf
  obtain ⟨h1, h2⟩ := z_s2 hf
  subst h1 h2
  exact hret _ _ _ _ h_5 hP hS dX7_isDigit_16
theorem yd_yX7_isLetter : (yX7_isLetter).cls ≠ "java/lang/invoke/MethodHandle" ∧ (yX7_isLetter).cls ≠ "java/lang/invoke/VarHandle" ∧ (parseMethodDescriptor (yX7_isLetter).desc).map (fun d => d.parameters.length) = some 1 := by decide +kernel
def fx_Reader_isLetter (S_0 : zSt) (a_1 : Int32) : Option (Int32 × zSt) :=
  zck (zix a_1 400) <|
  zbd (fx_isWithin S_0 (S_0.1 2 (a_1.toNatClampNeg)) (97 : Int32) (122 : Int32)) fun r_2 S_3 =>
  znm (fun (x_5 : Int32) (S_6 : zSt) =>
  zck (zbo x_5) <|
  some (x_5, S_6)) fun j_43 =>
  znm (fun (S_8 : zSt) =>
  j_43 (1 : Int32) S_8) fun j_38 =>
  if r_2 = 0 then (
  zck (zix a_1 400) <|
  zbd (fx_isWithin S_3 (S_3.1 2 (a_1.toNatClampNeg)) (65 : Int32) (90 : Int32)) fun r_10 S_11 =>
  if r_10 = 0 then (
  j_43 (0 : Int32) S_11) else (
  j_38  S_11)) else (
  j_38  S_3)
set_option maxHeartbeats 4000000 in
set_option maxRecDepth 100000 in
theorem cx_Reader_isLetter (l : Launch) (D : va_G) (K : (Nat → Nat) × (Nat → Nat)) (cy : Nat → ClassId) (ad : Nat → Nat) (S_0 : zSt) (a_1 : Int32) (ro : Int32) (So : zSt) (hf : fx_Reader_isLetter S_0 a_1 = some (ro, So)) : zMI l yX7_isLetter (zws yX7_isLetter cX7_isLetter 2 (Option.some .boolean)) ({ frames := 1, cells := 0, slots := 0, locals := 22 }) D (zTy cy) K (zX cy ad) [.ref (ad 125), .int a_1] S_0 ro So := by
  refine z_metZ (own := RX7) (lv := [(0, .ref (ad 125)), (1, .int a_1)]) (by decide) rfl rfl (Nat.le_of_ble_eq_true rfl) rfl ?_
  intro p e s m below meth c A Q X hK hE hD hA hret hP hS ls hl
  obtain ⟨hx, hb, hml, hown, hts⟩ := id X
  have k0 := (fun w h => List.mem_cons_of_mem _ (zFX7 w h) : ∀ w ∈ u_ws RX7 TX7 16, w ∈ zws yX7_isLetter cX7_isLetter 2 (Option.some .boolean))
  have k1 := hts _ (List.mem_cons_of_mem _ wt_2_48)
  have k2 := (fun w h => List.mem_cons_of_mem _ (zFX9 w h) : ∀ w ∈ u_ws RX9 TX9 2, w ∈ zws yX7_isLetter cX7_isLetter 2 (Option.some .boolean))
  have k3 := hts _ (List.mem_cons_of_mem _ wt_1_39)
  have k4 := hts _ (List.mem_cons_of_mem _ wt_1_1)
  have k5 := hts _ (List.mem_cons_of_mem _ wt_2_220)
  refine lv_aload_n hx hb dX7_isLetter_0 rfl (lv_at hl 0 rfl) ?_
  refine va_get (D := D) (ci := 7) (v := .ref (ad 1)) (C := RX7) (T := TX7) (N := 16) hx hb hts k0 hown hK hP 125 (zX_125 cy ad S_0) rfl 0 (by decide) k1 (fun _ h9 => h9) rfl dX7_isLetter_1 ?_
  refine va_get (D := D) (ci := 9) (v := .ref (ad 2)) (C := RX9) (T := TX9) (N := 2) hx hb hts k2 hown hK hP 1 (zX_1 cy ad S_0) rfl 0 (by decide) k3 (fun _ h9 => h9) rfl dX7_isLetter_4 ?_
  refine lv_iload_n hx hb dX7_isLetter_7 rfl (lv_at hl 1 rfl) ?_
  obtain ⟨h_1, hf⟩ := z_ix hf
  refine z_iald hx hb hK hP 2 0 (zX_2 cy ad S_0) rfl h_1 (k := (a_1.toNatClampNeg)) rfl dX7_isLetter_8 ?_
  refine lv_bipush (v := 97) hx hb dX7_isLetter_9 (by decide) ?_
  refine lv_bipush (v := 122) hx hb dX7_isLetter_11 (by decide) ?_
  obtain ⟨r_2, S_3, h_4, hf⟩ := z_bd hf
  refine z_cSNI (As := [.int (S_0.1 2 (a_1.toNatClampNeg)), .int (97 : Int32), .int (122 : Int32)]) (rest := []) X hK hE hD hA hP hS (cx_isWithin l D K cy ad S_0 _ _ _ _ _ h_4) ⟨va_cnB 3 hts (z_gT wt_2_221) rfl rfl rfl (hE.2.2.2.2.1 _ (List.mem_of_getElem? (i := 8) rfl)) k4 yd_yX11_isWithin ⟨Nat.le_of_ble_eq_true rfl, Nat.le_of_ble_eq_true rfl⟩, k5, trivial⟩ hl.1 rfl rfl (Nat.le_of_ble_eq_true rfl) dX7_isLetter_13 (fun H locs hP hS => ?_)
  obtain ⟨j_43, ej_43, hf⟩ := z_nm hf
  have J_43 : ∀ (x_5 : Int32) (S_6 : zSt) (H : Heap) (locs : List Loc) (ls : Array Slot), j_43 x_5 S_6 = some (ro, So) → va_P D vwCl (zX cy ad S_6) H → va_S A s.heap H locs → lv_has ls 2 [] → W p l e ({ frames := 1, cells := 0, slots := 0, locals := 22 }) s m ([.ref (ad 125), .int a_1] : List Value).toArray below meth c H locs 0 0 Q (F0 m 43 ls [.int x_5]) := by
    intro x_5 S_6 H locs ls hf hP hS hl
    have hf := z_e2 ej_43 hf
    obtain ⟨h_7, hf⟩ := z_bo hf
    obtain ⟨h1, h2⟩ := z_s2 hf
    subst h1 h2
    exact hret _ _ _ _ h_7 hP hS dX7_isLetter_43
  obtain ⟨j_38, ej_38, hf⟩ := z_nm hf
  have J_38 : ∀ (S_8 : zSt) (H : Heap) (locs : List Loc) (ls : Array Slot), j_38  S_8 = some (ro, So) → va_P D vwCl (zX cy ad S_8) H → va_S A s.heap H locs → lv_has ls 2 [] → W p l e ({ frames := 1, cells := 0, slots := 0, locals := 22 }) s m ([.ref (ad 125), .int a_1] : List Value).toArray below meth c H locs 0 0 Q (F0 m 38 ls []) := by
    intro  S_8 H locs ls hf hP hS hl
    have hf := z_e1 ej_38 hf
    refine lv_iconst (v := 1) hx hb dX7_isLetter_38 (by decide) ?_
    refine lv_goto (tgt := 43) hx hb dX7_isLetter_39 (by decide) ?_
    exact J_43 (1 : Int32) S_8 _ _ _ hf hP hS (lv_sub hl [] rfl)
  refine lv_if_ne (tgt := 38) hx hb dX7_isLetter_16 (by decide) (fun c_14 => ?_) (fun c_14 => ?_)
  · have hf := z_if c_14 hf
    exact J_38  S_3 _ _ _ hf hP hS (lv_sub hl [] rfl)
  · have hf := z_it c_14 hf
    refine lv_aload_n hx hb dX7_isLetter_19 rfl (lv_at hl 0 rfl) ?_
    refine va_get (D := D) (ci := 7) (v := .ref (ad 1)) (C := RX7) (T := TX7) (N := 16) hx hb hts k0 hown hK hP 125 (zX_125 cy ad S_3) rfl 0 (by decide) k1 (fun _ h9 => h9) rfl dX7_isLetter_20 ?_
    refine va_get (D := D) (ci := 9) (v := .ref (ad 2)) (C := RX9) (T := TX9) (N := 2) hx hb hts k2 hown hK hP 1 (zX_1 cy ad S_3) rfl 0 (by decide) k3 (fun _ h9 => h9) rfl dX7_isLetter_23 ?_
    refine lv_iload_n hx hb dX7_isLetter_26 rfl (lv_at hl 1 rfl) ?_
    obtain ⟨h_9, hf⟩ := z_ix hf
    refine z_iald hx hb hK hP 2 0 (zX_2 cy ad S_3) rfl h_9 (k := (a_1.toNatClampNeg)) rfl dX7_isLetter_27 ?_
    refine lv_bipush (v := 65) hx hb dX7_isLetter_28 (by decide) ?_
    refine lv_bipush (v := 90) hx hb dX7_isLetter_30 (by decide) ?_
    obtain ⟨r_10, S_11, h_12, hf⟩ := z_bd hf
    refine z_cSNI (As := [.int (S_3.1 2 (a_1.toNatClampNeg)), .int (65 : Int32), .int (90 : Int32)]) (rest := []) X hK hE hD hA hP hS (cx_isWithin l D K cy ad S_3 _ _ _ _ _ h_12) ⟨va_cnB 3 hts (z_gT wt_2_221) rfl rfl rfl (hE.2.2.2.2.1 _ (List.mem_of_getElem? (i := 8) rfl)) k4 yd_yX11_isWithin ⟨Nat.le_of_ble_eq_true rfl, Nat.le_of_ble_eq_true rfl⟩, k5, trivial⟩ hl.1 rfl rfl (Nat.le_of_ble_eq_true rfl) dX7_isLetter_32 (fun H locs hP hS => ?_)
    refine lv_if_eq (tgt := 42) hx hb dX7_isLetter_35 (by decide) (fun c_13 => ?_) (fun c_13 => ?_)
    · have hf := z_it c_13 hf
      refine lv_iconst (v := 0) hx hb dX7_isLetter_42 (by decide) ?_
      exact J_43 (0 : Int32) S_11 _ _ _ hf hP hS (lv_sub hl [] rfl)
    · have hf := z_if c_13 hf
      exact J_38  S_11 _ _ _ hf hP hS (lv_sub hl [] rfl)
theorem yd_yX7_readNumber : (yX7_readNumber).cls ≠ "java/lang/invoke/MethodHandle" ∧ (yX7_readNumber).cls ≠ "java/lang/invoke/VarHandle" ∧ (parseMethodDescriptor (yX7_readNumber).desc).map (fun d => d.parameters.length) = some 0 := by decide +kernel
def fx_Reader_readNumber_L5 (j_70 : zSt → Option (Unit × zSt)) : Nat → zSt → Option (Unit × zSt)
  | 0, _ => none
  | n_5 + 1, S_7 =>
    if (S_7.1 1 1) ≤ (S_7.1 125 12) then (
    j_70  S_7) else (
    zbd (fx_Reader_isDigit S_7 (S_7.1 125 12)) fun r_8 S_9 =>
    if r_8 = 0 then (
    j_70  S_9) else (
    zck (zix (S_9.1 125 12) 400) <|
    znm (zpI S_9 125 15 ((((S_9.1 125 15) * (10 : Int32)) + (S_9.1 2 ((S_9.1 125 12).toNatClampNeg))) - (48 : Int32))) fun S_12 =>
    znm (zpI S_12 125 12 ((S_12.1 125 12) + (1 : Int32))) fun S_13 =>
    fx_Reader_readNumber_L5 j_70 n_5  S_13))
def fx_Reader_readNumber (S_0 : zSt) : Option (Unit × zSt) :=
  znm (zpI S_0 125 15 (0 : Int32)) fun S_1 =>
  znm (fun (S_2 : zSt) =>
  znm (fun (x_3 : Int32) (S_4 : zSt) =>
  znm (zpI S_4 125 14 x_3) fun S_5 =>
  some ((), S_5)) fun j_93 =>
  if ((S_2.1 125 12) - (S_2.1 125 13)) ≤ (4 : Int32) then (
  j_93 (300 : Int32) S_2) else (
  j_93 (302 : Int32) S_2)) fun j_70 =>
  fx_Reader_readNumber_L5 j_70 zFU  S_1
set_option maxHeartbeats 4000000 in
set_option maxRecDepth 100000 in
theorem cx_Reader_readNumber (l : Launch) (D : va_G) (K : (Nat → Nat) × (Nat → Nat)) (cy : Nat → ClassId) (ad : Nat → Nat) (S_0 : zSt) (So : zSt) (hf : fx_Reader_readNumber S_0 = some ((), So)) : zMV l yX7_readNumber (zws yX7_readNumber cX7_readNumber 1 none) ({ frames := 2, cells := 0, slots := 0, locals := 43 }) D (zTy cy) K (zX cy ad) [.ref (ad 125)] S_0 So := by
  refine z_metV (own := RX7) (lv := [(0, .ref (ad 125))]) (by decide) rfl rfl (Nat.le_of_ble_eq_true rfl) rfl ?_
  intro p e s m below meth c A Q X hK hE hD hA hret hP hS ls hl
  obtain ⟨hx, hb, hml, hown, hts⟩ := id X
  have k0 := (fun w h => List.mem_cons_of_mem _ (zFX7 w h) : ∀ w ∈ u_ws RX7 TX7 16, w ∈ zws yX7_readNumber cX7_readNumber 1 none)
  have k1 := hts _ (List.mem_cons_of_mem _ wt_2_68)
  have k2 := hts _ (List.mem_cons_of_mem _ wt_2_65)
  have k3 := hts _ (List.mem_cons_of_mem _ wt_2_66)
  have k4 := hts _ (List.mem_cons_of_mem _ wt_2_67)
  have k5 := hts _ (List.mem_cons_of_mem _ wt_2_48)
  have k6 := (fun w h => List.mem_cons_of_mem _ (zFX9 w h) : ∀ w ∈ u_ws RX9 TX9 2, w ∈ zws yX7_readNumber cX7_readNumber 1 none)
  have k7 := hts _ (List.mem_cons_of_mem _ wt_1_42)
  have k8 := hts _ (List.mem_cons_of_mem _ wt_1_39)
  refine lv_aload_n hx hb dX7_readNumber_0 rfl (lv_at hl 0 rfl) ?_
  refine lv_iconst (v := 0) hx hb dX7_readNumber_1 (by decide) ?_
  refine va_put (D := D) (ci := 7) (v := .int (0 : Int32)) (ty := .int) (C := RX7) (T := TX7) (N := 16) hx hb hts k0 tyX7 tyX7_ok nmX7 hown hK hP (hD S_0) hS 125 (zX_125 cy ad S_0) rfl 15 (by decide) k1 (fun _ h9 => h9) rfl (tyX7_ok 15 (by decide)) rfl rfl (Nat.le_of_ble_eq_true rfl) dX7_readNumber_2 (fun H locs hP _ hS => ?_)
  obtain ⟨S_1, eS_1, hf⟩ := z_nm hf
  have hP := zW_putI hP eS_1 (by decide) rfl
  obtain ⟨j_70, ej_70, hf⟩ := z_nm hf
  have J_70 : ∀ (S_2 : zSt) (H : Heap) (locs : List Loc) (ls : Array Slot), j_70  S_2 = some ((), So) → va_P D vwCl (zX cy ad S_2) H → va_S A s.heap H locs → lv_has ls 1 [(0, .ref (ad 125))] → W p l e ({ frames := 2, cells := 0, slots := 0, locals := 43 }) s m ([.ref (ad 125)] : List Value).toArray below meth c H locs 0 0 Q (F0 m 70 ls []) := by
    intro  S_2 H locs ls hf hP hS hl
    have hf := z_e1 ej_70 hf
    refine lv_aload_n hx hb dX7_readNumber_70 rfl (lv_at hl 0 rfl) ?_
    refine lv_aload_n hx hb dX7_readNumber_71 rfl (lv_at hl 0 rfl) ?_
    refine va_get (D := D) (ci := 7) (v := .int (S_2.1 125 12)) (C := RX7) (T := TX7) (N := 16) hx hb hts k0 hown hK hP 125 (zX_125 cy ad S_2) rfl 12 (by decide) k2 (fun _ h9 => h9) rfl dX7_readNumber_72 ?_
    refine lv_aload_n hx hb dX7_readNumber_75 rfl (lv_at hl 0 rfl) ?_
    refine va_get (D := D) (ci := 7) (v := .int (S_2.1 125 13)) (C := RX7) (T := TX7) (N := 16) hx hb hts k0 hown hK hP 125 (zX_125 cy ad S_2) rfl 13 (by decide) k3 (fun _ h9 => h9) rfl dX7_readNumber_76 ?_
    refine lv_isub hx hb dX7_readNumber_79 ?_
    refine lv_iconst (v := 4) hx hb dX7_readNumber_80 (by decide) ?_
    obtain ⟨j_93, ej_93, hf⟩ := z_nm hf
    have J_93 : ∀ (x_3 : Int32) (S_4 : zSt) (H : Heap) (locs : List Loc) (ls : Array Slot), j_93 x_3 S_4 = some ((), So) → va_P D vwCl (zX cy ad S_4) H → va_S A s.heap H locs → lv_has ls 1 [] → W p l e ({ frames := 2, cells := 0, slots := 0, locals := 43 }) s m ([.ref (ad 125)] : List Value).toArray below meth c H locs 0 0 Q (F0 m 93 ls [.int x_3, .ref (ad 125)]) := by
      intro x_3 S_4 H locs ls hf hP hS hl
      have hf := z_e2 ej_93 hf
      refine va_put (D := D) (ci := 7) (v := .int x_3) (ty := .int) (C := RX7) (T := TX7) (N := 16) hx hb hts k0 tyX7 tyX7_ok nmX7 hown hK hP (hD S_4) hS 125 (zX_125 cy ad S_4) rfl 14 (by decide) k4 (fun _ h9 => h9) rfl (tyX7_ok 14 (by decide)) rfl rfl (Nat.le_of_ble_eq_true rfl) dX7_readNumber_93 (fun H locs hP _ hS => ?_)
      obtain ⟨S_5, eS_5, hf⟩ := z_nm hf
      have hP := zW_putI hP eS_5 (by decide) rfl
      obtain ⟨h1, h2⟩ := z_s2 hf
      subst h2
      exact hret _ _ _ _ hP hS dX7_readNumber_96
    refine lv_icmp_le (tgt := 90) hx hb dX7_readNumber_81 (by decide) (fun c_6 => ?_) (fun c_6 => ?_)
    · have hf := z_it c_6 hf
      refine lv_sipush (v := 300) hx hb dX7_readNumber_90 (by decide) ?_
      exact J_93 (300 : Int32) S_2 _ _ _ hf hP hS (lv_sub hl [] rfl)
    · have hf := z_if c_6 hf
      refine lv_sipush (v := 302) hx hb dX7_readNumber_84 (by decide) ?_
      refine lv_goto (tgt := 93) hx hb dX7_readNumber_87 (by decide) ?_
      exact J_93 (302 : Int32) S_2 _ _ _ hf hP hS (lv_sub hl [] rfl)
  have L_5 : ∀ (n_5 : Nat) (S_7 : zSt) (H : Heap) (locs : List Loc) (ls : Array Slot), fx_Reader_readNumber_L5 j_70 n_5  S_7 = some ((), So) → va_P D vwCl (zX cy ad S_7) H → va_S A s.heap H locs → lv_has ls 1 [(0, .ref (ad 125))] → W p l e ({ frames := 2, cells := 0, slots := 0, locals := 43 }) s m ([.ref (ad 125)] : List Value).toArray below meth c H locs 0 0 Q (F0 m 5 ls []) := by
    intro n_5
    induction n_5 with
    | zero =>
      intro  S_7 H locs ls hf hP hS hl
      exact z_no hf
    | succ n_5 ih_5 =>
      intro  S_7 H locs ls hf hP hS hl
      rw [fx_Reader_readNumber_L5] at hf
      refine lv_aload_n hx hb dX7_readNumber_5 rfl (lv_at hl 0 rfl) ?_
      refine va_get (D := D) (ci := 7) (v := .int (S_7.1 125 12)) (C := RX7) (T := TX7) (N := 16) hx hb hts k0 hown hK hP 125 (zX_125 cy ad S_7) rfl 12 (by decide) k2 (fun _ h9 => h9) rfl dX7_readNumber_6 ?_
      refine lv_aload_n hx hb dX7_readNumber_9 rfl (lv_at hl 0 rfl) ?_
      refine va_get (D := D) (ci := 7) (v := .ref (ad 1)) (C := RX7) (T := TX7) (N := 16) hx hb hts k0 hown hK hP 125 (zX_125 cy ad S_7) rfl 0 (by decide) k5 (fun _ h9 => h9) rfl dX7_readNumber_10 ?_
      refine va_get (D := D) (ci := 9) (v := .int (S_7.1 1 1)) (C := RX9) (T := TX9) (N := 2) hx hb hts k6 hown hK hP 1 (zX_1 cy ad S_7) rfl 1 (by decide) k7 (fun _ h9 => h9) rfl dX7_readNumber_13 ?_
      refine lv_icmp_ge (tgt := 70) hx hb dX7_readNumber_16 (by decide) (fun c_15 => ?_) (fun c_15 => ?_)
      · have hf := z_it c_15 hf
        exact J_70  S_7 _ _ _ hf hP hS (lv_sub hl [0] rfl)
      · have hf := z_if c_15 hf
        refine lv_aload_n hx hb dX7_readNumber_19 rfl (lv_at hl 0 rfl) ?_
        refine lv_aload_n hx hb dX7_readNumber_20 rfl (lv_at hl 0 rfl) ?_
        refine va_get (D := D) (ci := 7) (v := .int (S_7.1 125 12)) (C := RX7) (T := TX7) (N := 16) hx hb hts k0 hown hK hP 125 (zX_125 cy ad S_7) rfl 12 (by decide) k2 (fun _ h9 => h9) rfl dX7_readNumber_21 ?_
        obtain ⟨r_8, S_9, h_10, hf⟩ := z_bd hf
        refine z_cVI (As := [.int (S_7.1 125 12)]) (rest := []) X hK hE hD hA hP hS (cx_Reader_isDigit l D K cy ad S_7 _ _ _ h_10) (cwV 1 hts (z_gV wt_3_90 wt_3_92 wp_6 wt_1_10 wt_3_93) rfl rfl rfl ⟨rfl, yd_yX7_isDigit⟩ ⟨Nat.le_of_ble_eq_true rfl, Nat.le_of_ble_eq_true rfl⟩) (va_recv hK hP (ci := 7) (q0 := 125) rfl (zX_125 cy ad S_7)) hl.1 rfl rfl (Nat.le_of_ble_eq_true rfl) dX7_readNumber_24 (fun H locs hP hS => ?_)
        refine lv_if_eq (tgt := 70) hx hb dX7_readNumber_27 (by decide) (fun c_14 => ?_) (fun c_14 => ?_)
        · have hf := z_it c_14 hf
          exact J_70  S_9 _ _ _ hf hP hS (lv_sub hl [0] rfl)
        · have hf := z_if c_14 hf
          refine lv_aload_n hx hb dX7_readNumber_30 rfl (lv_at hl 0 rfl) ?_
          refine lv_aload_n hx hb dX7_readNumber_31 rfl (lv_at hl 0 rfl) ?_
          refine va_get (D := D) (ci := 7) (v := .int (S_9.1 125 15)) (C := RX7) (T := TX7) (N := 16) hx hb hts k0 hown hK hP 125 (zX_125 cy ad S_9) rfl 15 (by decide) k1 (fun _ h9 => h9) rfl dX7_readNumber_32 ?_
          refine lv_bipush (v := 10) hx hb dX7_readNumber_35 (by decide) ?_
          refine lv_imul hx hb dX7_readNumber_37 ?_
          refine lv_aload_n hx hb dX7_readNumber_38 rfl (lv_at hl 0 rfl) ?_
          refine va_get (D := D) (ci := 7) (v := .ref (ad 1)) (C := RX7) (T := TX7) (N := 16) hx hb hts k0 hown hK hP 125 (zX_125 cy ad S_9) rfl 0 (by decide) k5 (fun _ h9 => h9) rfl dX7_readNumber_39 ?_
          refine va_get (D := D) (ci := 9) (v := .ref (ad 2)) (C := RX9) (T := TX9) (N := 2) hx hb hts k6 hown hK hP 1 (zX_1 cy ad S_9) rfl 0 (by decide) k8 (fun _ h9 => h9) rfl dX7_readNumber_42 ?_
          refine lv_aload_n hx hb dX7_readNumber_45 rfl (lv_at hl 0 rfl) ?_
          refine va_get (D := D) (ci := 7) (v := .int (S_9.1 125 12)) (C := RX7) (T := TX7) (N := 16) hx hb hts k0 hown hK hP 125 (zX_125 cy ad S_9) rfl 12 (by decide) k2 (fun _ h9 => h9) rfl dX7_readNumber_46 ?_
          obtain ⟨h_11, hf⟩ := z_ix hf
          refine z_iald hx hb hK hP 2 0 (zX_2 cy ad S_9) rfl h_11 (k := ((S_9.1 125 12).toNatClampNeg)) rfl dX7_readNumber_49 ?_
          refine lv_iadd hx hb dX7_readNumber_50 ?_
          refine lv_bipush (v := 48) hx hb dX7_readNumber_51 (by decide) ?_
          refine lv_isub hx hb dX7_readNumber_53 ?_
          refine va_put (D := D) (ci := 7) (v := .int ((((S_9.1 125 15) * (10 : Int32)) + (S_9.1 2 ((S_9.1 125 12).toNatClampNeg))) - (48 : Int32))) (ty := .int) (C := RX7) (T := TX7) (N := 16) hx hb hts k0 tyX7 tyX7_ok nmX7 hown hK hP (hD S_9) hS 125 (zX_125 cy ad S_9) rfl 15 (by decide) k1 (fun _ h9 => h9) rfl (tyX7_ok 15 (by decide)) rfl rfl (Nat.le_of_ble_eq_true rfl) dX7_readNumber_54 (fun H locs hP _ hS => ?_)
          obtain ⟨S_12, eS_12, hf⟩ := z_nm hf
          have hP := zW_putI hP eS_12 (by decide) rfl
          refine lv_aload_n hx hb dX7_readNumber_57 rfl (lv_at hl 0 rfl) ?_
          refine lv_dup hx hb dX7_readNumber_58 rfl ?_
          refine va_get (D := D) (ci := 7) (v := .int (S_12.1 125 12)) (C := RX7) (T := TX7) (N := 16) hx hb hts k0 hown hK hP 125 (zX_125 cy ad S_12) rfl 12 (by decide) k2 (fun _ h9 => h9) rfl dX7_readNumber_59 ?_
          refine lv_iconst (v := 1) hx hb dX7_readNumber_62 (by decide) ?_
          refine lv_iadd hx hb dX7_readNumber_63 ?_
          refine va_put (D := D) (ci := 7) (v := .int ((S_12.1 125 12) + (1 : Int32))) (ty := .int) (C := RX7) (T := TX7) (N := 16) hx hb hts k0 tyX7 tyX7_ok nmX7 hown hK hP (hD S_12) hS 125 (zX_125 cy ad S_12) rfl 12 (by decide) k2 (fun _ h9 => h9) rfl (tyX7_ok 12 (by decide)) rfl rfl (Nat.le_of_ble_eq_true rfl) dX7_readNumber_64 (fun H locs hP _ hS => ?_)
          obtain ⟨S_13, eS_13, hf⟩ := z_nm hf
          have hP := zW_putI hP eS_13 (by decide) rfl
          refine lv_goto (tgt := 5) hx hb dX7_readNumber_67 (by decide) ?_
          exact ih_5  S_13 _ _ _ hf hP hS (lv_sub hl [0] rfl)
  exact L_5 zFU  S_1 _ _ _ hf hP hS (lv_sub hl [0] rfl)
theorem yd_yX7_skipBlanks : (yX7_skipBlanks).cls ≠ "java/lang/invoke/MethodHandle" ∧ (yX7_skipBlanks).cls ≠ "java/lang/invoke/VarHandle" ∧ (parseMethodDescriptor (yX7_skipBlanks).desc).map (fun d => d.parameters.length) = some 0 := by decide +kernel
def fx_Reader_skipBlanks_L0 (j_61 : zSt → Option (Unit × zSt)) : Nat → zSt → Option (Unit × zSt)
  | 0, _ => none
  | n_0 + 1, S_2 =>
    if (S_2.1 1 1) ≤ (S_2.1 125 12) then (
    j_61  S_2) else (
    zck (zix (S_2.1 125 12) 400) <|
    znm (fun (S_4 : zSt) =>
    znm (zpI S_4 125 12 ((S_4.1 125 12) + (1 : Int32))) fun S_5 =>
    fx_Reader_skipBlanks_L0 j_61 n_0  S_5) fun j_48 =>
    if (S_2.1 2 ((S_2.1 125 12).toNatClampNeg)) = (32 : Int32) then (
    j_48  S_2) else (
    zck (zix (S_2.1 125 12) 400) <|
    if (S_2.1 2 ((S_2.1 125 12).toNatClampNeg)) = (10 : Int32) then (
    j_48  S_2) else (
    j_61  S_2)))
def fx_Reader_skipBlanks (S_0 : zSt) : Option (Unit × zSt) :=
  znm (fun (S_1 : zSt) =>
  some ((), S_1)) fun j_61 =>
  fx_Reader_skipBlanks_L0 j_61 zFU  S_0
set_option maxHeartbeats 4000000 in
set_option maxRecDepth 100000 in
theorem cx_Reader_skipBlanks (l : Launch) (D : va_G) (K : (Nat → Nat) × (Nat → Nat)) (cy : Nat → ClassId) (ad : Nat → Nat) (S_0 : zSt) (So : zSt) (hf : fx_Reader_skipBlanks S_0 = some ((), So)) : zMV l yX7_skipBlanks (zws yX7_skipBlanks cX7_skipBlanks 1 none) ({ frames := 0, cells := 0, slots := 0, locals := 0 }) D (zTy cy) K (zX cy ad) [.ref (ad 125)] S_0 So := by
  refine z_metV (own := RX7) (lv := [(0, .ref (ad 125))]) (by decide) rfl rfl (Nat.le_of_ble_eq_true rfl) rfl ?_
  intro p e s m below meth c A Q X hK hE hD hA hret hP hS ls hl
  obtain ⟨hx, hb, hml, hown, hts⟩ := id X
  have k0 := (fun w h => List.mem_cons_of_mem _ (zFX7 w h) : ∀ w ∈ u_ws RX7 TX7 16, w ∈ zws yX7_skipBlanks cX7_skipBlanks 1 none)
  have k1 := hts _ (List.mem_cons_of_mem _ wt_2_65)
  have k2 := hts _ (List.mem_cons_of_mem _ wt_2_48)
  have k3 := (fun w h => List.mem_cons_of_mem _ (zFX9 w h) : ∀ w ∈ u_ws RX9 TX9 2, w ∈ zws yX7_skipBlanks cX7_skipBlanks 1 none)
  have k4 := hts _ (List.mem_cons_of_mem _ wt_1_42)
  have k5 := hts _ (List.mem_cons_of_mem _ wt_1_39)
  obtain ⟨j_61, ej_61, hf⟩ := z_nm hf
  have J_61 : ∀ (S_1 : zSt) (H : Heap) (locs : List Loc) (ls : Array Slot), j_61  S_1 = some ((), So) → va_P D vwCl (zX cy ad S_1) H → va_S A s.heap H locs → lv_has ls 1 [] → W p l e ({ frames := 0, cells := 0, slots := 0, locals := 0 }) s m ([.ref (ad 125)] : List Value).toArray below meth c H locs 0 0 Q (F0 m 61 ls []) := by
    intro  S_1 H locs ls hf hP hS hl
    have hf := z_e1 ej_61 hf
    obtain ⟨h1, h2⟩ := z_s2 hf
    subst h2
    exact hret _ _ _ _ hP hS dX7_skipBlanks_61
  have L_0 : ∀ (n_0 : Nat) (S_2 : zSt) (H : Heap) (locs : List Loc) (ls : Array Slot), fx_Reader_skipBlanks_L0 j_61 n_0  S_2 = some ((), So) → va_P D vwCl (zX cy ad S_2) H → va_S A s.heap H locs → lv_has ls 1 [(0, .ref (ad 125))] → W p l e ({ frames := 0, cells := 0, slots := 0, locals := 0 }) s m ([.ref (ad 125)] : List Value).toArray below meth c H locs 0 0 Q (F0 m 0 ls []) := by
    intro n_0
    induction n_0 with
    | zero =>
      intro  S_2 H locs ls hf hP hS hl
      exact z_no hf
    | succ n_0 ih_0 =>
      intro  S_2 H locs ls hf hP hS hl
      rw [fx_Reader_skipBlanks_L0] at hf
      refine lv_aload_n hx hb dX7_skipBlanks_0 rfl (lv_at hl 0 rfl) ?_
      refine va_get (D := D) (ci := 7) (v := .int (S_2.1 125 12)) (C := RX7) (T := TX7) (N := 16) hx hb hts k0 hown hK hP 125 (zX_125 cy ad S_2) rfl 12 (by decide) k1 (fun _ h9 => h9) rfl dX7_skipBlanks_1 ?_
      refine lv_aload_n hx hb dX7_skipBlanks_4 rfl (lv_at hl 0 rfl) ?_
      refine va_get (D := D) (ci := 7) (v := .ref (ad 1)) (C := RX7) (T := TX7) (N := 16) hx hb hts k0 hown hK hP 125 (zX_125 cy ad S_2) rfl 0 (by decide) k2 (fun _ h9 => h9) rfl dX7_skipBlanks_5 ?_
      refine va_get (D := D) (ci := 9) (v := .int (S_2.1 1 1)) (C := RX9) (T := TX9) (N := 2) hx hb hts k3 hown hK hP 1 (zX_1 cy ad S_2) rfl 1 (by decide) k4 (fun _ h9 => h9) rfl dX7_skipBlanks_8 ?_
      refine lv_icmp_ge (tgt := 61) hx hb dX7_skipBlanks_11 (by decide) (fun c_9 => ?_) (fun c_9 => ?_)
      · have hf := z_it c_9 hf
        exact J_61  S_2 _ _ _ hf hP hS (lv_sub hl [] rfl)
      · have hf := z_if c_9 hf
        refine lv_aload_n hx hb dX7_skipBlanks_14 rfl (lv_at hl 0 rfl) ?_
        refine va_get (D := D) (ci := 7) (v := .ref (ad 1)) (C := RX7) (T := TX7) (N := 16) hx hb hts k0 hown hK hP 125 (zX_125 cy ad S_2) rfl 0 (by decide) k2 (fun _ h9 => h9) rfl dX7_skipBlanks_15 ?_
        refine va_get (D := D) (ci := 9) (v := .ref (ad 2)) (C := RX9) (T := TX9) (N := 2) hx hb hts k3 hown hK hP 1 (zX_1 cy ad S_2) rfl 0 (by decide) k5 (fun _ h9 => h9) rfl dX7_skipBlanks_18 ?_
        refine lv_aload_n hx hb dX7_skipBlanks_21 rfl (lv_at hl 0 rfl) ?_
        refine va_get (D := D) (ci := 7) (v := .int (S_2.1 125 12)) (C := RX7) (T := TX7) (N := 16) hx hb hts k0 hown hK hP 125 (zX_125 cy ad S_2) rfl 12 (by decide) k1 (fun _ h9 => h9) rfl dX7_skipBlanks_22 ?_
        obtain ⟨h_3, hf⟩ := z_ix hf
        refine z_iald hx hb hK hP 2 0 (zX_2 cy ad S_2) rfl h_3 (k := ((S_2.1 125 12).toNatClampNeg)) rfl dX7_skipBlanks_25 ?_
        refine lv_bipush (v := 32) hx hb dX7_skipBlanks_26 (by decide) ?_
        obtain ⟨j_48, ej_48, hf⟩ := z_nm hf
        have J_48 : ∀ (S_4 : zSt) (H : Heap) (locs : List Loc) (ls : Array Slot), j_48  S_4 = some ((), So) → va_P D vwCl (zX cy ad S_4) H → va_S A s.heap H locs → lv_has ls 1 [(0, .ref (ad 125))] → W p l e ({ frames := 0, cells := 0, slots := 0, locals := 0 }) s m ([.ref (ad 125)] : List Value).toArray below meth c H locs 0 0 Q (F0 m 48 ls []) := by
          intro  S_4 H locs ls hf hP hS hl
          have hf := z_e1 ej_48 hf
          refine lv_aload_n hx hb dX7_skipBlanks_48 rfl (lv_at hl 0 rfl) ?_
          refine lv_dup hx hb dX7_skipBlanks_49 rfl ?_
          refine va_get (D := D) (ci := 7) (v := .int (S_4.1 125 12)) (C := RX7) (T := TX7) (N := 16) hx hb hts k0 hown hK hP 125 (zX_125 cy ad S_4) rfl 12 (by decide) k1 (fun _ h9 => h9) rfl dX7_skipBlanks_50 ?_
          refine lv_iconst (v := 1) hx hb dX7_skipBlanks_53 (by decide) ?_
          refine lv_iadd hx hb dX7_skipBlanks_54 ?_
          refine va_put (D := D) (ci := 7) (v := .int ((S_4.1 125 12) + (1 : Int32))) (ty := .int) (C := RX7) (T := TX7) (N := 16) hx hb hts k0 tyX7 tyX7_ok nmX7 hown hK hP (hD S_4) hS 125 (zX_125 cy ad S_4) rfl 12 (by decide) k1 (fun _ h9 => h9) rfl (tyX7_ok 12 (by decide)) rfl rfl (Nat.le_of_ble_eq_true rfl) dX7_skipBlanks_55 (fun H locs hP _ hS => ?_)
          obtain ⟨S_5, eS_5, hf⟩ := z_nm hf
          have hP := zW_putI hP eS_5 (by decide) rfl
          refine lv_goto (tgt := 0) hx hb dX7_skipBlanks_58 (by decide) ?_
          exact ih_0  S_5 _ _ _ hf hP hS (lv_sub hl [0] rfl)
        refine lv_icmp_eq (tgt := 48) hx hb dX7_skipBlanks_28 (by decide) (fun c_8 => ?_) (fun c_8 => ?_)
        · have hf := z_it c_8 hf
          exact J_48  S_2 _ _ _ hf hP hS (lv_sub hl [0] rfl)
        · have hf := z_if c_8 hf
          refine lv_aload_n hx hb dX7_skipBlanks_31 rfl (lv_at hl 0 rfl) ?_
          refine va_get (D := D) (ci := 7) (v := .ref (ad 1)) (C := RX7) (T := TX7) (N := 16) hx hb hts k0 hown hK hP 125 (zX_125 cy ad S_2) rfl 0 (by decide) k2 (fun _ h9 => h9) rfl dX7_skipBlanks_32 ?_
          refine va_get (D := D) (ci := 9) (v := .ref (ad 2)) (C := RX9) (T := TX9) (N := 2) hx hb hts k3 hown hK hP 1 (zX_1 cy ad S_2) rfl 0 (by decide) k5 (fun _ h9 => h9) rfl dX7_skipBlanks_35 ?_
          refine lv_aload_n hx hb dX7_skipBlanks_38 rfl (lv_at hl 0 rfl) ?_
          refine va_get (D := D) (ci := 7) (v := .int (S_2.1 125 12)) (C := RX7) (T := TX7) (N := 16) hx hb hts k0 hown hK hP 125 (zX_125 cy ad S_2) rfl 12 (by decide) k1 (fun _ h9 => h9) rfl dX7_skipBlanks_39 ?_
          obtain ⟨h_6, hf⟩ := z_ix hf
          refine z_iald hx hb hK hP 2 0 (zX_2 cy ad S_2) rfl h_6 (k := ((S_2.1 125 12).toNatClampNeg)) rfl dX7_skipBlanks_42 ?_
          refine lv_bipush (v := 10) hx hb dX7_skipBlanks_43 (by decide) ?_
          refine lv_icmp_ne (tgt := 61) hx hb dX7_skipBlanks_45 (by decide) (fun c_7 => ?_) (fun c_7 => ?_)
          · have hf := z_if c_7 hf
            exact J_61  S_2 _ _ _ hf hP hS (lv_sub hl [] rfl)
          · have hf := z_it c_7 hf
            exact J_48  S_2 _ _ _ hf hP hS (lv_sub hl [0] rfl)
  exact L_0 zFU  S_0 _ _ _ hf hP hS (lv_sub hl [0] rfl)
