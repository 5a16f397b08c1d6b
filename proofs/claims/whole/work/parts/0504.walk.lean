theorem yd_yX4_step : (yX4_step).cls ≠ "java/lang/invoke/MethodHandle" ∧ (yX4_step).cls ≠ "java/lang/invoke/VarHandle" ∧ (parseMethodDescriptor (yX4_step).desc).map (fun d => d.parameters.length) = some 2 := by decide +kernel
def fx_Lineup_step (S_0 : zSt) (a_1 : Int32) (a_2 : Int32) : Option (Unit × zSt) :=
  zck (zix a_2 9) <|
  znm (zpI S_0 136 (a_2.toNatClampNeg) (1 : Int32)) fun S_2 =>
  zck (zix a_1 9) <|
  znm (zpI S_2 129 (a_1.toNatClampNeg) a_2) fun S_4 =>
  zck (zix a_1 10) <|
  zbd (fx_Lineup_heatAfter S_4 a_2 (S_4.1 135 (a_1.toNatClampNeg))) fun r_6 S_7 =>
  zck (zix (a_1 + (1 : Int32)) 10) <|
  znm (zpI S_7 135 ((a_1 + (1 : Int32)).toNatClampNeg) r_6) fun S_10 =>
  some ((), S_10)
set_option maxHeartbeats 4000000 in
set_option maxRecDepth 100000 in
theorem cx_Lineup_step (l : Launch) (D : va_G) (K : (Nat → Nat) × (Nat → Nat)) (cy : Nat → ClassId) (ad : Nat → Nat) (S_0 : zSt) (a_1 : Int32) (a_2 : Int32) (So : zSt) (hf : fx_Lineup_step S_0 a_1 a_2 = some ((), So)) : zMV l yX4_step (zws yX4_step cX4_step 3 none) ({ frames := 2, cells := 0, slots := 0, locals := 223 }) D (zTy cy) K (zX cy ad) [.ref (ad 128), .int a_1, .int a_2] S_0 So := by
  refine z_metV (own := RX4) (lv := [(0, .ref (ad 128)), (1, .int a_1), (2, .int a_2)]) (by decide) rfl rfl (Nat.le_of_ble_eq_true rfl) rfl ?_
  intro p e s m below meth c A Q X hK hE hD hA hret hP hS ls hl
  obtain ⟨hx, hb, hml, hown, hts⟩ := id X
  have k0 := (fun w h => List.mem_cons_of_mem _ (zFX4 w h) : ∀ w ∈ u_ws RX4 TX4 14, w ∈ zws yX4_step cX4_step 3 none)
  have k1 := hts _ (List.mem_cons_of_mem _ wt_2_126)
  have k2 := hts _ (List.mem_cons_of_mem _ wt_2_109)
  have k3 := hts _ (List.mem_cons_of_mem _ wt_2_125)
  refine lv_aload_n hx hb dX4_step_0 rfl (lv_at hl 0 rfl) ?_
  refine va_get (D := D) (ci := 4) (v := .ref (ad 136)) (C := RX4) (T := TX4) (N := 14) hx hb hts k0 hown hK hP 128 (zX_128 cy ad S_0) rfl 12 (by decide) k1 (fun _ h9 => h9) rfl dX4_step_1 ?_
  refine lv_iload_n hx hb dX4_step_4 rfl (lv_at hl 2 rfl) ?_
  refine lv_iconst (v := 1) hx hb dX4_step_5 (by decide) ?_
  obtain ⟨h_1, hf⟩ := z_ix hf
  refine z_zast hx hb hK hP (hD S_0) hS 136 2 (zX_136 cy ad S_0) rfl h_1 (k := (a_2.toNatClampNeg)) rfl rfl dX4_step_6 (fun H locs hP hS => ?_)
  obtain ⟨S_2, eS_2, hf⟩ := z_nm hf
  have hP := zW_putI hP eS_2 (by decide) rfl
  refine lv_aload_n hx hb dX4_step_7 rfl (lv_at hl 0 rfl) ?_
  refine va_get (D := D) (ci := 4) (v := .ref (ad 129)) (C := RX4) (T := TX4) (N := 14) hx hb hts k0 hown hK hP 128 (zX_128 cy ad S_2) rfl 1 (by decide) k2 (fun _ h9 => h9) rfl dX4_step_8 ?_
  refine lv_iload_n hx hb dX4_step_11 rfl (lv_at hl 1 rfl) ?_
  refine lv_iload_n hx hb dX4_step_12 rfl (lv_at hl 2 rfl) ?_
  obtain ⟨h_3, hf⟩ := z_ix hf
  refine z_iast hx hb hK hP (hD S_2) hS 129 0 (zX_129 cy ad S_2) rfl h_3 (k := (a_1.toNatClampNeg)) rfl dX4_step_13 (fun H locs hP hS => ?_)
  obtain ⟨S_4, eS_4, hf⟩ := z_nm hf
  have hP := zW_putI hP eS_4 (by decide) rfl
  refine lv_aload_n hx hb dX4_step_14 rfl (lv_at hl 0 rfl) ?_
  refine va_get (D := D) (ci := 4) (v := .ref (ad 135)) (C := RX4) (T := TX4) (N := 14) hx hb hts k0 hown hK hP 128 (zX_128 cy ad S_4) rfl 11 (by decide) k3 (fun _ h9 => h9) rfl dX4_step_15 ?_
  refine lv_iload_n hx hb dX4_step_18 rfl (lv_at hl 1 rfl) ?_
  refine lv_iconst (v := 1) hx hb dX4_step_19 (by decide) ?_
  refine lv_iadd hx hb dX4_step_20 ?_
  refine lv_aload_n hx hb dX4_step_21 rfl (lv_at hl 0 rfl) ?_
  refine lv_iload_n hx hb dX4_step_22 rfl (lv_at hl 2 rfl) ?_
  refine lv_aload_n hx hb dX4_step_23 rfl (lv_at hl 0 rfl) ?_
  refine va_get (D := D) (ci := 4) (v := .ref (ad 135)) (C := RX4) (T := TX4) (N := 14) hx hb hts k0 hown hK hP 128 (zX_128 cy ad S_4) rfl 11 (by decide) k3 (fun _ h9 => h9) rfl dX4_step_24 ?_
  refine lv_iload_n hx hb dX4_step_27 rfl (lv_at hl 1 rfl) ?_
  obtain ⟨h_5, hf⟩ := z_ix hf
  refine z_iald hx hb hK hP 135 0 (zX_135 cy ad S_4) rfl h_5 (k := (a_1.toNatClampNeg)) rfl dX4_step_28 ?_
  obtain ⟨r_6, S_7, h_8, hf⟩ := z_bd hf
  refine z_cVI (As := [.int a_2, .int (S_4.1 135 (a_1.toNatClampNeg))]) (rest := [.int (a_1 + (1 : Int32)), .ref (ad 135)]) X hK hE hD hA hP hS (cx_Lineup_heatAfter l D K cy ad S_4 _ _ _ _ h_8) (cwV 2 hts (z_gV wt_4_76 wt_4_78 wp_30 wt_1_11 wt_4_79) rfl rfl rfl ⟨rfl, yd_yX4_heatAfter⟩ ⟨Nat.le_of_ble_eq_true rfl, Nat.le_of_ble_eq_true rfl⟩) (va_recv hK hP (ci := 4) (q0 := 128) rfl (zX_128 cy ad S_4)) hl.1 rfl rfl (Nat.le_of_ble_eq_true rfl) dX4_step_29 (fun H locs hP hS => ?_)
  obtain ⟨h_9, hf⟩ := z_ix hf
  refine z_iast hx hb hK hP (hD S_7) hS 135 0 (zX_135 cy ad S_7) rfl h_9 (k := ((a_1 + (1 : Int32)).toNatClampNeg)) rfl dX4_step_32 (fun H locs hP hS => ?_)
  obtain ⟨S_10, eS_10, hf⟩ := z_nm hf
  have hP := zW_putI hP eS_10 (by decide) rfl
  obtain ⟨h1, h2⟩ := z_s2 hf
  subst h2
  exact hret _ _ _ _ hP hS dX4_step_33
theorem yd_yX4_changePlaces : (yX4_changePlaces).cls ≠ "java/lang/invoke/MethodHandle" ∧ (yX4_changePlaces).cls ≠ "java/lang/invoke/VarHandle" ∧ (parseMethodDescriptor (yX4_changePlaces).desc).map (fun d => d.parameters.length) = some 1 := by decide +kernel
def fx_Lineup_changePlaces (S_0 : zSt) (a_1 : Int32) : Option (Unit × zSt) :=
  zck (zix a_1 9) <|
  znm (S_0.1 129 (a_1.toNatClampNeg)) fun x_2 =>
  zck (zix (a_1 + (1 : Int32)) 9) <|
  zck (zix a_1 9) <|
  znm (zpI S_0 129 (a_1.toNatClampNeg) (S_0.1 129 ((a_1 + (1 : Int32)).toNatClampNeg))) fun S_5 =>
  zck (zix (a_1 + (1 : Int32)) 9) <|
  znm (zpI S_5 129 ((a_1 + (1 : Int32)).toNatClampNeg) x_2) fun S_7 =>
  some ((), S_7)
set_option maxHeartbeats 4000000 in
set_option maxRecDepth 100000 in
theorem cx_Lineup_changePlaces (l : Launch) (D : va_G) (K : (Nat → Nat) × (Nat → Nat)) (cy : Nat → ClassId) (ad : Nat → Nat) (S_0 : zSt) (a_1 : Int32) (So : zSt) (hf : fx_Lineup_changePlaces S_0 a_1 = some ((), So)) : zMV l yX4_changePlaces (zws yX4_changePlaces cX4_changePlaces 3 none) ({ frames := 0, cells := 0, slots := 0, locals := 0 }) D (zTy cy) K (zX cy ad) [.ref (ad 128), .int a_1] S_0 So := by
  refine z_metV (own := RX4) (lv := [(0, .ref (ad 128)), (1, .int a_1)]) (by decide) rfl rfl (Nat.le_of_ble_eq_true rfl) rfl ?_
  intro p e s m below meth c A Q X hK hE hD hA hret hP hS ls hl
  obtain ⟨hx, hb, hml, hown, hts⟩ := id X
  have k0 := (fun w h => List.mem_cons_of_mem _ (zFX4 w h) : ∀ w ∈ u_ws RX4 TX4 14, w ∈ zws yX4_changePlaces cX4_changePlaces 3 none)
  have k1 := hts _ (List.mem_cons_of_mem _ wt_2_109)
  refine lv_aload_n hx hb dX4_changePlaces_0 rfl (lv_at hl 0 rfl) ?_
  refine va_get (D := D) (ci := 4) (v := .ref (ad 129)) (C := RX4) (T := TX4) (N := 14) hx hb hts k0 hown hK hP 128 (zX_128 cy ad S_0) rfl 1 (by decide) k1 (fun _ h9 => h9) rfl dX4_changePlaces_1 ?_
  refine lv_iload_n hx hb dX4_changePlaces_4 rfl (lv_at hl 1 rfl) ?_
  obtain ⟨h_1, hf⟩ := z_ix hf
  refine z_iald hx hb hK hP 129 0 (zX_129 cy ad S_0) rfl h_1 (k := (a_1.toNatClampNeg)) rfl dX4_changePlaces_5 ?_
  refine lv_topi (fun x_2 ex_2 => ?_)
  have hf := z_nv ex_2 hf
  refine lv_istore_n (lv' := [(2, .int x_2), (0, .ref (ad 128)), (1, .int a_1)]) hx hb dX4_changePlaces_6 rfl hl (by decide) rfl (fun ls hl => ?_)
  refine lv_aload_n hx hb dX4_changePlaces_7 rfl (lv_at hl 1 rfl) ?_
  refine va_get (D := D) (ci := 4) (v := .ref (ad 129)) (C := RX4) (T := TX4) (N := 14) hx hb hts k0 hown hK hP 128 (zX_128 cy ad S_0) rfl 1 (by decide) k1 (fun _ h9 => h9) rfl dX4_changePlaces_8 ?_
  refine lv_iload_n hx hb dX4_changePlaces_11 rfl (lv_at hl 2 rfl) ?_
  refine lv_aload_n hx hb dX4_changePlaces_12 rfl (lv_at hl 1 rfl) ?_
  refine va_get (D := D) (ci := 4) (v := .ref (ad 129)) (C := RX4) (T := TX4) (N := 14) hx hb hts k0 hown hK hP 128 (zX_128 cy ad S_0) rfl 1 (by decide) k1 (fun _ h9 => h9) rfl dX4_changePlaces_13 ?_
  refine lv_iload_n hx hb dX4_changePlaces_16 rfl (lv_at hl 2 rfl) ?_
  refine lv_iconst (v := 1) hx hb dX4_changePlaces_17 (by decide) ?_
  refine lv_iadd hx hb dX4_changePlaces_18 ?_
  obtain ⟨h_3, hf⟩ := z_ix hf
  refine z_iald hx hb hK hP 129 0 (zX_129 cy ad S_0) rfl h_3 (k := ((a_1 + (1 : Int32)).toNatClampNeg)) rfl dX4_changePlaces_19 ?_
  obtain ⟨h_4, hf⟩ := z_ix hf
  refine z_iast hx hb hK hP (hD S_0) hS 129 0 (zX_129 cy ad S_0) rfl h_4 (k := (a_1.toNatClampNeg)) rfl dX4_changePlaces_20 (fun H locs hP hS => ?_)
  obtain ⟨S_5, eS_5, hf⟩ := z_nm hf
  have hP := zW_putI hP eS_5 (by decide) rfl
  refine lv_aload_n hx hb dX4_changePlaces_21 rfl (lv_at hl 1 rfl) ?_
  refine va_get (D := D) (ci := 4) (v := .ref (ad 129)) (C := RX4) (T := TX4) (N := 14) hx hb hts k0 hown hK hP 128 (zX_128 cy ad S_5) rfl 1 (by decide) k1 (fun _ h9 => h9) rfl dX4_changePlaces_22 ?_
  refine lv_iload_n hx hb dX4_changePlaces_25 rfl (lv_at hl 2 rfl) ?_
  refine lv_iconst (v := 1) hx hb dX4_changePlaces_26 (by decide) ?_
  refine lv_iadd hx hb dX4_changePlaces_27 ?_
  refine lv_iload_n hx hb dX4_changePlaces_28 rfl (lv_at hl 0 rfl) ?_
  obtain ⟨h_6, hf⟩ := z_ix hf
  refine z_iast hx hb hK hP (hD S_5) hS 129 0 (zX_129 cy ad S_5) rfl h_6 (k := ((a_1 + (1 : Int32)).toNatClampNeg)) rfl dX4_changePlaces_29 (fun H locs hP hS => ?_)
  obtain ⟨S_7, eS_7, hf⟩ := z_nm hf
  have hP := zW_putI hP eS_7 (by decide) rfl
  obtain ⟨h1, h2⟩ := z_s2 hf
  subst h2
  exact hret _ _ _ _ hP hS dX4_changePlaces_30
theorem yd_yX4_firstToChange : (yX4_firstToChange).cls ≠ "java/lang/invoke/MethodHandle" ∧ (yX4_firstToChange).cls ≠ "java/lang/invoke/VarHandle" ∧ (parseMethodDescriptor (yX4_firstToChange).desc).map (fun d => d.parameters.length) = some 0 := by decide +kernel
def fx_Lineup_firstToChange_L20 (x_1 : Int32) : Nat → Int32 → zSt → Option (Int32 × zSt)
  | 0, _, _ => none
  | n_20 + 1, x_3, S_4 =>
    if (x_1 - (1 : Int32)) ≤ x_3 then (
    some ((-1 : Int32), S_4)) else (
    znm (fun (x_5 : Int32) (S_6 : zSt) =>
    zbd (fx_Lineup_wouldChange S_6 x_3 x_5) fun r_7 S_8 =>
    if r_7 = 0 then (
    zck (zix x_3 9) <|
    zck (zix x_3 10) <|
    zbd (fx_Lineup_heatAfter S_8 (S_8.1 129 (x_3.toNatClampNeg)) (S_8.1 135 (x_3.toNatClampNeg))) fun r_12 S_13 =>
    zck (zix (x_3 + (1 : Int32)) 10) <|
    znm (zpI S_13 135 ((x_3 + (1 : Int32)).toNatClampNeg) r_12) fun S_16 =>
    znm (x_3 + (1 : Int32)) fun x_17 =>
    fx_Lineup_firstToChange_L20 x_1 n_20 x_17 S_16) else (
    some (x_3, S_8))) fun j_48 =>
    if x_1 ≤ (x_3 + (2 : Int32)) then (
    j_48 (-1 : Int32) S_4) else (
    zck (zix (x_3 + (2 : Int32)) 9) <|
    j_48 (S_4.1 129 ((x_3 + (2 : Int32)).toNatClampNeg)) S_4))
def fx_Lineup_firstToChange (S_0 : zSt) : Option (Int32 × zSt) :=
  znm (S_0.1 4 0) fun x_1 =>
  znm (zpI S_0 135 0 (0 : Int32)) fun S_2 =>
  fx_Lineup_firstToChange_L20 x_1 zFU (0 : Int32) S_2
set_option maxHeartbeats 4000000 in
set_option maxRecDepth 100000 in
theorem cx_Lineup_firstToChange (l : Launch) (D : va_G) (K : (Nat → Nat) × (Nat → Nat)) (cy : Nat → ClassId) (ad : Nat → Nat) (S_0 : zSt) (ro : Int32) (So : zSt) (hf : fx_Lineup_firstToChange S_0 = some (ro, So)) : zMI l yX4_firstToChange (zws yX4_firstToChange cX4_firstToChange 3 (Option.some .int)) ({ frames := 3, cells := 0, slots := 0, locals := 248 }) D (zTy cy) K (zX cy ad) [.ref (ad 128)] S_0 ro So := by
  refine z_metI (own := RX4) (lv := [(0, .ref (ad 128))]) (by decide) rfl rfl (Nat.le_of_ble_eq_true rfl) rfl ?_
  intro p e s m below meth c A Q X hK hE hD hA hret hP hS ls hl
  obtain ⟨hx, hb, hml, hown, hts⟩ := id X
  have k0 := (fun w h => List.mem_cons_of_mem _ (zFX4 w h) : ∀ w ∈ u_ws RX4 TX4 14, w ∈ zws yX4_firstToChange cX4_firstToChange 3 (Option.some .int))
  have k1 := hts _ (List.mem_cons_of_mem _ wt_2_108)
  have k2 := (fun w h => List.mem_cons_of_mem _ (zFX0 w h) : ∀ w ∈ u_ws RX0 TX0 6, w ∈ zws yX4_firstToChange cX4_firstToChange 3 (Option.some .int))
  have k3 := hts _ (List.mem_cons_of_mem _ wt_1_234)
  have k4 := (fun w h => List.mem_cons_of_mem _ (zFX2 w h) : ∀ w ∈ u_ws RX2 TX2 7, w ∈ zws yX4_firstToChange cX4_firstToChange 3 (Option.some .int))
  have k5 := hts _ (List.mem_cons_of_mem _ wt_1_66)
  have k6 := hts _ (List.mem_cons_of_mem _ wt_2_125)
  have k7 := hts _ (List.mem_cons_of_mem _ wt_2_109)
  refine lv_aload_n hx hb dX4_firstToChange_0 rfl (lv_at hl 0 rfl) ?_
  refine va_get (D := D) (ci := 4) (v := .ref (ad 3)) (C := RX4) (T := TX4) (N := 14) hx hb hts k0 hown hK hP 128 (zX_128 cy ad S_0) rfl 0 (by decide) k1 (fun _ h9 => h9) rfl dX4_firstToChange_1 ?_
  refine va_get (D := D) (ci := 0) (v := .ref (ad 4)) (C := RX0) (T := TX0) (N := 6) hx hb hts k2 hown hK hP 3 (zX_3 cy ad S_0) rfl 0 (by decide) k3 (fun _ h9 => h9) rfl dX4_firstToChange_4 ?_
  refine va_get (D := D) (ci := 2) (v := .int (S_0.1 4 0)) (C := RX2) (T := TX2) (N := 7) hx hb hts k4 hown hK hP 4 (zX_4 cy ad S_0) rfl 0 (by decide) k5 (fun _ h9 => h9) rfl dX4_firstToChange_7 ?_
  refine lv_topi (fun x_1 ex_1 => ?_)
  have hf := z_nv ex_1 hf
  refine lv_istore_n (lv' := [(1, .int x_1), (0, .ref (ad 128))]) hx hb dX4_firstToChange_10 rfl hl (by decide) rfl (fun ls hl => ?_)
  refine lv_aload_n hx hb dX4_firstToChange_11 rfl (lv_at hl 1 rfl) ?_
  refine va_get (D := D) (ci := 4) (v := .ref (ad 135)) (C := RX4) (T := TX4) (N := 14) hx hb hts k0 hown hK hP 128 (zX_128 cy ad S_0) rfl 11 (by decide) k6 (fun _ h9 => h9) rfl dX4_firstToChange_12 ?_
  refine lv_iconst (v := 0) hx hb dX4_firstToChange_15 (by decide) ?_
  refine lv_iconst (v := 0) hx hb dX4_firstToChange_16 (by decide) ?_
  refine z_iast hx hb hK hP (hD S_0) hS 135 0 (zX_135 cy ad S_0) rfl (vp_in_iff.mpr (by decide)) (k := 0) (by decide) dX4_firstToChange_17 (fun H locs hP hS => ?_)
  obtain ⟨S_2, eS_2, hf⟩ := z_nm hf
  have hP := zW_putI hP eS_2 (by decide) rfl
  refine lv_iconst (v := 0) hx hb dX4_firstToChange_18 (by decide) ?_
  refine lv_istore_n (lv' := [(2, .int (0 : Int32)), (1, .int x_1), (0, .ref (ad 128))]) hx hb dX4_firstToChange_19 rfl hl (by decide) rfl (fun ls hl => ?_)
  have L_20 : ∀ (n_20 : Nat) (x_3 : Int32) (S_4 : zSt) (H : Heap) (locs : List Loc) (ls : Array Slot), fx_Lineup_firstToChange_L20 x_1 n_20 x_3 S_4 = some (ro, So) → va_P D vwCl (zX cy ad S_4) H → va_S A s.heap H locs → lv_has ls 3 [(0, .ref (ad 128)), (1, .int x_1), (2, .int x_3)] → W p l e ({ frames := 3, cells := 0, slots := 0, locals := 248 }) s m ([.ref (ad 128)] : List Value).toArray below meth c H locs 0 0 Q (F0 m 20 ls []) := by
    intro n_20
    induction n_20 with
    | zero =>
      intro x_3 S_4 H locs ls hf hP hS hl
      exact z_no hf
    | succ n_20 ih_20 =>
      intro x_3 S_4 H locs ls hf hP hS hl
      rw [fx_Lineup_firstToChange_L20] at hf
      refine lv_iload_n hx hb dX4_firstToChange_20 rfl (lv_at hl 2 rfl) ?_
      refine lv_iload_n hx hb dX4_firstToChange_21 rfl (lv_at hl 1 rfl) ?_
      refine lv_iconst (v := 1) hx hb dX4_firstToChange_22 (by decide) ?_
      refine lv_isub hx hb dX4_firstToChange_23 ?_
      refine lv_icmp_ge (tgt := 86) hx hb dX4_firstToChange_24 (by decide) (fun c_21 => ?_) (fun c_21 => ?_)
      · have hf := z_it c_21 hf
        refine lv_iconst (v := -1) hx hb dX4_firstToChange_86 (by decide) ?_
        obtain ⟨h1, h2⟩ := z_s2 hf
        subst h1 h2
        exact hret _ _ _ _ hP hS dX4_firstToChange_87
      · have hf := z_if c_21 hf
        refine lv_aload_n hx hb dX4_firstToChange_27 rfl (lv_at hl 0 rfl) ?_
        refine lv_iload_n hx hb dX4_firstToChange_28 rfl (lv_at hl 2 rfl) ?_
        refine lv_iload_n hx hb dX4_firstToChange_29 rfl (lv_at hl 2 rfl) ?_
        refine lv_iconst (v := 2) hx hb dX4_firstToChange_30 (by decide) ?_
        refine lv_iadd hx hb dX4_firstToChange_31 ?_
        refine lv_iload_n hx hb dX4_firstToChange_32 rfl (lv_at hl 1 rfl) ?_
        obtain ⟨j_48, ej_48, hf⟩ := z_nm hf
        have J_48 : ∀ (x_5 : Int32) (S_6 : zSt) (H : Heap) (locs : List Loc) (ls : Array Slot), j_48 x_5 S_6 = some (ro, So) → va_P D vwCl (zX cy ad S_6) H → va_S A s.heap H locs → lv_has ls 3 [(0, .ref (ad 128)), (1, .int x_1), (2, .int x_3)] → W p l e ({ frames := 3, cells := 0, slots := 0, locals := 248 }) s m ([.ref (ad 128)] : List Value).toArray below meth c H locs 0 0 Q (F0 m 48 ls [.int x_5, .int x_3, .ref (ad 128)]) := by
          intro x_5 S_6 H locs ls hf hP hS hl
          have hf := z_e2 ej_48 hf
          obtain ⟨r_7, S_8, h_9, hf⟩ := z_bd hf
          refine z_cVI (As := [.int x_3, .int x_5]) (rest := []) X hK hE hD hA hP hS (cx_Lineup_wouldChange l D K cy ad S_6 _ _ _ _ h_9) (cwV 2 hts (z_gV wt_4_141 wt_4_143 wp_37 wt_1_11 wt_4_144) rfl rfl rfl ⟨rfl, yd_yX4_wouldChange⟩ ⟨Nat.le_of_ble_eq_true rfl, Nat.le_of_ble_eq_true rfl⟩) (va_recv hK hP (ci := 4) (q0 := 128) rfl (zX_128 cy ad S_6)) hl.1 rfl rfl (Nat.le_of_ble_eq_true rfl) dX4_firstToChange_48 (fun H locs hP hS => ?_)
          refine lv_if_eq (tgt := 56) hx hb dX4_firstToChange_51 (by decide) (fun c_18 => ?_) (fun c_18 => ?_)
          · have hf := z_it c_18 hf
            refine lv_aload_n hx hb dX4_firstToChange_56 rfl (lv_at hl 0 rfl) ?_
            refine va_get (D := D) (ci := 4) (v := .ref (ad 135)) (C := RX4) (T := TX4) (N := 14) hx hb hts k0 hown hK hP 128 (zX_128 cy ad S_8) rfl 11 (by decide) k6 (fun _ h9 => h9) rfl dX4_firstToChange_57 ?_
            refine lv_iload_n hx hb dX4_firstToChange_60 rfl (lv_at hl 2 rfl) ?_
            refine lv_iconst (v := 1) hx hb dX4_firstToChange_61 (by decide) ?_
            refine lv_iadd hx hb dX4_firstToChange_62 ?_
            refine lv_aload_n hx hb dX4_firstToChange_63 rfl (lv_at hl 0 rfl) ?_
            refine lv_aload_n hx hb dX4_firstToChange_64 rfl (lv_at hl 0 rfl) ?_
            refine va_get (D := D) (ci := 4) (v := .ref (ad 129)) (C := RX4) (T := TX4) (N := 14) hx hb hts k0 hown hK hP 128 (zX_128 cy ad S_8) rfl 1 (by decide) k7 (fun _ h9 => h9) rfl dX4_firstToChange_65 ?_
            refine lv_iload_n hx hb dX4_firstToChange_68 rfl (lv_at hl 2 rfl) ?_
            obtain ⟨h_10, hf⟩ := z_ix hf
            refine z_iald hx hb hK hP 129 0 (zX_129 cy ad S_8) rfl h_10 (k := (x_3.toNatClampNeg)) rfl dX4_firstToChange_69 ?_
            refine lv_aload_n hx hb dX4_firstToChange_70 rfl (lv_at hl 0 rfl) ?_
            refine va_get (D := D) (ci := 4) (v := .ref (ad 135)) (C := RX4) (T := TX4) (N := 14) hx hb hts k0 hown hK hP 128 (zX_128 cy ad S_8) rfl 11 (by decide) k6 (fun _ h9 => h9) rfl dX4_firstToChange_71 ?_
            refine lv_iload_n hx hb dX4_firstToChange_74 rfl (lv_at hl 2 rfl) ?_
            obtain ⟨h_11, hf⟩ := z_ix hf
            refine z_iald hx hb hK hP 135 0 (zX_135 cy ad S_8) rfl h_11 (k := (x_3.toNatClampNeg)) rfl dX4_firstToChange_75 ?_
            obtain ⟨r_12, S_13, h_14, hf⟩ := z_bd hf
            refine z_cVI (As := [.int (S_8.1 129 (x_3.toNatClampNeg)), .int (S_8.1 135 (x_3.toNatClampNeg))]) (rest := [.int (x_3 + (1 : Int32)), .ref (ad 135)]) X hK hE hD hA hP hS (cx_Lineup_heatAfter l D K cy ad S_8 _ _ _ _ h_14) (cwV 2 hts (z_gV wt_4_76 wt_4_78 wp_30 wt_1_11 wt_4_79) rfl rfl rfl ⟨rfl, yd_yX4_heatAfter⟩ ⟨Nat.le_of_ble_eq_true rfl, Nat.le_of_ble_eq_true rfl⟩) (va_recv hK hP (ci := 4) (q0 := 128) rfl (zX_128 cy ad S_8)) hl.1 rfl rfl (Nat.le_of_ble_eq_true rfl) dX4_firstToChange_76 (fun H locs hP hS => ?_)
            obtain ⟨h_15, hf⟩ := z_ix hf
            refine z_iast hx hb hK hP (hD S_13) hS 135 0 (zX_135 cy ad S_13) rfl h_15 (k := ((x_3 + (1 : Int32)).toNatClampNeg)) rfl dX4_firstToChange_79 (fun H locs hP hS => ?_)
            obtain ⟨S_16, eS_16, hf⟩ := z_nm hf
            have hP := zW_putI hP eS_16 (by decide) rfl
            obtain ⟨x_17, ex_17, hf⟩ := z_nm hf
            refine lv_iinc (v := x_17) (lv' := [(2, .int x_17), (0, .ref (ad 128)), (1, .int x_1)]) hx hb dX4_firstToChange_80 hl (k := 2) rfl (by rw [ex_17]; rfl) (by decide) rfl (fun ls hl => ?_)
            refine lv_goto (tgt := 20) hx hb dX4_firstToChange_83 (by decide) ?_
            exact ih_20 x_17 S_16 _ _ _ hf hP hS (lv_sub hl [1, 2, 0] rfl)
          · have hf := z_if c_18 hf
            refine lv_iload_n hx hb dX4_firstToChange_54 rfl (lv_at hl 2 rfl) ?_
            obtain ⟨h1, h2⟩ := z_s2 hf
            subst h1 h2
            exact hret _ _ _ _ hP hS dX4_firstToChange_55
        refine lv_icmp_ge (tgt := 47) hx hb dX4_firstToChange_33 (by decide) (fun c_20 => ?_) (fun c_20 => ?_)
        · have hf := z_it c_20 hf
          refine lv_iconst (v := -1) hx hb dX4_firstToChange_47 (by decide) ?_
          exact J_48 (-1 : Int32) S_4 _ _ _ hf hP hS (lv_sub hl [0, 1, 2] rfl)
        · have hf := z_if c_20 hf
          refine lv_aload_n hx hb dX4_firstToChange_36 rfl (lv_at hl 0 rfl) ?_
          refine va_get (D := D) (ci := 4) (v := .ref (ad 129)) (C := RX4) (T := TX4) (N := 14) hx hb hts k0 hown hK hP 128 (zX_128 cy ad S_4) rfl 1 (by decide) k7 (fun _ h9 => h9) rfl dX4_firstToChange_37 ?_
          refine lv_iload_n hx hb dX4_firstToChange_40 rfl (lv_at hl 2 rfl) ?_
          refine lv_iconst (v := 2) hx hb dX4_firstToChange_41 (by decide) ?_
          refine lv_iadd hx hb dX4_firstToChange_42 ?_
          obtain ⟨h_19, hf⟩ := z_ix hf
          refine z_iald hx hb hK hP 129 0 (zX_129 cy ad S_4) rfl h_19 (k := ((x_3 + (2 : Int32)).toNatClampNeg)) rfl dX4_firstToChange_43 ?_
          refine lv_goto (tgt := 48) hx hb dX4_firstToChange_44 (by decide) ?_
          exact J_48 (S_4.1 129 ((x_3 + (2 : Int32)).toNatClampNeg)) S_4 _ _ _ hf hP hS (lv_sub hl [0, 1, 2] rfl)
  exact L_20 zFU (0 : Int32) S_2 _ _ _ hf hP hS (lv_sub hl [2, 1, 0] rfl)
theorem yd_yX4_orderAsNumber : (yX4_orderAsNumber).cls ≠ "java/lang/invoke/MethodHandle" ∧ (yX4_orderAsNumber).cls ≠ "java/lang/invoke/VarHandle" ∧ (parseMethodDescriptor (yX4_orderAsNumber).desc).map (fun d => d.parameters.length) = some 0 := by decide +kernel
def fx_Lineup_orderAsNumber_L4 : Nat → Int64 → Int32 → zSt → Option (Int64 × zSt)
  | 0, _, _, _ => none
  | n_4 + 1, x_1, x_2, S_3 =>
    if (S_3.1 4 0) ≤ x_2 then (
    some (x_1, S_3)) else (
    zck (zix x_2 9) <|
    znm ((x_1 * (10 : Int64)) + ((S_3.1 129 (x_2.toNatClampNeg)).toInt64)) fun x_5 =>
    znm (x_2 + (1 : Int32)) fun x_6 =>
    fx_Lineup_orderAsNumber_L4 n_4 x_5 x_6 S_3)
def fx_Lineup_orderAsNumber (S_0 : zSt) : Option (Int64 × zSt) :=
  fx_Lineup_orderAsNumber_L4 zFU (0 : Int64) (0 : Int32) S_0
set_option maxHeartbeats 4000000 in
set_option maxRecDepth 100000 in
theorem cx_Lineup_orderAsNumber (l : Launch) (D : va_G) (K : (Nat → Nat) × (Nat → Nat)) (cy : Nat → ClassId) (ad : Nat → Nat) (S_0 : zSt) (ro : Int64) (So : zSt) (hf : fx_Lineup_orderAsNumber S_0 = some (ro, So)) : zML l yX4_orderAsNumber (zws yX4_orderAsNumber cX4_orderAsNumber 4 (Option.some .long)) ({ frames := 0, cells := 0, slots := 0, locals := 0 }) D (zTy cy) K (zX cy ad) [.ref (ad 128)] S_0 ro So := by
  refine z_metL (own := RX4) (lv := [(0, .ref (ad 128))]) (by decide) rfl rfl (Nat.le_of_ble_eq_true rfl) rfl ?_
  intro p e s m below meth c A Q X hK hE hD hA hret hP hS ls hl
  obtain ⟨hx, hb, hml, hown, hts⟩ := id X
  have k0 := (fun w h => List.mem_cons_of_mem _ (zFX4 w h) : ∀ w ∈ u_ws RX4 TX4 14, w ∈ zws yX4_orderAsNumber cX4_orderAsNumber 4 (Option.some .long))
  have k1 := hts _ (List.mem_cons_of_mem _ wt_2_108)
  have k2 := (fun w h => List.mem_cons_of_mem _ (zFX0 w h) : ∀ w ∈ u_ws RX0 TX0 6, w ∈ zws yX4_orderAsNumber cX4_orderAsNumber 4 (Option.some .long))
  have k3 := hts _ (List.mem_cons_of_mem _ wt_1_234)
  have k4 := (fun w h => List.mem_cons_of_mem _ (zFX2 w h) : ∀ w ∈ u_ws RX2 TX2 7, w ∈ zws yX4_orderAsNumber cX4_orderAsNumber 4 (Option.some .long))
  have k5 := hts _ (List.mem_cons_of_mem _ wt_1_66)
  have k6 := hts _ (List.mem_cons_of_mem _ wt_4_161)
  have k7 := hts _ (List.mem_cons_of_mem _ wt_2_109)
  refine lv_lconst (v := 0) hx hb dX4_orderAsNumber_0 (by decide) ?_
  refine lv_lstore_n (lv' := [(1, .long (0 : Int64)), (0, .ref (ad 128))]) hx hb dX4_orderAsNumber_1 rfl hl (by decide) rfl (fun ls hl => ?_)
  refine lv_iconst (v := 0) hx hb dX4_orderAsNumber_2 (by decide) ?_
  refine lv_istore_n (lv' := [(3, .int (0 : Int32)), (1, .long (0 : Int64)), (0, .ref (ad 128))]) hx hb dX4_orderAsNumber_3 rfl hl (by decide) rfl (fun ls hl => ?_)
  have L_4 : ∀ (n_4 : Nat) (x_1 : Int64) (x_2 : Int32) (S_3 : zSt) (H : Heap) (locs : List Loc) (ls : Array Slot), fx_Lineup_orderAsNumber_L4 n_4 x_1 x_2 S_3 = some (ro, So) → va_P D vwCl (zX cy ad S_3) H → va_S A s.heap H locs → lv_has ls 4 [(0, .ref (ad 128)), (1, .long x_1), (3, .int x_2)] → W p l e ({ frames := 0, cells := 0, slots := 0, locals := 0 }) s m ([.ref (ad 128)] : List Value).toArray below meth c H locs 0 0 Q (F0 m 4 ls []) := by
    intro n_4
    induction n_4 with
    | zero =>
      intro x_1 x_2 S_3 H locs ls hf hP hS hl
      exact z_no hf
    | succ n_4 ih_4 =>
      intro x_1 x_2 S_3 H locs ls hf hP hS hl
      rw [fx_Lineup_orderAsNumber_L4] at hf
      refine lv_iload_n hx hb dX4_orderAsNumber_4 rfl (lv_at hl 2 rfl) ?_
      refine lv_aload_n hx hb dX4_orderAsNumber_5 rfl (lv_at hl 0 rfl) ?_
      refine va_get (D := D) (ci := 4) (v := .ref (ad 3)) (C := RX4) (T := TX4) (N := 14) hx hb hts k0 hown hK hP 128 (zX_128 cy ad S_3) rfl 0 (by decide) k1 (fun _ h9 => h9) rfl dX4_orderAsNumber_6 ?_
      refine va_get (D := D) (ci := 0) (v := .ref (ad 4)) (C := RX0) (T := TX0) (N := 6) hx hb hts k2 hown hK hP 3 (zX_3 cy ad S_3) rfl 0 (by decide) k3 (fun _ h9 => h9) rfl dX4_orderAsNumber_9 ?_
      refine va_get (D := D) (ci := 2) (v := .int (S_3.1 4 0)) (C := RX2) (T := TX2) (N := 7) hx hb hts k4 hown hK hP 4 (zX_4 cy ad S_3) rfl 0 (by decide) k5 (fun _ h9 => h9) rfl dX4_orderAsNumber_12 ?_
      refine lv_icmp_ge (tgt := 38) hx hb dX4_orderAsNumber_15 (by decide) (fun c_7 => ?_) (fun c_7 => ?_)
      · have hf := z_it c_7 hf
        refine lv_lload_n hx hb dX4_orderAsNumber_38 rfl (lv_at hl 1 rfl) ?_
        obtain ⟨h1, h2⟩ := z_s2 hf
        subst h1 h2
        exact hret _ _ _ _ hP hS dX4_orderAsNumber_39
      · have hf := z_if c_7 hf
        refine lv_lload_n hx hb dX4_orderAsNumber_18 rfl (lv_at hl 1 rfl) ?_
        refine lv_ldc2 hx hb hown k6 dX4_orderAsNumber_19 ?_
        refine lv_lmul hx hb dX4_orderAsNumber_22 ?_
        refine lv_aload_n hx hb dX4_orderAsNumber_23 rfl (lv_at hl 0 rfl) ?_
        refine va_get (D := D) (ci := 4) (v := .ref (ad 129)) (C := RX4) (T := TX4) (N := 14) hx hb hts k0 hown hK hP 128 (zX_128 cy ad S_3) rfl 1 (by decide) k7 (fun _ h9 => h9) rfl dX4_orderAsNumber_24 ?_
        refine lv_iload_n hx hb dX4_orderAsNumber_27 rfl (lv_at hl 2 rfl) ?_
        obtain ⟨h_4, hf⟩ := z_ix hf
        refine z_iald hx hb hK hP 129 0 (zX_129 cy ad S_3) rfl h_4 (k := (x_2.toNatClampNeg)) rfl dX4_orderAsNumber_28 ?_
        refine lv_i2l hx hb dX4_orderAsNumber_29 rfl ?_
        refine lv_ladd hx hb dX4_orderAsNumber_30 ?_
        refine lv_topl (fun x_5 ex_5 => ?_)
        have hf := z_nv ex_5 hf
        refine lv_lstore_n (lv' := [(1, .long x_5), (0, .ref (ad 128)), (3, .int x_2)]) hx hb dX4_orderAsNumber_31 rfl hl (by decide) rfl (fun ls hl => ?_)
        obtain ⟨x_6, ex_6, hf⟩ := z_nm hf
        refine lv_iinc (v := x_6) (lv' := [(3, .int x_6), (1, .long x_5), (0, .ref (ad 128))]) hx hb dX4_orderAsNumber_32 hl (k := 2) rfl (by rw [ex_6]; rfl) (by decide) rfl (fun ls hl => ?_)
        refine lv_goto (tgt := 4) hx hb dX4_orderAsNumber_35 (by decide) ?_
        exact ih_4 x_5 x_6 S_3 _ _ _ hf hP hS (lv_sub hl [2, 1, 0] rfl)
  exact L_4 zFU (0 : Int64) (0 : Int32) S_0 _ _ _ hf hP hS (lv_sub hl [2, 1, 0] rfl)
theorem yd_yX4_goRound : (yX4_goRound).cls ≠ "java/lang/invoke/MethodHandle" ∧ (yX4_goRound).cls ≠ "java/lang/invoke/VarHandle" ∧ (parseMethodDescriptor (yX4_goRound).desc).map (fun d => d.parameters.length) = some 0 := by decide +kernel
def fx_Lineup_goRound_L39 (x_9 : Int32) (j_74 : zSt → Option (Unit × zSt)) : Nat → Int32 → zSt → Option (Unit × zSt)
  | 0, _, _ => none
  | n_39 + 1, x_26, S_27 =>
    if x_9 ≤ x_26 then (
    j_74  S_27) else (
    zck (zix x_26 201) <|
    zck (zix x_9 201) <|
    if (lg_cmp (S_27.2 137 (x_26.toNatClampNeg)) (S_27.2 137 (x_9.toNatClampNeg))) = 0 then (
    znm (zpI S_27 128 6 (x_9 - x_26)) fun S_31 =>
    some ((), S_31)) else (
    znm (x_26 + (1 : Int32)) fun x_30 =>
    fx_Lineup_goRound_L39 x_9 j_74 n_39 x_30 S_27))
def fx_Lineup_goRound_L20 : Nat → Int32 → zSt → Option (Unit × zSt)
  | 0, _, _ => none
  | n_20 + 1, x_9, S_10 =>
    if (200 : Int32) < x_9 then (
    some ((), S_10)) else (
    zbd (fx_Lineup_orderAsNumber S_10) fun r_11 S_12 =>
    zck (zix x_9 201) <|
    znm (zpL S_12 137 (x_9.toNatClampNeg) r_11) fun S_15 =>
    znm (fun (S_16 : zSt) =>
    zbd (fx_Lineup_firstToChange S_16) fun r_17 S_18 =>
    if r_17 = (-1 : Int32) then (
    znm (zpI S_18 128 5 x_9) fun S_24 =>
    some ((), S_24)) else (
    zbd (fx_Lineup_changePlaces S_18 r_17) fun _ S_21 =>
    znm (x_9 + (1 : Int32)) fun x_23 =>
    fx_Lineup_goRound_L20 n_20 x_23 S_21)) fun j_74 =>
    fx_Lineup_goRound_L39 x_9 j_74 zFU (0 : Int32) S_15)
def fx_Lineup_goRound (S_0 : zSt) : Option (Unit × zSt) :=
  znm (zpI S_0 128 5 (-1 : Int32)) fun S_1 =>
  znm (zpI S_1 128 6 (0 : Int32)) fun S_2 =>
  zbd (fx_Lineup_standByRule S_2) fun _ S_4 =>
  zbd (fx_Lineup_weighLoaves S_4) fun _ S_7 =>
  fx_Lineup_goRound_L20 zFU (0 : Int32) S_7
set_option maxHeartbeats 4000000 in
set_option maxRecDepth 100000 in
theorem cx_Lineup_goRound (l : Launch) (D : va_G) (K : (Nat → Nat) × (Nat → Nat)) (cy : Nat → ClassId) (ad : Nat → Nat) (S_0 : zSt) (So : zSt) (hf : fx_Lineup_goRound S_0 = some ((), So)) : zMV l yX4_goRound (zws yX4_goRound cX4_goRound 3 none) ({ frames := 4, cells := 0, slots := 0, locals := 270 }) D (zTy cy) K (zX cy ad) [.ref (ad 128)] S_0 So := by
  refine z_metV (own := RX4) (lv := [(0, .ref (ad 128))]) (by decide) rfl rfl (Nat.le_of_ble_eq_true rfl) rfl ?_
  intro p e s m below meth c A Q X hK hE hD hA hret hP hS ls hl
  obtain ⟨hx, hb, hml, hown, hts⟩ := id X
  have k0 := (fun w h => List.mem_cons_of_mem _ (zFX4 w h) : ∀ w ∈ u_ws RX4 TX4 14, w ∈ zws yX4_goRound cX4_goRound 3 none)
  have k1 := hts _ (List.mem_cons_of_mem _ wt_2_118)
  have k2 := hts _ (List.mem_cons_of_mem _ wt_2_120)
  have k3 := hts _ (List.mem_cons_of_mem _ wt_2_127)
  refine lv_aload_n hx hb dX4_goRound_0 rfl (lv_at hl 0 rfl) ?_
  refine lv_iconst (v := -1) hx hb dX4_goRound_1 (by decide) ?_
  refine va_put (D := D) (ci := 4) (v := .int (-1 : Int32)) (ty := .int) (C := RX4) (T := TX4) (N := 14) hx hb hts k0 tyX4 tyX4_ok nmX4 hown hK hP (hD S_0) hS 128 (zX_128 cy ad S_0) rfl 5 (by decide) k1 (fun _ h9 => h9) rfl (tyX4_ok 5 (by decide)) rfl rfl (Nat.le_of_ble_eq_true rfl) dX4_goRound_2 (fun H locs hP _ hS => ?_)
  obtain ⟨S_1, eS_1, hf⟩ := z_nm hf
  have hP := zW_putI hP eS_1 (by decide) rfl
  refine lv_aload_n hx hb dX4_goRound_5 rfl (lv_at hl 0 rfl) ?_
  refine lv_iconst (v := 0) hx hb dX4_goRound_6 (by decide) ?_
  refine va_put (D := D) (ci := 4) (v := .int (0 : Int32)) (ty := .int) (C := RX4) (T := TX4) (N := 14) hx hb hts k0 tyX4 tyX4_ok nmX4 hown hK hP (hD S_1) hS 128 (zX_128 cy ad S_1) rfl 6 (by decide) k2 (fun _ h9 => h9) rfl (tyX4_ok 6 (by decide)) rfl rfl (Nat.le_of_ble_eq_true rfl) dX4_goRound_7 (fun H locs hP _ hS => ?_)
  obtain ⟨S_2, eS_2, hf⟩ := z_nm hf
  have hP := zW_putI hP eS_2 (by decide) rfl
  refine lv_aload_n hx hb dX4_goRound_10 rfl (lv_at hl 0 rfl) ?_
  obtain ⟨r_3, S_4, h_5, hf⟩ := z_bd hf
  refine z_cVV (As := []) (rest := []) X hK hE hD hA hP hS (cx_Lineup_standByRule l D K cy ad S_2 _ h_5) (cwV 0 hts (z_gV wt_4_5 wt_4_7 wp_22 wt_1_11 wt_4_8) rfl rfl rfl ⟨rfl, yd_yX4_standByRule⟩ ⟨Nat.le_of_ble_eq_true rfl, Nat.le_of_ble_eq_true rfl⟩) (va_recv hK hP (ci := 4) (q0 := 128) rfl (zX_128 cy ad S_2)) hl.1 rfl rfl (Nat.le_of_ble_eq_true rfl) dX4_goRound_11 (fun H locs hP hS => ?_)
  refine lv_aload_n hx hb dX4_goRound_14 rfl (lv_at hl 0 rfl) ?_
  obtain ⟨r_6, S_7, h_8, hf⟩ := z_bd hf
  refine z_cVV (As := []) (rest := []) X hK hE hD hA hP hS (cx_Lineup_weighLoaves l D K cy ad S_4 _ h_8) (cwV 0 hts (z_gV wt_4_53 wt_4_55 wp_26 wt_1_11 wt_4_56) rfl rfl rfl ⟨rfl, yd_yX4_weighLoaves⟩ ⟨Nat.le_of_ble_eq_true rfl, Nat.le_of_ble_eq_true rfl⟩) (va_recv hK hP (ci := 4) (q0 := 128) rfl (zX_128 cy ad S_4)) hl.1 rfl rfl (Nat.le_of_ble_eq_true rfl) dX4_goRound_15 (fun H locs hP hS => ?_)
  refine lv_iconst (v := 0) hx hb dX4_goRound_18 (by decide) ?_
  refine lv_istore_n (lv' := [(1, .int (0 : Int32)), (0, .ref (ad 128))]) hx hb dX4_goRound_19 rfl hl (by decide) rfl (fun ls hl => ?_)
  have L_20 : ∀ (n_20 : Nat) (x_9 : Int32) (S_10 : zSt) (H : Heap) (locs : List Loc) (ls : Array Slot), fx_Lineup_goRound_L20 n_20 x_9 S_10 = some ((), So) → va_P D vwCl (zX cy ad S_10) H → va_S A s.heap H locs → lv_has ls 3 [(0, .ref (ad 128)), (1, .int x_9)] → W p l e ({ frames := 4, cells := 0, slots := 0, locals := 270 }) s m ([.ref (ad 128)] : List Value).toArray below meth c H locs 0 0 Q (F0 m 20 ls []) := by
    intro n_20
    induction n_20 with
    | zero =>
      intro x_9 S_10 H locs ls hf hP hS hl
      exact z_no hf
    | succ n_20 ih_20 =>
      intro x_9 S_10 H locs ls hf hP hS hl
      rw [fx_Lineup_goRound_L20] at hf
      refine lv_iload_n hx hb dX4_goRound_20 rfl (lv_at hl 1 rfl) ?_
      refine lv_sipush (v := 200) hx hb dX4_goRound_21 (by decide) ?_
      refine lv_icmp_gt (tgt := 101) hx hb dX4_goRound_24 (by decide) (fun c_34 => ?_) (fun c_34 => ?_)
      · have hf := z_it c_34 hf
        obtain ⟨h1, h2⟩ := z_s2 hf
        subst h2
        exact hret _ _ _ _ hP hS dX4_goRound_101
      · have hf := z_if c_34 hf
        refine lv_aload_n hx hb dX4_goRound_27 rfl (lv_at hl 0 rfl) ?_
        refine va_get (D := D) (ci := 4) (v := .ref (ad 137)) (C := RX4) (T := TX4) (N := 14) hx hb hts k0 hown hK hP 128 (zX_128 cy ad S_10) rfl 13 (by decide) k3 (fun _ h9 => h9) rfl dX4_goRound_28 ?_
        refine lv_iload_n hx hb dX4_goRound_31 rfl (lv_at hl 1 rfl) ?_
        refine lv_aload_n hx hb dX4_goRound_32 rfl (lv_at hl 0 rfl) ?_
        obtain ⟨r_11, S_12, h_13, hf⟩ := z_bd hf
        refine z_cVL (As := []) (rest := [.int x_9, .ref (ad 137)]) X hK hE hD hA hP hS (cx_Lineup_orderAsNumber l D K cy ad S_10 _ _ h_13) (cwV 0 hts (z_gV wt_4_157 wt_4_159 wp_39 wt_1_11 wt_4_160) rfl rfl rfl ⟨rfl, yd_yX4_orderAsNumber⟩ ⟨Nat.le_of_ble_eq_true rfl, Nat.le_of_ble_eq_true rfl⟩) (va_recv hK hP (ci := 4) (q0 := 128) rfl (zX_128 cy ad S_10)) hl.1 rfl rfl (Nat.le_of_ble_eq_true rfl) dX4_goRound_33 (fun H locs hP hS => ?_)
        obtain ⟨h_14, hf⟩ := z_ix hf
        refine z_last hx hb hK hP (hD S_12) hS 137 1 (zX_137 cy ad S_12) rfl h_14 (k := (x_9.toNatClampNeg)) rfl dX4_goRound_36 (fun H locs hP hS => ?_)
        obtain ⟨S_15, eS_15, hf⟩ := z_nm hf
        have hP := zW_putL hP eS_15 (by decide) rfl
        refine lv_iconst (v := 0) hx hb dX4_goRound_37 (by decide) ?_
        refine lv_istore_n (lv' := [(2, .int (0 : Int32)), (0, .ref (ad 128)), (1, .int x_9)]) hx hb dX4_goRound_38 rfl hl (by decide) rfl (fun ls hl => ?_)
        obtain ⟨j_74, ej_74, hf⟩ := z_nm hf
        have J_74 : ∀ (S_16 : zSt) (H : Heap) (locs : List Loc) (ls : Array Slot), j_74  S_16 = some ((), So) → va_P D vwCl (zX cy ad S_16) H → va_S A s.heap H locs → lv_has ls 3 [(0, .ref (ad 128)), (1, .int x_9)] → W p l e ({ frames := 4, cells := 0, slots := 0, locals := 270 }) s m ([.ref (ad 128)] : List Value).toArray below meth c H locs 0 0 Q (F0 m 74 ls []) := by
          intro  S_16 H locs ls hf hP hS hl
          have hf := z_e1 ej_74 hf
          refine lv_aload_n hx hb dX4_goRound_74 rfl (lv_at hl 0 rfl) ?_
          obtain ⟨r_17, S_18, h_19, hf⟩ := z_bd hf
          refine z_cVI (As := []) (rest := []) X hK hE hD hA hP hS (cx_Lineup_firstToChange l D K cy ad S_16 _ _ h_19) (cwV 0 hts (z_gV wt_4_162 wt_4_164 wp_40 wt_1_11 wt_4_165) rfl rfl rfl ⟨rfl, yd_yX4_firstToChange⟩ ⟨Nat.le_of_ble_eq_true rfl, Nat.le_of_ble_eq_true rfl⟩) (va_recv hK hP (ci := 4) (q0 := 128) rfl (zX_128 cy ad S_16)) hl.1 rfl rfl (Nat.le_of_ble_eq_true rfl) dX4_goRound_75 (fun H locs hP hS => ?_)
          refine lv_istore_n (lv' := [(2, .int r_17), (0, .ref (ad 128)), (1, .int x_9)]) hx hb dX4_goRound_78 rfl hl (by decide) rfl (fun ls hl => ?_)
          refine lv_iload_n hx hb dX4_goRound_79 rfl (lv_at hl 0 rfl) ?_
          refine lv_iconst (v := -1) hx hb dX4_goRound_80 (by decide) ?_
          refine lv_icmp_ne (tgt := 90) hx hb dX4_goRound_81 (by decide) (fun c_25 => ?_) (fun c_25 => ?_)
          · have hf := z_if c_25 hf
            refine lv_aload_n hx hb dX4_goRound_90 rfl (lv_at hl 1 rfl) ?_
            refine lv_iload_n hx hb dX4_goRound_91 rfl (lv_at hl 0 rfl) ?_
            obtain ⟨r_20, S_21, h_22, hf⟩ := z_bd hf
            refine z_cVV (As := [.int r_17]) (rest := []) X hK hE hD hA hP hS (cx_Lineup_changePlaces l D K cy ad S_18 _ _ h_22) (cwV 1 hts (z_gV wt_4_166 wt_4_168 wp_41 wt_1_11 wt_4_169) rfl rfl rfl ⟨rfl, yd_yX4_changePlaces⟩ ⟨Nat.le_of_ble_eq_true rfl, Nat.le_of_ble_eq_true rfl⟩) (va_recv hK hP (ci := 4) (q0 := 128) rfl (zX_128 cy ad S_18)) hl.1 rfl rfl (Nat.le_of_ble_eq_true rfl) dX4_goRound_92 (fun H locs hP hS => ?_)
            obtain ⟨x_23, ex_23, hf⟩ := z_nm hf
            refine lv_iinc (v := x_23) (lv' := [(1, .int x_23), (2, .int r_17), (0, .ref (ad 128))]) hx hb dX4_goRound_95 hl (k := 2) rfl (by rw [ex_23]; rfl) (by decide) rfl (fun ls hl => ?_)
            refine lv_goto (tgt := 20) hx hb dX4_goRound_98 (by decide) ?_
            exact ih_20 x_23 S_21 _ _ _ hf hP hS (lv_sub hl [2, 0] rfl)
          · have hf := z_it c_25 hf
            refine lv_aload_n hx hb dX4_goRound_84 rfl (lv_at hl 1 rfl) ?_
            refine lv_iload_n hx hb dX4_goRound_85 rfl (lv_at hl 2 rfl) ?_
            refine va_put (D := D) (ci := 4) (v := .int x_9) (ty := .int) (C := RX4) (T := TX4) (N := 14) hx hb hts k0 tyX4 tyX4_ok nmX4 hown hK hP (hD S_18) hS 128 (zX_128 cy ad S_18) rfl 5 (by decide) k1 (fun _ h9 => h9) rfl (tyX4_ok 5 (by decide)) rfl rfl (Nat.le_of_ble_eq_true rfl) dX4_goRound_86 (fun H locs hP _ hS => ?_)
            obtain ⟨S_24, eS_24, hf⟩ := z_nm hf
            have hP := zW_putI hP eS_24 (by decide) rfl
            obtain ⟨h1, h2⟩ := z_s2 hf
            subst h2
            exact hret _ _ _ _ hP hS dX4_goRound_89
        have L_39 : ∀ (n_39 : Nat) (x_26 : Int32) (S_27 : zSt) (H : Heap) (locs : List Loc) (ls : Array Slot), fx_Lineup_goRound_L39 x_9 j_74 n_39 x_26 S_27 = some ((), So) → va_P D vwCl (zX cy ad S_27) H → va_S A s.heap H locs → lv_has ls 3 [(0, .ref (ad 128)), (1, .int x_9), (2, .int x_26)] → W p l e ({ frames := 4, cells := 0, slots := 0, locals := 270 }) s m ([.ref (ad 128)] : List Value).toArray below meth c H locs 0 0 Q (F0 m 39 ls []) := by
          intro n_39
          induction n_39 with
          | zero =>
            intro x_26 S_27 H locs ls hf hP hS hl
            exact z_no hf
          | succ n_39 ih_39 =>
            intro x_26 S_27 H locs ls hf hP hS hl
            rw [fx_Lineup_goRound_L39] at hf
            refine lv_iload_n hx hb dX4_goRound_39 rfl (lv_at hl 2 rfl) ?_
            refine lv_iload_n hx hb dX4_goRound_40 rfl (lv_at hl 1 rfl) ?_
            refine lv_icmp_ge (tgt := 74) hx hb dX4_goRound_41 (by decide) (fun c_33 => ?_) (fun c_33 => ?_)
            · have hf := z_it c_33 hf
              exact J_74  S_27 _ _ _ hf hP hS (lv_sub hl [0, 1] rfl)
            · have hf := z_if c_33 hf
              refine lv_aload_n hx hb dX4_goRound_44 rfl (lv_at hl 0 rfl) ?_
              refine va_get (D := D) (ci := 4) (v := .ref (ad 137)) (C := RX4) (T := TX4) (N := 14) hx hb hts k0 hown hK hP 128 (zX_128 cy ad S_27) rfl 13 (by decide) k3 (fun _ h9 => h9) rfl dX4_goRound_45 ?_
              refine lv_iload_n hx hb dX4_goRound_48 rfl (lv_at hl 2 rfl) ?_
              obtain ⟨h_28, hf⟩ := z_ix hf
              refine z_lald hx hb hK hP 137 1 (zX_137 cy ad S_27) rfl h_28 (k := (x_26.toNatClampNeg)) rfl dX4_goRound_49 ?_
              refine lv_aload_n hx hb dX4_goRound_50 rfl (lv_at hl 0 rfl) ?_
              refine va_get (D := D) (ci := 4) (v := .ref (ad 137)) (C := RX4) (T := TX4) (N := 14) hx hb hts k0 hown hK hP 128 (zX_128 cy ad S_27) rfl 13 (by decide) k3 (fun _ h9 => h9) rfl dX4_goRound_51 ?_
              refine lv_iload_n hx hb dX4_goRound_54 rfl (lv_at hl 1 rfl) ?_
              obtain ⟨h_29, hf⟩ := z_ix hf
              refine z_lald hx hb hK hP 137 1 (zX_137 cy ad S_27) rfl h_29 (k := (x_9.toNatClampNeg)) rfl dX4_goRound_55 ?_
              refine W.lcmp hx hb dX4_goRound_56 ?_
              refine lv_if_ne (tgt := 68) hx hb dX4_goRound_57 (by decide) (fun c_32 => ?_) (fun c_32 => ?_)
              · have hf := z_if c_32 hf
                obtain ⟨x_30, ex_30, hf⟩ := z_nm hf
                refine lv_iinc (v := x_30) (lv' := [(2, .int x_30), (0, .ref (ad 128)), (1, .int x_9)]) hx hb dX4_goRound_68 hl (k := 2) rfl (by rw [ex_30]; rfl) (by decide) rfl (fun ls hl => ?_)
                refine lv_goto (tgt := 39) hx hb dX4_goRound_71 (by decide) ?_
                exact ih_39 x_30 S_27 _ _ _ hf hP hS (lv_sub hl [1, 2, 0] rfl)
              · have hf := z_it c_32 hf
                refine lv_aload_n hx hb dX4_goRound_60 rfl (lv_at hl 0 rfl) ?_
                refine lv_iload_n hx hb dX4_goRound_61 rfl (lv_at hl 1 rfl) ?_
                refine lv_iload_n hx hb dX4_goRound_62 rfl (lv_at hl 2 rfl) ?_
                refine lv_isub hx hb dX4_goRound_63 ?_
                refine va_put (D := D) (ci := 4) (v := .int (x_9 - x_26)) (ty := .int) (C := RX4) (T := TX4) (N := 14) hx hb hts k0 tyX4 tyX4_ok nmX4 hown hK hP (hD S_27) hS 128 (zX_128 cy ad S_27) rfl 6 (by decide) k2 (fun _ h9 => h9) rfl (tyX4_ok 6 (by decide)) rfl rfl (Nat.le_of_ble_eq_true rfl) dX4_goRound_64 (fun H locs hP _ hS => ?_)
                obtain ⟨S_31, eS_31, hf⟩ := z_nm hf
                have hP := zW_putI hP eS_31 (by decide) rfl
                obtain ⟨h1, h2⟩ := z_s2 hf
                subst h2
                exact hret _ _ _ _ hP hS dX4_goRound_67
        exact L_39 zFU (0 : Int32) S_15 _ _ _ hf hP hS (lv_sub hl [1, 2, 0] rfl)
  exact L_20 zFU (0 : Int32) S_7 _ _ _ hf hP hS (lv_sub hl [1, 0] rfl)
theorem yd_yX5_above : (yX5_above).cls ≠ "java/lang/invoke/MethodHandle" ∧ (yX5_above).cls ≠ "java/lang/invoke/VarHandle" ∧ (parseMethodDescriptor (yX5_above).desc).map (fun d => d.parameters.length) = some 3 := by decide +kernel
def fx_Rises_above_L21 (a_1 : Int32) : Nat → Int64 → Int32 → zSt → Option (Int64 × zSt)
  | 0, _, _, _ => none
  | n_21 + 1, x_2, x_3, S_4 =>
    if (S_4.1 1 1) ≤ x_3 then (
    some (x_2, S_4)) else (
    zbd (fx_Houses_letterOf S_4 a_1 x_3) fun r_5 S_6 =>
    zbd (fx_Tape_letterAt S_6 x_3) fun r_8 S_9 =>
    zck (zix ((r_5 * (8 : Int32)) + r_8) 64) <|
    znm (x_2 * ((S_9.1 30 (((r_5 * (8 : Int32)) + r_8).toNatClampNeg)).toInt64)) fun x_12 =>
    znm (x_3 + (1 : Int32)) fun x_13 =>
    fx_Rises_above_L21 a_1 n_21 x_12 x_13 S_9)
def fx_Rises_above (S_0 : zSt) (a_1 : Int32) : Option (Int64 × zSt) :=
  zck (zix a_1 9) <|
  if (S_0.1 9 (a_1.toNatClampNeg)) = (S_0.1 1 1) then (
  fx_Rises_above_L21 a_1 zFU (1 : Int64) (0 : Int32) S_0) else (
  some ((0 : Int64), S_0))
set_option maxHeartbeats 4000000 in
set_option maxRecDepth 100000 in
theorem cx_Rises_above (l : Launch) (D : va_G) (K : (Nat → Nat) × (Nat → Nat)) (cy : Nat → ClassId) (ad : Nat → Nat) (S_0 : zSt) (a_1 : Int32) (ro : Int64) (So : zSt) (hf : fx_Rises_above S_0 a_1 = some (ro, So)) : zML l yX5_above (zws yX5_above cX5_above 7 (Option.some .long)) ({ frames := 1, cells := 0, slots := 0, locals := 22 }) D (zTy cy) K (zX cy ad) [.ref (ad 29), .ref (ad 4), .int a_1, .ref (ad 1)] S_0 ro So := by
  refine z_metL (own := RX5) (lv := [(0, .ref (ad 29)), (1, .ref (ad 4)), (2, .int a_1), (3, .ref (ad 1))]) (by decide) rfl rfl (Nat.le_of_ble_eq_true rfl) rfl ?_
  intro p e s m below meth c A Q X hK hE hD hA hret hP hS ls hl
  obtain ⟨hx, hb, hml, hown, hts⟩ := id X
  have k0 := (fun w h => List.mem_cons_of_mem _ (zFX2 w h) : ∀ w ∈ u_ws RX2 TX2 7, w ∈ zws yX5_above cX5_above 7 (Option.some .long))
  have k1 := hts _ (List.mem_cons_of_mem _ wt_1_80)
  have k2 := (fun w h => List.mem_cons_of_mem _ (zFX9 w h) : ∀ w ∈ u_ws RX9 TX9 2, w ∈ zws yX5_above cX5_above 7 (Option.some .long))
  have k3 := hts _ (List.mem_cons_of_mem _ wt_1_40)
  have k4 := (fun w h => List.mem_cons_of_mem _ (zFX5 w h) : ∀ w ∈ u_ws RX5 TX5 1, w ∈ zws yX5_above cX5_above 7 (Option.some .long))
  have k5 := hts _ (List.mem_cons_of_mem _ wt_1_227)
  refine lv_aload_n hx hb dX5_above_0 rfl (lv_at hl 1 rfl) ?_
  refine va_get (D := D) (ci := 2) (v := .ref (ad 9)) (C := RX2) (T := TX2) (N := 7) hx hb hts k0 hown hK hP 4 (zX_4 cy ad S_0) rfl 5 (by decide) k1 (fun _ h9 => h9) rfl dX5_above_1 ?_
  refine lv_iload_n hx hb dX5_above_4 rfl (lv_at hl 2 rfl) ?_
  obtain ⟨h_1, hf⟩ := z_ix hf
  refine z_iald hx hb hK hP 9 0 (zX_9 cy ad S_0) rfl h_1 (k := (a_1.toNatClampNeg)) rfl dX5_above_5 ?_
  refine lv_aload_n hx hb dX5_above_6 rfl (lv_at hl 3 rfl) ?_
  refine va_get (D := D) (ci := 9) (v := .int (S_0.1 1 1)) (C := RX9) (T := TX9) (N := 2) hx hb hts k2 hown hK hP 1 (zX_1 cy ad S_0) rfl 1 (by decide) k3 (fun _ h9 => h9) rfl dX5_above_7 ?_
  refine lv_icmp_eq (tgt := 15) hx hb dX5_above_10 (by decide) (fun c_15 => ?_) (fun c_15 => ?_)
  · have hf := z_it c_15 hf
    refine lv_lconst (v := 1) hx hb dX5_above_15 (by decide) ?_
    refine lv_lstore (lv' := [(4, .long (1 : Int64)), (0, .ref (ad 29)), (1, .ref (ad 4)), (2, .int a_1), (3, .ref (ad 1))]) hx hb dX5_above_16 hl (by decide) rfl (fun ls hl => ?_)
    refine lv_iconst (v := 0) hx hb dX5_above_18 (by decide) ?_
    refine lv_istore (lv' := [(6, .int (0 : Int32)), (4, .long (1 : Int64)), (0, .ref (ad 29)), (1, .ref (ad 4)), (2, .int a_1), (3, .ref (ad 1))]) hx hb dX5_above_19 hl (by decide) rfl (fun ls hl => ?_)
    have L_21 : ∀ (n_21 : Nat) (x_2 : Int64) (x_3 : Int32) (S_4 : zSt) (H : Heap) (locs : List Loc) (ls : Array Slot), fx_Rises_above_L21 a_1 n_21 x_2 x_3 S_4 = some (ro, So) → va_P D vwCl (zX cy ad S_4) H → va_S A s.heap H locs → lv_has ls 7 [(0, .ref (ad 29)), (1, .ref (ad 4)), (2, .int a_1), (3, .ref (ad 1)), (4, .long x_2), (6, .int x_3)] → W p l e ({ frames := 1, cells := 0, slots := 0, locals := 22 }) s m ([.ref (ad 29), .ref (ad 4), .int a_1, .ref (ad 1)] : List Value).toArray below meth c H locs 0 0 Q (F0 m 21 ls []) := by
      intro n_21
      induction n_21 with
      | zero =>
        intro x_2 x_3 S_4 H locs ls hf hP hS hl
        exact z_no hf
      | succ n_21 ih_21 =>
        intro x_2 x_3 S_4 H locs ls hf hP hS hl
        rw [fx_Rises_above_L21] at hf
        refine lv_iload hx hb dX5_above_21 (lv_at hl 5 rfl) ?_
        refine lv_aload_n hx hb dX5_above_23 rfl (lv_at hl 3 rfl) ?_
        refine va_get (D := D) (ci := 9) (v := .int (S_4.1 1 1)) (C := RX9) (T := TX9) (N := 2) hx hb hts k2 hown hK hP 1 (zX_1 cy ad S_4) rfl 1 (by decide) k3 (fun _ h9 => h9) rfl dX5_above_24 ?_
        refine lv_icmp_ge (tgt := 64) hx hb dX5_above_27 (by decide) (fun c_14 => ?_) (fun c_14 => ?_)
        · have hf := z_it c_14 hf
          refine lv_lload hx hb dX5_above_64 (lv_at hl 4 rfl) ?_
          obtain ⟨h1, h2⟩ := z_s2 hf
          subst h1 h2
          exact hret _ _ _ _ hP hS dX5_above_66
        · have hf := z_if c_14 hf
          refine lv_lload hx hb dX5_above_30 (lv_at hl 4 rfl) ?_
          refine lv_aload_n hx hb dX5_above_32 rfl (lv_at hl 0 rfl) ?_
          refine va_get (D := D) (ci := 5) (v := .ref (ad 30)) (C := RX5) (T := TX5) (N := 1) hx hb hts k4 hown hK hP 29 (zX_29 cy ad S_4) rfl 0 (by decide) k5 (fun _ h9 => h9) rfl dX5_above_33 ?_
          refine lv_aload_n hx hb dX5_above_36 rfl (lv_at hl 1 rfl) ?_
          refine lv_iload_n hx hb dX5_above_37 rfl (lv_at hl 2 rfl) ?_
          refine lv_iload hx hb dX5_above_38 (lv_at hl 5 rfl) ?_
          obtain ⟨r_5, S_6, h_7, hf⟩ := z_bd hf
          refine z_cVI (As := [.int a_1, .int x_3]) (rest := [.ref (ad 30), .long x_2]) X hK hE hD hA hP hS (cx_Houses_letterOf l D K cy ad S_4 _ _ _ _ h_7) (cwV 2 hts (z_gV wt_5_19 wt_4_88 wt_4_89 wt_1_4 wt_4_90) rfl rfl rfl ⟨rfl, yd_yX2_letterOf⟩ ⟨Nat.le_of_ble_eq_true rfl, Nat.le_of_ble_eq_true rfl⟩) (va_recv hK hP (ci := 2) (q0 := 4) rfl (zX_4 cy ad S_4)) hl.1 rfl rfl (Nat.le_of_ble_eq_true rfl) dX5_above_40 (fun H locs hP hS => ?_)
          refine lv_bipush (v := 8) hx hb dX5_above_43 (by decide) ?_
          refine lv_imul hx hb dX5_above_45 ?_
          refine lv_aload_n hx hb dX5_above_46 rfl (lv_at hl 3 rfl) ?_
          refine lv_iload hx hb dX5_above_47 (lv_at hl 5 rfl) ?_
          obtain ⟨r_8, S_9, h_10, hf⟩ := z_bd hf
          refine z_cVI (As := [.int x_3]) (rest := [.int (r_5 * (8 : Int32)), .ref (ad 30), .long x_2]) X hK hE hD hA hP hS (cx_Tape_letterAt l D K cy ad S_6 _ _ _ h_10) (cwV 1 hts (z_gV wt_5_20 wt_2_227 wt_2_228 wt_1_2 wt_2_229) rfl rfl rfl ⟨rfl, yd_yX9_letterAt⟩ ⟨Nat.le_of_ble_eq_true rfl, Nat.le_of_ble_eq_true rfl⟩) (va_recv hK hP (ci := 9) (q0 := 1) rfl (zX_1 cy ad S_6)) hl.1 rfl rfl (Nat.le_of_ble_eq_true rfl) dX5_above_49 (fun H locs hP hS => ?_)
          refine lv_iadd hx hb dX5_above_52 ?_
          obtain ⟨h_11, hf⟩ := z_ix hf
          refine z_iald hx hb hK hP 30 0 (zX_30 cy ad S_9) rfl h_11 (k := (((r_5 * (8 : Int32)) + r_8).toNatClampNeg)) rfl dX5_above_53 ?_
          refine lv_i2l hx hb dX5_above_54 rfl ?_
          refine lv_lmul hx hb dX5_above_55 ?_
          refine lv_topl (fun x_12 ex_12 => ?_)
          have hf := z_nv ex_12 hf
          refine lv_lstore (lv' := [(4, .long x_12), (0, .ref (ad 29)), (1, .ref (ad 4)), (2, .int a_1), (3, .ref (ad 1)), (6, .int x_3)]) hx hb dX5_above_56 hl (by decide) rfl (fun ls hl => ?_)
          obtain ⟨x_13, ex_13, hf⟩ := z_nm hf
          refine lv_iinc (v := x_13) (lv' := [(6, .int x_13), (4, .long x_12), (0, .ref (ad 29)), (1, .ref (ad 4)), (2, .int a_1), (3, .ref (ad 1))]) hx hb dX5_above_58 hl (k := 5) rfl (by rw [ex_13]; rfl) (by decide) rfl (fun ls hl => ?_)
          refine lv_goto (tgt := 21) hx hb dX5_above_61 (by decide) ?_
          exact ih_21 x_12 x_13 S_9 _ _ _ hf hP hS (lv_sub hl [2, 3, 4, 5, 1, 0] rfl)
    exact L_21 zFU (1 : Int64) (0 : Int32) S_0 _ _ _ hf hP hS (lv_sub hl [2, 3, 4, 5, 1, 0] rfl)
  · have hf := z_if c_15 hf
    refine lv_lconst (v := 0) hx hb dX5_above_13 (by decide) ?_
    obtain ⟨h1, h2⟩ := z_s2 hf
    subst h1 h2
    exact hret _ _ _ _ hP hS dX5_above_14
theorem yd_yX5_allOf : (yX5_allOf).cls ≠ "java/lang/invoke/MethodHandle" ∧ (yX5_allOf).cls ≠ "java/lang/invoke/VarHandle" ∧ (parseMethodDescriptor (yX5_allOf).desc).map (fun d => d.parameters.length) = some 1 := by decide +kernel
def fx_Rises_allOf_L4 (a_1 : Int32) : Nat → Int32 → Int32 → zSt → Option (Int32 × zSt)
  | 0, _, _, _ => none
  | n_4 + 1, x_1, x_2, S_3 =>
    if (8 : Int32) ≤ x_2 then (
    some (x_1, S_3)) else (
    zck (zix ((a_1 * (8 : Int32)) + x_2) 64) <|
    znm (x_1 + (S_3.1 30 (((a_1 * (8 : Int32)) + x_2).toNatClampNeg))) fun x_5 =>
    znm (x_2 + (1 : Int32)) fun x_6 =>
    fx_Rises_allOf_L4 a_1 n_4 x_5 x_6 S_3)
def fx_Rises_allOf (S_0 : zSt) (a_1 : Int32) : Option (Int32 × zSt) :=
  fx_Rises_allOf_L4 a_1 zFU (0 : Int32) (0 : Int32) S_0
set_option maxHeartbeats 4000000 in
set_option maxRecDepth 100000 in
theorem cx_Rises_allOf (l : Launch) (D : va_G) (K : (Nat → Nat) × (Nat → Nat)) (cy : Nat → ClassId) (ad : Nat → Nat) (S_0 : zSt) (a_1 : Int32) (ro : Int32) (So : zSt) (hf : fx_Rises_allOf S_0 a_1 = some (ro, So)) : zMI l yX5_allOf (zws yX5_allOf cX5_allOf 4 (Option.some .int)) ({ frames := 0, cells := 0, slots := 0, locals := 0 }) D (zTy cy) K (zX cy ad) [.ref (ad 29), .int a_1] S_0 ro So := by
  refine z_metI (own := RX5) (lv := [(0, .ref (ad 29)), (1, .int a_1)]) (by decide) rfl rfl (Nat.le_of_ble_eq_true rfl) rfl ?_
  intro p e s m below meth c A Q X hK hE hD hA hret hP hS ls hl
  obtain ⟨hx, hb, hml, hown, hts⟩ := id X
  have k0 := (fun w h => List.mem_cons_of_mem _ (zFX5 w h) : ∀ w ∈ u_ws RX5 TX5 1, w ∈ zws yX5_allOf cX5_allOf 4 (Option.some .int))
  have k1 := hts _ (List.mem_cons_of_mem _ wt_1_227)
  refine lv_iconst (v := 0) hx hb dX5_allOf_0 (by decide) ?_
  refine lv_istore_n (lv' := [(2, .int (0 : Int32)), (0, .ref (ad 29)), (1, .int a_1)]) hx hb dX5_allOf_1 rfl hl (by decide) rfl (fun ls hl => ?_)
  refine lv_iconst (v := 0) hx hb dX5_allOf_2 (by decide) ?_
  refine lv_istore_n (lv' := [(3, .int (0 : Int32)), (2, .int (0 : Int32)), (0, .ref (ad 29)), (1, .int a_1)]) hx hb dX5_allOf_3 rfl hl (by decide) rfl (fun ls hl => ?_)
  have L_4 : ∀ (n_4 : Nat) (x_1 : Int32) (x_2 : Int32) (S_3 : zSt) (H : Heap) (locs : List Loc) (ls : Array Slot), fx_Rises_allOf_L4 a_1 n_4 x_1 x_2 S_3 = some (ro, So) → va_P D vwCl (zX cy ad S_3) H → va_S A s.heap H locs → lv_has ls 4 [(0, .ref (ad 29)), (1, .int a_1), (2, .int x_1), (3, .int x_2)] → W p l e ({ frames := 0, cells := 0, slots := 0, locals := 0 }) s m ([.ref (ad 29), .int a_1] : List Value).toArray below meth c H locs 0 0 Q (F0 m 4 ls []) := by
    intro n_4
    induction n_4 with
    | zero =>
      intro x_1 x_2 S_3 H locs ls hf hP hS hl
      exact z_no hf
    | succ n_4 ih_4 =>
      intro x_1 x_2 S_3 H locs ls hf hP hS hl
      rw [fx_Rises_allOf_L4] at hf
      refine lv_iload_n hx hb dX5_allOf_4 rfl (lv_at hl 3 rfl) ?_
      refine lv_bipush (v := 8) hx hb dX5_allOf_5 (by decide) ?_
      refine lv_icmp_ge (tgt := 30) hx hb dX5_allOf_7 (by decide) (fun c_7 => ?_) (fun c_7 => ?_)
      · have hf := z_it c_7 hf
        refine lv_iload_n hx hb dX5_allOf_30 rfl (lv_at hl 2 rfl) ?_
        obtain ⟨h1, h2⟩ := z_s2 hf
        subst h1 h2
        exact hret _ _ _ _ hP hS dX5_allOf_31
      · have hf := z_if c_7 hf
        refine lv_iload_n hx hb dX5_allOf_10 rfl (lv_at hl 2 rfl) ?_
        refine lv_aload_n hx hb dX5_allOf_11 rfl (lv_at hl 0 rfl) ?_
        refine va_get (D := D) (ci := 5) (v := .ref (ad 30)) (C := RX5) (T := TX5) (N := 1) hx hb hts k0 hown hK hP 29 (zX_29 cy ad S_3) rfl 0 (by decide) k1 (fun _ h9 => h9) rfl dX5_allOf_12 ?_
        refine lv_iload_n hx hb dX5_allOf_15 rfl (lv_at hl 1 rfl) ?_
        refine lv_bipush (v := 8) hx hb dX5_allOf_16 (by decide) ?_
        refine lv_imul hx hb dX5_allOf_18 ?_
        refine lv_iload_n hx hb dX5_allOf_19 rfl (lv_at hl 3 rfl) ?_
        refine lv_iadd hx hb dX5_allOf_20 ?_
        obtain ⟨h_4, hf⟩ := z_ix hf
        refine z_iald hx hb hK hP 30 0 (zX_30 cy ad S_3) rfl h_4 (k := (((a_1 * (8 : Int32)) + x_2).toNatClampNeg)) rfl dX5_allOf_21 ?_
        refine lv_iadd hx hb dX5_allOf_22 ?_
        refine lv_topi (fun x_5 ex_5 => ?_)
        have hf := z_nv ex_5 hf
        refine lv_istore_n (lv' := [(2, .int x_5), (0, .ref (ad 29)), (1, .int a_1), (3, .int x_2)]) hx hb dX5_allOf_23 rfl hl (by decide) rfl (fun ls hl => ?_)
        obtain ⟨x_6, ex_6, hf⟩ := z_nm hf
        refine lv_iinc (v := x_6) (lv' := [(3, .int x_6), (2, .int x_5), (0, .ref (ad 29)), (1, .int a_1)]) hx hb dX5_allOf_24 hl (k := 3) rfl (by rw [ex_6]; rfl) (by decide) rfl (fun ls hl => ?_)
        refine lv_goto (tgt := 4) hx hb dX5_allOf_27 (by decide) ?_
        exact ih_4 x_5 x_6 S_3 _ _ _ hf hP hS (lv_sub hl [2, 3, 1, 0] rfl)
  exact L_4 zFU (0 : Int32) (0 : Int32) S_0 _ _ _ hf hP hS (lv_sub hl [2, 3, 1, 0] rfl)
theorem yd_yX5_below : (yX5_below).cls ≠ "java/lang/invoke/MethodHandle" ∧ (yX5_below).cls ≠ "java/lang/invoke/VarHandle" ∧ (parseMethodDescriptor (yX5_below).desc).map (fun d => d.parameters.length) = some 3 := by decide +kernel
def fx_Rises_below_L14 (a_1 : Int32) : Nat → Int64 → Int32 → zSt → Option (Int64 × zSt)
  | 0, _, _, _ => none
  | n_14 + 1, x_1, x_2, S_3 =>
    zck (zix a_1 9) <|
    if (S_3.1 9 (a_1.toNatClampNeg)) ≤ x_2 then (
    some (x_1, S_3)) else (
    zbd (fx_Houses_letterOf S_3 a_1 x_2) fun r_5 S_6 =>
    zbd (fx_Rises_allOf S_6 r_5) fun r_8 S_9 =>
    znm (x_1 * r_8.toInt64) fun x_11 =>
    znm (x_2 + (1 : Int32)) fun x_12 =>
    fx_Rises_below_L14 a_1 n_14 x_11 x_12 S_9)
def fx_Rises_below (S_0 : zSt) (a_1 : Int32) (a_2 : Int64) : Option (Int64 × zSt) :=
  if (lg_cmp a_2 (0 : Int64)) = 0 then (
  some ((1 : Int64), S_0)) else (
  fx_Rises_below_L14 a_1 zFU (1 : Int64) (0 : Int32) S_0)
set_option maxHeartbeats 4000000 in
set_option maxRecDepth 100000 in
theorem cx_Rises_below (l : Launch) (D : va_G) (K : (Nat → Nat) × (Nat → Nat)) (cy : Nat → ClassId) (ad : Nat → Nat) (S_0 : zSt) (a_1 : Int32) (a_2 : Int64) (ro : Int64) (So : zSt) (hf : fx_Rises_below S_0 a_1 a_2 = some (ro, So)) : zML l yX5_below (zws yX5_below cX5_below 8 (Option.some .long)) ({ frames := 1, cells := 0, slots := 0, locals := 23 }) D (zTy cy) K (zX cy ad) [.ref (ad 29), .ref (ad 4), .int a_1, .long a_2] S_0 ro So := by
  refine z_metL (own := RX5) (lv := [(0, .ref (ad 29)), (1, .ref (ad 4)), (2, .int a_1), (3, .long a_2)]) (by decide) rfl rfl (Nat.le_of_ble_eq_true rfl) rfl ?_
  intro p e s m below meth c A Q X hK hE hD hA hret hP hS ls hl
  obtain ⟨hx, hb, hml, hown, hts⟩ := id X
  have k0 := (fun w h => List.mem_cons_of_mem _ (zFX2 w h) : ∀ w ∈ u_ws RX2 TX2 7, w ∈ zws yX5_below cX5_below 8 (Option.some .long))
  have k1 := hts _ (List.mem_cons_of_mem _ wt_1_80)
  refine lv_lload_n hx hb dX5_below_0 rfl (lv_at hl 3 rfl) ?_
  refine lv_lconst (v := 0) hx hb dX5_below_1 (by decide) ?_
  refine W.lcmp hx hb dX5_below_2 ?_
  refine lv_if_ne (tgt := 8) hx hb dX5_below_3 (by decide) (fun c_14 => ?_) (fun c_14 => ?_)
  · have hf := z_if c_14 hf
    refine lv_lconst (v := 1) hx hb dX5_below_8 (by decide) ?_
    refine lv_lstore (lv' := [(5, .long (1 : Int64)), (0, .ref (ad 29)), (1, .ref (ad 4)), (2, .int a_1), (3, .long a_2)]) hx hb dX5_below_9 hl (by decide) rfl (fun ls hl => ?_)
    refine lv_iconst (v := 0) hx hb dX5_below_11 (by decide) ?_
    refine lv_istore (lv' := [(7, .int (0 : Int32)), (5, .long (1 : Int64)), (0, .ref (ad 29)), (1, .ref (ad 4)), (2, .int a_1), (3, .long a_2)]) hx hb dX5_below_12 hl (by decide) rfl (fun ls hl => ?_)
    have L_14 : ∀ (n_14 : Nat) (x_1 : Int64) (x_2 : Int32) (S_3 : zSt) (H : Heap) (locs : List Loc) (ls : Array Slot), fx_Rises_below_L14 a_1 n_14 x_1 x_2 S_3 = some (ro, So) → va_P D vwCl (zX cy ad S_3) H → va_S A s.heap H locs → lv_has ls 8 [(0, .ref (ad 29)), (1, .ref (ad 4)), (2, .int a_1), (5, .long x_1), (7, .int x_2)] → W p l e ({ frames := 1, cells := 0, slots := 0, locals := 23 }) s m ([.ref (ad 29), .ref (ad 4), .int a_1, .long a_2] : List Value).toArray below meth c H locs 0 0 Q (F0 m 14 ls []) := by
      intro n_14
      induction n_14 with
      | zero =>
        intro x_1 x_2 S_3 H locs ls hf hP hS hl
        exact z_no hf
      | succ n_14 ih_14 =>
        intro x_1 x_2 S_3 H locs ls hf hP hS hl
        rw [fx_Rises_below_L14] at hf
        refine lv_iload hx hb dX5_below_14 (lv_at hl 4 rfl) ?_
        refine lv_aload_n hx hb dX5_below_16 rfl (lv_at hl 1 rfl) ?_
        refine va_get (D := D) (ci := 2) (v := .ref (ad 9)) (C := RX2) (T := TX2) (N := 7) hx hb hts k0 hown hK hP 4 (zX_4 cy ad S_3) rfl 5 (by decide) k1 (fun _ h9 => h9) rfl dX5_below_17 ?_
        refine lv_iload_n hx hb dX5_below_20 rfl (lv_at hl 2 rfl) ?_
        obtain ⟨h_4, hf⟩ := z_ix hf
        refine z_iald hx hb hK hP 9 0 (zX_9 cy ad S_3) rfl h_4 (k := (a_1.toNatClampNeg)) rfl dX5_below_21 ?_
        refine lv_icmp_ge (tgt := 48) hx hb dX5_below_22 (by decide) (fun c_13 => ?_) (fun c_13 => ?_)
        · have hf := z_it c_13 hf
          refine lv_lload hx hb dX5_below_48 (lv_at hl 3 rfl) ?_
          obtain ⟨h1, h2⟩ := z_s2 hf
          subst h1 h2
          exact hret _ _ _ _ hP hS dX5_below_50
        · have hf := z_if c_13 hf
          refine lv_lload hx hb dX5_below_25 (lv_at hl 3 rfl) ?_
          refine lv_aload_n hx hb dX5_below_27 rfl (lv_at hl 0 rfl) ?_
          refine lv_aload_n hx hb dX5_below_28 rfl (lv_at hl 1 rfl) ?_
          refine lv_iload_n hx hb dX5_below_29 rfl (lv_at hl 2 rfl) ?_
          refine lv_iload hx hb dX5_below_30 (lv_at hl 4 rfl) ?_
          obtain ⟨r_5, S_6, h_7, hf⟩ := z_bd hf
          refine z_cVI (As := [.int a_1, .int x_2]) (rest := [.ref (ad 29), .long x_1]) X hK hE hD hA hP hS (cx_Houses_letterOf l D K cy ad S_3 _ _ _ _ h_7) (cwV 2 hts (z_gV wt_5_19 wt_4_88 wt_4_89 wt_1_4 wt_4_90) rfl rfl rfl ⟨rfl, yd_yX2_letterOf⟩ ⟨Nat.le_of_ble_eq_true rfl, Nat.le_of_ble_eq_true rfl⟩) (va_recv hK hP (ci := 2) (q0 := 4) rfl (zX_4 cy ad S_3)) hl.1 rfl rfl (Nat.le_of_ble_eq_true rfl) dX5_below_32 (fun H locs hP hS => ?_)
          obtain ⟨r_8, S_9, h_10, hf⟩ := z_bd hf
          refine z_cVI (As := [.int r_5]) (rest := [.long x_1]) X hK hE hD hA hP hS (cx_Rises_allOf l D K cy ad S_6 _ _ _ h_10) (cwV 1 hts (z_gV wt_5_25 wt_5_27 wp_44 wt_1_8 wt_5_28) rfl rfl rfl ⟨rfl, yd_yX5_allOf⟩ ⟨Nat.le_of_ble_eq_true rfl, Nat.le_of_ble_eq_true rfl⟩) (va_recv hK hP (ci := 5) (q0 := 29) rfl (zX_29 cy ad S_6)) hl.1 rfl rfl (Nat.le_of_ble_eq_true rfl) dX5_below_35 (fun H locs hP hS => ?_)
          refine lv_i2l hx hb dX5_below_38 rfl ?_
          refine lv_lmul hx hb dX5_below_39 ?_
          refine lv_topl (fun x_11 ex_11 => ?_)
          have hf := z_nv ex_11 hf
          refine lv_lstore (lv' := [(5, .long x_11), (0, .ref (ad 29)), (1, .ref (ad 4)), (2, .int a_1), (7, .int x_2)]) hx hb dX5_below_40 hl (by decide) rfl (fun ls hl => ?_)
          obtain ⟨x_12, ex_12, hf⟩ := z_nm hf
          refine lv_iinc (v := x_12) (lv' := [(7, .int x_12), (5, .long x_11), (0, .ref (ad 29)), (1, .ref (ad 4)), (2, .int a_1)]) hx hb dX5_below_42 hl (k := 4) rfl (by rw [ex_12]; rfl) (by decide) rfl (fun ls hl => ?_)
          refine lv_goto (tgt := 14) hx hb dX5_below_45 (by decide) ?_
          exact ih_14 x_11 x_12 S_9 _ _ _ hf hP hS (lv_sub hl [2, 3, 4, 1, 0] rfl)
    exact L_14 zFU (1 : Int64) (0 : Int32) S_0 _ _ _ hf hP hS (lv_sub hl [2, 3, 4, 1, 0] rfl)
  · have hf := z_it c_14 hf
    refine lv_lconst (v := 1) hx hb dX5_below_6 (by decide) ?_
    obtain ⟨h1, h2⟩ := z_s2 hf
    subst h1 h2
    exact hret _ _ _ _ hP hS dX5_below_7
theorem yd_yJ13_compare_74951 : (yJ13_compare_74951).cls ≠ "java/lang/invoke/MethodHandle" ∧ (yJ13_compare_74951).cls ≠ "java/lang/invoke/VarHandle" ∧ (parseMethodDescriptor (yJ13_compare_74951).desc).map (fun d => d.parameters.length) = some 2 := by decide +kernel
def fj_compare_74951 (S_0 : zSt) (a_1 : Int64) (a_2 : Int64) : Option (Int32 × zSt) :=
  znm (fun (x_1 : Int32) (S_2 : zSt) =>
  some (x_1, S_2)) fun j_21 =>
  if 0 ≤ (lg_cmp a_1 a_2) then (
  if (lg_cmp a_1 a_2) = 0 then (
  j_21 (0 : Int32) S_0) else (
  j_21 (1 : Int32) S_0)) else (
  j_21 (-1 : Int32) S_0)
set_option maxHeartbeats 4000000 in
set_option maxRecDepth 100000 in
theorem cj_compare_74951 (l : Launch) (D : va_G) (K : (Nat → Nat) × (Nat → Nat)) (tys : List (ClassId × FieldType)) (N : Nat) (ad : Nat → Nat) (C : Nat → (Nat → Int32) → (Nat → Int64) → va_E) (S_0 : zSt) (a_1 : Int64) (a_2 : Int64) (ro : Int32) (So : zSt) (hf : fj_compare_74951 S_0 a_1 a_2 = some (ro, So)) : zMI l yJ13_compare_74951 (zws yJ13_compare_74951 cJ13_compare_74951 4 (Option.some .int)) ({ frames := 0, cells := 0, slots := 0, locals := 0 }) D tys K (zW N ad C) [.long a_1, .long a_2] S_0 ro So := by
  refine z_metI (own := RJ13) (lv := [(0, .long a_1), (2, .long a_2)]) (by decide) rfl rfl (Nat.le_of_ble_eq_true rfl) rfl ?_
  intro p e s m below meth c A Q X hK hE hD hA hret hP hS ls hl
  obtain ⟨hx, hb, hml, hown, hts⟩ := id X
  refine lv_lload_n hx hb dJ13_compare_74951_0 rfl (lv_at hl 0 rfl) ?_
  refine lv_lload_n hx hb dJ13_compare_74951_1 rfl (lv_at hl 1 rfl) ?_
  refine W.lcmp hx hb dJ13_compare_74951_2 ?_
  obtain ⟨j_21, ej_21, hf⟩ := z_nm hf
  have J_21 : ∀ (x_1 : Int32) (S_2 : zSt) (H : Heap) (locs : List Loc) (ls : Array Slot), j_21 x_1 S_2 = some (ro, So) → va_P D vwCl (zW N ad C S_2) H → va_S A s.heap H locs → lv_has ls 4 [] → W p l e ({ frames := 0, cells := 0, slots := 0, locals := 0 }) s m ([.long a_1, .long a_2] : List Value).toArray below meth c H locs 0 0 Q (F0 m 21 ls [.int x_1]) := by
    intro x_1 S_2 H locs ls hf hP hS hl
    have hf := z_e2 ej_21 hf
    obtain ⟨h1, h2⟩ := z_s2 hf
    subst h1 h2
    exact hret _ _ _ _ hP hS dJ13_compare_74951_21
  refine lv_if_ge (tgt := 10) hx hb dJ13_compare_74951_3 (by decide) (fun c_4 => ?_) (fun c_4 => ?_)
  · have hf := z_it c_4 hf
    refine lv_lload_n hx hb dJ13_compare_74951_10 rfl (lv_at hl 0 rfl) ?_
    refine lv_lload_n hx hb dJ13_compare_74951_11 rfl (lv_at hl 1 rfl) ?_
    refine W.lcmp hx hb dJ13_compare_74951_12 ?_
    refine lv_if_ne (tgt := 20) hx hb dJ13_compare_74951_13 (by decide) (fun c_3 => ?_) (fun c_3 => ?_)
    · have hf := z_if c_3 hf
      refine lv_iconst (v := 1) hx hb dJ13_compare_74951_20 (by decide) ?_
      exact J_21 (1 : Int32) S_0 _ _ _ hf hP hS (lv_sub hl [] rfl)
    · have hf := z_it c_3 hf
      refine lv_iconst (v := 0) hx hb dJ13_compare_74951_16 (by decide) ?_
      refine lv_goto (tgt := 21) hx hb dJ13_compare_74951_17 (by decide) ?_
      exact J_21 (0 : Int32) S_0 _ _ _ hf hP hS (lv_sub hl [] rfl)
  · have hf := z_if c_4 hf
    refine lv_iconst (v := -1) hx hb dJ13_compare_74951_6 (by decide) ?_
    refine lv_goto (tgt := 21) hx hb dJ13_compare_74951_7 (by decide) ?_
    exact J_21 (-1 : Int32) S_0 _ _ _ hf hP hS (lv_sub hl [] rfl)
theorem yd_yX5_likeliest : (yX5_likeliest).cls ≠ "java/lang/invoke/MethodHandle" ∧ (yX5_likeliest).cls ≠ "java/lang/invoke/VarHandle" ∧ (parseMethodDescriptor (yX5_likeliest).desc).map (fun d => d.parameters.length) = some 3 := by decide +kernel
def fx_Rises_likeliest_L15 (a_1 : Int32) (j_105 : Int32 → Int32 → zSt → Option (Int32 × zSt)) : Nat → Int32 → Int32 → Int64 → Int64 → Int32 → zSt → Option (Int32 × zSt)
  | 0, _, _, _, _, _, _ => none
  | n_15 + 1, x_8, x_9, x_10, x_11, x_12, S_13 =>
    if (S_13.1 4 0) ≤ x_12 then (
    j_105 x_8 x_9 S_13) else (
    zbd (fx_Rises_above S_13 x_12) fun r_14 S_15 =>
    zbd (fx_Rises_below S_15 x_12 r_14) fun r_17 S_18 =>
    zbd (fj_compare_74951 S_18 (r_14 * x_11) (x_10 * r_17)) fun r_20 S_21 =>
    znm (fun (x_23 : Int32) (x_24 : Int64) (x_25 : Int64) (S_26 : zSt) =>
    znm (fun (x_27 : Int32) (S_28 : zSt) =>
    znm (x_12 + (1 : Int32)) fun x_29 =>
    fx_Rises_likeliest_L15 a_1 j_105 n_15 x_23 x_27 x_24 x_25 x_29 S_28) fun j_97 =>
    znm (fun (S_30 : zSt) =>
    j_97 (1 : Int32) S_30) fun j_92 =>
    if 0 < r_20 then (
    j_92  S_26) else (
    znm (fun (S_31 : zSt) =>
    j_97 (0 : Int32) S_31) fun j_96 =>
    if x_9 = 0 then (
    j_96  S_26) else (
    if 0 ≤ r_20 then (
    j_96  S_26) else (
    j_92  S_26)))) fun j_77 =>
    if r_20 ≤ 0 then (
    j_77 x_8 x_10 x_11 S_21) else (
    j_77 x_12 r_14 r_17 S_21))
def fx_Rises_likeliest (S_0 : zSt) (a_1 : Int32) : Option (Int32 × zSt) :=
  znm (fun (x_1 : Int32) (x_2 : Int32) (S_3 : zSt) =>
  if a_1 = 0 then (
  some (x_1, S_3)) else (
  znm (fun (x_4 : Int32) (S_5 : zSt) =>
  some (x_4, S_5)) fun j_119 =>
  if x_2 = 0 then (
  j_119 (0 : Int32) S_3) else (
  j_119 (1 : Int32) S_3))) fun j_105 =>
  fx_Rises_likeliest_L15 a_1 j_105 zFU (-1 : Int32) (0 : Int32) (0 : Int64) (1 : Int64) (0 : Int32) S_0
set_option maxHeartbeats 4000000 in
set_option maxRecDepth 100000 in
theorem cx_Rises_likeliest (l : Launch) (D : va_G) (K : (Nat → Nat) × (Nat → Nat)) (cy : Nat → ClassId) (ad : Nat → Nat) (S_0 : zSt) (a_1 : Int32) (ro : Int32) (So : zSt) (hf : fx_Rises_likeliest S_0 a_1 = some (ro, So)) : zMI l yX5_likeliest (zws yX5_likeliest cX5_likeliest 16 (Option.some .int)) ({ frames := 2, cells := 0, slots := 0, locals := 50 }) D (zTy cy) K (zX cy ad) [.ref (ad 29), .ref (ad 4), .ref (ad 1), .int a_1] S_0 ro So := by
  refine z_metI (own := RX5) (lv := [(0, .ref (ad 29)), (1, .ref (ad 4)), (2, .ref (ad 1)), (3, .int a_1)]) (by decide) rfl rfl (Nat.le_of_ble_eq_true rfl) rfl ?_
  intro p e s m below meth c A Q X hK hE hD hA hret hP hS ls hl
  obtain ⟨hx, hb, hml, hown, hts⟩ := id X
  have k0 := (fun w h => List.mem_cons_of_mem _ (zFX2 w h) : ∀ w ∈ u_ws RX2 TX2 7, w ∈ zws yX5_likeliest cX5_likeliest 16 (Option.some .int))
  have k1 := hts _ (List.mem_cons_of_mem _ wt_1_67)
  refine lv_iconst (v := -1) hx hb dX5_likeliest_0 (by decide) ?_
  refine lv_istore (lv' := [(4, .int (-1 : Int32)), (0, .ref (ad 29)), (1, .ref (ad 4)), (2, .ref (ad 1)), (3, .int a_1)]) hx hb dX5_likeliest_1 hl (by decide) rfl (fun ls hl => ?_)
  refine lv_iconst (v := 0) hx hb dX5_likeliest_3 (by decide) ?_
  refine lv_istore (lv' := [(5, .int (0 : Int32)), (4, .int (-1 : Int32)), (0, .ref (ad 29)), (1, .ref (ad 4)), (2, .ref (ad 1)), (3, .int a_1)]) hx hb dX5_likeliest_4 hl (by decide) rfl (fun ls hl => ?_)
  refine lv_lconst (v := 0) hx hb dX5_likeliest_6 (by decide) ?_
  refine lv_lstore (lv' := [(6, .long (0 : Int64)), (5, .int (0 : Int32)), (4, .int (-1 : Int32)), (0, .ref (ad 29)), (1, .ref (ad 4)), (2, .ref (ad 1)), (3, .int a_1)]) hx hb dX5_likeliest_7 hl (by decide) rfl (fun ls hl => ?_)
  refine lv_lconst (v := 1) hx hb dX5_likeliest_9 (by decide) ?_
  refine lv_lstore (lv' := [(8, .long (1 : Int64)), (6, .long (0 : Int64)), (5, .int (0 : Int32)), (4, .int (-1 : Int32)), (0, .ref (ad 29)), (1, .ref (ad 4)), (2, .ref (ad 1)), (3, .int a_1)]) hx hb dX5_likeliest_10 hl (by decide) rfl (fun ls hl => ?_)
  refine lv_iconst (v := 0) hx hb dX5_likeliest_12 (by decide) ?_
  refine lv_istore (lv' := [(10, .int (0 : Int32)), (8, .long (1 : Int64)), (6, .long (0 : Int64)), (5, .int (0 : Int32)), (4, .int (-1 : Int32)), (0, .ref (ad 29)), (1, .ref (ad 4)), (2, .ref (ad 1)), (3, .int a_1)]) hx hb dX5_likeliest_13 hl (by decide) rfl (fun ls hl => ?_)
  obtain ⟨j_105, ej_105, hf⟩ := z_nm hf
  have J_105 : ∀ (x_1 : Int32) (x_2 : Int32) (S_3 : zSt) (H : Heap) (locs : List Loc) (ls : Array Slot), j_105 x_1 x_2 S_3 = some (ro, So) → va_P D vwCl (zX cy ad S_3) H → va_S A s.heap H locs → lv_has ls 16 [(3, .int a_1), (4, .int x_1), (5, .int x_2)] → W p l e ({ frames := 2, cells := 0, slots := 0, locals := 50 }) s m ([.ref (ad 29), .ref (ad 4), .ref (ad 1), .int a_1] : List Value).toArray below meth c H locs 0 0 Q (F0 m 105 ls []) := by
    intro x_1 x_2 S_3 H locs ls hf hP hS hl
    have hf := z_e3 ej_105 hf
    refine lv_iload_n hx hb dX5_likeliest_105 rfl (lv_at hl 0 rfl) ?_
    refine lv_if_eq (tgt := 120) hx hb dX5_likeliest_106 (by decide) (fun c_7 => ?_) (fun c_7 => ?_)
    · have hf := z_it c_7 hf
      refine lv_iload hx hb dX5_likeliest_120 (lv_at hl 1 rfl) ?_
      obtain ⟨h1, h2⟩ := z_s2 hf
      subst h1 h2
      exact hret _ _ _ _ hP hS dX5_likeliest_122
    · have hf := z_if c_7 hf
      refine lv_iload hx hb dX5_likeliest_109 (lv_at hl 2 rfl) ?_
      obtain ⟨j_119, ej_119, hf⟩ := z_nm hf
      have J_119 : ∀ (x_4 : Int32) (S_5 : zSt) (H : Heap) (locs : List Loc) (ls : Array Slot), j_119 x_4 S_5 = some (ro, So) → va_P D vwCl (zX cy ad S_5) H → va_S A s.heap H locs → lv_has ls 16 [] → W p l e ({ frames := 2, cells := 0, slots := 0, locals := 50 }) s m ([.ref (ad 29), .ref (ad 4), .ref (ad 1), .int a_1] : List Value).toArray below meth c H locs 0 0 Q (F0 m 119 ls [.int x_4]) := by
        intro x_4 S_5 H locs ls hf hP hS hl
        have hf := z_e2 ej_119 hf
        obtain ⟨h1, h2⟩ := z_s2 hf
        subst h1 h2
        exact hret _ _ _ _ hP hS dX5_likeliest_119
      refine lv_if_eq (tgt := 118) hx hb dX5_likeliest_111 (by decide) (fun c_6 => ?_) (fun c_6 => ?_)
      · have hf := z_it c_6 hf
        refine lv_iconst (v := 0) hx hb dX5_likeliest_118 (by decide) ?_
        exact J_119 (0 : Int32) S_3 _ _ _ hf hP hS (lv_sub hl [] rfl)
      · have hf := z_if c_6 hf
        refine lv_iconst (v := 1) hx hb dX5_likeliest_114 (by decide) ?_
        refine lv_goto (tgt := 119) hx hb dX5_likeliest_115 (by decide) ?_
        exact J_119 (1 : Int32) S_3 _ _ _ hf hP hS (lv_sub hl [] rfl)
  have L_15 : ∀ (n_15 : Nat) (x_8 : Int32) (x_9 : Int32) (x_10 : Int64) (x_11 : Int64) (x_12 : Int32) (S_13 : zSt) (H : Heap) (locs : List Loc) (ls : Array Slot), fx_Rises_likeliest_L15 a_1 j_105 n_15 x_8 x_9 x_10 x_11 x_12 S_13 = some (ro, So) → va_P D vwCl (zX cy ad S_13) H → va_S A s.heap H locs → lv_has ls 16 [(0, .ref (ad 29)), (1, .ref (ad 4)), (2, .ref (ad 1)), (3, .int a_1), (4, .int x_8), (5, .int x_9), (6, .long x_10), (8, .long x_11), (10, .int x_12)] → W p l e ({ frames := 2, cells := 0, slots := 0, locals := 50 }) s m ([.ref (ad 29), .ref (ad 4), .ref (ad 1), .int a_1] : List Value).toArray below meth c H locs 0 0 Q (F0 m 15 ls []) := by
    intro n_15
    induction n_15 with
    | zero =>
      intro x_8 x_9 x_10 x_11 x_12 S_13 H locs ls hf hP hS hl
      exact z_no hf
    | succ n_15 ih_15 =>
      intro x_8 x_9 x_10 x_11 x_12 S_13 H locs ls hf hP hS hl
      rw [fx_Rises_likeliest_L15] at hf
      refine lv_iload hx hb dX5_likeliest_15 (lv_at hl 8 rfl) ?_
      refine lv_aload_n hx hb dX5_likeliest_17 rfl (lv_at hl 1 rfl) ?_
      refine va_get (D := D) (ci := 2) (v := .int (S_13.1 4 0)) (C := RX2) (T := TX2) (N := 7) hx hb hts k0 hown hK hP 4 (zX_4 cy ad S_13) rfl 0 (by decide) k1 (fun _ h9 => h9) rfl dX5_likeliest_18 ?_
      refine lv_icmp_ge (tgt := 105) hx hb dX5_likeliest_21 (by decide) (fun c_36 => ?_) (fun c_36 => ?_)
      · have hf := z_it c_36 hf
        exact J_105 x_8 x_9 S_13 _ _ _ hf hP hS (lv_sub hl [3, 4, 5] rfl)
      · have hf := z_if c_36 hf
        refine lv_aload_n hx hb dX5_likeliest_24 rfl (lv_at hl 0 rfl) ?_
        refine lv_aload_n hx hb dX5_likeliest_25 rfl (lv_at hl 1 rfl) ?_
        refine lv_iload hx hb dX5_likeliest_26 (lv_at hl 8 rfl) ?_
        refine lv_aload_n hx hb dX5_likeliest_28 rfl (lv_at hl 2 rfl) ?_
        obtain ⟨r_14, S_15, h_16, hf⟩ := z_bd hf
        refine z_cVL (As := [.ref (ad 4), .int x_12, .ref (ad 1)]) (rest := []) X hK hE hD hA hP hS (cx_Rises_above l D K cy ad S_13 _ _ _ h_16) (cwV 3 hts (z_gV wt_5_37 wt_5_16 wt_5_17 wt_1_8 wt_5_18) rfl rfl rfl ⟨rfl, yd_yX5_above⟩ ⟨Nat.le_of_ble_eq_true rfl, Nat.le_of_ble_eq_true rfl⟩) (va_recv hK hP (ci := 5) (q0 := 29) rfl (zX_29 cy ad S_13)) hl.1 rfl rfl (Nat.le_of_ble_eq_true rfl) dX5_likeliest_29 (fun H locs hP hS => ?_)
        refine lv_lstore (lv' := [(11, .long r_14), (0, .ref (ad 29)), (1, .ref (ad 4)), (2, .ref (ad 1)), (3, .int a_1), (4, .int x_8), (5, .int x_9), (6, .long x_10), (8, .long x_11), (10, .int x_12)]) hx hb dX5_likeliest_32 hl (by decide) rfl (fun ls hl => ?_)
        refine lv_aload_n hx hb dX5_likeliest_34 rfl (lv_at hl 1 rfl) ?_
        refine lv_aload_n hx hb dX5_likeliest_35 rfl (lv_at hl 2 rfl) ?_
        refine lv_iload hx hb dX5_likeliest_36 (lv_at hl 9 rfl) ?_
        refine lv_lload hx hb dX5_likeliest_38 (lv_at hl 0 rfl) ?_
        obtain ⟨r_17, S_18, h_19, hf⟩ := z_bd hf
        refine z_cVL (As := [.ref (ad 4), .int x_12, .long r_14]) (rest := []) X hK hE hD hA hP hS (cx_Rises_below l D K cy ad S_15 _ _ _ _ h_19) (cwV 3 hts (z_gV wt_5_38 wt_5_22 wt_5_23 wt_1_8 wt_5_24) rfl rfl rfl ⟨rfl, yd_yX5_below⟩ ⟨Nat.le_of_ble_eq_true rfl, Nat.le_of_ble_eq_true rfl⟩) (va_recv hK hP (ci := 5) (q0 := 29) rfl (zX_29 cy ad S_15)) hl.1 rfl rfl (Nat.le_of_ble_eq_true rfl) dX5_likeliest_40 (fun H locs hP hS => ?_)
        refine lv_lstore (lv' := [(13, .long r_17), (11, .long r_14), (0, .ref (ad 29)), (1, .ref (ad 4)), (2, .ref (ad 1)), (3, .int a_1), (4, .int x_8), (5, .int x_9), (6, .long x_10), (8, .long x_11), (10, .int x_12)]) hx hb dX5_likeliest_43 hl (by decide) rfl (fun ls hl => ?_)
        refine lv_lload hx hb dX5_likeliest_45 (lv_at hl 1 rfl) ?_
        refine lv_lload hx hb dX5_likeliest_47 (lv_at hl 9 rfl) ?_
        refine lv_lmul hx hb dX5_likeliest_49 ?_
        refine lv_lload hx hb dX5_likeliest_50 (lv_at hl 8 rfl) ?_
        refine lv_lload hx hb dX5_likeliest_52 (lv_at hl 0 rfl) ?_
        refine lv_lmul hx hb dX5_likeliest_54 ?_
        obtain ⟨r_20, S_21, h_22, hf⟩ := z_bd hf
        refine z_cSI (As := [.long (r_14 * x_11), .long (x_10 * r_17)]) (rest := []) X hK hE hD hA hP hS (cj_compare_74951 l D K _ _ _ _ S_18 _ _ _ _ h_22) (va_cwS 2 hts (z_gS wt_5_39 wt_5_40 wt_1_22 wt_5_41) rfl rfl rfl yd_yJ13_compare_74951 ⟨Nat.le_of_ble_eq_true rfl, Nat.le_of_ble_eq_true rfl⟩) hl.1 rfl rfl (Nat.le_of_ble_eq_true rfl) dX5_likeliest_55 (fun H locs hP hS => ?_)
        refine lv_istore (lv' := [(15, .int r_20), (13, .long r_17), (11, .long r_14), (0, .ref (ad 29)), (1, .ref (ad 4)), (2, .ref (ad 1)), (3, .int a_1), (4, .int x_8), (5, .int x_9), (6, .long x_10), (8, .long x_11), (10, .int x_12)]) hx hb dX5_likeliest_58 hl (by decide) rfl (fun ls hl => ?_)
        refine lv_iload hx hb dX5_likeliest_60 (lv_at hl 0 rfl) ?_
        obtain ⟨j_77, ej_77, hf⟩ := z_nm hf
        have J_77 : ∀ (x_23 : Int32) (x_24 : Int64) (x_25 : Int64) (S_26 : zSt) (H : Heap) (locs : List Loc) (ls : Array Slot), j_77 x_23 x_24 x_25 S_26 = some (ro, So) → va_P D vwCl (zX cy ad S_26) H → va_S A s.heap H locs → lv_has ls 16 [(0, .ref (ad 29)), (1, .ref (ad 4)), (2, .ref (ad 1)), (3, .int a_1), (4, .int x_23), (5, .int x_9), (6, .long x_24), (8, .long x_25), (10, .int x_12), (15, .int r_20)] → W p l e ({ frames := 2, cells := 0, slots := 0, locals := 50 }) s m ([.ref (ad 29), .ref (ad 4), .ref (ad 1), .int a_1] : List Value).toArray below meth c H locs 0 0 Q (F0 m 77 ls []) := by
          intro x_23 x_24 x_25 S_26 H locs ls hf hP hS hl
          have hf := z_e4 ej_77 hf
          refine lv_iload hx hb dX5_likeliest_77 (lv_at hl 9 rfl) ?_
          obtain ⟨j_97, ej_97, hf⟩ := z_nm hf
          have J_97 : ∀ (x_27 : Int32) (S_28 : zSt) (H : Heap) (locs : List Loc) (ls : Array Slot), j_97 x_27 S_28 = some (ro, So) → va_P D vwCl (zX cy ad S_28) H → va_S A s.heap H locs → lv_has ls 16 [(0, .ref (ad 29)), (1, .ref (ad 4)), (2, .ref (ad 1)), (3, .int a_1), (4, .int x_23), (6, .long x_24), (8, .long x_25), (10, .int x_12)] → W p l e ({ frames := 2, cells := 0, slots := 0, locals := 50 }) s m ([.ref (ad 29), .ref (ad 4), .ref (ad 1), .int a_1] : List Value).toArray below meth c H locs 0 0 Q (F0 m 97 ls [.int x_27]) := by
            intro x_27 S_28 H locs ls hf hP hS hl
            have hf := z_e2 ej_97 hf
            refine lv_istore (lv' := [(5, .int x_27), (0, .ref (ad 29)), (1, .ref (ad 4)), (2, .ref (ad 1)), (3, .int a_1), (4, .int x_23), (6, .long x_24), (8, .long x_25), (10, .int x_12)]) hx hb dX5_likeliest_97 hl (by decide) rfl (fun ls hl => ?_)
            obtain ⟨x_29, ex_29, hf⟩ := z_nm hf
            refine lv_iinc (v := x_29) (lv' := [(10, .int x_29), (5, .int x_27), (0, .ref (ad 29)), (1, .ref (ad 4)), (2, .ref (ad 1)), (3, .int a_1), (4, .int x_23), (6, .long x_24), (8, .long x_25)]) hx hb dX5_likeliest_99 hl (k := 8) rfl (by rw [ex_29]; rfl) (by decide) rfl (fun ls hl => ?_)
            refine lv_goto (tgt := 15) hx hb dX5_likeliest_102 (by decide) ?_
            exact ih_15 x_23 x_27 x_24 x_25 x_29 S_28 _ _ _ hf hP hS (lv_sub hl [2, 3, 4, 5, 6, 1, 7, 8, 0] rfl)
          obtain ⟨j_92, ej_92, hf⟩ := z_nm hf
          have J_92 : ∀ (S_30 : zSt) (H : Heap) (locs : List Loc) (ls : Array Slot), j_92  S_30 = some (ro, So) → va_P D vwCl (zX cy ad S_30) H → va_S A s.heap H locs → lv_has ls 16 [(0, .ref (ad 29)), (1, .ref (ad 4)), (2, .ref (ad 1)), (3, .int a_1), (4, .int x_23), (6, .long x_24), (8, .long x_25), (10, .int x_12)] → W p l e ({ frames := 2, cells := 0, slots := 0, locals := 50 }) s m ([.ref (ad 29), .ref (ad 4), .ref (ad 1), .int a_1] : List Value).toArray below meth c H locs 0 0 Q (F0 m 92 ls []) := by
            intro  S_30 H locs ls hf hP hS hl
            have hf := z_e1 ej_92 hf
            refine lv_iconst (v := 1) hx hb dX5_likeliest_92 (by decide) ?_
            refine lv_goto (tgt := 97) hx hb dX5_likeliest_93 (by decide) ?_
            exact J_97 (1 : Int32) S_30 _ _ _ hf hP hS (lv_sub hl [0, 1, 2, 3, 4, 5, 6, 7] rfl)
          refine lv_if_gt (tgt := 92) hx hb dX5_likeliest_79 (by decide) (fun c_34 => ?_) (fun c_34 => ?_)
          · have hf := z_it c_34 hf
            exact J_92  S_26 _ _ _ hf hP hS (lv_sub hl [0, 1, 2, 3, 4, 6, 7, 8] rfl)
          · have hf := z_if c_34 hf
            refine lv_iload hx hb dX5_likeliest_82 (lv_at hl 5 rfl) ?_
            obtain ⟨j_96, ej_96, hf⟩ := z_nm hf
            have J_96 : ∀ (S_31 : zSt) (H : Heap) (locs : List Loc) (ls : Array Slot), j_96  S_31 = some (ro, So) → va_P D vwCl (zX cy ad S_31) H → va_S A s.heap H locs → lv_has ls 16 [(0, .ref (ad 29)), (1, .ref (ad 4)), (2, .ref (ad 1)), (3, .int a_1), (4, .int x_23), (6, .long x_24), (8, .long x_25), (10, .int x_12)] → W p l e ({ frames := 2, cells := 0, slots := 0, locals := 50 }) s m ([.ref (ad 29), .ref (ad 4), .ref (ad 1), .int a_1] : List Value).toArray below meth c H locs 0 0 Q (F0 m 96 ls []) := by
              intro  S_31 H locs ls hf hP hS hl
              have hf := z_e1 ej_96 hf
              refine lv_iconst (v := 0) hx hb dX5_likeliest_96 (by decide) ?_
              exact J_97 (0 : Int32) S_31 _ _ _ hf hP hS (lv_sub hl [0, 1, 2, 3, 4, 5, 6, 7] rfl)
            refine lv_if_eq (tgt := 96) hx hb dX5_likeliest_84 (by decide) (fun c_33 => ?_) (fun c_33 => ?_)
            · have hf := z_it c_33 hf
              exact J_96  S_26 _ _ _ hf hP hS (lv_sub hl [0, 1, 2, 3, 4, 6, 7, 8] rfl)
            · have hf := z_if c_33 hf
              refine lv_iload hx hb dX5_likeliest_87 (lv_at hl 9 rfl) ?_
              refine lv_if_ge (tgt := 96) hx hb dX5_likeliest_89 (by decide) (fun c_32 => ?_) (fun c_32 => ?_)
              · have hf := z_it c_32 hf
                exact J_96  S_26 _ _ _ hf hP hS (lv_sub hl [0, 1, 2, 3, 4, 6, 7, 8] rfl)
              · have hf := z_if c_32 hf
                exact J_92  S_26 _ _ _ hf hP hS (lv_sub hl [0, 1, 2, 3, 4, 6, 7, 8] rfl)
        refine lv_if_le (tgt := 77) hx hb dX5_likeliest_62 (by decide) (fun c_35 => ?_) (fun c_35 => ?_)
        · have hf := z_it c_35 hf
          exact J_77 x_8 x_10 x_11 S_21 _ _ _ hf hP hS (lv_sub hl [3, 4, 5, 6, 7, 8, 9, 10, 11, 0] rfl)
        · have hf := z_if c_35 hf
          refine lv_iload hx hb dX5_likeliest_65 (lv_at hl 11 rfl) ?_
          refine lv_istore (lv' := [(4, .int x_12), (15, .int r_20), (13, .long r_17), (11, .long r_14), (0, .ref (ad 29)), (1, .ref (ad 4)), (2, .ref (ad 1)), (3, .int a_1), (5, .int x_9), (6, .long x_10), (8, .long x_11), (10, .int x_12)]) hx hb dX5_likeliest_67 hl (by decide) rfl (fun ls hl => ?_)
          refine lv_lload hx hb dX5_likeliest_69 (lv_at hl 3 rfl) ?_
          refine lv_lstore (lv' := [(6, .long r_14), (4, .int x_12), (15, .int r_20), (13, .long r_17), (11, .long r_14), (0, .ref (ad 29)), (1, .ref (ad 4)), (2, .ref (ad 1)), (3, .int a_1), (5, .int x_9), (8, .long x_11), (10, .int x_12)]) hx hb dX5_likeliest_71 hl (by decide) rfl (fun ls hl => ?_)
          refine lv_lload hx hb dX5_likeliest_73 (lv_at hl 3 rfl) ?_
          refine lv_lstore (lv' := [(8, .long r_17), (6, .long r_14), (4, .int x_12), (15, .int r_20), (13, .long r_17), (11, .long r_14), (0, .ref (ad 29)), (1, .ref (ad 4)), (2, .ref (ad 1)), (3, .int a_1), (5, .int x_9), (10, .int x_12)]) hx hb dX5_likeliest_75 hl (by decide) rfl (fun ls hl => ?_)
          exact J_77 x_12 r_14 r_17 S_21 _ _ _ hf hP hS (lv_sub hl [6, 7, 8, 9, 2, 10, 1, 0, 11, 3] rfl)
  exact L_15 zFU (-1 : Int32) (0 : Int32) (0 : Int64) (1 : Int64) (0 : Int32) S_0 _ _ _ hf hP hS (lv_sub hl [5, 6, 7, 8, 4, 3, 2, 1, 0] rfl)
theorem yd_yX7_begin : (yX7_begin).cls ≠ "java/lang/invoke/MethodHandle" ∧ (yX7_begin).cls ≠ "java/lang/invoke/VarHandle" ∧ (parseMethodDescriptor (yX7_begin).desc).map (fun d => d.parameters.length) = some 0 := by decide +kernel
def fx_Reader_begin (S_0 : zSt) : Option (Unit × zSt) :=
  znm (zpI S_0 125 2 (0 : Int32)) fun S_1 =>
  znm (zpI S_1 125 3 (0 : Int32)) fun S_2 =>
  znm (zpI S_2 125 4 (0 : Int32)) fun S_3 =>
  znm (zpI S_3 125 5 (-1 : Int32)) fun S_4 =>
  znm (zpI S_4 125 7 (0 : Int32)) fun S_5 =>
  znm (zpI S_5 125 8 (0 : Int32)) fun S_6 =>
  znm (zpI S_6 125 9 (4 : Int32)) fun S_7 =>
  znm (zpI S_7 125 10 (0 : Int32)) fun S_8 =>
  znm (zpI S_8 125 11 (0 : Int32)) fun S_9 =>
  znm (zpI S_9 125 12 (0 : Int32)) fun S_10 =>
  some ((), S_10)
set_option maxHeartbeats 4000000 in
set_option maxRecDepth 100000 in
theorem cx_Reader_begin (l : Launch) (D : va_G) (K : (Nat → Nat) × (Nat → Nat)) (cy : Nat → ClassId) (ad : Nat → Nat) (S_0 : zSt) (So : zSt) (hf : fx_Reader_begin S_0 = some ((), So)) : zMV l yX7_begin (zws yX7_begin cX7_begin 1 none) ({ frames := 0, cells := 0, slots := 0, locals := 0 }) D (zTy cy) K (zX cy ad) [.ref (ad 125)] S_0 So := by
  refine z_metV (own := RX7) (lv := [(0, .ref (ad 125))]) (by decide) rfl rfl (Nat.le_of_ble_eq_true rfl) rfl ?_
  intro p e s m below meth c A Q X hK hE hD hA hret hP hS ls hl
  obtain ⟨hx, hb, hml, hown, hts⟩ := id X
  have k0 := (fun w h => List.mem_cons_of_mem _ (zFX7 w h) : ∀ w ∈ u_ws RX7 TX7 16, w ∈ zws yX7_begin cX7_begin 1 none)
  have k1 := hts _ (List.mem_cons_of_mem _ wt_2_51)
  have k2 := hts _ (List.mem_cons_of_mem _ wt_2_53)
  have k3 := hts _ (List.mem_cons_of_mem _ wt_2_55)
  have k4 := hts _ (List.mem_cons_of_mem _ wt_2_57)
  have k5 := hts _ (List.mem_cons_of_mem _ wt_2_60)
  have k6 := hts _ (List.mem_cons_of_mem _ wt_2_61)
  have k7 := hts _ (List.mem_cons_of_mem _ wt_2_62)
  have k8 := hts _ (List.mem_cons_of_mem _ wt_2_63)
  have k9 := hts _ (List.mem_cons_of_mem _ wt_2_64)
  have k10 := hts _ (List.mem_cons_of_mem _ wt_2_65)
  refine lv_aload_n hx hb dX7_begin_0 rfl (lv_at hl 0 rfl) ?_
  refine lv_iconst (v := 0) hx hb dX7_begin_1 (by decide) ?_
  refine va_put (D := D) (ci := 7) (v := .int (0 : Int32)) (ty := .int) (C := RX7) (T := TX7) (N := 16) hx hb hts k0 tyX7 tyX7_ok nmX7 hown hK hP (hD S_0) hS 125 (zX_125 cy ad S_0) rfl 2 (by decide) k1 (fun _ h9 => h9) rfl (tyX7_ok 2 (by decide)) rfl rfl (Nat.le_of_ble_eq_true rfl) dX7_begin_2 (fun H locs hP _ hS => ?_)
  obtain ⟨S_1, eS_1, hf⟩ := z_nm hf
  have hP := zW_putI hP eS_1 (by decide) rfl
  refine lv_aload_n hx hb dX7_begin_5 rfl (lv_at hl 0 rfl) ?_
  refine lv_iconst (v := 0) hx hb dX7_begin_6 (by decide) ?_
  refine va_put (D := D) (ci := 7) (v := .int (0 : Int32)) (ty := .int) (C := RX7) (T := TX7) (N := 16) hx hb hts k0 tyX7 tyX7_ok nmX7 hown hK hP (hD S_1) hS 125 (zX_125 cy ad S_1) rfl 3 (by decide) k2 (fun _ h9 => h9) rfl (tyX7_ok 3 (by decide)) rfl rfl (Nat.le_of_ble_eq_true rfl) dX7_begin_7 (fun H locs hP _ hS => ?_)
  obtain ⟨S_2, eS_2, hf⟩ := z_nm hf
  have hP := zW_putI hP eS_2 (by decide) rfl
  refine lv_aload_n hx hb dX7_begin_10 rfl (lv_at hl 0 rfl) ?_
  refine lv_iconst (v := 0) hx hb dX7_begin_11 (by decide) ?_
  refine va_put (D := D) (ci := 7) (v := .int (0 : Int32)) (ty := .int) (C := RX7) (T := TX7) (N := 16) hx hb hts k0 tyX7 tyX7_ok nmX7 hown hK hP (hD S_2) hS 125 (zX_125 cy ad S_2) rfl 4 (by decide) k3 (fun _ h9 => h9) rfl (tyX7_ok 4 (by decide)) rfl rfl (Nat.le_of_ble_eq_true rfl) dX7_begin_12 (fun H locs hP _ hS => ?_)
  obtain ⟨S_3, eS_3, hf⟩ := z_nm hf
  have hP := zW_putI hP eS_3 (by decide) rfl
  refine lv_aload_n hx hb dX7_begin_15 rfl (lv_at hl 0 rfl) ?_
  refine lv_iconst (v := -1) hx hb dX7_begin_16 (by decide) ?_
  refine va_put (D := D) (ci := 7) (v := .int (-1 : Int32)) (ty := .int) (C := RX7) (T := TX7) (N := 16) hx hb hts k0 tyX7 tyX7_ok nmX7 hown hK hP (hD S_3) hS 125 (zX_125 cy ad S_3) rfl 5 (by decide) k4 (fun _ h9 => h9) rfl (tyX7_ok 5 (by decide)) rfl rfl (Nat.le_of_ble_eq_true rfl) dX7_begin_17 (fun H locs hP _ hS => ?_)
  obtain ⟨S_4, eS_4, hf⟩ := z_nm hf
  have hP := zW_putI hP eS_4 (by decide) rfl
  refine lv_aload_n hx hb dX7_begin_20 rfl (lv_at hl 0 rfl) ?_
  refine lv_iconst (v := 0) hx hb dX7_begin_21 (by decide) ?_
  refine va_put (D := D) (ci := 7) (v := .int (0 : Int32)) (ty := .int) (C := RX7) (T := TX7) (N := 16) hx hb hts k0 tyX7 tyX7_ok nmX7 hown hK hP (hD S_4) hS 125 (zX_125 cy ad S_4) rfl 7 (by decide) k5 (fun _ h9 => h9) rfl (tyX7_ok 7 (by decide)) rfl rfl (Nat.le_of_ble_eq_true rfl) dX7_begin_22 (fun H locs hP _ hS => ?_)
  obtain ⟨S_5, eS_5, hf⟩ := z_nm hf
  have hP := zW_putI hP eS_5 (by decide) rfl
  refine lv_aload_n hx hb dX7_begin_25 rfl (lv_at hl 0 rfl) ?_
  refine lv_iconst (v := 0) hx hb dX7_begin_26 (by decide) ?_
  refine va_put (D := D) (ci := 7) (v := .int (0 : Int32)) (ty := .int) (C := RX7) (T := TX7) (N := 16) hx hb hts k0 tyX7 tyX7_ok nmX7 hown hK hP (hD S_5) hS 125 (zX_125 cy ad S_5) rfl 8 (by decide) k6 (fun _ h9 => h9) rfl (tyX7_ok 8 (by decide)) rfl rfl (Nat.le_of_ble_eq_true rfl) dX7_begin_27 (fun H locs hP _ hS => ?_)
  obtain ⟨S_6, eS_6, hf⟩ := z_nm hf
  have hP := zW_putI hP eS_6 (by decide) rfl
  refine lv_aload_n hx hb dX7_begin_30 rfl (lv_at hl 0 rfl) ?_
  refine lv_iconst (v := 4) hx hb dX7_begin_31 (by decide) ?_
  refine va_put (D := D) (ci := 7) (v := .int (4 : Int32)) (ty := .int) (C := RX7) (T := TX7) (N := 16) hx hb hts k0 tyX7 tyX7_ok nmX7 hown hK hP (hD S_6) hS 125 (zX_125 cy ad S_6) rfl 9 (by decide) k7 (fun _ h9 => h9) rfl (tyX7_ok 9 (by decide)) rfl rfl (Nat.le_of_ble_eq_true rfl) dX7_begin_32 (fun H locs hP _ hS => ?_)
  obtain ⟨S_7, eS_7, hf⟩ := z_nm hf
  have hP := zW_putI hP eS_7 (by decide) rfl
  refine lv_aload_n hx hb dX7_begin_35 rfl (lv_at hl 0 rfl) ?_
  refine lv_iconst (v := 0) hx hb dX7_begin_36 (by decide) ?_
  refine va_put (D := D) (ci := 7) (v := .int (0 : Int32)) (ty := .int) (C := RX7) (T := TX7) (N := 16) hx hb hts k0 tyX7 tyX7_ok nmX7 hown hK hP (hD S_7) hS 125 (zX_125 cy ad S_7) rfl 10 (by decide) k8 (fun _ h9 => h9) rfl (tyX7_ok 10 (by decide)) rfl rfl (Nat.le_of_ble_eq_true rfl) dX7_begin_37 (fun H locs hP _ hS => ?_)
  obtain ⟨S_8, eS_8, hf⟩ := z_nm hf
  have hP := zW_putI hP eS_8 (by decide) rfl
  refine lv_aload_n hx hb dX7_begin_40 rfl (lv_at hl 0 rfl) ?_
  refine lv_iconst (v := 0) hx hb dX7_begin_41 (by decide) ?_
  refine va_put (D := D) (ci := 7) (v := .int (0 : Int32)) (ty := .int) (C := RX7) (T := TX7) (N := 16) hx hb hts k0 tyX7 tyX7_ok nmX7 hown hK hP (hD S_8) hS 125 (zX_125 cy ad S_8) rfl 11 (by decide) k9 (fun _ h9 => h9) rfl (tyX7_ok 11 (by decide)) rfl rfl (Nat.le_of_ble_eq_true rfl) dX7_begin_42 (fun H locs hP _ hS => ?_)
  obtain ⟨S_9, eS_9, hf⟩ := z_nm hf
  have hP := zW_putI hP eS_9 (by decide) rfl
  refine lv_aload_n hx hb dX7_begin_45 rfl (lv_at hl 0 rfl) ?_
  refine lv_iconst (v := 0) hx hb dX7_begin_46 (by decide) ?_
  refine va_put (D := D) (ci := 7) (v := .int (0 : Int32)) (ty := .int) (C := RX7) (T := TX7) (N := 16) hx hb hts k0 tyX7 tyX7_ok nmX7 hown hK hP (hD S_9) hS 125 (zX_125 cy ad S_9) rfl 12 (by decide) k10 (fun _ h9 => h9) rfl (tyX7_ok 12 (by decide)) rfl rfl (Nat.le_of_ble_eq_true rfl) dX7_begin_47 (fun H locs hP _ hS => ?_)
  obtain ⟨S_10, eS_10, hf⟩ := z_nm hf
  have hP := zW_putI hP eS_10 (by decide) rfl
  obtain ⟨h1, h2⟩ := z_s2 hf
  subst h2
  exact hret _ _ _ _ hP hS dX7_begin_50
theorem yd_yX7_bindingOf : (yX7_bindingOf).cls ≠ "java/lang/invoke/MethodHandle" ∧ (yX7_bindingOf).cls ≠ "java/lang/invoke/VarHandle" ∧ (parseMethodDescriptor (yX7_bindingOf).desc).map (fun d => d.parameters.length) = some 1 := by decide +kernel
def fx_Reader_bindingOf (S_0 : zSt) (a_1 : Int32) : Option (Int32 × zSt) :=
  znm (fun (S_1 : zSt) =>
  some ((5 : Int32), S_1)) fun j_84 =>
  znm (fun (S_2 : zSt) =>
  some ((4 : Int32), S_2)) fun j_82 =>
  if a_1 = (43 : Int32) then (
  j_84  S_0) else (
  if a_1 = (45 : Int32) then (
  j_84  S_0) else (
  if a_1 = (60 : Int32) then (
  j_82  S_0) else (
  if a_1 = (61 : Int32) then (
  j_82  S_0) else (
  if a_1 = (62 : Int32) then (
  j_82  S_0) else (
  if a_1 = (258 : Int32) then (
  some ((1 : Int32), S_0)) else (
  if a_1 = (259 : Int32) then (
  some ((2 : Int32), S_0)) else (
  if a_1 = (260 : Int32) then (
  some ((3 : Int32), S_0)) else (
  some ((6 : Int32), S_0)))))))))
set_option maxHeartbeats 4000000 in
set_option maxRecDepth 100000 in
theorem cx_Reader_bindingOf (l : Launch) (D : va_G) (K : (Nat → Nat) × (Nat → Nat)) (cy : Nat → ClassId) (ad : Nat → Nat) (S_0 : zSt) (a_1 : Int32) (ro : Int32) (So : zSt) (hf : fx_Reader_bindingOf S_0 a_1 = some (ro, So)) : zMI l yX7_bindingOf (zws yX7_bindingOf cX7_bindingOf 1 (Option.some .int)) ({ frames := 0, cells := 0, slots := 0, locals := 0 }) D (zTy cy) K (zX cy ad) [.int a_1] S_0 ro So := by
  refine z_metI (own := RX7) (lv := [(0, .int a_1)]) (by decide) rfl rfl (Nat.le_of_ble_eq_true rfl) rfl ?_
  intro p e s m below meth c A Q X hK hE hD hA hret hP hS ls hl
  obtain ⟨hx, hb, hml, hown, hts⟩ := id X
  refine lv_iload_n hx hb dX7_bindingOf_0 rfl (lv_at hl 0 rfl) ?_
  obtain ⟨j_84, ej_84, hf⟩ := z_nm hf
  have J_84 : ∀ (S_1 : zSt) (H : Heap) (locs : List Loc) (ls : Array Slot), j_84  S_1 = some (ro, So) → va_P D vwCl (zX cy ad S_1) H → va_S A s.heap H locs → lv_has ls 1 [] → W p l e ({ frames := 0, cells := 0, slots := 0, locals := 0 }) s m ([.int a_1] : List Value).toArray below meth c H locs 0 0 Q (F0 m 84 ls []) := by
    intro  S_1 H locs ls hf hP hS hl
    have hf := z_e1 ej_84 hf
    refine lv_iconst (v := 5) hx hb dX7_bindingOf_84 (by decide) ?_
    obtain ⟨h1, h2⟩ := z_s2 hf
    subst h1 h2
    exact hret _ _ _ _ hP hS dX7_bindingOf_85
  obtain ⟨j_82, ej_82, hf⟩ := z_nm hf
  have J_82 : ∀ (S_2 : zSt) (H : Heap) (locs : List Loc) (ls : Array Slot), j_82  S_2 = some (ro, So) → va_P D vwCl (zX cy ad S_2) H → va_S A s.heap H locs → lv_has ls 1 [] → W p l e ({ frames := 0, cells := 0, slots := 0, locals := 0 }) s m ([.int a_1] : List Value).toArray below meth c H locs 0 0 Q (F0 m 82 ls []) := by
    intro  S_2 H locs ls hf hP hS hl
    have hf := z_e1 ej_82 hf
    refine lv_iconst (v := 4) hx hb dX7_bindingOf_82 (by decide) ?_
    obtain ⟨h1, h2⟩ := z_s2 hf
    subst h1 h2
    exact hret _ _ _ _ hP hS dX7_bindingOf_83
  by_cases c_3 : a_1 = (43 : Int32)
  · have hf := z_it c_3 hf
    refine lv_lookup (off := 83) (tgt := 84) hx hb dX7_bindingOf_1 (by decide) (by rw [c_3]; rfl) (by decide) ?_
    exact J_84  S_0 _ _ _ hf hP hS (lv_sub hl [] rfl)
  have hf := z_if c_3 hf
  have n_4 : a_1.toInt ≠ 43 := z_ne c_3 (by decide)
  by_cases c_5 : a_1 = (45 : Int32)
  · have hf := z_it c_5 hf
    refine lv_lookup (off := 83) (tgt := 84) hx hb dX7_bindingOf_1 (by decide) (by rw [c_5]; rfl) (by decide) ?_
    exact J_84  S_0 _ _ _ hf hP hS (lv_sub hl [] rfl)
  have hf := z_if c_5 hf
  have n_6 : a_1.toInt ≠ 45 := z_ne c_5 (by decide)
  by_cases c_7 : a_1 = (60 : Int32)
  · have hf := z_it c_7 hf
    refine lv_lookup (off := 81) (tgt := 82) hx hb dX7_bindingOf_1 (by decide) (by rw [c_7]; rfl) (by decide) ?_
    exact J_82  S_0 _ _ _ hf hP hS (lv_sub hl [] rfl)
  have hf := z_if c_7 hf
  have n_8 : a_1.toInt ≠ 60 := z_ne c_7 (by decide)
  by_cases c_9 : a_1 = (61 : Int32)
  · have hf := z_it c_9 hf
    refine lv_lookup (off := 81) (tgt := 82) hx hb dX7_bindingOf_1 (by decide) (by rw [c_9]; rfl) (by decide) ?_
    exact J_82  S_0 _ _ _ hf hP hS (lv_sub hl [] rfl)
  have hf := z_if c_9 hf
  have n_10 : a_1.toInt ≠ 61 := z_ne c_9 (by decide)
  by_cases c_11 : a_1 = (62 : Int32)
  · have hf := z_it c_11 hf
    refine lv_lookup (off := 81) (tgt := 82) hx hb dX7_bindingOf_1 (by decide) (by rw [c_11]; rfl) (by decide) ?_
    exact J_82  S_0 _ _ _ hf hP hS (lv_sub hl [] rfl)
  have hf := z_if c_11 hf
  have n_12 : a_1.toInt ≠ 62 := z_ne c_11 (by decide)
  by_cases c_13 : a_1 = (258 : Int32)
  · have hf := z_it c_13 hf
    refine lv_lookup (off := 75) (tgt := 76) hx hb dX7_bindingOf_1 (by decide) (by rw [c_13]; rfl) (by decide) ?_
    refine lv_iconst (v := 1) hx hb dX7_bindingOf_76 (by decide) ?_
    obtain ⟨h1, h2⟩ := z_s2 hf
    subst h1 h2
    exact hret _ _ _ _ hP hS dX7_bindingOf_77
  have hf := z_if c_13 hf
  have n_14 : a_1.toInt ≠ 258 := z_ne c_13 (by decide)
  by_cases c_15 : a_1 = (259 : Int32)
  · have hf := z_it c_15 hf
    refine lv_lookup (off := 77) (tgt := 78) hx hb dX7_bindingOf_1 (by decide) (by rw [c_15]; rfl) (by decide) ?_
    refine lv_iconst (v := 2) hx hb dX7_bindingOf_78 (by decide) ?_
    obtain ⟨h1, h2⟩ := z_s2 hf
    subst h1 h2
    exact hret _ _ _ _ hP hS dX7_bindingOf_79
  have hf := z_if c_15 hf
  have n_16 : a_1.toInt ≠ 259 := z_ne c_15 (by decide)
  by_cases c_17 : a_1 = (260 : Int32)
  · have hf := z_it c_17 hf
    refine lv_lookup (off := 79) (tgt := 80) hx hb dX7_bindingOf_1 (by decide) (by rw [c_17]; rfl) (by decide) ?_
    refine lv_iconst (v := 3) hx hb dX7_bindingOf_80 (by decide) ?_
    obtain ⟨h1, h2⟩ := z_s2 hf
    subst h1 h2
    exact hret _ _ _ _ hP hS dX7_bindingOf_81
  have hf := z_if c_17 hf
  have n_18 : a_1.toInt ≠ 260 := z_ne c_17 (by decide)
  refine lv_lookup (off := 85) (tgt := 86) hx hb dX7_bindingOf_1 (by decide) (by simp only [Op.lookupswitch.offset_cons, Op.lookupswitch.offset_nil, ne_eq]; simp [n_4, n_6, n_8, n_10, n_12, n_14, n_16, n_18, Ne.symm n_4, Ne.symm n_6, Ne.symm n_8, Ne.symm n_10, Ne.symm n_12, Ne.symm n_14, Ne.symm n_16, Ne.symm n_18]) (by decide) ?_
  refine lv_bipush (v := 6) hx hb dX7_bindingOf_86 (by decide) ?_
  obtain ⟨h1, h2⟩ := z_s2 hf
  subst h1 h2
  exact hret _ _ _ _ hP hS dX7_bindingOf_88
theorem yd_yX7_emit : (yX7_emit).cls ≠ "java/lang/invoke/MethodHandle" ∧ (yX7_emit).cls ≠ "java/lang/invoke/VarHandle" ∧ (parseMethodDescriptor (yX7_emit).desc).map (fun d => d.parameters.length) = some 1 := by decide +kernel
def fx_Reader_emit (S_0 : zSt) (a_1 : Int32) : Option (Unit × zSt) :=
  znm (fun (S_1 : zSt) =>
  some ((), S_1)) fun j_30 =>
  if (400 : Int32) ≤ (S_0.1 125 2) then (
  j_30  S_0) else (
  zck (zix (S_0.1 125 2) 400) <|
  znm (zpI S_0 126 ((S_0.1 125 2).toNatClampNeg) a_1) fun S_3 =>
  znm (zpI S_3 125 2 ((S_3.1 125 2) + (1 : Int32))) fun S_4 =>
  j_30  S_4)
set_option maxHeartbeats 4000000 in
set_option maxRecDepth 100000 in
theorem cx_Reader_emit (l : Launch) (D : va_G) (K : (Nat → Nat) × (Nat → Nat)) (cy : Nat → ClassId) (ad : Nat → Nat) (S_0 : zSt) (a_1 : Int32) (So : zSt) (hf : fx_Reader_emit S_0 a_1 = some ((), So)) : zMV l yX7_emit (zws yX7_emit cX7_emit 2 none) ({ frames := 0, cells := 0, slots := 0, locals := 0 }) D (zTy cy) K (zX cy ad) [.ref (ad 125), .int a_1] S_0 So := by
  refine z_metV (own := RX7) (lv := [(0, .ref (ad 125)), (1, .int a_1)]) (by decide) rfl rfl (Nat.le_of_ble_eq_true rfl) rfl ?_
  intro p e s m below meth c A Q X hK hE hD hA hret hP hS ls hl
  obtain ⟨hx, hb, hml, hown, hts⟩ := id X
  have k0 := (fun w h => List.mem_cons_of_mem _ (zFX7 w h) : ∀ w ∈ u_ws RX7 TX7 16, w ∈ zws yX7_emit cX7_emit 2 none)
  have k1 := hts _ (List.mem_cons_of_mem _ wt_2_51)
  have k2 := hts _ (List.mem_cons_of_mem _ wt_2_49)
  refine lv_aload_n hx hb dX7_emit_0 rfl (lv_at hl 0 rfl) ?_
  refine va_get (D := D) (ci := 7) (v := .int (S_0.1 125 2)) (C := RX7) (T := TX7) (N := 16) hx hb hts k0 hown hK hP 125 (zX_125 cy ad S_0) rfl 2 (by decide) k1 (fun _ h9 => h9) rfl dX7_emit_1 ?_
  refine lv_sipush (v := 400) hx hb dX7_emit_4 (by decide) ?_
  obtain ⟨j_30, ej_30, hf⟩ := z_nm hf
  have J_30 : ∀ (S_1 : zSt) (H : Heap) (locs : List Loc) (ls : Array Slot), j_30  S_1 = some ((), So) → va_P D vwCl (zX cy ad S_1) H → va_S A s.heap H locs → lv_has ls 2 [] → W p l e ({ frames := 0, cells := 0, slots := 0, locals := 0 }) s m ([.ref (ad 125), .int a_1] : List Value).toArray below meth c H locs 0 0 Q (F0 m 30 ls []) := by
    intro  S_1 H locs ls hf hP hS hl
    have hf := z_e1 ej_30 hf
    obtain ⟨h1, h2⟩ := z_s2 hf
    subst h2
    exact hret _ _ _ _ hP hS dX7_emit_30
  refine lv_icmp_ge (tgt := 30) hx hb dX7_emit_7 (by decide) (fun c_5 => ?_) (fun c_5 => ?_)
  · have hf := z_it c_5 hf
    exact J_30  S_0 _ _ _ hf hP hS (lv_sub hl [] rfl)
  · have hf := z_if c_5 hf
    refine lv_aload_n hx hb dX7_emit_10 rfl (lv_at hl 0 rfl) ?_
    refine va_get (D := D) (ci := 7) (v := .ref (ad 126)) (C := RX7) (T := TX7) (N := 16) hx hb hts k0 hown hK hP 125 (zX_125 cy ad S_0) rfl 1 (by decide) k2 (fun _ h9 => h9) rfl dX7_emit_11 ?_
    refine lv_aload_n hx hb dX7_emit_14 rfl (lv_at hl 0 rfl) ?_
    refine va_get (D := D) (ci := 7) (v := .int (S_0.1 125 2)) (C := RX7) (T := TX7) (N := 16) hx hb hts k0 hown hK hP 125 (zX_125 cy ad S_0) rfl 2 (by decide) k1 (fun _ h9 => h9) rfl dX7_emit_15 ?_
    refine lv_iload_n hx hb dX7_emit_18 rfl (lv_at hl 1 rfl) ?_
    obtain ⟨h_2, hf⟩ := z_ix hf
    refine z_iast hx hb hK hP (hD S_0) hS 126 0 (zX_126 cy ad S_0) rfl h_2 (k := ((S_0.1 125 2).toNatClampNeg)) rfl dX7_emit_19 (fun H locs hP hS => ?_)
    obtain ⟨S_3, eS_3, hf⟩ := z_nm hf
    have hP := zW_putI hP eS_3 (by decide) rfl
    refine lv_aload_n hx hb dX7_emit_20 rfl (lv_at hl 0 rfl) ?_
    refine lv_dup hx hb dX7_emit_21 rfl ?_
    refine va_get (D := D) (ci := 7) (v := .int (S_3.1 125 2)) (C := RX7) (T := TX7) (N := 16) hx hb hts k0 hown hK hP 125 (zX_125 cy ad S_3) rfl 2 (by decide) k1 (fun _ h9 => h9) rfl dX7_emit_22 ?_
    refine lv_iconst (v := 1) hx hb dX7_emit_25 (by decide) ?_
    refine lv_iadd hx hb dX7_emit_26 ?_
    refine va_put (D := D) (ci := 7) (v := .int ((S_3.1 125 2) + (1 : Int32))) (ty := .int) (C := RX7) (T := TX7) (N := 16) hx hb hts k0 tyX7 tyX7_ok nmX7 hown hK hP (hD S_3) hS 125 (zX_125 cy ad S_3) rfl 2 (by decide) k1 (fun _ h9 => h9) rfl (tyX7_ok 2 (by decide)) rfl rfl (Nat.le_of_ble_eq_true rfl) dX7_emit_27 (fun H locs hP _ hS => ?_)
    obtain ⟨S_4, eS_4, hf⟩ := z_nm hf
    have hP := zW_putI hP eS_4 (by decide) rfl
    exact J_30  S_4 _ _ _ hf hP hS (lv_sub hl [] rfl)
theorem yd_yX7_emitWaiting : (yX7_emitWaiting).cls ≠ "java/lang/invoke/MethodHandle" ∧ (yX7_emitWaiting).cls ≠ "java/lang/invoke/VarHandle" ∧ (parseMethodDescriptor (yX7_emitWaiting).desc).map (fun d => d.parameters.length) = some 1 := by decide +kernel
def fx_Reader_emitWaiting_L0 (a_1 : Int32) (j_93 : zSt → Option (Unit × zSt)) : Nat → zSt → Option (Unit × zSt)
  | 0, _ => none
  | n_0 + 1, S_2 =>
    if (S_2.1 125 7) ≤ 0 then (
    j_93  S_2) else (
    zck (zix ((S_2.1 125 7) - (1 : Int32)) 64) <|
    if (S_2.1 127 (((S_2.1 125 7) - (1 : Int32)).toNatClampNeg)) = (40 : Int32) then (
    j_93  S_2) else (
    zck (zix ((S_2.1 125 7) - (1 : Int32)) 64) <|
    zbd (fx_Reader_bindingOf S_2 (S_2.1 127 (((S_2.1 125 7) - (1 : Int32)).toNatClampNeg))) fun r_5 S_6 =>
    if r_5 < a_1 then (
    j_93  S_6) else (
    znm (zpI S_6 125 7 ((S_6.1 125 7) - (1 : Int32))) fun S_8 =>
    zck (zix (S_8.1 125 7) 64) <|
    znm (fun (S_10 : zSt) =>
    zck (zix (S_10.1 125 7) 64) <|
    zbd (fx_Reader_emit S_10 (-(S_10.1 127 ((S_10.1 125 7).toNatClampNeg)))) fun _ S_13 =>
    fx_Reader_emitWaiting_L0 a_1 j_93 n_0  S_13) fun j_76 =>
    if (S_8.1 127 ((S_8.1 125 7).toNatClampNeg)) = (260 : Int32) then (
    znm (zpI S_8 125 10 ((S_8.1 125 10) - (1 : Int32))) fun S_15 =>
    j_76  S_15) else (
    j_76  S_8))))
def fx_Reader_emitWaiting (S_0 : zSt) (a_1 : Int32) : Option (Unit × zSt) :=
  znm (fun (S_1 : zSt) =>
  some ((), S_1)) fun j_93 =>
  fx_Reader_emitWaiting_L0 a_1 j_93 zFU  S_0
set_option maxHeartbeats 4000000 in
set_option maxRecDepth 100000 in
theorem cx_Reader_emitWaiting (l : Launch) (D : va_G) (K : (Nat → Nat) × (Nat → Nat)) (cy : Nat → ClassId) (ad : Nat → Nat) (S_0 : zSt) (a_1 : Int32) (So : zSt) (hf : fx_Reader_emitWaiting S_0 a_1 = some ((), So)) : zMV l yX7_emitWaiting (zws yX7_emitWaiting cX7_emitWaiting 2 none) ({ frames := 1, cells := 0, slots := 0, locals := 21 }) D (zTy cy) K (zX cy ad) [.ref (ad 125), .int a_1] S_0 So := by
  refine z_metV (own := RX7) (lv := [(0, .ref (ad 125)), (1, .int a_1)]) (by decide) rfl rfl (Nat.le_of_ble_eq_true rfl) rfl ?_
  intro p e s m below meth c A Q X hK hE hD hA hret hP hS ls hl
  obtain ⟨hx, hb, hml, hown, hts⟩ := id X
  have k0 := (fun w h => List.mem_cons_of_mem _ (zFX7 w h) : ∀ w ∈ u_ws RX7 TX7 16, w ∈ zws yX7_emitWaiting cX7_emitWaiting 2 none)
  have k1 := hts _ (List.mem_cons_of_mem _ wt_2_60)
  have k2 := hts _ (List.mem_cons_of_mem _ wt_2_59)
  have k3 := hts _ (List.mem_cons_of_mem _ wt_2_63)
  obtain ⟨j_93, ej_93, hf⟩ := z_nm hf
  have J_93 : ∀ (S_1 : zSt) (H : Heap) (locs : List Loc) (ls : Array Slot), j_93  S_1 = some ((), So) → va_P D vwCl (zX cy ad S_1) H → va_S A s.heap H locs → lv_has ls 2 [] → W p l e ({ frames := 1, cells := 0, slots := 0, locals := 21 }) s m ([.ref (ad 125), .int a_1] : List Value).toArray below meth c H locs 0 0 Q (F0 m 93 ls []) := by
    intro  S_1 H locs ls hf hP hS hl
    have hf := z_e1 ej_93 hf
    obtain ⟨h1, h2⟩ := z_s2 hf
    subst h2
    exact hret _ _ _ _ hP hS dX7_emitWaiting_93
  have L_0 : ∀ (n_0 : Nat) (S_2 : zSt) (H : Heap) (locs : List Loc) (ls : Array Slot), fx_Reader_emitWaiting_L0 a_1 j_93 n_0  S_2 = some ((), So) → va_P D vwCl (zX cy ad S_2) H → va_S A s.heap H locs → lv_has ls 2 [(0, .ref (ad 125)), (1, .int a_1)] → W p l e ({ frames := 1, cells := 0, slots := 0, locals := 21 }) s m ([.ref (ad 125), .int a_1] : List Value).toArray below meth c H locs 0 0 Q (F0 m 0 ls []) := by
    intro n_0
    induction n_0 with
    | zero =>
      intro  S_2 H locs ls hf hP hS hl
      exact z_no hf
    | succ n_0 ih_0 =>
      intro  S_2 H locs ls hf hP hS hl
      rw [fx_Reader_emitWaiting_L0] at hf
      refine lv_aload_n hx hb dX7_emitWaiting_0 rfl (lv_at hl 0 rfl) ?_
      refine va_get (D := D) (ci := 7) (v := .int (S_2.1 125 7)) (C := RX7) (T := TX7) (N := 16) hx hb hts k0 hown hK hP 125 (zX_125 cy ad S_2) rfl 7 (by decide) k1 (fun _ h9 => h9) rfl dX7_emitWaiting_1 ?_
      refine lv_if_le (tgt := 93) hx hb dX7_emitWaiting_4 (by decide) (fun c_19 => ?_) (fun c_19 => ?_)
      · have hf := z_it c_19 hf
        exact J_93  S_2 _ _ _ hf hP hS (lv_sub hl [] rfl)
      · have hf := z_if c_19 hf
        refine lv_aload_n hx hb dX7_emitWaiting_7 rfl (lv_at hl 0 rfl) ?_
        refine va_get (D := D) (ci := 7) (v := .ref (ad 127)) (C := RX7) (T := TX7) (N := 16) hx hb hts k0 hown hK hP 125 (zX_125 cy ad S_2) rfl 6 (by decide) k2 (fun _ h9 => h9) rfl dX7_emitWaiting_8 ?_
        refine lv_aload_n hx hb dX7_emitWaiting_11 rfl (lv_at hl 0 rfl) ?_
        refine va_get (D := D) (ci := 7) (v := .int (S_2.1 125 7)) (C := RX7) (T := TX7) (N := 16) hx hb hts k0 hown hK hP 125 (zX_125 cy ad S_2) rfl 7 (by decide) k1 (fun _ h9 => h9) rfl dX7_emitWaiting_12 ?_
        refine lv_iconst (v := 1) hx hb dX7_emitWaiting_15 (by decide) ?_
        refine lv_isub hx hb dX7_emitWaiting_16 ?_
        obtain ⟨h_3, hf⟩ := z_ix hf
        refine z_iald hx hb hK hP 127 0 (zX_127 cy ad S_2) rfl h_3 (k := (((S_2.1 125 7) - (1 : Int32)).toNatClampNeg)) rfl dX7_emitWaiting_17 ?_
        refine lv_bipush (v := 40) hx hb dX7_emitWaiting_18 (by decide) ?_
        refine lv_icmp_eq (tgt := 93) hx hb dX7_emitWaiting_20 (by decide) (fun c_18 => ?_) (fun c_18 => ?_)
        · have hf := z_it c_18 hf
          exact J_93  S_2 _ _ _ hf hP hS (lv_sub hl [] rfl)
        · have hf := z_if c_18 hf
          refine lv_aload_n hx hb dX7_emitWaiting_23 rfl (lv_at hl 0 rfl) ?_
          refine va_get (D := D) (ci := 7) (v := .ref (ad 127)) (C := RX7) (T := TX7) (N := 16) hx hb hts k0 hown hK hP 125 (zX_125 cy ad S_2) rfl 6 (by decide) k2 (fun _ h9 => h9) rfl dX7_emitWaiting_24 ?_
          refine lv_aload_n hx hb dX7_emitWaiting_27 rfl (lv_at hl 0 rfl) ?_
          refine va_get (D := D) (ci := 7) (v := .int (S_2.1 125 7)) (C := RX7) (T := TX7) (N := 16) hx hb hts k0 hown hK hP 125 (zX_125 cy ad S_2) rfl 7 (by decide) k1 (fun _ h9 => h9) rfl dX7_emitWaiting_28 ?_
          refine lv_iconst (v := 1) hx hb dX7_emitWaiting_31 (by decide) ?_
          refine lv_isub hx hb dX7_emitWaiting_32 ?_
          obtain ⟨h_4, hf⟩ := z_ix hf
          refine z_iald hx hb hK hP 127 0 (zX_127 cy ad S_2) rfl h_4 (k := (((S_2.1 125 7) - (1 : Int32)).toNatClampNeg)) rfl dX7_emitWaiting_33 ?_
          obtain ⟨r_5, S_6, h_7, hf⟩ := z_bd hf
          refine z_cSI (As := [.int (S_2.1 127 (((S_2.1 125 7) - (1 : Int32)).toNatClampNeg))]) (rest := []) X hK hE hD hA hP hS (cx_Reader_bindingOf l D K cy ad S_2 _ _ _ h_7) (va_cwS 1 hts (z_gS wt_3_201 wt_3_202 wt_1_10 wt_3_203) rfl rfl rfl yd_yX7_bindingOf ⟨Nat.le_of_ble_eq_true rfl, Nat.le_of_ble_eq_true rfl⟩) hl.1 rfl rfl (Nat.le_of_ble_eq_true rfl) dX7_emitWaiting_34 (fun H locs hP hS => ?_)
          refine lv_iload_n hx hb dX7_emitWaiting_37 rfl (lv_at hl 1 rfl) ?_
          refine lv_icmp_lt (tgt := 93) hx hb dX7_emitWaiting_38 (by decide) (fun c_17 => ?_) (fun c_17 => ?_)
          · have hf := z_it c_17 hf
            exact J_93  S_6 _ _ _ hf hP hS (lv_sub hl [] rfl)
          · have hf := z_if c_17 hf
            refine lv_aload_n hx hb dX7_emitWaiting_41 rfl (lv_at hl 0 rfl) ?_
            refine lv_dup hx hb dX7_emitWaiting_42 rfl ?_
            refine va_get (D := D) (ci := 7) (v := .int (S_6.1 125 7)) (C := RX7) (T := TX7) (N := 16) hx hb hts k0 hown hK hP 125 (zX_125 cy ad S_6) rfl 7 (by decide) k1 (fun _ h9 => h9) rfl dX7_emitWaiting_43 ?_
            refine lv_iconst (v := 1) hx hb dX7_emitWaiting_46 (by decide) ?_
            refine lv_isub hx hb dX7_emitWaiting_47 ?_
            refine va_put (D := D) (ci := 7) (v := .int ((S_6.1 125 7) - (1 : Int32))) (ty := .int) (C := RX7) (T := TX7) (N := 16) hx hb hts k0 tyX7 tyX7_ok nmX7 hown hK hP (hD S_6) hS 125 (zX_125 cy ad S_6) rfl 7 (by decide) k1 (fun _ h9 => h9) rfl (tyX7_ok 7 (by decide)) rfl rfl (Nat.le_of_ble_eq_true rfl) dX7_emitWaiting_48 (fun H locs hP _ hS => ?_)
            obtain ⟨S_8, eS_8, hf⟩ := z_nm hf
            have hP := zW_putI hP eS_8 (by decide) rfl
            refine lv_aload_n hx hb dX7_emitWaiting_51 rfl (lv_at hl 0 rfl) ?_
            refine va_get (D := D) (ci := 7) (v := .ref (ad 127)) (C := RX7) (T := TX7) (N := 16) hx hb hts k0 hown hK hP 125 (zX_125 cy ad S_8) rfl 6 (by decide) k2 (fun _ h9 => h9) rfl dX7_emitWaiting_52 ?_
            refine lv_aload_n hx hb dX7_emitWaiting_55 rfl (lv_at hl 0 rfl) ?_
            refine va_get (D := D) (ci := 7) (v := .int (S_8.1 125 7)) (C := RX7) (T := TX7) (N := 16) hx hb hts k0 hown hK hP 125 (zX_125 cy ad S_8) rfl 7 (by decide) k1 (fun _ h9 => h9) rfl dX7_emitWaiting_56 ?_
            obtain ⟨h_9, hf⟩ := z_ix hf
            refine z_iald hx hb hK hP 127 0 (zX_127 cy ad S_8) rfl h_9 (k := ((S_8.1 125 7).toNatClampNeg)) rfl dX7_emitWaiting_59 ?_
            refine lv_sipush (v := 260) hx hb dX7_emitWaiting_60 (by decide) ?_
            obtain ⟨j_76, ej_76, hf⟩ := z_nm hf
            have J_76 : ∀ (S_10 : zSt) (H : Heap) (locs : List Loc) (ls : Array Slot), j_76  S_10 = some ((), So) → va_P D vwCl (zX cy ad S_10) H → va_S A s.heap H locs → lv_has ls 2 [(0, .ref (ad 125)), (1, .int a_1)] → W p l e ({ frames := 1, cells := 0, slots := 0, locals := 21 }) s m ([.ref (ad 125), .int a_1] : List Value).toArray below meth c H locs 0 0 Q (F0 m 76 ls []) := by
              intro  S_10 H locs ls hf hP hS hl
              have hf := z_e1 ej_76 hf
              refine lv_aload_n hx hb dX7_emitWaiting_76 rfl (lv_at hl 0 rfl) ?_
              refine lv_aload_n hx hb dX7_emitWaiting_77 rfl (lv_at hl 0 rfl) ?_
              refine va_get (D := D) (ci := 7) (v := .ref (ad 127)) (C := RX7) (T := TX7) (N := 16) hx hb hts k0 hown hK hP 125 (zX_125 cy ad S_10) rfl 6 (by decide) k2 (fun _ h9 => h9) rfl dX7_emitWaiting_78 ?_
              refine lv_aload_n hx hb dX7_emitWaiting_81 rfl (lv_at hl 0 rfl) ?_
              refine va_get (D := D) (ci := 7) (v := .int (S_10.1 125 7)) (C := RX7) (T := TX7) (N := 16) hx hb hts k0 hown hK hP 125 (zX_125 cy ad S_10) rfl 7 (by decide) k1 (fun _ h9 => h9) rfl dX7_emitWaiting_82 ?_
              obtain ⟨h_11, hf⟩ := z_ix hf
              refine z_iald hx hb hK hP 127 0 (zX_127 cy ad S_10) rfl h_11 (k := ((S_10.1 125 7).toNatClampNeg)) rfl dX7_emitWaiting_85 ?_
              refine lv_ineg hx hb dX7_emitWaiting_86 ?_
              obtain ⟨r_12, S_13, h_14, hf⟩ := z_bd hf
              refine z_cVV (As := [.int (-(S_10.1 127 ((S_10.1 125 7).toNatClampNeg)))]) (rest := []) X hK hE hD hA hP hS (cx_Reader_emit l D K cy ad S_10 _ _ h_14) (cwV 1 hts (z_gV wt_3_181 wt_3_183 wp_12 wt_1_10 wt_3_184) rfl rfl rfl ⟨rfl, yd_yX7_emit⟩ ⟨Nat.le_of_ble_eq_true rfl, Nat.le_of_ble_eq_true rfl⟩) (va_recv hK hP (ci := 7) (q0 := 125) rfl (zX_125 cy ad S_10)) hl.1 rfl rfl (Nat.le_of_ble_eq_true rfl) dX7_emitWaiting_87 (fun H locs hP hS => ?_)
              refine lv_goto (tgt := 0) hx hb dX7_emitWaiting_90 (by decide) ?_
              exact ih_0  S_13 _ _ _ hf hP hS (lv_sub hl [0, 1] rfl)
            refine lv_icmp_ne (tgt := 76) hx hb dX7_emitWaiting_63 (by decide) (fun c_16 => ?_) (fun c_16 => ?_)
            · have hf := z_if c_16 hf
              exact J_76  S_8 _ _ _ hf hP hS (lv_sub hl [0, 1] rfl)
            · have hf := z_it c_16 hf
              refine lv_aload_n hx hb dX7_emitWaiting_66 rfl (lv_at hl 0 rfl) ?_
              refine lv_dup hx hb dX7_emitWaiting_67 rfl ?_
              refine va_get (D := D) (ci := 7) (v := .int (S_8.1 125 10)) (C := RX7) (T := TX7) (N := 16) hx hb hts k0 hown hK hP 125 (zX_125 cy ad S_8) rfl 10 (by decide) k3 (fun _ h9 => h9) rfl dX7_emitWaiting_68 ?_
              refine lv_iconst (v := 1) hx hb dX7_emitWaiting_71 (by decide) ?_
              refine lv_isub hx hb dX7_emitWaiting_72 ?_
              refine va_put (D := D) (ci := 7) (v := .int ((S_8.1 125 10) - (1 : Int32))) (ty := .int) (C := RX7) (T := TX7) (N := 16) hx hb hts k0 tyX7 tyX7_ok nmX7 hown hK hP (hD S_8) hS 125 (zX_125 cy ad S_8) rfl 10 (by decide) k3 (fun _ h9 => h9) rfl (tyX7_ok 10 (by decide)) rfl rfl (Nat.le_of_ble_eq_true rfl) dX7_emitWaiting_73 (fun H locs hP _ hS => ?_)
              obtain ⟨S_15, eS_15, hf⟩ := z_nm hf
              have hP := zW_putI hP eS_15 (by decide) rfl
              exact J_76  S_15 _ _ _ hf hP hS (lv_sub hl [0, 1] rfl)
  exact L_0 zFU  S_0 _ _ _ hf hP hS (lv_sub hl [0, 1] rfl)
theorem yd_yX7_closeBracket : (yX7_closeBracket).cls ≠ "java/lang/invoke/MethodHandle" ∧ (yX7_closeBracket).cls ≠ "java/lang/invoke/VarHandle" ∧ (parseMethodDescriptor (yX7_closeBracket).desc).map (fun d => d.parameters.length) = some 0 := by decide +kernel
def fx_Reader_closeBracket (S_0 : zSt) : Option (Unit × zSt) :=
  zbd (fx_Reader_emitWaiting S_0 (0 : Int32)) fun _ S_2 =>
  znm (zpI S_2 125 11 ((S_2.1 125 11) - (1 : Int32))) fun S_4 =>
  znm (zpI S_4 125 10 ((S_4.1 125 10) - (1 : Int32))) fun S_5 =>
  znm (zpI S_5 125 7 (if (0 : Int32) < ((S_5.1 125 7) - (1 : Int32)) then ((S_5.1 125 7) - (1 : Int32)) else (0 : Int32))) fun S_6 =>
  znm (zpI S_6 125 8 (7 : Int32)) fun S_7 =>
  some ((), S_7)
set_option maxHeartbeats 4000000 in
set_option maxRecDepth 100000 in
theorem cx_Reader_closeBracket (l : Launch) (D : va_G) (K : (Nat → Nat) × (Nat → Nat)) (cy : Nat → ClassId) (ad : Nat → Nat) (S_0 : zSt) (So : zSt) (hf : fx_Reader_closeBracket S_0 = some ((), So)) : zMV l yX7_closeBracket (zws yX7_closeBracket cX7_closeBracket 1 none) ({ frames := 2, cells := 0, slots := 0, locals := 200 }) D (zTy cy) K (zX cy ad) [.ref (ad 125)] S_0 So := by
  refine z_metV (own := RX7) (lv := [(0, .ref (ad 125))]) (by decide) rfl rfl (Nat.le_of_ble_eq_true rfl) rfl ?_
  intro p e s m below meth c A Q X hK hE hD hA hret hP hS ls hl
  obtain ⟨hx, hb, hml, hown, hts⟩ := id X
  have k0 := (fun w h => List.mem_cons_of_mem _ (zFX7 w h) : ∀ w ∈ u_ws RX7 TX7 16, w ∈ zws yX7_closeBracket cX7_closeBracket 1 none)
  have k1 := hts _ (List.mem_cons_of_mem _ wt_2_64)
  have k2 := hts _ (List.mem_cons_of_mem _ wt_2_63)
  have k3 := hts _ (List.mem_cons_of_mem _ wt_2_60)
  have k4 := hts _ (List.mem_cons_of_mem _ wt_3_212)
  have k5 := hts _ (List.mem_cons_of_mem _ wt_3_122)
  have k6 := hts _ (List.mem_cons_of_mem _ wt_1_18)
  have k7 := hts _ (List.mem_cons_of_mem _ wt_3_123)
  have k8 := hts _ (List.mem_cons_of_mem _ wt_2_61)
  refine lv_aload_n hx hb dX7_closeBracket_0 rfl (lv_at hl 0 rfl) ?_
  refine lv_iconst (v := 0) hx hb dX7_closeBracket_1 (by decide) ?_
  obtain ⟨r_1, S_2, h_3, hf⟩ := z_bd hf
  refine z_cVV (As := [.int (0 : Int32)]) (rest := []) X hK hE hD hA hP hS (cx_Reader_emitWaiting l D K cy ad S_0 _ _ h_3) (cwV 1 hts (z_gV wt_3_204 wt_3_206 wp_17 wt_1_10 wt_3_207) rfl rfl rfl ⟨rfl, yd_yX7_emitWaiting⟩ ⟨Nat.le_of_ble_eq_true rfl, Nat.le_of_ble_eq_true rfl⟩) (va_recv hK hP (ci := 7) (q0 := 125) rfl (zX_125 cy ad S_0)) hl.1 rfl rfl (Nat.le_of_ble_eq_true rfl) dX7_closeBracket_2 (fun H locs hP hS => ?_)
  refine lv_aload_n hx hb dX7_closeBracket_5 rfl (lv_at hl 0 rfl) ?_
  refine lv_dup hx hb dX7_closeBracket_6 rfl ?_
  refine va_get (D := D) (ci := 7) (v := .int (S_2.1 125 11)) (C := RX7) (T := TX7) (N := 16) hx hb hts k0 hown hK hP 125 (zX_125 cy ad S_2) rfl 11 (by decide) k1 (fun _ h9 => h9) rfl dX7_closeBracket_7 ?_
  refine lv_iconst (v := 1) hx hb dX7_closeBracket_10 (by decide) ?_
  refine lv_isub hx hb dX7_closeBracket_11 ?_
  refine va_put (D := D) (ci := 7) (v := .int ((S_2.1 125 11) - (1 : Int32))) (ty := .int) (C := RX7) (T := TX7) (N := 16) hx hb hts k0 tyX7 tyX7_ok nmX7 hown hK hP (hD S_2) hS 125 (zX_125 cy ad S_2) rfl 11 (by decide) k1 (fun _ h9 => h9) rfl (tyX7_ok 11 (by decide)) rfl rfl (Nat.le_of_ble_eq_true rfl) dX7_closeBracket_12 (fun H locs hP _ hS => ?_)
  obtain ⟨S_4, eS_4, hf⟩ := z_nm hf
  have hP := zW_putI hP eS_4 (by decide) rfl
  refine lv_aload_n hx hb dX7_closeBracket_15 rfl (lv_at hl 0 rfl) ?_
  refine lv_dup hx hb dX7_closeBracket_16 rfl ?_
  refine va_get (D := D) (ci := 7) (v := .int (S_4.1 125 10)) (C := RX7) (T := TX7) (N := 16) hx hb hts k0 hown hK hP 125 (zX_125 cy ad S_4) rfl 10 (by decide) k2 (fun _ h9 => h9) rfl dX7_closeBracket_17 ?_
  refine lv_iconst (v := 1) hx hb dX7_closeBracket_20 (by decide) ?_
  refine lv_isub hx hb dX7_closeBracket_21 ?_
  refine va_put (D := D) (ci := 7) (v := .int ((S_4.1 125 10) - (1 : Int32))) (ty := .int) (C := RX7) (T := TX7) (N := 16) hx hb hts k0 tyX7 tyX7_ok nmX7 hown hK hP (hD S_4) hS 125 (zX_125 cy ad S_4) rfl 10 (by decide) k2 (fun _ h9 => h9) rfl (tyX7_ok 10 (by decide)) rfl rfl (Nat.le_of_ble_eq_true rfl) dX7_closeBracket_22 (fun H locs hP _ hS => ?_)
  obtain ⟨S_5, eS_5, hf⟩ := z_nm hf
  have hP := zW_putI hP eS_5 (by decide) rfl
  refine lv_aload_n hx hb dX7_closeBracket_25 rfl (lv_at hl 0 rfl) ?_
  refine lv_iconst (v := 0) hx hb dX7_closeBracket_26 (by decide) ?_
  refine lv_aload_n hx hb dX7_closeBracket_27 rfl (lv_at hl 0 rfl) ?_
  refine va_get (D := D) (ci := 7) (v := .int (S_5.1 125 7)) (C := RX7) (T := TX7) (N := 16) hx hb hts k0 hown hK hP 125 (zX_125 cy ad S_5) rfl 7 (by decide) k3 (fun _ h9 => h9) rfl dX7_closeBracket_28 ?_
  refine lv_iconst (v := 1) hx hb dX7_closeBracket_31 (by decide) ?_
  refine lv_isub hx hb dX7_closeBracket_32 ?_
  refine va_mmax hx hb (by rw [hml]; exact hl.1.symm) hown k4 k5 k6 k7 (Nat.le_of_ble_eq_true rfl) (Nat.le_of_ble_eq_true rfl) (Nat.zero_le _) (Nat.zero_le _) dX7_closeBracket_33 ?_
  refine va_put (D := D) (ci := 7) (v := .int (if (0 : Int32) < ((S_5.1 125 7) - (1 : Int32)) then ((S_5.1 125 7) - (1 : Int32)) else (0 : Int32))) (ty := .int) (C := RX7) (T := TX7) (N := 16) hx hb hts k0 tyX7 tyX7_ok nmX7 hown hK hP (hD S_5) hS 125 (zX_125 cy ad S_5) rfl 7 (by decide) k3 (fun _ h9 => h9) rfl (tyX7_ok 7 (by decide)) rfl rfl (Nat.le_of_ble_eq_true rfl) dX7_closeBracket_36 (fun H locs hP _ hS => ?_)
  obtain ⟨S_6, eS_6, hf⟩ := z_nm hf
  have hP := zW_putI hP eS_6 (by decide) rfl
  refine lv_aload_n hx hb dX7_closeBracket_39 rfl (lv_at hl 0 rfl) ?_
  refine lv_bipush (v := 7) hx hb dX7_closeBracket_40 (by decide) ?_
  refine va_put (D := D) (ci := 7) (v := .int (7 : Int32)) (ty := .int) (C := RX7) (T := TX7) (N := 16) hx hb hts k0 tyX7 tyX7_ok nmX7 hown hK hP (hD S_6) hS 125 (zX_125 cy ad S_6) rfl 8 (by decide) k8 (fun _ h9 => h9) rfl (tyX7_ok 8 (by decide)) rfl rfl (Nat.le_of_ble_eq_true rfl) dX7_closeBracket_42 (fun H locs hP _ hS => ?_)
  obtain ⟨S_7, eS_7, hf⟩ := z_nm hf
  have hP := zW_putI hP eS_7 (by decide) rfl
  obtain ⟨h1, h2⟩ := z_s2 hf
  subst h2
  exact hret _ _ _ _ hP hS dX7_closeBracket_45
