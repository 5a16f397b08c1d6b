theorem yd_yX12_undo : (yX12_undo).cls ≠ "java/lang/invoke/MethodHandle" ∧ (yX12_undo).cls ≠ "java/lang/invoke/VarHandle" ∧ (parseMethodDescriptor (yX12_undo).desc).map (fun d => d.parameters.length) = some 0 := by decide +kernel
def fm_undo_L21 : Nat → Int32 → zSt → Option (Int32 × zSt)
  | 0, _, _ => none
  | n_21 + 1, x_2, S_3 =>
    if (180 : Int32) ≤ x_2 then (
    some ((1 : Int32), S_3)) else (
    zck (zix (((180 : Int32) * (S_3.1 0 3)) + x_2) 1440) <|
    zck (zix x_2 1480) <|
    znm (zpI S_3 1 (x_2.toNatClampNeg) (S_3.1 3 ((((180 : Int32) * (S_3.1 0 3)) + x_2).toNatClampNeg))) fun S_6 =>
    znm (x_2 + (1 : Int32)) fun x_7 =>
    fm_undo_L21 n_21 x_7 S_6)
def fm_undo (S_0 : zSt) : Option (Int32 × zSt) :=
  if (S_0.1 0 3) = 0 then (
  some ((0 : Int32), S_0)) else (
  znm (zpI S_0 0 3 ((S_0.1 0 3) - (1 : Int32))) fun S_1 =>
  fm_undo_L21 zFU (0 : Int32) S_1)
set_option maxHeartbeats 4000000 in
set_option maxRecDepth 100000 in
theorem cm_undo (l : Launch) (D : va_G) (K : (Nat → Nat) × (Nat → Nat)) (cy : Nat → ClassId) (ad : Nat → Nat) (S_0 : zSt) (ro : Int32) (So : zSt) (hf : fm_undo S_0 = some (ro, So)) : zMI l yX12_undo (zws yX12_undo cX12_undo 2 (Option.some .boolean)) ({ frames := 0, cells := 0, slots := 0, locals := 0 }) D (zTy cy) K (zM cy ad) [.ref (ad 0)] S_0 ro So := by
  refine z_metZ (own := RX12) (lv := [(0, .ref (ad 0))]) (by decide) rfl rfl (Nat.le_of_ble_eq_true rfl) rfl ?_
  intro p e s m below meth c A Q X hK hE hD hA hret hP hS ls hl
  obtain ⟨hx, hb, hml, hown, hts⟩ := id X
  have k0 := (fun w h => List.mem_cons_of_mem _ (zFX12 w h) : ∀ w ∈ u_ws RX12 TX12 36, w ∈ zws yX12_undo cX12_undo 2 (Option.some .boolean))
  have k1 := hts _ (List.mem_cons_of_mem _ wt_5_98)
  have k2 := hts _ (List.mem_cons_of_mem _ wt_5_95)
  have k3 := hts _ (List.mem_cons_of_mem _ wt_5_97)
  refine lv_aload_n hx hb dX12_undo_0 rfl (lv_at hl 0 rfl) ?_
  refine va_get (D := D) (ci := 12) (v := .int (S_0.1 0 3)) (C := RX12) (T := TX12) (N := 36) hx hb hts k0 hown hK hP 0 (zM_0 cy ad S_0) rfl 3 (by decide) k1 (fun _ h9 => h9) rfl dX12_undo_1 ?_
  refine lv_if_ne (tgt := 9) hx hb dX12_undo_4 (by decide) (fun c_9 => ?_) (fun c_9 => ?_)
  · have hf := z_if c_9 hf
    refine lv_aload_n hx hb dX12_undo_9 rfl (lv_at hl 0 rfl) ?_
    refine lv_dup hx hb dX12_undo_10 rfl ?_
    refine va_get (D := D) (ci := 12) (v := .int (S_0.1 0 3)) (C := RX12) (T := TX12) (N := 36) hx hb hts k0 hown hK hP 0 (zM_0 cy ad S_0) rfl 3 (by decide) k1 (fun _ h9 => h9) rfl dX12_undo_11 ?_
    refine lv_iconst (v := 1) hx hb dX12_undo_14 (by decide) ?_
    refine lv_isub hx hb dX12_undo_15 ?_
    refine va_put (D := D) (ci := 12) (v := .int ((S_0.1 0 3) - (1 : Int32))) (ty := .int) (C := RX12) (T := TX12) (N := 36) hx hb hts k0 tyX12 tyX12_ok nmX12 hown hK hP (hD S_0) hS 0 (zM_0 cy ad S_0) rfl 3 (by decide) k1 (fun _ h9 => h9) rfl (tyX12_ok 3 (by decide)) rfl rfl (Nat.le_of_ble_eq_true rfl) dX12_undo_16 (fun H locs hP _ hS => ?_)
    obtain ⟨S_1, eS_1, hf⟩ := z_nm hf
    have hP := zW_putI hP eS_1 (by decide) rfl
    refine lv_iconst (v := 0) hx hb dX12_undo_19 (by decide) ?_
    refine lv_istore_n (lv' := [(1, .int (0 : Int32)), (0, .ref (ad 0))]) hx hb dX12_undo_20 rfl hl (by decide) rfl (fun ls hl => ?_)
    have L_21 : ∀ (n_21 : Nat) (x_2 : Int32) (S_3 : zSt) (H : Heap) (locs : List Loc) (ls : Array Slot), fm_undo_L21 n_21 x_2 S_3 = some (ro, So) → va_P D vwCl (zM cy ad S_3) H → va_S A s.heap H locs → lv_has ls 2 [(0, .ref (ad 0)), (1, .int x_2)] → W p l e ({ frames := 0, cells := 0, slots := 0, locals := 0 }) s m ([.ref (ad 0)] : List Value).toArray below meth c H locs 0 0 Q (F0 m 21 ls []) := by
      intro n_21
      induction n_21 with
      | zero =>
        intro x_2 S_3 H locs ls hf hP hS hl
        exact z_no hf
      | succ n_21 ih_21 =>
        intro x_2 S_3 H locs ls hf hP hS hl
        rw [fm_undo_L21] at hf
        refine lv_iload_n hx hb dX12_undo_21 rfl (lv_at hl 1 rfl) ?_
        refine lv_sipush (v := 180) hx hb dX12_undo_22 (by decide) ?_
        refine lv_icmp_ge (tgt := 55) hx hb dX12_undo_25 (by decide) (fun c_8 => ?_) (fun c_8 => ?_)
        · have hf := z_it c_8 hf
          refine lv_iconst (v := 1) hx hb dX12_undo_55 (by decide) ?_
          obtain ⟨h1, h2⟩ := z_s2 hf
          subst h1 h2
          exact hret _ _ _ _ rfl hP hS dX12_undo_56
        · have hf := z_if c_8 hf
          refine lv_aload_n hx hb dX12_undo_28 rfl (lv_at hl 0 rfl) ?_
          refine va_get (D := D) (ci := 12) (v := .ref (ad 1)) (C := RX12) (T := TX12) (N := 36) hx hb hts k0 hown hK hP 0 (zM_0 cy ad S_3) rfl 0 (by decide) k2 (fun _ h9 => h9) rfl dX12_undo_29 ?_
          refine lv_iload_n hx hb dX12_undo_32 rfl (lv_at hl 1 rfl) ?_
          refine lv_aload_n hx hb dX12_undo_33 rfl (lv_at hl 0 rfl) ?_
          refine va_get (D := D) (ci := 12) (v := .ref (ad 3)) (C := RX12) (T := TX12) (N := 36) hx hb hts k0 hown hK hP 0 (zM_0 cy ad S_3) rfl 2 (by decide) k3 (fun _ h9 => h9) rfl dX12_undo_34 ?_
          refine lv_sipush (v := 180) hx hb dX12_undo_37 (by decide) ?_
          refine lv_aload_n hx hb dX12_undo_40 rfl (lv_at hl 0 rfl) ?_
          refine va_get (D := D) (ci := 12) (v := .int (S_3.1 0 3)) (C := RX12) (T := TX12) (N := 36) hx hb hts k0 hown hK hP 0 (zM_0 cy ad S_3) rfl 3 (by decide) k1 (fun _ h9 => h9) rfl dX12_undo_41 ?_
          refine lv_imul hx hb dX12_undo_44 ?_
          refine lv_iload_n hx hb dX12_undo_45 rfl (lv_at hl 1 rfl) ?_
          refine lv_iadd hx hb dX12_undo_46 ?_
          obtain ⟨h_4, hf⟩ := z_ix hf
          refine z_iald hx hb hK hP 3 0 (zM_3 cy ad S_3) rfl h_4 (k := ((((180 : Int32) * (S_3.1 0 3)) + x_2).toNatClampNeg)) rfl dX12_undo_47 ?_
          obtain ⟨h_5, hf⟩ := z_ix hf
          refine z_iast hx hb hK hP (hD S_3) hS 1 0 (zM_1 cy ad S_3) rfl h_5 (k := (x_2.toNatClampNeg)) rfl dX12_undo_48 (fun H locs hP hS => ?_)
          obtain ⟨S_6, eS_6, hf⟩ := z_nm hf
          have hP := zW_putI hP eS_6 (by decide) rfl
          obtain ⟨x_7, ex_7, hf⟩ := z_nm hf
          refine lv_iinc (v := x_7) (lv' := [(1, .int x_7), (0, .ref (ad 0))]) hx hb dX12_undo_49 hl (k := 1) rfl (by rw [ex_7]; rfl) (by decide) rfl (fun ls hl => ?_)
          refine lv_goto (tgt := 21) hx hb dX12_undo_52 (by decide) ?_
          exact ih_21 x_7 S_6 _ _ _ hf hP hS (lv_sub hl [1, 0] rfl)
    exact L_21 zFU (0 : Int32) S_1 _ _ _ hf hP hS (lv_sub hl [1, 0] rfl)
  · have hf := z_it c_9 hf
    refine lv_iconst (v := 0) hx hb dX12_undo_7 (by decide) ?_
    obtain ⟨h1, h2⟩ := z_s2 hf
    subst h1 h2
    exact hret _ _ _ _ rfl hP hS dX12_undo_8
theorem yd_yX12_of : (yX12_of).cls ≠ "java/lang/invoke/MethodHandle" ∧ (yX12_of).cls ≠ "java/lang/invoke/VarHandle" ∧ (parseMethodDescriptor (yX12_of).desc).map (fun d => d.parameters.length) = some 2 := by decide +kernel
def fm_of (S_0 : zSt) (a_1 : Int32) (a_2 : Int32) : Option (Int32 × zSt) :=
  zbd (fm_isHouse S_0 a_1) fun r_1 S_2 =>
  if r_1 = 0 then (
  some ((-1000000000 : Int32), S_2)) else (
  zbd (fm_isIn S_2 a_2 (0 : Int32) (8 : Int32)) fun r_4 S_5 =>
  if r_4 = 0 then (
  if a_2 = (9 : Int32) then (
  zbd (fm_net S_5 a_1) fun r_19 S_20 =>
  some (r_19, S_20)) else (
  zbd (fm_own S_5 a_1 (9 : Int32)) fun r_7 S_8 =>
  zbd (fm_isIn S_8 a_2 (10 : Int32) ((9 : Int32) + r_7)) fun r_10 S_11 =>
  znm (fun (x_13 : Int32) (S_14 : zSt) =>
  some (x_13, S_14)) fun j_78 =>
  if r_10 = 0 then (
  j_78 (-1000000000 : Int32) S_11) else (
  zbd (fm_own S_11 a_1 (((10 : Int32) + a_2) - (10 : Int32))) fun r_15 S_16 =>
  j_78 r_15 S_16))) else (
  zbd (fm_own S_5 a_1 a_2) fun r_23 S_24 =>
  some (r_23, S_24)))
set_option maxHeartbeats 4000000 in
set_option maxRecDepth 100000 in
theorem cm_of (l : Launch) (D : va_G) (K : (Nat → Nat) × (Nat → Nat)) (cy : Nat → ClassId) (ad : Nat → Nat) (S_0 : zSt) (a_1 : Int32) (a_2 : Int32) (ro : Int32) (So : zSt) (hf : fm_of S_0 a_1 a_2 = some (ro, So)) : zMI l yX12_of (zws yX12_of cX12_of 3 (Option.some .int)) ({ frames := 2, cells := 0, slots := 0, locals := 45 }) D (zTy cy) K (zM cy ad) [.ref (ad 0), .int a_1, .int a_2] S_0 ro So := by
  refine z_metI (own := RX12) (lv := [(0, .ref (ad 0)), (1, .int a_1), (2, .int a_2)]) (by decide) rfl rfl (Nat.le_of_ble_eq_true rfl) rfl ?_
  intro p e s m below meth c A Q X hK hE hD hA hret hP hS ls hl
  obtain ⟨hx, hb, hml, hown, hts⟩ := id X
  have k0 := hts _ (List.mem_cons_of_mem _ wt_6_165)
  refine lv_aload_n hx hb dX12_of_0 rfl (lv_at hl 0 rfl) ?_
  refine lv_iload_n hx hb dX12_of_1 rfl (lv_at hl 1 rfl) ?_
  obtain ⟨r_1, S_2, h_3, hf⟩ := z_bd hf
  refine z_cVI (As := [.int a_1]) (rest := []) X hK hE hD hA hP hS (cm_isHouse l D K cy ad S_0 _ _ _ h_3) (cwV 1 hts (z_gV wt_6_90 wt_6_92 wp_63 wt_1_13 wt_6_93) rfl rfl rfl ⟨rfl, yd_yX12_isHouse⟩ ⟨Nat.le_of_ble_eq_true rfl, Nat.le_of_ble_eq_true rfl⟩) (va_recv hK hP (ci := 12) (q0 := 0) rfl (zM_0 cy ad S_0)) hl.1 rfl rfl (Nat.le_of_ble_eq_true rfl) dX12_of_2 (fun H locs hP hS => ?_)
  refine lv_if_ne (tgt := 12) hx hb dX12_of_5 (by decide) (fun c_27 => ?_) (fun c_27 => ?_)
  · have hf := z_if c_27 hf
    refine lv_iload_n hx hb dX12_of_12 rfl (lv_at hl 2 rfl) ?_
    refine lv_iconst (v := 0) hx hb dX12_of_13 (by decide) ?_
    refine lv_bipush (v := 8) hx hb dX12_of_14 (by decide) ?_
    obtain ⟨r_4, S_5, h_6, hf⟩ := z_bd hf
    refine z_cSI (As := [.int a_2, .int (0 : Int32), .int (8 : Int32)]) (rest := []) X hK hE hD hA hP hS (cm_isIn l D K cy ad S_2 _ _ _ _ _ h_6) (va_cwS 3 hts (z_gS wt_5_216 wt_5_217 wt_1_13 wt_5_218) rfl rfl rfl yd_yX12_isIn ⟨Nat.le_of_ble_eq_true rfl, Nat.le_of_ble_eq_true rfl⟩) hl.1 rfl rfl (Nat.le_of_ble_eq_true rfl) dX12_of_16 (fun H locs hP hS => ?_)
    refine lv_if_eq (tgt := 29) hx hb dX12_of_19 (by decide) (fun c_26 => ?_) (fun c_26 => ?_)
    · have hf := z_it c_26 hf
      refine lv_iload_n hx hb dX12_of_29 rfl (lv_at hl 2 rfl) ?_
      refine lv_bipush (v := 9) hx hb dX12_of_30 (by decide) ?_
      refine lv_icmp_ne (tgt := 41) hx hb dX12_of_32 (by decide) (fun c_22 => ?_) (fun c_22 => ?_)
      · have hf := z_if c_22 hf
        refine lv_iload_n hx hb dX12_of_41 rfl (lv_at hl 2 rfl) ?_
        refine lv_bipush (v := 10) hx hb dX12_of_42 (by decide) ?_
        refine lv_bipush (v := 9) hx hb dX12_of_44 (by decide) ?_
        refine lv_aload_n hx hb dX12_of_46 rfl (lv_at hl 0 rfl) ?_
        refine lv_iload_n hx hb dX12_of_47 rfl (lv_at hl 1 rfl) ?_
        refine lv_bipush (v := 9) hx hb dX12_of_48 (by decide) ?_
        obtain ⟨r_7, S_8, h_9, hf⟩ := z_bd hf
        refine z_cVI (As := [.int a_1, .int (9 : Int32)]) (rest := [.int (9 : Int32), .int (10 : Int32), .int a_2]) X hK hE hD hA hP hS (cm_own l D K cy ad S_5 _ _ _ _ h_9) (cwV 2 hts (z_gV wt_6_95 wt_6_97 wp_64 wt_1_13 wt_6_98) rfl rfl rfl ⟨rfl, yd_yX12_own⟩ ⟨Nat.le_of_ble_eq_true rfl, Nat.le_of_ble_eq_true rfl⟩) (va_recv hK hP (ci := 12) (q0 := 0) rfl (zM_0 cy ad S_5)) hl.1 rfl rfl (Nat.le_of_ble_eq_true rfl) dX12_of_50 (fun H locs hP hS => ?_)
        refine lv_iadd hx hb dX12_of_53 ?_
        obtain ⟨r_10, S_11, h_12, hf⟩ := z_bd hf
        refine z_cSI (As := [.int a_2, .int (10 : Int32), .int ((9 : Int32) + r_7)]) (rest := []) X hK hE hD hA hP hS (cm_isIn l D K cy ad S_8 _ _ _ _ _ h_12) (va_cwS 3 hts (z_gS wt_5_216 wt_5_217 wt_1_13 wt_5_218) rfl rfl rfl yd_yX12_isIn ⟨Nat.le_of_ble_eq_true rfl, Nat.le_of_ble_eq_true rfl⟩) hl.1 rfl rfl (Nat.le_of_ble_eq_true rfl) dX12_of_54 (fun H locs hP hS => ?_)
        obtain ⟨j_78, ej_78, hf⟩ := z_nm hf
        have J_78 : ∀ (x_13 : Int32) (S_14 : zSt) (H : Heap) (locs : List Loc) (ls : Array Slot), j_78 x_13 S_14 = some (ro, So) → va_P D vwCl (zM cy ad S_14) H → va_S A s.heap H locs → lv_has ls 3 [] → W p l e ({ frames := 2, cells := 0, slots := 0, locals := 45 }) s m ([.ref (ad 0), .int a_1, .int a_2] : List Value).toArray below meth c H locs 0 0 Q (F0 m 78 ls [.int x_13]) := by
          intro x_13 S_14 H locs ls hf hP hS hl
          have hf := z_e2 ej_78 hf
          obtain ⟨h1, h2⟩ := z_s2 hf
          subst h1 h2
          exact hret _ _ _ _ hP hS dX12_of_78
        refine lv_if_eq (tgt := 75) hx hb dX12_of_57 (by decide) (fun c_18 => ?_) (fun c_18 => ?_)
        · have hf := z_it c_18 hf
          refine lv_ldcw hx hb hown k0 dX12_of_75 ?_
          exact J_78 (-1000000000 : Int32) S_11 _ _ _ hf hP hS (lv_sub hl [] rfl)
        · have hf := z_if c_18 hf
          refine lv_aload_n hx hb dX12_of_60 rfl (lv_at hl 0 rfl) ?_
          refine lv_iload_n hx hb dX12_of_61 rfl (lv_at hl 1 rfl) ?_
          refine lv_bipush (v := 10) hx hb dX12_of_62 (by decide) ?_
          refine lv_iload_n hx hb dX12_of_64 rfl (lv_at hl 2 rfl) ?_
          refine lv_iadd hx hb dX12_of_65 ?_
          refine lv_bipush (v := 10) hx hb dX12_of_66 (by decide) ?_
          refine lv_isub hx hb dX12_of_68 ?_
          obtain ⟨r_15, S_16, h_17, hf⟩ := z_bd hf
          refine z_cVI (As := [.int a_1, .int (((10 : Int32) + a_2) - (10 : Int32))]) (rest := []) X hK hE hD hA hP hS (cm_own l D K cy ad S_11 _ _ _ _ h_17) (cwV 2 hts (z_gV wt_6_95 wt_6_97 wp_64 wt_1_13 wt_6_98) rfl rfl rfl ⟨rfl, yd_yX12_own⟩ ⟨Nat.le_of_ble_eq_true rfl, Nat.le_of_ble_eq_true rfl⟩) (va_recv hK hP (ci := 12) (q0 := 0) rfl (zM_0 cy ad S_11)) hl.1 rfl rfl (Nat.le_of_ble_eq_true rfl) dX12_of_69 (fun H locs hP hS => ?_)
          refine lv_goto (tgt := 78) hx hb dX12_of_72 (by decide) ?_
          exact J_78 r_15 S_16 _ _ _ hf hP hS (lv_sub hl [] rfl)
      · have hf := z_it c_22 hf
        refine lv_aload_n hx hb dX12_of_35 rfl (lv_at hl 0 rfl) ?_
        refine lv_iload_n hx hb dX12_of_36 rfl (lv_at hl 1 rfl) ?_
        obtain ⟨r_19, S_20, h_21, hf⟩ := z_bd hf
        refine z_cVI (As := [.int a_1]) (rest := []) X hK hE hD hA hP hS (cm_net l D K cy ad S_5 _ _ _ h_21) (cwV 1 hts (z_gV wt_6_120 wt_6_122 wp_68 wt_1_13 wt_6_123) rfl rfl rfl ⟨rfl, yd_yX12_net⟩ ⟨Nat.le_of_ble_eq_true rfl, Nat.le_of_ble_eq_true rfl⟩) (va_recv hK hP (ci := 12) (q0 := 0) rfl (zM_0 cy ad S_5)) hl.1 rfl rfl (Nat.le_of_ble_eq_true rfl) dX12_of_37 (fun H locs hP hS => ?_)
        obtain ⟨h1, h2⟩ := z_s2 hf
        subst h1 h2
        exact hret _ _ _ _ hP hS dX12_of_40
    · have hf := z_if c_26 hf
      refine lv_aload_n hx hb dX12_of_22 rfl (lv_at hl 0 rfl) ?_
      refine lv_iload_n hx hb dX12_of_23 rfl (lv_at hl 1 rfl) ?_
      refine lv_iload_n hx hb dX12_of_24 rfl (lv_at hl 2 rfl) ?_
      obtain ⟨r_23, S_24, h_25, hf⟩ := z_bd hf
      refine z_cVI (As := [.int a_1, .int a_2]) (rest := []) X hK hE hD hA hP hS (cm_own l D K cy ad S_5 _ _ _ _ h_25) (cwV 2 hts (z_gV wt_6_95 wt_6_97 wp_64 wt_1_13 wt_6_98) rfl rfl rfl ⟨rfl, yd_yX12_own⟩ ⟨Nat.le_of_ble_eq_true rfl, Nat.le_of_ble_eq_true rfl⟩) (va_recv hK hP (ci := 12) (q0 := 0) rfl (zM_0 cy ad S_5)) hl.1 rfl rfl (Nat.le_of_ble_eq_true rfl) dX12_of_25 (fun H locs hP hS => ?_)
      obtain ⟨h1, h2⟩ := z_s2 hf
      subst h1 h2
      exact hret _ _ _ _ hP hS dX12_of_28
  · have hf := z_it c_27 hf
    refine lv_ldcw hx hb hown k0 dX12_of_8 ?_
    obtain ⟨h1, h2⟩ := z_s2 hf
    subst h1 h2
    exact hret _ _ _ _ hP hS dX12_of_11
theorem yd_yX12_book : (yX12_book).cls ≠ "java/lang/invoke/MethodHandle" ∧ (yX12_book).cls ≠ "java/lang/invoke/VarHandle" ∧ (parseMethodDescriptor (yX12_book).desc).map (fun d => d.parameters.length) = some 1 := by decide +kernel
def fm_book (S_0 : zSt) (a_1 : Int32) : Option (Int32 × zSt) :=
  if (S_0.1 1 9) = (-1 : Int32) then (
  some ((-1 : Int32), S_0)) else (
  znm (fun (x_1 : Int32) (S_2 : zSt) =>
  some (x_1, S_2)) fun j_60 =>
  if a_1 = (100 : Int32) then (
  j_60 (S_0.1 1 10) S_0) else (
  zbd (fm_isIn S_0 a_1 (0 : Int32) ((S_0.1 1 9) - (1 : Int32))) fun r_3 S_4 =>
  if r_3 = 0 then (
  j_60 (-1 : Int32) S_4) else (
  zck (zix ((170 : Int32) + a_1) 1480) <|
  j_60 (S_4.1 1 (((170 : Int32) + a_1).toNatClampNeg)) S_4)))
set_option maxHeartbeats 4000000 in
set_option maxRecDepth 100000 in
theorem cm_book (l : Launch) (D : va_G) (K : (Nat → Nat) × (Nat → Nat)) (cy : Nat → ClassId) (ad : Nat → Nat) (S_0 : zSt) (a_1 : Int32) (ro : Int32) (So : zSt) (hf : fm_book S_0 a_1 = some (ro, So)) : zMI l yX12_book (zws yX12_book cX12_book 2 (Option.some .int)) ({ frames := 1, cells := 0, slots := 0, locals := 22 }) D (zTy cy) K (zM cy ad) [.ref (ad 0), .int a_1] S_0 ro So := by
  refine z_metI (own := RX12) (lv := [(0, .ref (ad 0)), (1, .int a_1)]) (by decide) rfl rfl (Nat.le_of_ble_eq_true rfl) rfl ?_
  intro p e s m below meth c A Q X hK hE hD hA hret hP hS ls hl
  obtain ⟨hx, hb, hml, hown, hts⟩ := id X
  have k0 := (fun w h => List.mem_cons_of_mem _ (zFX12 w h) : ∀ w ∈ u_ws RX12 TX12 36, w ∈ zws yX12_book cX12_book 2 (Option.some .int))
  have k1 := hts _ (List.mem_cons_of_mem _ wt_5_95)
  refine lv_aload_n hx hb dX12_book_0 rfl (lv_at hl 0 rfl) ?_
  refine va_get (D := D) (ci := 12) (v := .ref (ad 1)) (C := RX12) (T := TX12) (N := 36) hx hb hts k0 hown hK hP 0 (zM_0 cy ad S_0) rfl 0 (by decide) k1 (fun _ h9 => h9) rfl dX12_book_1 ?_
  refine lv_bipush (v := 9) hx hb dX12_book_4 (by decide) ?_
  refine z_iald hx hb hK hP 1 0 (zM_1 cy ad S_0) rfl (vp_in_iff.mpr (by decide)) (k := 9) (by decide) dX12_book_6 ?_
  refine lv_iconst (v := -1) hx hb dX12_book_7 (by decide) ?_
  refine lv_icmp_ne (tgt := 13) hx hb dX12_book_8 (by decide) (fun c_9 => ?_) (fun c_9 => ?_)
  · have hf := z_if c_9 hf
    refine lv_iload_n hx hb dX12_book_13 rfl (lv_at hl 1 rfl) ?_
    refine lv_bipush (v := 100) hx hb dX12_book_14 (by decide) ?_
    obtain ⟨j_60, ej_60, hf⟩ := z_nm hf
    have J_60 : ∀ (x_1 : Int32) (S_2 : zSt) (H : Heap) (locs : List Loc) (ls : Array Slot), j_60 x_1 S_2 = some (ro, So) → va_P D vwCl (zM cy ad S_2) H → va_S A s.heap H locs → lv_has ls 2 [] → W p l e ({ frames := 1, cells := 0, slots := 0, locals := 22 }) s m ([.ref (ad 0), .int a_1] : List Value).toArray below meth c H locs 0 0 Q (F0 m 60 ls [.int x_1]) := by
      intro x_1 S_2 H locs ls hf hP hS hl
      have hf := z_e2 ej_60 hf
      obtain ⟨h1, h2⟩ := z_s2 hf
      subst h1 h2
      exact hret _ _ _ _ hP hS dX12_book_60
    refine lv_icmp_ne (tgt := 29) hx hb dX12_book_16 (by decide) (fun c_8 => ?_) (fun c_8 => ?_)
    · have hf := z_if c_8 hf
      refine lv_iload_n hx hb dX12_book_29 rfl (lv_at hl 1 rfl) ?_
      refine lv_iconst (v := 0) hx hb dX12_book_30 (by decide) ?_
      refine lv_aload_n hx hb dX12_book_31 rfl (lv_at hl 0 rfl) ?_
      refine va_get (D := D) (ci := 12) (v := .ref (ad 1)) (C := RX12) (T := TX12) (N := 36) hx hb hts k0 hown hK hP 0 (zM_0 cy ad S_0) rfl 0 (by decide) k1 (fun _ h9 => h9) rfl dX12_book_32 ?_
      refine lv_bipush (v := 9) hx hb dX12_book_35 (by decide) ?_
      refine z_iald hx hb hK hP 1 0 (zM_1 cy ad S_0) rfl (vp_in_iff.mpr (by decide)) (k := 9) (by decide) dX12_book_37 ?_
      refine lv_iconst (v := 1) hx hb dX12_book_38 (by decide) ?_
      refine lv_isub hx hb dX12_book_39 ?_
      obtain ⟨r_3, S_4, h_5, hf⟩ := z_bd hf
      refine z_cSI (As := [.int a_1, .int (0 : Int32), .int ((S_0.1 1 9) - (1 : Int32))]) (rest := []) X hK hE hD hA hP hS (cm_isIn l D K cy ad S_0 _ _ _ _ _ h_5) (va_cwS 3 hts (z_gS wt_5_216 wt_5_217 wt_1_13 wt_5_218) rfl rfl rfl yd_yX12_isIn ⟨Nat.le_of_ble_eq_true rfl, Nat.le_of_ble_eq_true rfl⟩) hl.1 rfl rfl (Nat.le_of_ble_eq_true rfl) dX12_book_40 (fun H locs hP hS => ?_)
      refine lv_if_eq (tgt := 59) hx hb dX12_book_43 (by decide) (fun c_7 => ?_) (fun c_7 => ?_)
      · have hf := z_it c_7 hf
        refine lv_iconst (v := -1) hx hb dX12_book_59 (by decide) ?_
        exact J_60 (-1 : Int32) S_4 _ _ _ hf hP hS (lv_sub hl [] rfl)
      · have hf := z_if c_7 hf
        refine lv_aload_n hx hb dX12_book_46 rfl (lv_at hl 0 rfl) ?_
        refine va_get (D := D) (ci := 12) (v := .ref (ad 1)) (C := RX12) (T := TX12) (N := 36) hx hb hts k0 hown hK hP 0 (zM_0 cy ad S_4) rfl 0 (by decide) k1 (fun _ h9 => h9) rfl dX12_book_47 ?_
        refine lv_sipush (v := 170) hx hb dX12_book_50 (by decide) ?_
        refine lv_iload_n hx hb dX12_book_53 rfl (lv_at hl 1 rfl) ?_
        refine lv_iadd hx hb dX12_book_54 ?_
        obtain ⟨h_6, hf⟩ := z_ix hf
        refine z_iald hx hb hK hP 1 0 (zM_1 cy ad S_4) rfl h_6 (k := (((170 : Int32) + a_1).toNatClampNeg)) rfl dX12_book_55 ?_
        refine lv_goto (tgt := 60) hx hb dX12_book_56 (by decide) ?_
        exact J_60 (S_4.1 1 (((170 : Int32) + a_1).toNatClampNeg)) S_4 _ _ _ hf hP hS (lv_sub hl [] rfl)
    · have hf := z_it c_8 hf
      refine lv_aload_n hx hb dX12_book_19 rfl (lv_at hl 0 rfl) ?_
      refine va_get (D := D) (ci := 12) (v := .ref (ad 1)) (C := RX12) (T := TX12) (N := 36) hx hb hts k0 hown hK hP 0 (zM_0 cy ad S_0) rfl 0 (by decide) k1 (fun _ h9 => h9) rfl dX12_book_20 ?_
      refine lv_bipush (v := 10) hx hb dX12_book_23 (by decide) ?_
      refine z_iald hx hb hK hP 1 0 (zM_1 cy ad S_0) rfl (vp_in_iff.mpr (by decide)) (k := 10) (by decide) dX12_book_25 ?_
      refine lv_goto (tgt := 60) hx hb dX12_book_26 (by decide) ?_
      exact J_60 (S_0.1 1 10) S_0 _ _ _ hf hP hS (lv_sub hl [] rfl)
  · have hf := z_it c_9 hf
    refine lv_iconst (v := -1) hx hb dX12_book_11 (by decide) ?_
    obtain ⟨h1, h2⟩ := z_s2 hf
    subst h1 h2
    exact hret _ _ _ _ hP hS dX12_book_12
theorem yd_yX12_bakes : (yX12_bakes).cls ≠ "java/lang/invoke/MethodHandle" ∧ (yX12_bakes).cls ≠ "java/lang/invoke/VarHandle" ∧ (parseMethodDescriptor (yX12_bakes).desc).map (fun d => d.parameters.length) = some 0 := by decide +kernel
def fm_bakes_L9 : Nat → Int32 → Int32 → zSt → Option (Int32 × zSt)
  | 0, _, _, _ => none
  | n_9 + 1, x_2, x_3, S_4 =>
    if (S_4.1 1 4) ≤ x_3 then (
    some (x_2, S_4)) else (
    zck (zix x_3 9) <|
    zbd (fm_heats S_4 (S_4.1 11 (x_3.toNatClampNeg))) fun r_6 S_7 =>
    zck (zix x_3 9) <|
    znm (zpI S_7 12 (x_3.toNatClampNeg) r_6) fun S_10 =>
    zck (zix x_3 9) <|
    znm (x_2 + (S_10.1 12 (x_3.toNatClampNeg))) fun x_12 =>
    znm (x_3 + (1 : Int32)) fun x_13 =>
    fm_bakes_L9 n_9 x_12 x_13 S_10)
def fm_bakes (S_0 : zSt) : Option (Int32 × zSt) :=
  znm (zpI S_0 0 24 (0 : Int32)) fun S_1 =>
  fm_bakes_L9 zFU (0 : Int32) (0 : Int32) S_1
set_option maxHeartbeats 4000000 in
set_option maxRecDepth 100000 in
theorem cm_bakes (l : Launch) (D : va_G) (K : (Nat → Nat) × (Nat → Nat)) (cy : Nat → ClassId) (ad : Nat → Nat) (S_0 : zSt) (ro : Int32) (So : zSt) (hf : fm_bakes S_0 = some (ro, So)) : zMI l yX12_bakes (zws yX12_bakes cX12_bakes 3 (Option.some .int)) ({ frames := 3, cells := 0, slots := 0, locals := 65 }) D (zTy cy) K (zM cy ad) [.ref (ad 0)] S_0 ro So := by
  refine z_metI (own := RX12) (lv := [(0, .ref (ad 0))]) (by decide) rfl rfl (Nat.le_of_ble_eq_true rfl) rfl ?_
  intro p e s m below meth c A Q X hK hE hD hA hret hP hS ls hl
  obtain ⟨hx, hb, hml, hown, hts⟩ := id X
  have k0 := (fun w h => List.mem_cons_of_mem _ (zFX12 w h) : ∀ w ∈ u_ws RX12 TX12 36, w ∈ zws yX12_bakes cX12_bakes 3 (Option.some .int))
  have k1 := hts _ (List.mem_cons_of_mem _ wt_5_119)
  have k2 := hts _ (List.mem_cons_of_mem _ wt_5_95)
  have k3 := hts _ (List.mem_cons_of_mem _ wt_5_121)
  have k4 := hts _ (List.mem_cons_of_mem _ wt_5_120)
  refine lv_iconst (v := 0) hx hb dX12_bakes_0 (by decide) ?_
  refine lv_istore_n (lv' := [(1, .int (0 : Int32)), (0, .ref (ad 0))]) hx hb dX12_bakes_1 rfl hl (by decide) rfl (fun ls hl => ?_)
  refine lv_aload_n hx hb dX12_bakes_2 rfl (lv_at hl 1 rfl) ?_
  refine lv_iconst (v := 0) hx hb dX12_bakes_3 (by decide) ?_
  refine va_put (D := D) (ci := 12) (v := .int (0 : Int32)) (ty := .int) (C := RX12) (T := TX12) (N := 36) hx hb hts k0 tyX12 tyX12_ok nmX12 hown hK hP (hD S_0) hS 0 (zM_0 cy ad S_0) rfl 24 (by decide) k1 (fun _ h9 => h9) rfl (tyX12_ok 24 (by decide)) rfl rfl (Nat.le_of_ble_eq_true rfl) dX12_bakes_4 (fun H locs hP _ hS => ?_)
  obtain ⟨S_1, eS_1, hf⟩ := z_nm hf
  have hP := zW_putI hP eS_1 (by decide) rfl
  refine lv_iconst (v := 0) hx hb dX12_bakes_7 (by decide) ?_
  refine lv_istore_n (lv' := [(2, .int (0 : Int32)), (1, .int (0 : Int32)), (0, .ref (ad 0))]) hx hb dX12_bakes_8 rfl hl (by decide) rfl (fun ls hl => ?_)
  have L_9 : ∀ (n_9 : Nat) (x_2 : Int32) (x_3 : Int32) (S_4 : zSt) (H : Heap) (locs : List Loc) (ls : Array Slot), fm_bakes_L9 n_9 x_2 x_3 S_4 = some (ro, So) → va_P D vwCl (zM cy ad S_4) H → va_S A s.heap H locs → lv_has ls 3 [(0, .ref (ad 0)), (1, .int x_2), (2, .int x_3)] → W p l e ({ frames := 3, cells := 0, slots := 0, locals := 65 }) s m ([.ref (ad 0)] : List Value).toArray below meth c H locs 0 0 Q (F0 m 9 ls []) := by
    intro n_9
    induction n_9 with
    | zero =>
      intro x_2 x_3 S_4 H locs ls hf hP hS hl
      exact z_no hf
    | succ n_9 ih_9 =>
      intro x_2 x_3 S_4 H locs ls hf hP hS hl
      rw [fm_bakes_L9] at hf
      refine lv_iload_n hx hb dX12_bakes_9 rfl (lv_at hl 2 rfl) ?_
      refine lv_aload_n hx hb dX12_bakes_10 rfl (lv_at hl 0 rfl) ?_
      refine va_get (D := D) (ci := 12) (v := .ref (ad 1)) (C := RX12) (T := TX12) (N := 36) hx hb hts k0 hown hK hP 0 (zM_0 cy ad S_4) rfl 0 (by decide) k2 (fun _ h9 => h9) rfl dX12_bakes_11 ?_
      refine lv_iconst (v := 4) hx hb dX12_bakes_14 (by decide) ?_
      refine z_iald hx hb hK hP 1 0 (zM_1 cy ad S_4) rfl (vp_in_iff.mpr (by decide)) (k := 4) (by decide) dX12_bakes_15 ?_
      refine lv_icmp_ge (tgt := 50) hx hb dX12_bakes_16 (by decide) (fun c_14 => ?_) (fun c_14 => ?_)
      · have hf := z_it c_14 hf
        refine lv_iload_n hx hb dX12_bakes_50 rfl (lv_at hl 1 rfl) ?_
        obtain ⟨h1, h2⟩ := z_s2 hf
        subst h1 h2
        exact hret _ _ _ _ hP hS dX12_bakes_51
      · have hf := z_if c_14 hf
        refine lv_aload_n hx hb dX12_bakes_19 rfl (lv_at hl 0 rfl) ?_
        refine va_get (D := D) (ci := 12) (v := .ref (ad 12)) (C := RX12) (T := TX12) (N := 36) hx hb hts k0 hown hK hP 0 (zM_0 cy ad S_4) rfl 26 (by decide) k3 (fun _ h9 => h9) rfl dX12_bakes_20 ?_
        refine lv_iload_n hx hb dX12_bakes_23 rfl (lv_at hl 2 rfl) ?_
        refine lv_aload_n hx hb dX12_bakes_24 rfl (lv_at hl 0 rfl) ?_
        refine lv_aload_n hx hb dX12_bakes_25 rfl (lv_at hl 0 rfl) ?_
        refine va_get (D := D) (ci := 12) (v := .ref (ad 11)) (C := RX12) (T := TX12) (N := 36) hx hb hts k0 hown hK hP 0 (zM_0 cy ad S_4) rfl 25 (by decide) k4 (fun _ h9 => h9) rfl dX12_bakes_26 ?_
        refine lv_iload_n hx hb dX12_bakes_29 rfl (lv_at hl 2 rfl) ?_
        obtain ⟨h_5, hf⟩ := z_ix hf
        refine z_iald hx hb hK hP 11 0 (zM_11 cy ad S_4) rfl h_5 (k := (x_3.toNatClampNeg)) rfl dX12_bakes_30 ?_
        obtain ⟨r_6, S_7, h_8, hf⟩ := z_bd hf
        refine z_cVI (As := [.int (S_4.1 11 (x_3.toNatClampNeg))]) (rest := [.int x_3, .ref (ad 12)]) X hK hE hD hA hP hS (cm_heats l D K cy ad S_4 _ _ _ h_8) (cwV 1 hts (z_gV wt_6_153 wt_6_155 wp_74 wt_1_13 wt_6_156) rfl rfl rfl ⟨rfl, yd_yX12_heats⟩ ⟨Nat.le_of_ble_eq_true rfl, Nat.le_of_ble_eq_true rfl⟩) (va_recv hK hP (ci := 12) (q0 := 0) rfl (zM_0 cy ad S_4)) hl.1 rfl rfl (Nat.le_of_ble_eq_true rfl) dX12_bakes_31 (fun H locs hP hS => ?_)
        obtain ⟨h_9, hf⟩ := z_ix hf
        refine z_iast hx hb hK hP (hD S_7) hS 12 0 (zM_12 cy ad S_7) rfl h_9 (k := (x_3.toNatClampNeg)) rfl dX12_bakes_34 (fun H locs hP hS => ?_)
        obtain ⟨S_10, eS_10, hf⟩ := z_nm hf
        have hP := zW_putI hP eS_10 (by decide) rfl
        refine lv_iload_n hx hb dX12_bakes_35 rfl (lv_at hl 1 rfl) ?_
        refine lv_aload_n hx hb dX12_bakes_36 rfl (lv_at hl 0 rfl) ?_
        refine va_get (D := D) (ci := 12) (v := .ref (ad 12)) (C := RX12) (T := TX12) (N := 36) hx hb hts k0 hown hK hP 0 (zM_0 cy ad S_10) rfl 26 (by decide) k3 (fun _ h9 => h9) rfl dX12_bakes_37 ?_
        refine lv_iload_n hx hb dX12_bakes_40 rfl (lv_at hl 2 rfl) ?_
        obtain ⟨h_11, hf⟩ := z_ix hf
        refine z_iald hx hb hK hP 12 0 (zM_12 cy ad S_10) rfl h_11 (k := (x_3.toNatClampNeg)) rfl dX12_bakes_41 ?_
        refine lv_iadd hx hb dX12_bakes_42 ?_
        refine lv_topi (fun x_12 ex_12 => ?_)
        have hf := z_nv ex_12 hf
        refine lv_istore_n (lv' := [(1, .int x_12), (0, .ref (ad 0)), (2, .int x_3)]) hx hb dX12_bakes_43 rfl hl (by decide) rfl (fun ls hl => ?_)
        obtain ⟨x_13, ex_13, hf⟩ := z_nm hf
        refine lv_iinc (v := x_13) (lv' := [(2, .int x_13), (1, .int x_12), (0, .ref (ad 0))]) hx hb dX12_bakes_44 hl (k := 2) rfl (by rw [ex_13]; rfl) (by decide) rfl (fun ls hl => ?_)
        refine lv_goto (tgt := 9) hx hb dX12_bakes_47 (by decide) ?_
        exact ih_9 x_12 x_13 S_10 _ _ _ hf hP hS (lv_sub hl [2, 1, 0] rfl)
  exact L_9 zFU (0 : Int32) (0 : Int32) S_1 _ _ _ hf hP hS (lv_sub hl [2, 1, 0] rfl)
theorem yd_yX12_gainAt : (yX12_gainAt).cls ≠ "java/lang/invoke/MethodHandle" ∧ (yX12_gainAt).cls ≠ "java/lang/invoke/VarHandle" ∧ (parseMethodDescriptor (yX12_gainAt).desc).map (fun d => d.parameters.length) = some 1 := by decide +kernel
def fm_gainAt (S_0 : zSt) (a_1 : Int32) : Option (Int32 × zSt) :=
  znm (fun (x_1 : Int32) (S_2 : zSt) =>
  znm (fun (x_3 : Int32) (S_4 : zSt) =>
  zck (zix a_1 9) <|
  some (x_3 - ((S_4.1 1 2) * (S_4.1 12 (a_1.toNatClampNeg))), S_4)) fun j_53 =>
  if (S_2.1 1 4) ≤ (a_1 + (1 : Int32)) then (
  j_53 x_1 S_2) else (
  zck (zix (a_1 + (1 : Int32)) 9) <|
  zbd (fm_loaf S_2 (S_2.1 11 ((a_1 + (1 : Int32)).toNatClampNeg))) fun r_7 S_8 =>
  znm (x_1 + (r_7 / (9 : Int32))) fun x_10 =>
  j_53 x_10 S_8)) fun j_22 =>
  if a_1 = 0 then (
  j_22 (0 : Int32) S_0) else (
  zck (zix a_1 9) <|
  zbd (fm_loaf S_0 (S_0.1 11 (a_1.toNatClampNeg))) fun r_13 S_14 =>
  j_22 (-(r_13 / (9 : Int32))) S_14)
set_option maxHeartbeats 4000000 in
set_option maxRecDepth 100000 in
theorem cm_gainAt (l : Launch) (D : va_G) (K : (Nat → Nat) × (Nat → Nat)) (cy : Nat → ClassId) (ad : Nat → Nat) (S_0 : zSt) (a_1 : Int32) (ro : Int32) (So : zSt) (hf : fm_gainAt S_0 a_1 = some (ro, So)) : zMI l yX12_gainAt (zws yX12_gainAt cX12_gainAt 3 (Option.some .int)) ({ frames := 2, cells := 0, slots := 0, locals := 43 }) D (zTy cy) K (zM cy ad) [.ref (ad 0), .int a_1] S_0 ro So := by
  refine z_metI (own := RX12) (lv := [(0, .ref (ad 0)), (1, .int a_1)]) (by decide) rfl rfl (Nat.le_of_ble_eq_true rfl) rfl ?_
  intro p e s m below meth c A Q X hK hE hD hA hret hP hS ls hl
  obtain ⟨hx, hb, hml, hown, hts⟩ := id X
  have k0 := (fun w h => List.mem_cons_of_mem _ (zFX12 w h) : ∀ w ∈ u_ws RX12 TX12 36, w ∈ zws yX12_gainAt cX12_gainAt 3 (Option.some .int))
  have k1 := hts _ (List.mem_cons_of_mem _ wt_5_95)
  have k2 := hts _ (List.mem_cons_of_mem _ wt_5_121)
  have k3 := hts _ (List.mem_cons_of_mem _ wt_5_120)
  refine lv_iload_n hx hb dX12_gainAt_0 rfl (lv_at hl 1 rfl) ?_
  obtain ⟨j_22, ej_22, hf⟩ := z_nm hf
  have J_22 : ∀ (x_1 : Int32) (S_2 : zSt) (H : Heap) (locs : List Loc) (ls : Array Slot), j_22 x_1 S_2 = some (ro, So) → va_P D vwCl (zM cy ad S_2) H → va_S A s.heap H locs → lv_has ls 3 [(0, .ref (ad 0)), (1, .int a_1)] → W p l e ({ frames := 2, cells := 0, slots := 0, locals := 43 }) s m ([.ref (ad 0), .int a_1] : List Value).toArray below meth c H locs 0 0 Q (F0 m 22 ls [.int x_1]) := by
    intro x_1 S_2 H locs ls hf hP hS hl
    have hf := z_e2 ej_22 hf
    refine lv_istore_n (lv' := [(2, .int x_1), (0, .ref (ad 0)), (1, .int a_1)]) hx hb dX12_gainAt_22 rfl hl (by decide) rfl (fun ls hl => ?_)
    refine lv_iload_n hx hb dX12_gainAt_23 rfl (lv_at hl 2 rfl) ?_
    refine lv_iconst (v := 1) hx hb dX12_gainAt_24 (by decide) ?_
    refine lv_iadd hx hb dX12_gainAt_25 ?_
    refine lv_aload_n hx hb dX12_gainAt_26 rfl (lv_at hl 1 rfl) ?_
    refine va_get (D := D) (ci := 12) (v := .ref (ad 1)) (C := RX12) (T := TX12) (N := 36) hx hb hts k0 hown hK hP 0 (zM_0 cy ad S_2) rfl 0 (by decide) k1 (fun _ h9 => h9) rfl dX12_gainAt_27 ?_
    refine lv_iconst (v := 4) hx hb dX12_gainAt_30 (by decide) ?_
    refine z_iald hx hb hK hP 1 0 (zM_1 cy ad S_2) rfl (vp_in_iff.mpr (by decide)) (k := 4) (by decide) dX12_gainAt_31 ?_
    obtain ⟨j_53, ej_53, hf⟩ := z_nm hf
    have J_53 : ∀ (x_3 : Int32) (S_4 : zSt) (H : Heap) (locs : List Loc) (ls : Array Slot), j_53 x_3 S_4 = some (ro, So) → va_P D vwCl (zM cy ad S_4) H → va_S A s.heap H locs → lv_has ls 3 [(0, .ref (ad 0)), (1, .int a_1), (2, .int x_3)] → W p l e ({ frames := 2, cells := 0, slots := 0, locals := 43 }) s m ([.ref (ad 0), .int a_1] : List Value).toArray below meth c H locs 0 0 Q (F0 m 53 ls []) := by
      intro x_3 S_4 H locs ls hf hP hS hl
      have hf := z_e2 ej_53 hf
      refine lv_iload_n hx hb dX12_gainAt_53 rfl (lv_at hl 2 rfl) ?_
      refine lv_aload_n hx hb dX12_gainAt_54 rfl (lv_at hl 0 rfl) ?_
      refine va_get (D := D) (ci := 12) (v := .ref (ad 1)) (C := RX12) (T := TX12) (N := 36) hx hb hts k0 hown hK hP 0 (zM_0 cy ad S_4) rfl 0 (by decide) k1 (fun _ h9 => h9) rfl dX12_gainAt_55 ?_
      refine lv_iconst (v := 2) hx hb dX12_gainAt_58 (by decide) ?_
      refine z_iald hx hb hK hP 1 0 (zM_1 cy ad S_4) rfl (vp_in_iff.mpr (by decide)) (k := 2) (by decide) dX12_gainAt_59 ?_
      refine lv_aload_n hx hb dX12_gainAt_60 rfl (lv_at hl 0 rfl) ?_
      refine va_get (D := D) (ci := 12) (v := .ref (ad 12)) (C := RX12) (T := TX12) (N := 36) hx hb hts k0 hown hK hP 0 (zM_0 cy ad S_4) rfl 26 (by decide) k2 (fun _ h9 => h9) rfl dX12_gainAt_61 ?_
      refine lv_iload_n hx hb dX12_gainAt_64 rfl (lv_at hl 1 rfl) ?_
      obtain ⟨h_5, hf⟩ := z_ix hf
      refine z_iald hx hb hK hP 12 0 (zM_12 cy ad S_4) rfl h_5 (k := (a_1.toNatClampNeg)) rfl dX12_gainAt_65 ?_
      refine lv_imul hx hb dX12_gainAt_66 ?_
      refine lv_isub hx hb dX12_gainAt_67 ?_
      obtain ⟨h1, h2⟩ := z_s2 hf
      subst h1 h2
      exact hret _ _ _ _ hP hS dX12_gainAt_68
    refine lv_icmp_ge (tgt := 53) hx hb dX12_gainAt_32 (by decide) (fun c_11 => ?_) (fun c_11 => ?_)
    · have hf := z_it c_11 hf
      exact J_53 x_1 S_2 _ _ _ hf hP hS (lv_sub hl [1, 2, 0] rfl)
    · have hf := z_if c_11 hf
      refine lv_iload_n hx hb dX12_gainAt_35 rfl (lv_at hl 0 rfl) ?_
      refine lv_aload_n hx hb dX12_gainAt_36 rfl (lv_at hl 1 rfl) ?_
      refine lv_aload_n hx hb dX12_gainAt_37 rfl (lv_at hl 1 rfl) ?_
      refine va_get (D := D) (ci := 12) (v := .ref (ad 11)) (C := RX12) (T := TX12) (N := 36) hx hb hts k0 hown hK hP 0 (zM_0 cy ad S_2) rfl 25 (by decide) k3 (fun _ h9 => h9) rfl dX12_gainAt_38 ?_
      refine lv_iload_n hx hb dX12_gainAt_41 rfl (lv_at hl 2 rfl) ?_
      refine lv_iconst (v := 1) hx hb dX12_gainAt_42 (by decide) ?_
      refine lv_iadd hx hb dX12_gainAt_43 ?_
      obtain ⟨h_6, hf⟩ := z_ix hf
      refine z_iald hx hb hK hP 11 0 (zM_11 cy ad S_2) rfl h_6 (k := ((a_1 + (1 : Int32)).toNatClampNeg)) rfl dX12_gainAt_44 ?_
      obtain ⟨r_7, S_8, h_9, hf⟩ := z_bd hf
      refine z_cVI (As := [.int (S_2.1 11 ((a_1 + (1 : Int32)).toNatClampNeg))]) (rest := [.int x_1]) X hK hE hD hA hP hS (cm_loaf l D K cy ad S_2 _ _ _ h_9) (cwV 1 hts (z_gV wt_6_149 wt_6_151 wp_73 wt_1_13 wt_6_152) rfl rfl rfl ⟨rfl, yd_yX12_loaf⟩ ⟨Nat.le_of_ble_eq_true rfl, Nat.le_of_ble_eq_true rfl⟩) (va_recv hK hP (ci := 12) (q0 := 0) rfl (zM_0 cy ad S_2)) hl.1 rfl rfl (Nat.le_of_ble_eq_true rfl) dX12_gainAt_45 (fun H locs hP hS => ?_)
      refine lv_bipush (v := 9) hx hb dX12_gainAt_48 (by decide) ?_
      refine lv_idiv hx hb dX12_gainAt_50 (by decide) ?_
      refine lv_iadd hx hb dX12_gainAt_51 ?_
      refine lv_topi (fun x_10 ex_10 => ?_)
      have hf := z_nv ex_10 hf
      refine lv_istore_n (lv' := [(2, .int x_10), (0, .ref (ad 0)), (1, .int a_1)]) hx hb dX12_gainAt_52 rfl hl (by decide) rfl (fun ls hl => ?_)
      exact J_53 x_10 S_8 _ _ _ hf hP hS (lv_sub hl [1, 2, 0] rfl)
  refine lv_if_ne (tgt := 8) hx hb dX12_gainAt_1 (by decide) (fun c_16 => ?_) (fun c_16 => ?_)
  · have hf := z_if c_16 hf
    refine lv_aload_n hx hb dX12_gainAt_8 rfl (lv_at hl 0 rfl) ?_
    refine lv_aload_n hx hb dX12_gainAt_9 rfl (lv_at hl 0 rfl) ?_
    refine va_get (D := D) (ci := 12) (v := .ref (ad 11)) (C := RX12) (T := TX12) (N := 36) hx hb hts k0 hown hK hP 0 (zM_0 cy ad S_0) rfl 25 (by decide) k3 (fun _ h9 => h9) rfl dX12_gainAt_10 ?_
    refine lv_iload_n hx hb dX12_gainAt_13 rfl (lv_at hl 1 rfl) ?_
    obtain ⟨h_12, hf⟩ := z_ix hf
    refine z_iald hx hb hK hP 11 0 (zM_11 cy ad S_0) rfl h_12 (k := (a_1.toNatClampNeg)) rfl dX12_gainAt_14 ?_
    obtain ⟨r_13, S_14, h_15, hf⟩ := z_bd hf
    refine z_cVI (As := [.int (S_0.1 11 (a_1.toNatClampNeg))]) (rest := []) X hK hE hD hA hP hS (cm_loaf l D K cy ad S_0 _ _ _ h_15) (cwV 1 hts (z_gV wt_6_149 wt_6_151 wp_73 wt_1_13 wt_6_152) rfl rfl rfl ⟨rfl, yd_yX12_loaf⟩ ⟨Nat.le_of_ble_eq_true rfl, Nat.le_of_ble_eq_true rfl⟩) (va_recv hK hP (ci := 12) (q0 := 0) rfl (zM_0 cy ad S_0)) hl.1 rfl rfl (Nat.le_of_ble_eq_true rfl) dX12_gainAt_15 (fun H locs hP hS => ?_)
    refine lv_bipush (v := 9) hx hb dX12_gainAt_18 (by decide) ?_
    refine lv_idiv hx hb dX12_gainAt_20 (by decide) ?_
    refine lv_ineg hx hb dX12_gainAt_21 ?_
    exact J_22 (-(r_13 / (9 : Int32))) S_14 _ _ _ hf hP hS (lv_sub hl [0, 1] rfl)
  · have hf := z_it c_16 hf
    refine lv_iconst (v := 0) hx hb dX12_gainAt_4 (by decide) ?_
    refine lv_goto (tgt := 22) hx hb dX12_gainAt_5 (by decide) ?_
    exact J_22 (0 : Int32) S_0 _ _ _ hf hP hS (lv_sub hl [0, 1] rfl)
theorem yd_yX12_gain : (yX12_gain).cls ≠ "java/lang/invoke/MethodHandle" ∧ (yX12_gain).cls ≠ "java/lang/invoke/VarHandle" ∧ (parseMethodDescriptor (yX12_gain).desc).map (fun d => d.parameters.length) = some 1 := by decide +kernel
def fm_gain_L40 (a_1 : Int32) (x_1 : Int32) (j_77 : zSt → Option (Int32 × zSt)) : Nat → Int32 → Int32 → Int32 → zSt → Option (Int32 × zSt)
  | 0, _, _, _, _ => none
  | n_40 + 1, x_8, x_9, x_10, S_11 =>
    if x_1 ≤ x_10 then (
    zbd (fm_bakes S_11) fun r_12 S_13 =>
    zbd (fm_gainAt S_13 x_9) fun r_15 S_16 =>
    some (r_15, S_16)) else (
    zck (zix x_10 400) <|
    znm ((S_11.1 6 (x_10.toNatClampNeg)) - (48 : Int32)) fun x_19 =>
    zbd (fm_isHouse S_11 x_19) fun r_20 S_21 =>
    if r_20 = 0 then (
    j_77  S_21) else (
    if ((x_8 >>> (x_19 &&& 31)) &&& (1 : Int32)) = (1 : Int32) then (
    j_77  S_21) else (
    znm (x_8 ||| ((1 : Int32) <<< (x_19 &&& 31))) fun x_23 =>
    zck (zix x_10 9) <|
    znm (zpI S_21 11 (x_10.toNatClampNeg) x_19) fun S_25 =>
    znm (fun (x_26 : Int32) (S_27 : zSt) =>
    znm (x_10 + (1 : Int32)) fun x_28 =>
    fm_gain_L40 a_1 x_1 j_77 n_40 x_23 x_26 x_28 S_27) fun j_110 =>
    if x_19 = a_1 then (
    j_110 x_10 S_25) else (
    j_110 x_9 S_25))))
def fm_gain (S_0 : zSt) (a_1 : Int32) : Option (Int32 × zSt) :=
  znm (S_0.1 0 12) fun x_1 =>
  znm (zpI S_0 0 12 (0 : Int32)) fun S_2 =>
  zbd (fm_isHouse S_2 a_1) fun r_3 S_4 =>
  znm (fun (S_6 : zSt) =>
  some ((-1000000000 : Int32), S_6)) fun j_28 =>
  if r_3 = 0 then (
  j_28  S_4) else (
  if x_1 = (S_4.1 1 4) then (
  znm (fun (S_7 : zSt) =>
  some ((-1000000000 : Int32), S_7)) fun j_77 =>
  fm_gain_L40 a_1 x_1 j_77 zFU (0 : Int32) (-1 : Int32) (0 : Int32) S_4) else (
  j_28  S_4))
set_option maxHeartbeats 4000000 in
set_option maxRecDepth 100000 in
theorem cm_gain (l : Launch) (D : va_G) (K : (Nat → Nat) × (Nat → Nat)) (cy : Nat → ClassId) (ad : Nat → Nat) (S_0 : zSt) (a_1 : Int32) (ro : Int32) (So : zSt) (hf : fm_gain S_0 a_1 = some (ro, So)) : zMI l yX12_gain (zws yX12_gain cX12_gain 7 (Option.some .int)) ({ frames := 4, cells := 0, slots := 0, locals := 87 }) D (zTy cy) K (zM cy ad) [.ref (ad 0), .int a_1] S_0 ro So := by
  refine z_metI (own := RX12) (lv := [(0, .ref (ad 0)), (1, .int a_1)]) (by decide) rfl rfl (Nat.le_of_ble_eq_true rfl) rfl ?_
  intro p e s m below meth c A Q X hK hE hD hA hret hP hS ls hl
  obtain ⟨hx, hb, hml, hown, hts⟩ := id X
  have k0 := (fun w h => List.mem_cons_of_mem _ (zFX12 w h) : ∀ w ∈ u_ws RX12 TX12 36, w ∈ zws yX12_gain cX12_gain 7 (Option.some .int))
  have k1 := hts _ (List.mem_cons_of_mem _ wt_5_107)
  have k2 := hts _ (List.mem_cons_of_mem _ wt_6_165)
  have k3 := hts _ (List.mem_cons_of_mem _ wt_5_95)
  have k4 := hts _ (List.mem_cons_of_mem _ wt_5_102)
  have k5 := hts _ (List.mem_cons_of_mem _ wt_5_120)
  refine lv_aload_n hx hb dX12_gain_0 rfl (lv_at hl 0 rfl) ?_
  refine va_get (D := D) (ci := 12) (v := .int (S_0.1 0 12)) (C := RX12) (T := TX12) (N := 36) hx hb hts k0 hown hK hP 0 (zM_0 cy ad S_0) rfl 12 (by decide) k1 (fun _ h9 => h9) rfl dX12_gain_1 ?_
  refine lv_topi (fun x_1 ex_1 => ?_)
  have hf := z_nv ex_1 hf
  refine lv_istore_n (lv' := [(2, .int x_1), (0, .ref (ad 0)), (1, .int a_1)]) hx hb dX12_gain_4 rfl hl (by decide) rfl (fun ls hl => ?_)
  refine lv_aload_n hx hb dX12_gain_5 rfl (lv_at hl 1 rfl) ?_
  refine lv_iconst (v := 0) hx hb dX12_gain_6 (by decide) ?_
  refine va_put (D := D) (ci := 12) (v := .int (0 : Int32)) (ty := .int) (C := RX12) (T := TX12) (N := 36) hx hb hts k0 tyX12 tyX12_ok nmX12 hown hK hP (hD S_0) hS 0 (zM_0 cy ad S_0) rfl 12 (by decide) k1 (fun _ h9 => h9) rfl (tyX12_ok 12 (by decide)) rfl rfl (Nat.le_of_ble_eq_true rfl) dX12_gain_7 (fun H locs hP _ hS => ?_)
  obtain ⟨S_2, eS_2, hf⟩ := z_nm hf
  have hP := zW_putI hP eS_2 (by decide) rfl
  refine lv_aload_n hx hb dX12_gain_10 rfl (lv_at hl 1 rfl) ?_
  refine lv_iload_n hx hb dX12_gain_11 rfl (lv_at hl 2 rfl) ?_
  obtain ⟨r_3, S_4, h_5, hf⟩ := z_bd hf
  refine z_cVI (As := [.int a_1]) (rest := []) X hK hE hD hA hP hS (cm_isHouse l D K cy ad S_2 _ _ _ h_5) (cwV 1 hts (z_gV wt_6_90 wt_6_92 wp_63 wt_1_13 wt_6_93) rfl rfl rfl ⟨rfl, yd_yX12_isHouse⟩ ⟨Nat.le_of_ble_eq_true rfl, Nat.le_of_ble_eq_true rfl⟩) (va_recv hK hP (ci := 12) (q0 := 0) rfl (zM_0 cy ad S_2)) hl.1 rfl rfl (Nat.le_of_ble_eq_true rfl) dX12_gain_12 (fun H locs hP hS => ?_)
  obtain ⟨j_28, ej_28, hf⟩ := z_nm hf
  have J_28 : ∀ (S_6 : zSt) (H : Heap) (locs : List Loc) (ls : Array Slot), j_28  S_6 = some (ro, So) → va_P D vwCl (zM cy ad S_6) H → va_S A s.heap H locs → lv_has ls 7 [] → W p l e ({ frames := 4, cells := 0, slots := 0, locals := 87 }) s m ([.ref (ad 0), .int a_1] : List Value).toArray below meth c H locs 0 0 Q (F0 m 28 ls []) := by
    intro  S_6 H locs ls hf hP hS hl
    have hf := z_e1 ej_28 hf
    refine lv_ldcw hx hb hown k2 dX12_gain_28 ?_
    obtain ⟨h1, h2⟩ := z_s2 hf
    subst h1 h2
    exact hret _ _ _ _ hP hS dX12_gain_31
  refine lv_if_eq (tgt := 28) hx hb dX12_gain_15 (by decide) (fun c_34 => ?_) (fun c_34 => ?_)
  · have hf := z_it c_34 hf
    exact J_28  S_4 _ _ _ hf hP hS (lv_sub hl [] rfl)
  · have hf := z_if c_34 hf
    refine lv_iload_n hx hb dX12_gain_18 rfl (lv_at hl 0 rfl) ?_
    refine lv_aload_n hx hb dX12_gain_19 rfl (lv_at hl 1 rfl) ?_
    refine va_get (D := D) (ci := 12) (v := .ref (ad 1)) (C := RX12) (T := TX12) (N := 36) hx hb hts k0 hown hK hP 0 (zM_0 cy ad S_4) rfl 0 (by decide) k3 (fun _ h9 => h9) rfl dX12_gain_20 ?_
    refine lv_iconst (v := 4) hx hb dX12_gain_23 (by decide) ?_
    refine z_iald hx hb hK hP 1 0 (zM_1 cy ad S_4) rfl (vp_in_iff.mpr (by decide)) (k := 4) (by decide) dX12_gain_24 ?_
    refine lv_icmp_eq (tgt := 32) hx hb dX12_gain_25 (by decide) (fun c_33 => ?_) (fun c_33 => ?_)
    · have hf := z_it c_33 hf
      refine lv_iconst (v := 0) hx hb dX12_gain_32 (by decide) ?_
      refine lv_istore_n (lv' := [(3, .int (0 : Int32)), (2, .int x_1), (0, .ref (ad 0)), (1, .int a_1)]) hx hb dX12_gain_33 rfl hl (by decide) rfl (fun ls hl => ?_)
      refine lv_iconst (v := -1) hx hb dX12_gain_34 (by decide) ?_
      refine lv_istore (lv' := [(4, .int (-1 : Int32)), (3, .int (0 : Int32)), (2, .int x_1), (0, .ref (ad 0)), (1, .int a_1)]) hx hb dX12_gain_35 hl (by decide) rfl (fun ls hl => ?_)
      refine lv_iconst (v := 0) hx hb dX12_gain_37 (by decide) ?_
      refine lv_istore (lv' := [(5, .int (0 : Int32)), (4, .int (-1 : Int32)), (3, .int (0 : Int32)), (2, .int x_1), (0, .ref (ad 0)), (1, .int a_1)]) hx hb dX12_gain_38 hl (by decide) rfl (fun ls hl => ?_)
      obtain ⟨j_77, ej_77, hf⟩ := z_nm hf
      have J_77 : ∀ (S_7 : zSt) (H : Heap) (locs : List Loc) (ls : Array Slot), j_77  S_7 = some (ro, So) → va_P D vwCl (zM cy ad S_7) H → va_S A s.heap H locs → lv_has ls 7 [] → W p l e ({ frames := 4, cells := 0, slots := 0, locals := 87 }) s m ([.ref (ad 0), .int a_1] : List Value).toArray below meth c H locs 0 0 Q (F0 m 77 ls []) := by
        intro  S_7 H locs ls hf hP hS hl
        have hf := z_e1 ej_77 hf
        refine lv_ldcw hx hb hown k2 dX12_gain_77 ?_
        obtain ⟨h1, h2⟩ := z_s2 hf
        subst h1 h2
        exact hret _ _ _ _ hP hS dX12_gain_80
      have L_40 : ∀ (n_40 : Nat) (x_8 : Int32) (x_9 : Int32) (x_10 : Int32) (S_11 : zSt) (H : Heap) (locs : List Loc) (ls : Array Slot), fm_gain_L40 a_1 x_1 j_77 n_40 x_8 x_9 x_10 S_11 = some (ro, So) → va_P D vwCl (zM cy ad S_11) H → va_S A s.heap H locs → lv_has ls 7 [(0, .ref (ad 0)), (1, .int a_1), (2, .int x_1), (3, .int x_8), (4, .int x_9), (5, .int x_10)] → W p l e ({ frames := 4, cells := 0, slots := 0, locals := 87 }) s m ([.ref (ad 0), .int a_1] : List Value).toArray below meth c H locs 0 0 Q (F0 m 40 ls []) := by
        intro n_40
        induction n_40 with
        | zero =>
          intro x_8 x_9 x_10 S_11 H locs ls hf hP hS hl
          exact z_no hf
        | succ n_40 ih_40 =>
          intro x_8 x_9 x_10 S_11 H locs ls hf hP hS hl
          rw [fm_gain_L40] at hf
          refine lv_iload hx hb dX12_gain_40 (lv_at hl 5 rfl) ?_
          refine lv_iload_n hx hb dX12_gain_42 rfl (lv_at hl 2 rfl) ?_
          refine lv_icmp_ge (tgt := 118) hx hb dX12_gain_43 (by decide) (fun c_32 => ?_) (fun c_32 => ?_)
          · have hf := z_it c_32 hf
            refine lv_aload_n hx hb dX12_gain_118 rfl (lv_at hl 0 rfl) ?_
            obtain ⟨r_12, S_13, h_14, hf⟩ := z_bd hf
            refine z_cVI (As := []) (rest := []) X hK hE hD hA hP hS (cm_bakes l D K cy ad S_11 _ _ h_14) (cwV 0 hts (z_gV wt_6_174 wt_6_176 wp_75 wt_1_13 wt_6_177) rfl rfl rfl ⟨rfl, yd_yX12_bakes⟩ ⟨Nat.le_of_ble_eq_true rfl, Nat.le_of_ble_eq_true rfl⟩) (va_recv hK hP (ci := 12) (q0 := 0) rfl (zM_0 cy ad S_11)) hl.1 rfl rfl (Nat.le_of_ble_eq_true rfl) dX12_gain_119 (fun H locs hP hS => ?_)
            refine lv_pop hx hb dX12_gain_122 rfl ?_
            refine lv_aload_n hx hb dX12_gain_123 rfl (lv_at hl 0 rfl) ?_
            refine lv_iload hx hb dX12_gain_124 (lv_at hl 4 rfl) ?_
            obtain ⟨r_15, S_16, h_17, hf⟩ := z_bd hf
            refine z_cVI (As := [.int x_9]) (rest := []) X hK hE hD hA hP hS (cm_gainAt l D K cy ad S_13 _ _ _ h_17) (cwV 1 hts (z_gV wt_6_178 wt_6_180 wp_76 wt_1_13 wt_6_181) rfl rfl rfl ⟨rfl, yd_yX12_gainAt⟩ ⟨Nat.le_of_ble_eq_true rfl, Nat.le_of_ble_eq_true rfl⟩) (va_recv hK hP (ci := 12) (q0 := 0) rfl (zM_0 cy ad S_13)) hl.1 rfl rfl (Nat.le_of_ble_eq_true rfl) dX12_gain_126 (fun H locs hP hS => ?_)
            obtain ⟨h1, h2⟩ := z_s2 hf
            subst h1 h2
            exact hret _ _ _ _ hP hS dX12_gain_129
          · have hf := z_if c_32 hf
            refine lv_aload_n hx hb dX12_gain_46 rfl (lv_at hl 0 rfl) ?_
            refine va_get (D := D) (ci := 12) (v := .ref (ad 6)) (C := RX12) (T := TX12) (N := 36) hx hb hts k0 hown hK hP 0 (zM_0 cy ad S_11) rfl 7 (by decide) k4 (fun _ h9 => h9) rfl dX12_gain_47 ?_
            refine lv_iload hx hb dX12_gain_50 (lv_at hl 5 rfl) ?_
            obtain ⟨h_18, hf⟩ := z_ix hf
            refine z_iald hx hb hK hP 6 0 (zM_6 cy ad S_11) rfl h_18 (k := (x_10.toNatClampNeg)) rfl dX12_gain_52 ?_
            refine lv_bipush (v := 48) hx hb dX12_gain_53 (by decide) ?_
            refine lv_isub hx hb dX12_gain_55 ?_
            refine lv_topi (fun x_19 ex_19 => ?_)
            have hf := z_nv ex_19 hf
            refine lv_istore (lv' := [(6, .int x_19), (0, .ref (ad 0)), (1, .int a_1), (2, .int x_1), (3, .int x_8), (4, .int x_9), (5, .int x_10)]) hx hb dX12_gain_56 hl (by decide) rfl (fun ls hl => ?_)
            refine lv_aload_n hx hb dX12_gain_58 rfl (lv_at hl 1 rfl) ?_
            refine lv_iload hx hb dX12_gain_59 (lv_at hl 0 rfl) ?_
            obtain ⟨r_20, S_21, h_22, hf⟩ := z_bd hf
            refine z_cVI (As := [.int x_19]) (rest := []) X hK hE hD hA hP hS (cm_isHouse l D K cy ad S_11 _ _ _ h_22) (cwV 1 hts (z_gV wt_6_90 wt_6_92 wp_63 wt_1_13 wt_6_93) rfl rfl rfl ⟨rfl, yd_yX12_isHouse⟩ ⟨Nat.le_of_ble_eq_true rfl, Nat.le_of_ble_eq_true rfl⟩) (va_recv hK hP (ci := 12) (q0 := 0) rfl (zM_0 cy ad S_11)) hl.1 rfl rfl (Nat.le_of_ble_eq_true rfl) dX12_gain_61 (fun H locs hP hS => ?_)
            refine lv_if_eq (tgt := 77) hx hb dX12_gain_64 (by decide) (fun c_31 => ?_) (fun c_31 => ?_)
            · have hf := z_it c_31 hf
              exact J_77  S_21 _ _ _ hf hP hS (lv_sub hl [] rfl)
            · have hf := z_if c_31 hf
              refine lv_iload_n hx hb dX12_gain_67 rfl (lv_at hl 4 rfl) ?_
              refine lv_iload hx hb dX12_gain_68 (lv_at hl 0 rfl) ?_
              refine lv_ishr hx hb dX12_gain_70 ?_
              refine lv_iconst (v := 1) hx hb dX12_gain_71 (by decide) ?_
              refine lv_iand hx hb dX12_gain_72 ?_
              refine lv_iconst (v := 1) hx hb dX12_gain_73 (by decide) ?_
              refine lv_icmp_ne (tgt := 81) hx hb dX12_gain_74 (by decide) (fun c_30 => ?_) (fun c_30 => ?_)
              · have hf := z_if c_30 hf
                refine lv_iload_n hx hb dX12_gain_81 rfl (lv_at hl 4 rfl) ?_
                refine lv_iconst (v := 1) hx hb dX12_gain_82 (by decide) ?_
                refine lv_iload hx hb dX12_gain_83 (lv_at hl 0 rfl) ?_
                refine lv_ishl hx hb dX12_gain_85 ?_
                refine lv_ior hx hb dX12_gain_86 ?_
                refine lv_topi (fun x_23 ex_23 => ?_)
                have hf := z_nv ex_23 hf
                refine lv_istore_n (lv' := [(3, .int x_23), (6, .int x_19), (0, .ref (ad 0)), (1, .int a_1), (2, .int x_1), (4, .int x_9), (5, .int x_10)]) hx hb dX12_gain_87 rfl hl (by decide) rfl (fun ls hl => ?_)
                refine lv_aload_n hx hb dX12_gain_88 rfl (lv_at hl 2 rfl) ?_
                refine va_get (D := D) (ci := 12) (v := .ref (ad 11)) (C := RX12) (T := TX12) (N := 36) hx hb hts k0 hown hK hP 0 (zM_0 cy ad S_21) rfl 25 (by decide) k5 (fun _ h9 => h9) rfl dX12_gain_89 ?_
                refine lv_iload hx hb dX12_gain_92 (lv_at hl 6 rfl) ?_
                refine lv_iload hx hb dX12_gain_94 (lv_at hl 1 rfl) ?_
                obtain ⟨h_24, hf⟩ := z_ix hf
                refine z_iast hx hb hK hP (hD S_21) hS 11 0 (zM_11 cy ad S_21) rfl h_24 (k := (x_10.toNatClampNeg)) rfl dX12_gain_96 (fun H locs hP hS => ?_)
                obtain ⟨S_25, eS_25, hf⟩ := z_nm hf
                have hP := zW_putI hP eS_25 (by decide) rfl
                refine lv_iload hx hb dX12_gain_97 (lv_at hl 1 rfl) ?_
                refine lv_iload_n hx hb dX12_gain_99 rfl (lv_at hl 3 rfl) ?_
                obtain ⟨j_110, ej_110, hf⟩ := z_nm hf
                have J_110 : ∀ (x_26 : Int32) (S_27 : zSt) (H : Heap) (locs : List Loc) (ls : Array Slot), j_110 x_26 S_27 = some (ro, So) → va_P D vwCl (zM cy ad S_27) H → va_S A s.heap H locs → lv_has ls 7 [(0, .ref (ad 0)), (1, .int a_1), (2, .int x_1), (3, .int x_23), (5, .int x_10)] → W p l e ({ frames := 4, cells := 0, slots := 0, locals := 87 }) s m ([.ref (ad 0), .int a_1] : List Value).toArray below meth c H locs 0 0 Q (F0 m 110 ls [.int x_26]) := by
                  intro x_26 S_27 H locs ls hf hP hS hl
                  have hf := z_e2 ej_110 hf
                  refine lv_istore (lv' := [(4, .int x_26), (0, .ref (ad 0)), (1, .int a_1), (2, .int x_1), (3, .int x_23), (5, .int x_10)]) hx hb dX12_gain_110 hl (by decide) rfl (fun ls hl => ?_)
                  obtain ⟨x_28, ex_28, hf⟩ := z_nm hf
                  refine lv_iinc (v := x_28) (lv' := [(5, .int x_28), (4, .int x_26), (0, .ref (ad 0)), (1, .int a_1), (2, .int x_1), (3, .int x_23)]) hx hb dX12_gain_112 hl (k := 5) rfl (by rw [ex_28]; rfl) (by decide) rfl (fun ls hl => ?_)
                  refine lv_goto (tgt := 40) hx hb dX12_gain_115 (by decide) ?_
                  exact ih_40 x_23 x_26 x_28 S_27 _ _ _ hf hP hS (lv_sub hl [2, 3, 4, 5, 1, 0] rfl)
                refine lv_icmp_ne (tgt := 108) hx hb dX12_gain_100 (by decide) (fun c_29 => ?_) (fun c_29 => ?_)
                · have hf := z_if c_29 hf
                  refine lv_iload hx hb dX12_gain_108 (lv_at hl 5 rfl) ?_
                  exact J_110 x_9 S_25 _ _ _ hf hP hS (lv_sub hl [2, 3, 4, 0, 6] rfl)
                · have hf := z_it c_29 hf
                  refine lv_iload hx hb dX12_gain_103 (lv_at hl 6 rfl) ?_
                  refine lv_goto (tgt := 110) hx hb dX12_gain_105 (by decide) ?_
                  exact J_110 x_10 S_25 _ _ _ hf hP hS (lv_sub hl [2, 3, 4, 0, 6] rfl)
              · have hf := z_it c_30 hf
                exact J_77  S_21 _ _ _ hf hP hS (lv_sub hl [] rfl)
      exact L_40 zFU (0 : Int32) (-1 : Int32) (0 : Int32) S_4 _ _ _ hf hP hS (lv_sub hl [4, 5, 3, 2, 1, 0] rfl)
    · have hf := z_if c_33 hf
      exact J_28  S_4 _ _ _ hf hP hS (lv_sub hl [] rfl)
theorem yd_yX12_exchanges : (yX12_exchanges).cls ≠ "java/lang/invoke/MethodHandle" ∧ (yX12_exchanges).cls ≠ "java/lang/invoke/VarHandle" ∧ (parseMethodDescriptor (yX12_exchanges).desc).map (fun d => d.parameters.length) = some 1 := by decide +kernel
def fm_exchanges (S_0 : zSt) (a_1 : Int32) : Option (Unit × zSt) :=
  zck (zix a_1 9) <|
  znm (S_0.1 11 (a_1.toNatClampNeg)) fun x_2 =>
  zck (zix (a_1 + (1 : Int32)) 9) <|
  zck (zix a_1 9) <|
  znm (zpI S_0 11 (a_1.toNatClampNeg) (S_0.1 11 ((a_1 + (1 : Int32)).toNatClampNeg))) fun S_5 =>
  zck (zix (a_1 + (1 : Int32)) 9) <|
  znm (zpI S_5 11 ((a_1 + (1 : Int32)).toNatClampNeg) x_2) fun S_7 =>
  some ((), S_7)
set_option maxHeartbeats 4000000 in
set_option maxRecDepth 100000 in
theorem cm_exchanges (l : Launch) (D : va_G) (K : (Nat → Nat) × (Nat → Nat)) (cy : Nat → ClassId) (ad : Nat → Nat) (S_0 : zSt) (a_1 : Int32) (So : zSt) (hf : fm_exchanges S_0 a_1 = some ((), So)) : zMV l yX12_exchanges (zws yX12_exchanges cX12_exchanges 3 none) ({ frames := 0, cells := 0, slots := 0, locals := 0 }) D (zTy cy) K (zM cy ad) [.ref (ad 0), .int a_1] S_0 So := by
  refine z_metV (own := RX12) (lv := [(0, .ref (ad 0)), (1, .int a_1)]) (by decide) rfl rfl (Nat.le_of_ble_eq_true rfl) rfl ?_
  intro p e s m below meth c A Q X hK hE hD hA hret hP hS ls hl
  obtain ⟨hx, hb, hml, hown, hts⟩ := id X
  have k0 := (fun w h => List.mem_cons_of_mem _ (zFX12 w h) : ∀ w ∈ u_ws RX12 TX12 36, w ∈ zws yX12_exchanges cX12_exchanges 3 none)
  have k1 := hts _ (List.mem_cons_of_mem _ wt_5_120)
  refine lv_aload_n hx hb dX12_exchanges_0 rfl (lv_at hl 0 rfl) ?_
  refine va_get (D := D) (ci := 12) (v := .ref (ad 11)) (C := RX12) (T := TX12) (N := 36) hx hb hts k0 hown hK hP 0 (zM_0 cy ad S_0) rfl 25 (by decide) k1 (fun _ h9 => h9) rfl dX12_exchanges_1 ?_
  refine lv_iload_n hx hb dX12_exchanges_4 rfl (lv_at hl 1 rfl) ?_
  obtain ⟨h_1, hf⟩ := z_ix hf
  refine z_iald hx hb hK hP 11 0 (zM_11 cy ad S_0) rfl h_1 (k := (a_1.toNatClampNeg)) rfl dX12_exchanges_5 ?_
  refine lv_topi (fun x_2 ex_2 => ?_)
  have hf := z_nv ex_2 hf
  refine lv_istore_n (lv' := [(2, .int x_2), (0, .ref (ad 0)), (1, .int a_1)]) hx hb dX12_exchanges_6 rfl hl (by decide) rfl (fun ls hl => ?_)
  refine lv_aload_n hx hb dX12_exchanges_7 rfl (lv_at hl 1 rfl) ?_
  refine va_get (D := D) (ci := 12) (v := .ref (ad 11)) (C := RX12) (T := TX12) (N := 36) hx hb hts k0 hown hK hP 0 (zM_0 cy ad S_0) rfl 25 (by decide) k1 (fun _ h9 => h9) rfl dX12_exchanges_8 ?_
  refine lv_iload_n hx hb dX12_exchanges_11 rfl (lv_at hl 2 rfl) ?_
  refine lv_aload_n hx hb dX12_exchanges_12 rfl (lv_at hl 1 rfl) ?_
  refine va_get (D := D) (ci := 12) (v := .ref (ad 11)) (C := RX12) (T := TX12) (N := 36) hx hb hts k0 hown hK hP 0 (zM_0 cy ad S_0) rfl 25 (by decide) k1 (fun _ h9 => h9) rfl dX12_exchanges_13 ?_
  refine lv_iload_n hx hb dX12_exchanges_16 rfl (lv_at hl 2 rfl) ?_
  refine lv_iconst (v := 1) hx hb dX12_exchanges_17 (by decide) ?_
  refine lv_iadd hx hb dX12_exchanges_18 ?_
  obtain ⟨h_3, hf⟩ := z_ix hf
  refine z_iald hx hb hK hP 11 0 (zM_11 cy ad S_0) rfl h_3 (k := ((a_1 + (1 : Int32)).toNatClampNeg)) rfl dX12_exchanges_19 ?_
  obtain ⟨h_4, hf⟩ := z_ix hf
  refine z_iast hx hb hK hP (hD S_0) hS 11 0 (zM_11 cy ad S_0) rfl h_4 (k := (a_1.toNatClampNeg)) rfl dX12_exchanges_20 (fun H locs hP hS => ?_)
  obtain ⟨S_5, eS_5, hf⟩ := z_nm hf
  have hP := zW_putI hP eS_5 (by decide) rfl
  refine lv_aload_n hx hb dX12_exchanges_21 rfl (lv_at hl 1 rfl) ?_
  refine va_get (D := D) (ci := 12) (v := .ref (ad 11)) (C := RX12) (T := TX12) (N := 36) hx hb hts k0 hown hK hP 0 (zM_0 cy ad S_5) rfl 25 (by decide) k1 (fun _ h9 => h9) rfl dX12_exchanges_22 ?_
  refine lv_iload_n hx hb dX12_exchanges_25 rfl (lv_at hl 2 rfl) ?_
  refine lv_iconst (v := 1) hx hb dX12_exchanges_26 (by decide) ?_
  refine lv_iadd hx hb dX12_exchanges_27 ?_
  refine lv_iload_n hx hb dX12_exchanges_28 rfl (lv_at hl 0 rfl) ?_
  obtain ⟨h_6, hf⟩ := z_ix hf
  refine z_iast hx hb hK hP (hD S_5) hS 11 0 (zM_11 cy ad S_5) rfl h_6 (k := ((a_1 + (1 : Int32)).toNatClampNeg)) rfl dX12_exchanges_29 (fun H locs hP hS => ?_)
  obtain ⟨S_7, eS_7, hf⟩ := z_nm hf
  have hP := zW_putI hP eS_7 (by decide) rfl
  obtain ⟨h1, h2⟩ := z_s2 hf
  subst h2
  exact hret _ _ _ _ hP hS dX12_exchanges_30
theorem yd_yX12_wouldChange : (yX12_wouldChange).cls ≠ "java/lang/invoke/MethodHandle" ∧ (yX12_wouldChange).cls ≠ "java/lang/invoke/VarHandle" ∧ (parseMethodDescriptor (yX12_wouldChange).desc).map (fun d => d.parameters.length) = some 1 := by decide +kernel
def fm_wouldChange (S_0 : zSt) (a_1 : Int32) : Option (Int32 × zSt) :=
  zbd (fm_bakes S_0) fun r_1 S_2 =>
  zbd (fm_gainAt S_2 a_1) fun r_4 S_5 =>
  zbd (fm_gainAt S_5 (a_1 + (1 : Int32))) fun r_7 S_8 =>
  zbd (fm_exchanges S_8 a_1) fun _ S_11 =>
  zbd (fm_bakes S_11) fun r_13 S_14 =>
  zbd (fm_gainAt S_14 (a_1 + (1 : Int32))) fun r_16 S_17 =>
  znm (fun (x_19 : Int32) (S_20 : zSt) =>
  zbd (fm_exchanges S_20 a_1) fun _ S_22 =>
  zck (zbo x_19) <|
  some (x_19, S_22)) fun j_54 =>
  znm (fun (S_25 : zSt) =>
  j_54 (0 : Int32) S_25) fun j_53 =>
  if r_16 ≤ r_4 then (
  j_53  S_17) else (
  zbd (fm_gainAt S_17 a_1) fun r_26 S_27 =>
  if r_26 ≤ r_7 then (
  j_53  S_27) else (
  j_54 (1 : Int32) S_27))
set_option maxHeartbeats 4000000 in
set_option maxRecDepth 100000 in
theorem cm_wouldChange (l : Launch) (D : va_G) (K : (Nat → Nat) × (Nat → Nat)) (cy : Nat → ClassId) (ad : Nat → Nat) (S_0 : zSt) (a_1 : Int32) (ro : Int32) (So : zSt) (hf : fm_wouldChange S_0 a_1 = some (ro, So)) : zMI l yX12_wouldChange (zws yX12_wouldChange cX12_wouldChange 5 (Option.some .boolean)) ({ frames := 4, cells := 0, slots := 0, locals := 87 }) D (zTy cy) K (zM cy ad) [.ref (ad 0), .int a_1] S_0 ro So := by
  refine z_metZ (own := RX12) (lv := [(0, .ref (ad 0)), (1, .int a_1)]) (by decide) rfl rfl (Nat.le_of_ble_eq_true rfl) rfl ?_
  intro p e s m below meth c A Q X hK hE hD hA hret hP hS ls hl
  obtain ⟨hx, hb, hml, hown, hts⟩ := id X
  refine lv_aload_n hx hb dX12_wouldChange_0 rfl (lv_at hl 0 rfl) ?_
  obtain ⟨r_1, S_2, h_3, hf⟩ := z_bd hf
  refine z_cVI (As := []) (rest := []) X hK hE hD hA hP hS (cm_bakes l D K cy ad S_0 _ _ h_3) (cwV 0 hts (z_gV wt_6_174 wt_6_176 wp_75 wt_1_13 wt_6_177) rfl rfl rfl ⟨rfl, yd_yX12_bakes⟩ ⟨Nat.le_of_ble_eq_true rfl, Nat.le_of_ble_eq_true rfl⟩) (va_recv hK hP (ci := 12) (q0 := 0) rfl (zM_0 cy ad S_0)) hl.1 rfl rfl (Nat.le_of_ble_eq_true rfl) dX12_wouldChange_1 (fun H locs hP hS => ?_)
  refine lv_pop hx hb dX12_wouldChange_4 rfl ?_
  refine lv_aload_n hx hb dX12_wouldChange_5 rfl (lv_at hl 0 rfl) ?_
  refine lv_iload_n hx hb dX12_wouldChange_6 rfl (lv_at hl 1 rfl) ?_
  obtain ⟨r_4, S_5, h_6, hf⟩ := z_bd hf
  refine z_cVI (As := [.int a_1]) (rest := []) X hK hE hD hA hP hS (cm_gainAt l D K cy ad S_2 _ _ _ h_6) (cwV 1 hts (z_gV wt_6_178 wt_6_180 wp_76 wt_1_13 wt_6_181) rfl rfl rfl ⟨rfl, yd_yX12_gainAt⟩ ⟨Nat.le_of_ble_eq_true rfl, Nat.le_of_ble_eq_true rfl⟩) (va_recv hK hP (ci := 12) (q0 := 0) rfl (zM_0 cy ad S_2)) hl.1 rfl rfl (Nat.le_of_ble_eq_true rfl) dX12_wouldChange_7 (fun H locs hP hS => ?_)
  refine lv_istore_n (lv' := [(2, .int r_4), (0, .ref (ad 0)), (1, .int a_1)]) hx hb dX12_wouldChange_10 rfl hl (by decide) rfl (fun ls hl => ?_)
  refine lv_aload_n hx hb dX12_wouldChange_11 rfl (lv_at hl 1 rfl) ?_
  refine lv_iload_n hx hb dX12_wouldChange_12 rfl (lv_at hl 2 rfl) ?_
  refine lv_iconst (v := 1) hx hb dX12_wouldChange_13 (by decide) ?_
  refine lv_iadd hx hb dX12_wouldChange_14 ?_
  obtain ⟨r_7, S_8, h_9, hf⟩ := z_bd hf
  refine z_cVI (As := [.int (a_1 + (1 : Int32))]) (rest := []) X hK hE hD hA hP hS (cm_gainAt l D K cy ad S_5 _ _ _ h_9) (cwV 1 hts (z_gV wt_6_178 wt_6_180 wp_76 wt_1_13 wt_6_181) rfl rfl rfl ⟨rfl, yd_yX12_gainAt⟩ ⟨Nat.le_of_ble_eq_true rfl, Nat.le_of_ble_eq_true rfl⟩) (va_recv hK hP (ci := 12) (q0 := 0) rfl (zM_0 cy ad S_5)) hl.1 rfl rfl (Nat.le_of_ble_eq_true rfl) dX12_wouldChange_15 (fun H locs hP hS => ?_)
  refine lv_istore_n (lv' := [(3, .int r_7), (2, .int r_4), (0, .ref (ad 0)), (1, .int a_1)]) hx hb dX12_wouldChange_18 rfl hl (by decide) rfl (fun ls hl => ?_)
  refine lv_aload_n hx hb dX12_wouldChange_19 rfl (lv_at hl 2 rfl) ?_
  refine lv_iload_n hx hb dX12_wouldChange_20 rfl (lv_at hl 3 rfl) ?_
  obtain ⟨r_10, S_11, h_12, hf⟩ := z_bd hf
  refine z_cVV (As := [.int a_1]) (rest := []) X hK hE hD hA hP hS (cm_exchanges l D K cy ad S_8 _ _ h_12) (cwV 1 hts (z_gV wt_6_202 wt_6_204 wp_81 wt_1_13 wt_6_205) rfl rfl rfl ⟨rfl, yd_yX12_exchanges⟩ ⟨Nat.le_of_ble_eq_true rfl, Nat.le_of_ble_eq_true rfl⟩) (va_recv hK hP (ci := 12) (q0 := 0) rfl (zM_0 cy ad S_8)) hl.1 rfl rfl (Nat.le_of_ble_eq_true rfl) dX12_wouldChange_21 (fun H locs hP hS => ?_)
  refine lv_aload_n hx hb dX12_wouldChange_24 rfl (lv_at hl 2 rfl) ?_
  obtain ⟨r_13, S_14, h_15, hf⟩ := z_bd hf
  refine z_cVI (As := []) (rest := []) X hK hE hD hA hP hS (cm_bakes l D K cy ad S_11 _ _ h_15) (cwV 0 hts (z_gV wt_6_174 wt_6_176 wp_75 wt_1_13 wt_6_177) rfl rfl rfl ⟨rfl, yd_yX12_bakes⟩ ⟨Nat.le_of_ble_eq_true rfl, Nat.le_of_ble_eq_true rfl⟩) (va_recv hK hP (ci := 12) (q0 := 0) rfl (zM_0 cy ad S_11)) hl.1 rfl rfl (Nat.le_of_ble_eq_true rfl) dX12_wouldChange_25 (fun H locs hP hS => ?_)
  refine lv_pop hx hb dX12_wouldChange_28 rfl ?_
  refine lv_aload_n hx hb dX12_wouldChange_29 rfl (lv_at hl 2 rfl) ?_
  refine lv_iload_n hx hb dX12_wouldChange_30 rfl (lv_at hl 3 rfl) ?_
  refine lv_iconst (v := 1) hx hb dX12_wouldChange_31 (by decide) ?_
  refine lv_iadd hx hb dX12_wouldChange_32 ?_
  obtain ⟨r_16, S_17, h_18, hf⟩ := z_bd hf
  refine z_cVI (As := [.int (a_1 + (1 : Int32))]) (rest := []) X hK hE hD hA hP hS (cm_gainAt l D K cy ad S_14 _ _ _ h_18) (cwV 1 hts (z_gV wt_6_178 wt_6_180 wp_76 wt_1_13 wt_6_181) rfl rfl rfl ⟨rfl, yd_yX12_gainAt⟩ ⟨Nat.le_of_ble_eq_true rfl, Nat.le_of_ble_eq_true rfl⟩) (va_recv hK hP (ci := 12) (q0 := 0) rfl (zM_0 cy ad S_14)) hl.1 rfl rfl (Nat.le_of_ble_eq_true rfl) dX12_wouldChange_33 (fun H locs hP hS => ?_)
  refine lv_iload_n hx hb dX12_wouldChange_36 rfl (lv_at hl 1 rfl) ?_
  obtain ⟨j_54, ej_54, hf⟩ := z_nm hf
  have J_54 : ∀ (x_19 : Int32) (S_20 : zSt) (H : Heap) (locs : List Loc) (ls : Array Slot), j_54 x_19 S_20 = some (ro, So) → va_P D vwCl (zM cy ad S_20) H → va_S A s.heap H locs → lv_has ls 5 [(0, .ref (ad 0)), (1, .int a_1)] → W p l e ({ frames := 4, cells := 0, slots := 0, locals := 87 }) s m ([.ref (ad 0), .int a_1] : List Value).toArray below meth c H locs 0 0 Q (F0 m 54 ls [.int x_19]) := by
    intro x_19 S_20 H locs ls hf hP hS hl
    have hf := z_e2 ej_54 hf
    refine lv_istore (lv' := [(4, .int x_19), (0, .ref (ad 0)), (1, .int a_1)]) hx hb dX12_wouldChange_54 hl (by decide) rfl (fun ls hl => ?_)
    refine lv_aload_n hx hb dX12_wouldChange_56 rfl (lv_at hl 1 rfl) ?_
    refine lv_iload_n hx hb dX12_wouldChange_57 rfl (lv_at hl 2 rfl) ?_
    obtain ⟨r_21, S_22, h_23, hf⟩ := z_bd hf
    refine z_cVV (As := [.int a_1]) (rest := []) X hK hE hD hA hP hS (cm_exchanges l D K cy ad S_20 _ _ h_23) (cwV 1 hts (z_gV wt_6_202 wt_6_204 wp_81 wt_1_13 wt_6_205) rfl rfl rfl ⟨rfl, yd_yX12_exchanges⟩ ⟨Nat.le_of_ble_eq_true rfl, Nat.le_of_ble_eq_true rfl⟩) (va_recv hK hP (ci := 12) (q0 := 0) rfl (zM_0 cy ad S_20)) hl.1 rfl rfl (Nat.le_of_ble_eq_true rfl) dX12_wouldChange_58 (fun H locs hP hS => ?_)
    refine lv_iload hx hb dX12_wouldChange_61 (lv_at hl 0 rfl) ?_
    obtain ⟨h_24, hf⟩ := z_bo hf
    obtain ⟨h1, h2⟩ := z_s2 hf
    subst h1 h2
    exact hret _ _ _ _ h_24 hP hS dX12_wouldChange_63
  obtain ⟨j_53, ej_53, hf⟩ := z_nm hf
  have J_53 : ∀ (S_25 : zSt) (H : Heap) (locs : List Loc) (ls : Array Slot), j_53  S_25 = some (ro, So) → va_P D vwCl (zM cy ad S_25) H → va_S A s.heap H locs → lv_has ls 5 [(0, .ref (ad 0)), (1, .int a_1)] → W p l e ({ frames := 4, cells := 0, slots := 0, locals := 87 }) s m ([.ref (ad 0), .int a_1] : List Value).toArray below meth c H locs 0 0 Q (F0 m 53 ls []) := by
    intro  S_25 H locs ls hf hP hS hl
    have hf := z_e1 ej_53 hf
    refine lv_iconst (v := 0) hx hb dX12_wouldChange_53 (by decide) ?_
    exact J_54 (0 : Int32) S_25 _ _ _ hf hP hS (lv_sub hl [0, 1] rfl)
  refine lv_icmp_le (tgt := 53) hx hb dX12_wouldChange_37 (by decide) (fun c_30 => ?_) (fun c_30 => ?_)
  · have hf := z_it c_30 hf
    exact J_53  S_17 _ _ _ hf hP hS (lv_sub hl [2, 3] rfl)
  · have hf := z_if c_30 hf
    refine lv_aload_n hx hb dX12_wouldChange_40 rfl (lv_at hl 2 rfl) ?_
    refine lv_iload_n hx hb dX12_wouldChange_41 rfl (lv_at hl 3 rfl) ?_
    obtain ⟨r_26, S_27, h_28, hf⟩ := z_bd hf
    refine z_cVI (As := [.int a_1]) (rest := []) X hK hE hD hA hP hS (cm_gainAt l D K cy ad S_17 _ _ _ h_28) (cwV 1 hts (z_gV wt_6_178 wt_6_180 wp_76 wt_1_13 wt_6_181) rfl rfl rfl ⟨rfl, yd_yX12_gainAt⟩ ⟨Nat.le_of_ble_eq_true rfl, Nat.le_of_ble_eq_true rfl⟩) (va_recv hK hP (ci := 12) (q0 := 0) rfl (zM_0 cy ad S_17)) hl.1 rfl rfl (Nat.le_of_ble_eq_true rfl) dX12_wouldChange_42 (fun H locs hP hS => ?_)
    refine lv_iload_n hx hb dX12_wouldChange_45 rfl (lv_at hl 0 rfl) ?_
    refine lv_icmp_le (tgt := 53) hx hb dX12_wouldChange_46 (by decide) (fun c_29 => ?_) (fun c_29 => ?_)
    · have hf := z_it c_29 hf
      exact J_53  S_27 _ _ _ hf hP hS (lv_sub hl [2, 3] rfl)
    · have hf := z_if c_29 hf
      refine lv_iconst (v := 1) hx hb dX12_wouldChange_49 (by decide) ?_
      refine lv_goto (tgt := 54) hx hb dX12_wouldChange_50 (by decide) ?_
      exact J_54 (1 : Int32) S_27 _ _ _ hf hP hS (lv_sub hl [2, 3] rfl)
theorem yd_yX12_firstChange : (yX12_firstChange).cls ≠ "java/lang/invoke/MethodHandle" ∧ (yX12_firstChange).cls ≠ "java/lang/invoke/VarHandle" ∧ (parseMethodDescriptor (yX12_firstChange).desc).map (fun d => d.parameters.length) = some 0 := by decide +kernel
def fm_firstChange_L2 : Nat → Int32 → zSt → Option (Int32 × zSt)
  | 0, _, _ => none
  | n_2 + 1, x_1, S_2 =>
    if (S_2.1 1 4) ≤ (x_1 + (1 : Int32)) then (
    some ((-1 : Int32), S_2)) else (
    zbd (fm_wouldChange S_2 x_1) fun r_3 S_4 =>
    if r_3 = 0 then (
    znm (x_1 + (1 : Int32)) fun x_6 =>
    fm_firstChange_L2 n_2 x_6 S_4) else (
    some (x_1, S_4)))
def fm_firstChange (S_0 : zSt) : Option (Int32 × zSt) :=
  fm_firstChange_L2 zFU (0 : Int32) S_0
set_option maxHeartbeats 4000000 in
set_option maxRecDepth 100000 in
theorem cm_firstChange (l : Launch) (D : va_G) (K : (Nat → Nat) × (Nat → Nat)) (cy : Nat → ClassId) (ad : Nat → Nat) (S_0 : zSt) (ro : Int32) (So : zSt) (hf : fm_firstChange S_0 = some (ro, So)) : zMI l yX12_firstChange (zws yX12_firstChange cX12_firstChange 2 (Option.some .int)) ({ frames := 5, cells := 0, slots := 0, locals := 111 }) D (zTy cy) K (zM cy ad) [.ref (ad 0)] S_0 ro So := by
  refine z_metI (own := RX12) (lv := [(0, .ref (ad 0))]) (by decide) rfl rfl (Nat.le_of_ble_eq_true rfl) rfl ?_
  intro p e s m below meth c A Q X hK hE hD hA hret hP hS ls hl
  obtain ⟨hx, hb, hml, hown, hts⟩ := id X
  have k0 := (fun w h => List.mem_cons_of_mem _ (zFX12 w h) : ∀ w ∈ u_ws RX12 TX12 36, w ∈ zws yX12_firstChange cX12_firstChange 2 (Option.some .int))
  have k1 := hts _ (List.mem_cons_of_mem _ wt_5_95)
  refine lv_iconst (v := 0) hx hb dX12_firstChange_0 (by decide) ?_
  refine lv_istore_n (lv' := [(1, .int (0 : Int32)), (0, .ref (ad 0))]) hx hb dX12_firstChange_1 rfl hl (by decide) rfl (fun ls hl => ?_)
  have L_2 : ∀ (n_2 : Nat) (x_1 : Int32) (S_2 : zSt) (H : Heap) (locs : List Loc) (ls : Array Slot), fm_firstChange_L2 n_2 x_1 S_2 = some (ro, So) → va_P D vwCl (zM cy ad S_2) H → va_S A s.heap H locs → lv_has ls 2 [(0, .ref (ad 0)), (1, .int x_1)] → W p l e ({ frames := 5, cells := 0, slots := 0, locals := 111 }) s m ([.ref (ad 0)] : List Value).toArray below meth c H locs 0 0 Q (F0 m 2 ls []) := by
    intro n_2
    induction n_2 with
    | zero =>
      intro x_1 S_2 H locs ls hf hP hS hl
      exact z_no hf
    | succ n_2 ih_2 =>
      intro x_1 S_2 H locs ls hf hP hS hl
      rw [fm_firstChange_L2] at hf
      refine lv_iload_n hx hb dX12_firstChange_2 rfl (lv_at hl 1 rfl) ?_
      refine lv_iconst (v := 1) hx hb dX12_firstChange_3 (by decide) ?_
      refine lv_iadd hx hb dX12_firstChange_4 ?_
      refine lv_aload_n hx hb dX12_firstChange_5 rfl (lv_at hl 0 rfl) ?_
      refine va_get (D := D) (ci := 12) (v := .ref (ad 1)) (C := RX12) (T := TX12) (N := 36) hx hb hts k0 hown hK hP 0 (zM_0 cy ad S_2) rfl 0 (by decide) k1 (fun _ h9 => h9) rfl dX12_firstChange_6 ?_
      refine lv_iconst (v := 4) hx hb dX12_firstChange_9 (by decide) ?_
      refine z_iald hx hb hK hP 1 0 (zM_1 cy ad S_2) rfl (vp_in_iff.mpr (by decide)) (k := 4) (by decide) dX12_firstChange_10 ?_
      refine lv_icmp_ge (tgt := 30) hx hb dX12_firstChange_11 (by decide) (fun c_8 => ?_) (fun c_8 => ?_)
      · have hf := z_it c_8 hf
        refine lv_iconst (v := -1) hx hb dX12_firstChange_30 (by decide) ?_
        obtain ⟨h1, h2⟩ := z_s2 hf
        subst h1 h2
        exact hret _ _ _ _ hP hS dX12_firstChange_31
      · have hf := z_if c_8 hf
        refine lv_aload_n hx hb dX12_firstChange_14 rfl (lv_at hl 0 rfl) ?_
        refine lv_iload_n hx hb dX12_firstChange_15 rfl (lv_at hl 1 rfl) ?_
        obtain ⟨r_3, S_4, h_5, hf⟩ := z_bd hf
        refine z_cVI (As := [.int x_1]) (rest := []) X hK hE hD hA hP hS (cm_wouldChange l D K cy ad S_2 _ _ _ h_5) (cwV 1 hts (z_gV wt_6_198 wt_6_200 wp_80 wt_1_13 wt_6_201) rfl rfl rfl ⟨rfl, yd_yX12_wouldChange⟩ ⟨Nat.le_of_ble_eq_true rfl, Nat.le_of_ble_eq_true rfl⟩) (va_recv hK hP (ci := 12) (q0 := 0) rfl (zM_0 cy ad S_2)) hl.1 rfl rfl (Nat.le_of_ble_eq_true rfl) dX12_firstChange_16 (fun H locs hP hS => ?_)
        refine lv_if_eq (tgt := 24) hx hb dX12_firstChange_19 (by decide) (fun c_7 => ?_) (fun c_7 => ?_)
        · have hf := z_it c_7 hf
          obtain ⟨x_6, ex_6, hf⟩ := z_nm hf
          refine lv_iinc (v := x_6) (lv' := [(1, .int x_6), (0, .ref (ad 0))]) hx hb dX12_firstChange_24 hl (k := 1) rfl (by rw [ex_6]; rfl) (by decide) rfl (fun ls hl => ?_)
          refine lv_goto (tgt := 2) hx hb dX12_firstChange_27 (by decide) ?_
          exact ih_2 x_6 S_4 _ _ _ hf hP hS (lv_sub hl [1, 0] rfl)
        · have hf := z_if c_7 hf
          refine lv_iload_n hx hb dX12_firstChange_22 rfl (lv_at hl 1 rfl) ?_
          obtain ⟨h1, h2⟩ := z_s2 hf
          subst h1 h2
          exact hret _ _ _ _ hP hS dX12_firstChange_23
  exact L_2 zFU (0 : Int32) S_0 _ _ _ hf hP hS (lv_sub hl [1, 0] rfl)
theorem yd_yX12_isRow : (yX12_isRow).cls ≠ "java/lang/invoke/MethodHandle" ∧ (yX12_isRow).cls ≠ "java/lang/invoke/VarHandle" ∧ (parseMethodDescriptor (yX12_isRow).desc).map (fun d => d.parameters.length) = some 1 := by decide +kernel
def fm_isRow_L2 (a_1 : Int32) : Nat → Int32 → zSt → Option (Int32 × zSt)
  | 0, _, _ => none
  | n_2 + 1, x_1, S_2 =>
    if (S_2.1 1 4) ≤ x_1 then (
    some ((1 : Int32), S_2)) else (
    zck (zix (((9 : Int32) * a_1) + x_1) 1809) <|
    zck (zix x_1 9) <|
    if (S_2.1 15 ((((9 : Int32) * a_1) + x_1).toNatClampNeg)) = (S_2.1 11 (x_1.toNatClampNeg)) then (
    znm (x_1 + (1 : Int32)) fun x_5 =>
    fm_isRow_L2 a_1 n_2 x_5 S_2) else (
    some ((0 : Int32), S_2)))
def fm_isRow (S_0 : zSt) (a_1 : Int32) : Option (Int32 × zSt) :=
  fm_isRow_L2 a_1 zFU (0 : Int32) S_0
set_option maxHeartbeats 4000000 in
set_option maxRecDepth 100000 in
theorem cm_isRow (l : Launch) (D : va_G) (K : (Nat → Nat) × (Nat → Nat)) (cy : Nat → ClassId) (ad : Nat → Nat) (S_0 : zSt) (a_1 : Int32) (ro : Int32) (So : zSt) (hf : fm_isRow S_0 a_1 = some (ro, So)) : zMI l yX12_isRow (zws yX12_isRow cX12_isRow 3 (Option.some .boolean)) ({ frames := 0, cells := 0, slots := 0, locals := 0 }) D (zTy cy) K (zM cy ad) [.ref (ad 0), .int a_1] S_0 ro So := by
  refine z_metZ (own := RX12) (lv := [(0, .ref (ad 0)), (1, .int a_1)]) (by decide) rfl rfl (Nat.le_of_ble_eq_true rfl) rfl ?_
  intro p e s m below meth c A Q X hK hE hD hA hret hP hS ls hl
  obtain ⟨hx, hb, hml, hown, hts⟩ := id X
  have k0 := (fun w h => List.mem_cons_of_mem _ (zFX12 w h) : ∀ w ∈ u_ws RX12 TX12 36, w ∈ zws yX12_isRow cX12_isRow 3 (Option.some .boolean))
  have k1 := hts _ (List.mem_cons_of_mem _ wt_5_95)
  have k2 := hts _ (List.mem_cons_of_mem _ wt_5_126)
  have k3 := hts _ (List.mem_cons_of_mem _ wt_5_120)
  refine lv_iconst (v := 0) hx hb dX12_isRow_0 (by decide) ?_
  refine lv_istore_n (lv' := [(2, .int (0 : Int32)), (0, .ref (ad 0)), (1, .int a_1)]) hx hb dX12_isRow_1 rfl hl (by decide) rfl (fun ls hl => ?_)
  have L_2 : ∀ (n_2 : Nat) (x_1 : Int32) (S_2 : zSt) (H : Heap) (locs : List Loc) (ls : Array Slot), fm_isRow_L2 a_1 n_2 x_1 S_2 = some (ro, So) → va_P D vwCl (zM cy ad S_2) H → va_S A s.heap H locs → lv_has ls 3 [(0, .ref (ad 0)), (1, .int a_1), (2, .int x_1)] → W p l e ({ frames := 0, cells := 0, slots := 0, locals := 0 }) s m ([.ref (ad 0), .int a_1] : List Value).toArray below meth c H locs 0 0 Q (F0 m 2 ls []) := by
    intro n_2
    induction n_2 with
    | zero =>
      intro x_1 S_2 H locs ls hf hP hS hl
      exact z_no hf
    | succ n_2 ih_2 =>
      intro x_1 S_2 H locs ls hf hP hS hl
      rw [fm_isRow_L2] at hf
      refine lv_iload_n hx hb dX12_isRow_2 rfl (lv_at hl 2 rfl) ?_
      refine lv_aload_n hx hb dX12_isRow_3 rfl (lv_at hl 0 rfl) ?_
      refine va_get (D := D) (ci := 12) (v := .ref (ad 1)) (C := RX12) (T := TX12) (N := 36) hx hb hts k0 hown hK hP 0 (zM_0 cy ad S_2) rfl 0 (by decide) k1 (fun _ h9 => h9) rfl dX12_isRow_4 ?_
      refine lv_iconst (v := 4) hx hb dX12_isRow_7 (by decide) ?_
      refine z_iald hx hb hK hP 1 0 (zM_1 cy ad S_2) rfl (vp_in_iff.mpr (by decide)) (k := 4) (by decide) dX12_isRow_8 ?_
      refine lv_icmp_ge (tgt := 40) hx hb dX12_isRow_9 (by decide) (fun c_7 => ?_) (fun c_7 => ?_)
      · have hf := z_it c_7 hf
        refine lv_iconst (v := 1) hx hb dX12_isRow_40 (by decide) ?_
        obtain ⟨h1, h2⟩ := z_s2 hf
        subst h1 h2
        exact hret _ _ _ _ rfl hP hS dX12_isRow_41
      · have hf := z_if c_7 hf
        refine lv_aload_n hx hb dX12_isRow_12 rfl (lv_at hl 0 rfl) ?_
        refine va_get (D := D) (ci := 12) (v := .ref (ad 15)) (C := RX12) (T := TX12) (N := 36) hx hb hts k0 hown hK hP 0 (zM_0 cy ad S_2) rfl 31 (by decide) k2 (fun _ h9 => h9) rfl dX12_isRow_13 ?_
        refine lv_bipush (v := 9) hx hb dX12_isRow_16 (by decide) ?_
        refine lv_iload_n hx hb dX12_isRow_18 rfl (lv_at hl 1 rfl) ?_
        refine lv_imul hx hb dX12_isRow_19 ?_
        refine lv_iload_n hx hb dX12_isRow_20 rfl (lv_at hl 2 rfl) ?_
        refine lv_iadd hx hb dX12_isRow_21 ?_
        obtain ⟨h_3, hf⟩ := z_ix hf
        refine z_iald hx hb hK hP 15 0 (zM_15 cy ad S_2) rfl h_3 (k := ((((9 : Int32) * a_1) + x_1).toNatClampNeg)) rfl dX12_isRow_22 ?_
        refine lv_aload_n hx hb dX12_isRow_23 rfl (lv_at hl 0 rfl) ?_
        refine va_get (D := D) (ci := 12) (v := .ref (ad 11)) (C := RX12) (T := TX12) (N := 36) hx hb hts k0 hown hK hP 0 (zM_0 cy ad S_2) rfl 25 (by decide) k3 (fun _ h9 => h9) rfl dX12_isRow_24 ?_
        refine lv_iload_n hx hb dX12_isRow_27 rfl (lv_at hl 2 rfl) ?_
        obtain ⟨h_4, hf⟩ := z_ix hf
        refine z_iald hx hb hK hP 11 0 (zM_11 cy ad S_2) rfl h_4 (k := (x_1.toNatClampNeg)) rfl dX12_isRow_28 ?_
        refine lv_icmp_eq (tgt := 34) hx hb dX12_isRow_29 (by decide) (fun c_6 => ?_) (fun c_6 => ?_)
        · have hf := z_it c_6 hf
          obtain ⟨x_5, ex_5, hf⟩ := z_nm hf
          refine lv_iinc (v := x_5) (lv' := [(2, .int x_5), (0, .ref (ad 0)), (1, .int a_1)]) hx hb dX12_isRow_34 hl (k := 2) rfl (by rw [ex_5]; rfl) (by decide) rfl (fun ls hl => ?_)
          refine lv_goto (tgt := 2) hx hb dX12_isRow_37 (by decide) ?_
          exact ih_2 x_5 S_2 _ _ _ hf hP hS (lv_sub hl [1, 2, 0] rfl)
        · have hf := z_if c_6 hf
          refine lv_iconst (v := 0) hx hb dX12_isRow_32 (by decide) ?_
          obtain ⟨h1, h2⟩ := z_s2 hf
          subst h1 h2
          exact hret _ _ _ _ rfl hP hS dX12_isRow_33
  exact L_2 zFU (0 : Int32) S_0 _ _ _ hf hP hS (lv_sub hl [1, 2, 0] rfl)
theorem yd_yX12_round : (yX12_round).cls ≠ "java/lang/invoke/MethodHandle" ∧ (yX12_round).cls ≠ "java/lang/invoke/VarHandle" ∧ (parseMethodDescriptor (yX12_round).desc).map (fun d => d.parameters.length) = some 1 := by decide +kernel
def fm_round_L90 (a_1 : Int32) (x_23 : Int32) (j_123 : zSt → Option (Int32 × zSt)) : Nat → Int32 → zSt → Option (Int32 × zSt)
  | 0, _, _ => none
  | n_90 + 1, x_35, S_36 =>
    if (S_36.1 1 4) ≤ x_35 then (
    j_123  S_36) else (
    zck (zix x_35 9) <|
    zck (zix (((9 : Int32) * x_23) + x_35) 1809) <|
    znm (zpI S_36 15 ((((9 : Int32) * x_23) + x_35).toNatClampNeg) (S_36.1 11 (x_35.toNatClampNeg))) fun S_39 =>
    znm (x_35 + (1 : Int32)) fun x_40 =>
    fm_round_L90 a_1 x_23 j_123 n_90 x_40 S_39)
def fm_round_L57 (a_1 : Int32) (x_23 : Int32) (j_88 : zSt → Option (Int32 × zSt)) (j_70 : Int32 → Int32 → zSt → Option (Int32 × zSt)) : Nat → Int32 → zSt → Option (Int32 × zSt)
  | 0, _, _ => none
  | n_57 + 1, x_42, S_43 =>
    if x_23 ≤ x_42 then (
    j_88  S_43) else (
    zbd (fm_isRow S_43 x_42) fun r_44 S_45 =>
    if r_44 = 0 then (
    znm (x_42 + (1 : Int32)) fun x_47 =>
    fm_round_L57 a_1 x_23 j_88 j_70 n_57 x_47 S_45) else (
    j_70 x_23 x_42 S_45))
def fm_round_L48 (a_1 : Int32) (j_154 : zSt → Option (Int32 × zSt)) (j_133 : Int32 → zSt → Option (Int32 × zSt)) (j_70 : Int32 → Int32 → zSt → Option (Int32 × zSt)) : Nat → Int32 → zSt → Option (Int32 × zSt)
  | 0, _, _ => none
  | n_48 + 1, x_23, S_24 =>
    if (200 : Int32) < x_23 then (
    j_154  S_24) else (
    znm (fun (S_25 : zSt) =>
    znm (fun (S_26 : zSt) =>
    zbd (fm_firstChange S_26) fun r_27 S_28 =>
    if r_27 = (-1 : Int32) then (
    j_133 x_23 S_28) else (
    zbd (fm_exchanges S_28 r_27) fun _ S_31 =>
    znm (x_23 + (1 : Int32)) fun x_33 =>
    fm_round_L48 a_1 j_154 j_133 j_70 n_48 x_33 S_31)) fun j_123 =>
    fm_round_L90 a_1 x_23 j_123 zFU (0 : Int32) S_25) fun j_88 =>
    fm_round_L57 a_1 x_23 j_88 j_70 zFU (0 : Int32) S_24)
def fm_round_L18 (a_1 : Int32) (j_46 : zSt → Option (Int32 × zSt)) : Nat → Int32 → zSt → Option (Int32 × zSt)
  | 0, _, _ => none
  | n_18 + 1, x_51, S_52 =>
    if (S_52.1 1 4) ≤ x_51 then (
    j_46  S_52) else (
    zck (zix x_51 9) <|
    zck (zix x_51 9) <|
    znm (zpI S_52 11 (x_51.toNatClampNeg) (S_52.1 9 (x_51.toNatClampNeg))) fun S_55 =>
    znm (x_51 + (1 : Int32)) fun x_56 =>
    fm_round_L18 a_1 j_46 n_18 x_56 S_55)
def fm_round (S_0 : zSt) (a_1 : Int32) : Option (Int32 × zSt) :=
  zbd (fm_isIn S_0 a_1 (0 : Int32) (1 : Int32)) fun r_1 S_2 =>
  if r_1 = 0 then (
  some ((-1 : Int32), S_2)) else (
  zbd (fm_laysOrder S_2 (0 : Int32)) fun _ S_5 =>
  znm (fun (S_7 : zSt) =>
  znm (fun (S_8 : zSt) =>
  znm (fun (x_9 : Int32) (S_10 : zSt) =>
  some (x_9, S_10)) fun j_163 =>
  if a_1 = 0 then (
  j_163 (-1 : Int32) S_8) else (
  j_163 (0 : Int32) S_8)) fun j_154 =>
  znm (fun (x_12 : Int32) (S_13 : zSt) =>
  znm (fun (x_14 : Int32) (S_15 : zSt) =>
  some (x_14, S_15)) fun j_142 =>
  if a_1 = 0 then (
  j_142 x_12 S_13) else (
  j_142 (0 : Int32) S_13)) fun j_133 =>
  znm (fun (x_17 : Int32) (x_18 : Int32) (S_19 : zSt) =>
  znm (fun (x_20 : Int32) (S_21 : zSt) =>
  some (x_20, S_21)) fun j_81 =>
  if a_1 = 0 then (
  j_81 (-1 : Int32) S_19) else (
  j_81 (x_17 - x_18) S_19)) fun j_70 =>
  fm_round_L48 a_1 j_154 j_133 j_70 zFU (0 : Int32) S_7) fun j_46 =>
  fm_round_L18 a_1 j_46 zFU (0 : Int32) S_5)
set_option maxHeartbeats 4000000 in
set_option maxRecDepth 100000 in
theorem cm_round (l : Launch) (D : va_G) (K : (Nat → Nat) × (Nat → Nat)) (cy : Nat → ClassId) (ad : Nat → Nat) (S_0 : zSt) (a_1 : Int32) (ro : Int32) (So : zSt) (hf : fm_round S_0 a_1 = some (ro, So)) : zMI l yX12_round (zws yX12_round cX12_round 4 (Option.some .int)) ({ frames := 6, cells := 0, slots := 0, locals := 132 }) D (zTy cy) K (zM cy ad) [.ref (ad 0), .int a_1] S_0 ro So := by
  refine z_metI (own := RX12) (lv := [(0, .ref (ad 0)), (1, .int a_1)]) (by decide) rfl rfl (Nat.le_of_ble_eq_true rfl) rfl ?_
  intro p e s m below meth c A Q X hK hE hD hA hret hP hS ls hl
  obtain ⟨hx, hb, hml, hown, hts⟩ := id X
  have k0 := (fun w h => List.mem_cons_of_mem _ (zFX12 w h) : ∀ w ∈ u_ws RX12 TX12 36, w ∈ zws yX12_round cX12_round 4 (Option.some .int))
  have k1 := hts _ (List.mem_cons_of_mem _ wt_5_95)
  have k2 := hts _ (List.mem_cons_of_mem _ wt_5_126)
  have k3 := hts _ (List.mem_cons_of_mem _ wt_5_120)
  have k4 := hts _ (List.mem_cons_of_mem _ wt_5_117)
  refine lv_iload_n hx hb dX12_round_0 rfl (lv_at hl 1 rfl) ?_
  refine lv_iconst (v := 0) hx hb dX12_round_1 (by decide) ?_
  refine lv_iconst (v := 1) hx hb dX12_round_2 (by decide) ?_
  obtain ⟨r_1, S_2, h_3, hf⟩ := z_bd hf
  refine z_cSI (As := [.int a_1, .int (0 : Int32), .int (1 : Int32)]) (rest := []) X hK hE hD hA hP hS (cm_isIn l D K cy ad S_0 _ _ _ _ _ h_3) (va_cwS 3 hts (z_gS wt_5_216 wt_5_217 wt_1_13 wt_5_218) rfl rfl rfl yd_yX12_isIn ⟨Nat.le_of_ble_eq_true rfl, Nat.le_of_ble_eq_true rfl⟩) hl.1 rfl rfl (Nat.le_of_ble_eq_true rfl) dX12_round_3 (fun H locs hP hS => ?_)
  refine lv_if_ne (tgt := 11) hx hb dX12_round_6 (by decide) (fun c_58 => ?_) (fun c_58 => ?_)
  · have hf := z_if c_58 hf
    refine lv_aload_n hx hb dX12_round_11 rfl (lv_at hl 0 rfl) ?_
    refine lv_iconst (v := 0) hx hb dX12_round_12 (by decide) ?_
    obtain ⟨r_4, S_5, h_6, hf⟩ := z_bd hf
    refine z_cVV (As := [.int (0 : Int32)]) (rest := []) X hK hE hD hA hP hS (cm_laysOrder l D K cy ad S_2 _ _ h_6) (cwV 1 hts (z_gV wt_6_112 wt_6_114 wp_66 wt_1_13 wt_6_115) rfl rfl rfl ⟨rfl, yd_yX12_laysOrder⟩ ⟨Nat.le_of_ble_eq_true rfl, Nat.le_of_ble_eq_true rfl⟩) (va_recv hK hP (ci := 12) (q0 := 0) rfl (zM_0 cy ad S_2)) hl.1 rfl rfl (Nat.le_of_ble_eq_true rfl) dX12_round_13 (fun H locs hP hS => ?_)
    refine lv_iconst (v := 0) hx hb dX12_round_16 (by decide) ?_
    refine lv_istore_n (lv' := [(2, .int (0 : Int32)), (0, .ref (ad 0)), (1, .int a_1)]) hx hb dX12_round_17 rfl hl (by decide) rfl (fun ls hl => ?_)
    obtain ⟨j_46, ej_46, hf⟩ := z_nm hf
    have J_46 : ∀ (S_7 : zSt) (H : Heap) (locs : List Loc) (ls : Array Slot), j_46  S_7 = some (ro, So) → va_P D vwCl (zM cy ad S_7) H → va_S A s.heap H locs → lv_has ls 4 [(0, .ref (ad 0)), (1, .int a_1)] → W p l e ({ frames := 6, cells := 0, slots := 0, locals := 132 }) s m ([.ref (ad 0), .int a_1] : List Value).toArray below meth c H locs 0 0 Q (F0 m 46 ls []) := by
      intro  S_7 H locs ls hf hP hS hl
      have hf := z_e1 ej_46 hf
      refine lv_iconst (v := 0) hx hb dX12_round_46 (by decide) ?_
      refine lv_istore_n (lv' := [(2, .int (0 : Int32)), (0, .ref (ad 0)), (1, .int a_1)]) hx hb dX12_round_47 rfl hl (by decide) rfl (fun ls hl => ?_)
      obtain ⟨j_154, ej_154, hf⟩ := z_nm hf
      have J_154 : ∀ (S_8 : zSt) (H : Heap) (locs : List Loc) (ls : Array Slot), j_154  S_8 = some (ro, So) → va_P D vwCl (zM cy ad S_8) H → va_S A s.heap H locs → lv_has ls 4 [(1, .int a_1)] → W p l e ({ frames := 6, cells := 0, slots := 0, locals := 132 }) s m ([.ref (ad 0), .int a_1] : List Value).toArray below meth c H locs 0 0 Q (F0 m 154 ls []) := by
        intro  S_8 H locs ls hf hP hS hl
        have hf := z_e1 ej_154 hf
        refine lv_iload_n hx hb dX12_round_154 rfl (lv_at hl 0 rfl) ?_
        obtain ⟨j_163, ej_163, hf⟩ := z_nm hf
        have J_163 : ∀ (x_9 : Int32) (S_10 : zSt) (H : Heap) (locs : List Loc) (ls : Array Slot), j_163 x_9 S_10 = some (ro, So) → va_P D vwCl (zM cy ad S_10) H → va_S A s.heap H locs → lv_has ls 4 [] → W p l e ({ frames := 6, cells := 0, slots := 0, locals := 132 }) s m ([.ref (ad 0), .int a_1] : List Value).toArray below meth c H locs 0 0 Q (F0 m 163 ls [.int x_9]) := by
          intro x_9 S_10 H locs ls hf hP hS hl
          have hf := z_e2 ej_163 hf
          obtain ⟨h1, h2⟩ := z_s2 hf
          subst h1 h2
          exact hret _ _ _ _ hP hS dX12_round_163
        refine lv_if_ne (tgt := 162) hx hb dX12_round_155 (by decide) (fun c_11 => ?_) (fun c_11 => ?_)
        · have hf := z_if c_11 hf
          refine lv_iconst (v := 0) hx hb dX12_round_162 (by decide) ?_
          exact J_163 (0 : Int32) S_8 _ _ _ hf hP hS (lv_sub hl [] rfl)
        · have hf := z_it c_11 hf
          refine lv_iconst (v := -1) hx hb dX12_round_158 (by decide) ?_
          refine lv_goto (tgt := 163) hx hb dX12_round_159 (by decide) ?_
          exact J_163 (-1 : Int32) S_8 _ _ _ hf hP hS (lv_sub hl [] rfl)
      obtain ⟨j_133, ej_133, hf⟩ := z_nm hf
      have J_133 : ∀ (x_12 : Int32) (S_13 : zSt) (H : Heap) (locs : List Loc) (ls : Array Slot), j_133 x_12 S_13 = some (ro, So) → va_P D vwCl (zM cy ad S_13) H → va_S A s.heap H locs → lv_has ls 4 [(1, .int a_1), (2, .int x_12)] → W p l e ({ frames := 6, cells := 0, slots := 0, locals := 132 }) s m ([.ref (ad 0), .int a_1] : List Value).toArray below meth c H locs 0 0 Q (F0 m 133 ls []) := by
        intro x_12 S_13 H locs ls hf hP hS hl
        have hf := z_e2 ej_133 hf
        refine lv_iload_n hx hb dX12_round_133 rfl (lv_at hl 0 rfl) ?_
        obtain ⟨j_142, ej_142, hf⟩ := z_nm hf
        have J_142 : ∀ (x_14 : Int32) (S_15 : zSt) (H : Heap) (locs : List Loc) (ls : Array Slot), j_142 x_14 S_15 = some (ro, So) → va_P D vwCl (zM cy ad S_15) H → va_S A s.heap H locs → lv_has ls 4 [] → W p l e ({ frames := 6, cells := 0, slots := 0, locals := 132 }) s m ([.ref (ad 0), .int a_1] : List Value).toArray below meth c H locs 0 0 Q (F0 m 142 ls [.int x_14]) := by
          intro x_14 S_15 H locs ls hf hP hS hl
          have hf := z_e2 ej_142 hf
          obtain ⟨h1, h2⟩ := z_s2 hf
          subst h1 h2
          exact hret _ _ _ _ hP hS dX12_round_142
        refine lv_if_ne (tgt := 141) hx hb dX12_round_134 (by decide) (fun c_16 => ?_) (fun c_16 => ?_)
        · have hf := z_if c_16 hf
          refine lv_iconst (v := 0) hx hb dX12_round_141 (by decide) ?_
          exact J_142 (0 : Int32) S_13 _ _ _ hf hP hS (lv_sub hl [] rfl)
        · have hf := z_it c_16 hf
          refine lv_iload_n hx hb dX12_round_137 rfl (lv_at hl 1 rfl) ?_
          refine lv_goto (tgt := 142) hx hb dX12_round_138 (by decide) ?_
          exact J_142 x_12 S_13 _ _ _ hf hP hS (lv_sub hl [] rfl)
      obtain ⟨j_70, ej_70, hf⟩ := z_nm hf
      have J_70 : ∀ (x_17 : Int32) (x_18 : Int32) (S_19 : zSt) (H : Heap) (locs : List Loc) (ls : Array Slot), j_70 x_17 x_18 S_19 = some (ro, So) → va_P D vwCl (zM cy ad S_19) H → va_S A s.heap H locs → lv_has ls 4 [(1, .int a_1), (2, .int x_17), (3, .int x_18)] → W p l e ({ frames := 6, cells := 0, slots := 0, locals := 132 }) s m ([.ref (ad 0), .int a_1] : List Value).toArray below meth c H locs 0 0 Q (F0 m 70 ls []) := by
        intro x_17 x_18 S_19 H locs ls hf hP hS hl
        have hf := z_e3 ej_70 hf
        refine lv_iload_n hx hb dX12_round_70 rfl (lv_at hl 0 rfl) ?_
        obtain ⟨j_81, ej_81, hf⟩ := z_nm hf
        have J_81 : ∀ (x_20 : Int32) (S_21 : zSt) (H : Heap) (locs : List Loc) (ls : Array Slot), j_81 x_20 S_21 = some (ro, So) → va_P D vwCl (zM cy ad S_21) H → va_S A s.heap H locs → lv_has ls 4 [] → W p l e ({ frames := 6, cells := 0, slots := 0, locals := 132 }) s m ([.ref (ad 0), .int a_1] : List Value).toArray below meth c H locs 0 0 Q (F0 m 81 ls [.int x_20]) := by
          intro x_20 S_21 H locs ls hf hP hS hl
          have hf := z_e2 ej_81 hf
          obtain ⟨h1, h2⟩ := z_s2 hf
          subst h1 h2
          exact hret _ _ _ _ hP hS dX12_round_81
        refine lv_if_ne (tgt := 78) hx hb dX12_round_71 (by decide) (fun c_22 => ?_) (fun c_22 => ?_)
        · have hf := z_if c_22 hf
          refine lv_iload_n hx hb dX12_round_78 rfl (lv_at hl 1 rfl) ?_
          refine lv_iload_n hx hb dX12_round_79 rfl (lv_at hl 2 rfl) ?_
          refine lv_isub hx hb dX12_round_80 ?_
          exact J_81 (x_17 - x_18) S_19 _ _ _ hf hP hS (lv_sub hl [] rfl)
        · have hf := z_it c_22 hf
          refine lv_iconst (v := -1) hx hb dX12_round_74 (by decide) ?_
          refine lv_goto (tgt := 81) hx hb dX12_round_75 (by decide) ?_
          exact J_81 (-1 : Int32) S_19 _ _ _ hf hP hS (lv_sub hl [] rfl)
      have L_48 : ∀ (n_48 : Nat) (x_23 : Int32) (S_24 : zSt) (H : Heap) (locs : List Loc) (ls : Array Slot), fm_round_L48 a_1 j_154 j_133 j_70 n_48 x_23 S_24 = some (ro, So) → va_P D vwCl (zM cy ad S_24) H → va_S A s.heap H locs → lv_has ls 4 [(0, .ref (ad 0)), (1, .int a_1), (2, .int x_23)] → W p l e ({ frames := 6, cells := 0, slots := 0, locals := 132 }) s m ([.ref (ad 0), .int a_1] : List Value).toArray below meth c H locs 0 0 Q (F0 m 48 ls []) := by
        intro n_48
        induction n_48 with
        | zero =>
          intro x_23 S_24 H locs ls hf hP hS hl
          exact z_no hf
        | succ n_48 ih_48 =>
          intro x_23 S_24 H locs ls hf hP hS hl
          rw [fm_round_L48] at hf
          refine lv_iload_n hx hb dX12_round_48 rfl (lv_at hl 2 rfl) ?_
          refine lv_sipush (v := 200) hx hb dX12_round_49 (by decide) ?_
          refine lv_icmp_gt (tgt := 154) hx hb dX12_round_52 (by decide) (fun c_50 => ?_) (fun c_50 => ?_)
          · have hf := z_it c_50 hf
            exact J_154  S_24 _ _ _ hf hP hS (lv_sub hl [1] rfl)
          · have hf := z_if c_50 hf
            refine lv_iconst (v := 0) hx hb dX12_round_55 (by decide) ?_
            refine lv_istore_n (lv' := [(3, .int (0 : Int32)), (0, .ref (ad 0)), (1, .int a_1), (2, .int x_23)]) hx hb dX12_round_56 rfl hl (by decide) rfl (fun ls hl => ?_)
            obtain ⟨j_88, ej_88, hf⟩ := z_nm hf
            have J_88 : ∀ (S_25 : zSt) (H : Heap) (locs : List Loc) (ls : Array Slot), j_88  S_25 = some (ro, So) → va_P D vwCl (zM cy ad S_25) H → va_S A s.heap H locs → lv_has ls 4 [(0, .ref (ad 0)), (1, .int a_1), (2, .int x_23)] → W p l e ({ frames := 6, cells := 0, slots := 0, locals := 132 }) s m ([.ref (ad 0), .int a_1] : List Value).toArray below meth c H locs 0 0 Q (F0 m 88 ls []) := by
              intro  S_25 H locs ls hf hP hS hl
              have hf := z_e1 ej_88 hf
              refine lv_iconst (v := 0) hx hb dX12_round_88 (by decide) ?_
              refine lv_istore_n (lv' := [(3, .int (0 : Int32)), (0, .ref (ad 0)), (1, .int a_1), (2, .int x_23)]) hx hb dX12_round_89 rfl hl (by decide) rfl (fun ls hl => ?_)
              obtain ⟨j_123, ej_123, hf⟩ := z_nm hf
              have J_123 : ∀ (S_26 : zSt) (H : Heap) (locs : List Loc) (ls : Array Slot), j_123  S_26 = some (ro, So) → va_P D vwCl (zM cy ad S_26) H → va_S A s.heap H locs → lv_has ls 4 [(0, .ref (ad 0)), (1, .int a_1), (2, .int x_23)] → W p l e ({ frames := 6, cells := 0, slots := 0, locals := 132 }) s m ([.ref (ad 0), .int a_1] : List Value).toArray below meth c H locs 0 0 Q (F0 m 123 ls []) := by
                intro  S_26 H locs ls hf hP hS hl
                have hf := z_e1 ej_123 hf
                refine lv_aload_n hx hb dX12_round_123 rfl (lv_at hl 0 rfl) ?_
                obtain ⟨r_27, S_28, h_29, hf⟩ := z_bd hf
                refine z_cVI (As := []) (rest := []) X hK hE hD hA hP hS (cm_firstChange l D K cy ad S_26 _ _ h_29) (cwV 0 hts (z_gV wt_6_194 wt_6_196 wp_79 wt_1_13 wt_6_197) rfl rfl rfl ⟨rfl, yd_yX12_firstChange⟩ ⟨Nat.le_of_ble_eq_true rfl, Nat.le_of_ble_eq_true rfl⟩) (va_recv hK hP (ci := 12) (q0 := 0) rfl (zM_0 cy ad S_26)) hl.1 rfl rfl (Nat.le_of_ble_eq_true rfl) dX12_round_124 (fun H locs hP hS => ?_)
                refine lv_istore_n (lv' := [(3, .int r_27), (0, .ref (ad 0)), (1, .int a_1), (2, .int x_23)]) hx hb dX12_round_127 rfl hl (by decide) rfl (fun ls hl => ?_)
                refine lv_iload_n hx hb dX12_round_128 rfl (lv_at hl 0 rfl) ?_
                refine lv_iconst (v := -1) hx hb dX12_round_129 (by decide) ?_
                refine lv_icmp_ne (tgt := 143) hx hb dX12_round_130 (by decide) (fun c_34 => ?_) (fun c_34 => ?_)
                · have hf := z_if c_34 hf
                  refine lv_aload_n hx hb dX12_round_143 rfl (lv_at hl 1 rfl) ?_
                  refine lv_iload_n hx hb dX12_round_144 rfl (lv_at hl 0 rfl) ?_
                  obtain ⟨r_30, S_31, h_32, hf⟩ := z_bd hf
                  refine z_cVV (As := [.int r_27]) (rest := []) X hK hE hD hA hP hS (cm_exchanges l D K cy ad S_28 _ _ h_32) (cwV 1 hts (z_gV wt_6_202 wt_6_204 wp_81 wt_1_13 wt_6_205) rfl rfl rfl ⟨rfl, yd_yX12_exchanges⟩ ⟨Nat.le_of_ble_eq_true rfl, Nat.le_of_ble_eq_true rfl⟩) (va_recv hK hP (ci := 12) (q0 := 0) rfl (zM_0 cy ad S_28)) hl.1 rfl rfl (Nat.le_of_ble_eq_true rfl) dX12_round_145 (fun H locs hP hS => ?_)
                  obtain ⟨x_33, ex_33, hf⟩ := z_nm hf
                  refine lv_iinc (v := x_33) (lv' := [(2, .int x_33), (3, .int r_27), (0, .ref (ad 0)), (1, .int a_1)]) hx hb dX12_round_148 hl (k := 3) rfl (by rw [ex_33]; rfl) (by decide) rfl (fun ls hl => ?_)
                  refine lv_goto (tgt := 48) hx hb dX12_round_151 (by decide) ?_
                  exact ih_48 x_33 S_31 _ _ _ hf hP hS (lv_sub hl [2, 3, 0] rfl)
                · have hf := z_it c_34 hf
                  exact J_133 x_23 S_28 _ _ _ hf hP hS (lv_sub hl [2, 3] rfl)
              have L_90 : ∀ (n_90 : Nat) (x_35 : Int32) (S_36 : zSt) (H : Heap) (locs : List Loc) (ls : Array Slot), fm_round_L90 a_1 x_23 j_123 n_90 x_35 S_36 = some (ro, So) → va_P D vwCl (zM cy ad S_36) H → va_S A s.heap H locs → lv_has ls 4 [(0, .ref (ad 0)), (1, .int a_1), (2, .int x_23), (3, .int x_35)] → W p l e ({ frames := 6, cells := 0, slots := 0, locals := 132 }) s m ([.ref (ad 0), .int a_1] : List Value).toArray below meth c H locs 0 0 Q (F0 m 90 ls []) := by
                intro n_90
                induction n_90 with
                | zero =>
                  intro x_35 S_36 H locs ls hf hP hS hl
                  exact z_no hf
                | succ n_90 ih_90 =>
                  intro x_35 S_36 H locs ls hf hP hS hl
                  rw [fm_round_L90] at hf
                  refine lv_iload_n hx hb dX12_round_90 rfl (lv_at hl 3 rfl) ?_
                  refine lv_aload_n hx hb dX12_round_91 rfl (lv_at hl 0 rfl) ?_
                  refine va_get (D := D) (ci := 12) (v := .ref (ad 1)) (C := RX12) (T := TX12) (N := 36) hx hb hts k0 hown hK hP 0 (zM_0 cy ad S_36) rfl 0 (by decide) k1 (fun _ h9 => h9) rfl dX12_round_92 ?_
                  refine lv_iconst (v := 4) hx hb dX12_round_95 (by decide) ?_
                  refine z_iald hx hb hK hP 1 0 (zM_1 cy ad S_36) rfl (vp_in_iff.mpr (by decide)) (k := 4) (by decide) dX12_round_96 ?_
                  refine lv_icmp_ge (tgt := 123) hx hb dX12_round_97 (by decide) (fun c_41 => ?_) (fun c_41 => ?_)
                  · have hf := z_it c_41 hf
                    exact J_123  S_36 _ _ _ hf hP hS (lv_sub hl [0, 1, 2] rfl)
                  · have hf := z_if c_41 hf
                    refine lv_aload_n hx hb dX12_round_100 rfl (lv_at hl 0 rfl) ?_
                    refine va_get (D := D) (ci := 12) (v := .ref (ad 15)) (C := RX12) (T := TX12) (N := 36) hx hb hts k0 hown hK hP 0 (zM_0 cy ad S_36) rfl 31 (by decide) k2 (fun _ h9 => h9) rfl dX12_round_101 ?_
                    refine lv_bipush (v := 9) hx hb dX12_round_104 (by decide) ?_
                    refine lv_iload_n hx hb dX12_round_106 rfl (lv_at hl 2 rfl) ?_
                    refine lv_imul hx hb dX12_round_107 ?_
                    refine lv_iload_n hx hb dX12_round_108 rfl (lv_at hl 3 rfl) ?_
                    refine lv_iadd hx hb dX12_round_109 ?_
                    refine lv_aload_n hx hb dX12_round_110 rfl (lv_at hl 0 rfl) ?_
                    refine va_get (D := D) (ci := 12) (v := .ref (ad 11)) (C := RX12) (T := TX12) (N := 36) hx hb hts k0 hown hK hP 0 (zM_0 cy ad S_36) rfl 25 (by decide) k3 (fun _ h9 => h9) rfl dX12_round_111 ?_
                    refine lv_iload_n hx hb dX12_round_114 rfl (lv_at hl 3 rfl) ?_
                    obtain ⟨h_37, hf⟩ := z_ix hf
                    refine z_iald hx hb hK hP 11 0 (zM_11 cy ad S_36) rfl h_37 (k := (x_35.toNatClampNeg)) rfl dX12_round_115 ?_
                    obtain ⟨h_38, hf⟩ := z_ix hf
                    refine z_iast hx hb hK hP (hD S_36) hS 15 0 (zM_15 cy ad S_36) rfl h_38 (k := ((((9 : Int32) * x_23) + x_35).toNatClampNeg)) rfl dX12_round_116 (fun H locs hP hS => ?_)
                    obtain ⟨S_39, eS_39, hf⟩ := z_nm hf
                    have hP := zW_putI hP eS_39 (by decide) rfl
                    obtain ⟨x_40, ex_40, hf⟩ := z_nm hf
                    refine lv_iinc (v := x_40) (lv' := [(3, .int x_40), (0, .ref (ad 0)), (1, .int a_1), (2, .int x_23)]) hx hb dX12_round_117 hl (k := 3) rfl (by rw [ex_40]; rfl) (by decide) rfl (fun ls hl => ?_)
                    refine lv_goto (tgt := 90) hx hb dX12_round_120 (by decide) ?_
                    exact ih_90 x_40 S_39 _ _ _ hf hP hS (lv_sub hl [1, 2, 3, 0] rfl)
              exact L_90 zFU (0 : Int32) S_25 _ _ _ hf hP hS (lv_sub hl [1, 2, 3, 0] rfl)
            have L_57 : ∀ (n_57 : Nat) (x_42 : Int32) (S_43 : zSt) (H : Heap) (locs : List Loc) (ls : Array Slot), fm_round_L57 a_1 x_23 j_88 j_70 n_57 x_42 S_43 = some (ro, So) → va_P D vwCl (zM cy ad S_43) H → va_S A s.heap H locs → lv_has ls 4 [(0, .ref (ad 0)), (1, .int a_1), (2, .int x_23), (3, .int x_42)] → W p l e ({ frames := 6, cells := 0, slots := 0, locals := 132 }) s m ([.ref (ad 0), .int a_1] : List Value).toArray below meth c H locs 0 0 Q (F0 m 57 ls []) := by
              intro n_57
              induction n_57 with
              | zero =>
                intro x_42 S_43 H locs ls hf hP hS hl
                exact z_no hf
              | succ n_57 ih_57 =>
                intro x_42 S_43 H locs ls hf hP hS hl
                rw [fm_round_L57] at hf
                refine lv_iload_n hx hb dX12_round_57 rfl (lv_at hl 3 rfl) ?_
                refine lv_iload_n hx hb dX12_round_58 rfl (lv_at hl 2 rfl) ?_
                refine lv_icmp_ge (tgt := 88) hx hb dX12_round_59 (by decide) (fun c_49 => ?_) (fun c_49 => ?_)
                · have hf := z_it c_49 hf
                  exact J_88  S_43 _ _ _ hf hP hS (lv_sub hl [0, 1, 2] rfl)
                · have hf := z_if c_49 hf
                  refine lv_aload_n hx hb dX12_round_62 rfl (lv_at hl 0 rfl) ?_
                  refine lv_iload_n hx hb dX12_round_63 rfl (lv_at hl 3 rfl) ?_
                  obtain ⟨r_44, S_45, h_46, hf⟩ := z_bd hf
                  refine z_cVI (As := [.int x_42]) (rest := []) X hK hE hD hA hP hS (cm_isRow l D K cy ad S_43 _ _ _ h_46) (cwV 1 hts (z_gV wt_6_214 wt_6_216 wp_82 wt_1_13 wt_6_217) rfl rfl rfl ⟨rfl, yd_yX12_isRow⟩ ⟨Nat.le_of_ble_eq_true rfl, Nat.le_of_ble_eq_true rfl⟩) (va_recv hK hP (ci := 12) (q0 := 0) rfl (zM_0 cy ad S_43)) hl.1 rfl rfl (Nat.le_of_ble_eq_true rfl) dX12_round_64 (fun H locs hP hS => ?_)
                  refine lv_if_eq (tgt := 82) hx hb dX12_round_67 (by decide) (fun c_48 => ?_) (fun c_48 => ?_)
                  · have hf := z_it c_48 hf
                    obtain ⟨x_47, ex_47, hf⟩ := z_nm hf
                    refine lv_iinc (v := x_47) (lv' := [(3, .int x_47), (0, .ref (ad 0)), (1, .int a_1), (2, .int x_23)]) hx hb dX12_round_82 hl (k := 3) rfl (by rw [ex_47]; rfl) (by decide) rfl (fun ls hl => ?_)
                    refine lv_goto (tgt := 57) hx hb dX12_round_85 (by decide) ?_
                    exact ih_57 x_47 S_45 _ _ _ hf hP hS (lv_sub hl [1, 2, 3, 0] rfl)
                  · have hf := z_if c_48 hf
                    exact J_70 x_23 x_42 S_45 _ _ _ hf hP hS (lv_sub hl [1, 2, 3] rfl)
            exact L_57 zFU (0 : Int32) S_24 _ _ _ hf hP hS (lv_sub hl [1, 2, 3, 0] rfl)
      exact L_48 zFU (0 : Int32) S_7 _ _ _ hf hP hS (lv_sub hl [1, 2, 0] rfl)
    have L_18 : ∀ (n_18 : Nat) (x_51 : Int32) (S_52 : zSt) (H : Heap) (locs : List Loc) (ls : Array Slot), fm_round_L18 a_1 j_46 n_18 x_51 S_52 = some (ro, So) → va_P D vwCl (zM cy ad S_52) H → va_S A s.heap H locs → lv_has ls 4 [(0, .ref (ad 0)), (1, .int a_1), (2, .int x_51)] → W p l e ({ frames := 6, cells := 0, slots := 0, locals := 132 }) s m ([.ref (ad 0), .int a_1] : List Value).toArray below meth c H locs 0 0 Q (F0 m 18 ls []) := by
      intro n_18
      induction n_18 with
      | zero =>
        intro x_51 S_52 H locs ls hf hP hS hl
        exact z_no hf
      | succ n_18 ih_18 =>
        intro x_51 S_52 H locs ls hf hP hS hl
        rw [fm_round_L18] at hf
        refine lv_iload_n hx hb dX12_round_18 rfl (lv_at hl 2 rfl) ?_
        refine lv_aload_n hx hb dX12_round_19 rfl (lv_at hl 0 rfl) ?_
        refine va_get (D := D) (ci := 12) (v := .ref (ad 1)) (C := RX12) (T := TX12) (N := 36) hx hb hts k0 hown hK hP 0 (zM_0 cy ad S_52) rfl 0 (by decide) k1 (fun _ h9 => h9) rfl dX12_round_20 ?_
        refine lv_iconst (v := 4) hx hb dX12_round_23 (by decide) ?_
        refine z_iald hx hb hK hP 1 0 (zM_1 cy ad S_52) rfl (vp_in_iff.mpr (by decide)) (k := 4) (by decide) dX12_round_24 ?_
        refine lv_icmp_ge (tgt := 46) hx hb dX12_round_25 (by decide) (fun c_57 => ?_) (fun c_57 => ?_)
        · have hf := z_it c_57 hf
          exact J_46  S_52 _ _ _ hf hP hS (lv_sub hl [0, 1] rfl)
        · have hf := z_if c_57 hf
          refine lv_aload_n hx hb dX12_round_28 rfl (lv_at hl 0 rfl) ?_
          refine va_get (D := D) (ci := 12) (v := .ref (ad 11)) (C := RX12) (T := TX12) (N := 36) hx hb hts k0 hown hK hP 0 (zM_0 cy ad S_52) rfl 25 (by decide) k3 (fun _ h9 => h9) rfl dX12_round_29 ?_
          refine lv_iload_n hx hb dX12_round_32 rfl (lv_at hl 2 rfl) ?_
          refine lv_aload_n hx hb dX12_round_33 rfl (lv_at hl 0 rfl) ?_
          refine va_get (D := D) (ci := 12) (v := .ref (ad 9)) (C := RX12) (T := TX12) (N := 36) hx hb hts k0 hown hK hP 0 (zM_0 cy ad S_52) rfl 22 (by decide) k4 (fun _ h9 => h9) rfl dX12_round_34 ?_
          refine lv_iload_n hx hb dX12_round_37 rfl (lv_at hl 2 rfl) ?_
          obtain ⟨h_53, hf⟩ := z_ix hf
          refine z_iald hx hb hK hP 9 0 (zM_9 cy ad S_52) rfl h_53 (k := (x_51.toNatClampNeg)) rfl dX12_round_38 ?_
          obtain ⟨h_54, hf⟩ := z_ix hf
          refine z_iast hx hb hK hP (hD S_52) hS 11 0 (zM_11 cy ad S_52) rfl h_54 (k := (x_51.toNatClampNeg)) rfl dX12_round_39 (fun H locs hP hS => ?_)
          obtain ⟨S_55, eS_55, hf⟩ := z_nm hf
          have hP := zW_putI hP eS_55 (by decide) rfl
          obtain ⟨x_56, ex_56, hf⟩ := z_nm hf
          refine lv_iinc (v := x_56) (lv' := [(2, .int x_56), (0, .ref (ad 0)), (1, .int a_1)]) hx hb dX12_round_40 hl (k := 2) rfl (by rw [ex_56]; rfl) (by decide) rfl (fun ls hl => ?_)
          refine lv_goto (tgt := 18) hx hb dX12_round_43 (by decide) ?_
          exact ih_18 x_56 S_55 _ _ _ hf hP hS (lv_sub hl [1, 2, 0] rfl)
    exact L_18 zFU (0 : Int32) S_5 _ _ _ hf hP hS (lv_sub hl [1, 2, 0] rfl)
  · have hf := z_it c_58 hf
    refine lv_iconst (v := -1) hx hb dX12_round_9 (by decide) ?_
    obtain ⟨h1, h2⟩ := z_s2 hf
    subst h1 h2
    exact hret _ _ _ _ hP hS dX12_round_10
theorem yd_yX12_isLeaven : (yX12_isLeaven).cls ≠ "java/lang/invoke/MethodHandle" ∧ (yX12_isLeaven).cls ≠ "java/lang/invoke/VarHandle" ∧ (parseMethodDescriptor (yX12_isLeaven).desc).map (fun d => d.parameters.length) = some 1 := by decide +kernel
def fm_isLeaven (S_0 : zSt) (a_1 : Int32) : Option (Int32 × zSt) :=
  zbd (fm_isIn S_0 a_1 (0 : Int32) ((S_0.1 1 585) - (1 : Int32))) fun r_1 S_2 =>
  zck (zbo r_1) <|
  some (r_1, S_2)
set_option maxHeartbeats 4000000 in
set_option maxRecDepth 100000 in
theorem cm_isLeaven (l : Launch) (D : va_G) (K : (Nat → Nat) × (Nat → Nat)) (cy : Nat → ClassId) (ad : Nat → Nat) (S_0 : zSt) (a_1 : Int32) (ro : Int32) (So : zSt) (hf : fm_isLeaven S_0 a_1 = some (ro, So)) : zMI l yX12_isLeaven (zws yX12_isLeaven cX12_isLeaven 2 (Option.some .boolean)) ({ frames := 1, cells := 0, slots := 0, locals := 22 }) D (zTy cy) K (zM cy ad) [.ref (ad 0), .int a_1] S_0 ro So := by
  refine z_metZ (own := RX12) (lv := [(0, .ref (ad 0)), (1, .int a_1)]) (by decide) rfl rfl (Nat.le_of_ble_eq_true rfl) rfl ?_
  intro p e s m below meth c A Q X hK hE hD hA hret hP hS ls hl
  obtain ⟨hx, hb, hml, hown, hts⟩ := id X
  have k0 := (fun w h => List.mem_cons_of_mem _ (zFX12 w h) : ∀ w ∈ u_ws RX12 TX12 36, w ∈ zws yX12_isLeaven cX12_isLeaven 2 (Option.some .boolean))
  have k1 := hts _ (List.mem_cons_of_mem _ wt_5_95)
  refine lv_iload_n hx hb dX12_isLeaven_0 rfl (lv_at hl 1 rfl) ?_
  refine lv_iconst (v := 0) hx hb dX12_isLeaven_1 (by decide) ?_
  refine lv_aload_n hx hb dX12_isLeaven_2 rfl (lv_at hl 0 rfl) ?_
  refine va_get (D := D) (ci := 12) (v := .ref (ad 1)) (C := RX12) (T := TX12) (N := 36) hx hb hts k0 hown hK hP 0 (zM_0 cy ad S_0) rfl 0 (by decide) k1 (fun _ h9 => h9) rfl dX12_isLeaven_3 ?_
  refine lv_sipush (v := 585) hx hb dX12_isLeaven_6 (by decide) ?_
  refine z_iald hx hb hK hP 1 0 (zM_1 cy ad S_0) rfl (vp_in_iff.mpr (by decide)) (k := 585) (by decide) dX12_isLeaven_9 ?_
  refine lv_iconst (v := 1) hx hb dX12_isLeaven_10 (by decide) ?_
  refine lv_isub hx hb dX12_isLeaven_11 ?_
  obtain ⟨r_1, S_2, h_3, hf⟩ := z_bd hf
  refine z_cSI (As := [.int a_1, .int (0 : Int32), .int ((S_0.1 1 585) - (1 : Int32))]) (rest := []) X hK hE hD hA hP hS (cm_isIn l D K cy ad S_0 _ _ _ _ _ h_3) (va_cwS 3 hts (z_gS wt_5_216 wt_5_217 wt_1_13 wt_5_218) rfl rfl rfl yd_yX12_isIn ⟨Nat.le_of_ble_eq_true rfl, Nat.le_of_ble_eq_true rfl⟩) hl.1 rfl rfl (Nat.le_of_ble_eq_true rfl) dX12_isLeaven_12 (fun H locs hP hS => ?_)
  obtain ⟨h_4, hf⟩ := z_bo hf
  obtain ⟨h1, h2⟩ := z_s2 hf
  subst h1 h2
  exact hret _ _ _ _ h_4 hP hS dX12_isLeaven_15
theorem yd_yX12_ofLeaven : (yX12_ofLeaven).cls ≠ "java/lang/invoke/MethodHandle" ∧ (yX12_ofLeaven).cls ≠ "java/lang/invoke/VarHandle" ∧ (parseMethodDescriptor (yX12_ofLeaven).desc).map (fun d => d.parameters.length) = some 2 := by decide +kernel
def fm_ofLeaven (S_0 : zSt) (a_1 : Int32) (a_2 : Int32) : Option (Int32 × zSt) :=
  zck (zix (((340 : Int32) + ((4 : Int32) * a_1)) + a_2) 1480) <|
  some (S_0.1 1 ((((340 : Int32) + ((4 : Int32) * a_1)) + a_2).toNatClampNeg), S_0)
set_option maxHeartbeats 4000000 in
set_option maxRecDepth 100000 in
theorem cm_ofLeaven (l : Launch) (D : va_G) (K : (Nat → Nat) × (Nat → Nat)) (cy : Nat → ClassId) (ad : Nat → Nat) (S_0 : zSt) (a_1 : Int32) (a_2 : Int32) (ro : Int32) (So : zSt) (hf : fm_ofLeaven S_0 a_1 a_2 = some (ro, So)) : zMI l yX12_ofLeaven (zws yX12_ofLeaven cX12_ofLeaven 3 (Option.some .int)) ({ frames := 0, cells := 0, slots := 0, locals := 0 }) D (zTy cy) K (zM cy ad) [.ref (ad 0), .int a_1, .int a_2] S_0 ro So := by
  refine z_metI (own := RX12) (lv := [(0, .ref (ad 0)), (1, .int a_1), (2, .int a_2)]) (by decide) rfl rfl (Nat.le_of_ble_eq_true rfl) rfl ?_
  intro p e s m below meth c A Q X hK hE hD hA hret hP hS ls hl
  obtain ⟨hx, hb, hml, hown, hts⟩ := id X
  have k0 := (fun w h => List.mem_cons_of_mem _ (zFX12 w h) : ∀ w ∈ u_ws RX12 TX12 36, w ∈ zws yX12_ofLeaven cX12_ofLeaven 3 (Option.some .int))
  have k1 := hts _ (List.mem_cons_of_mem _ wt_5_95)
  refine lv_aload_n hx hb dX12_ofLeaven_0 rfl (lv_at hl 0 rfl) ?_
  refine va_get (D := D) (ci := 12) (v := .ref (ad 1)) (C := RX12) (T := TX12) (N := 36) hx hb hts k0 hown hK hP 0 (zM_0 cy ad S_0) rfl 0 (by decide) k1 (fun _ h9 => h9) rfl dX12_ofLeaven_1 ?_
  refine lv_sipush (v := 340) hx hb dX12_ofLeaven_4 (by decide) ?_
  refine lv_iconst (v := 4) hx hb dX12_ofLeaven_7 (by decide) ?_
  refine lv_iload_n hx hb dX12_ofLeaven_8 rfl (lv_at hl 1 rfl) ?_
  refine lv_imul hx hb dX12_ofLeaven_9 ?_
  refine lv_iadd hx hb dX12_ofLeaven_10 ?_
  refine lv_iload_n hx hb dX12_ofLeaven_11 rfl (lv_at hl 2 rfl) ?_
  refine lv_iadd hx hb dX12_ofLeaven_12 ?_
  obtain ⟨h_1, hf⟩ := z_ix hf
  refine z_iald hx hb hK hP 1 0 (zM_1 cy ad S_0) rfl h_1 (k := ((((340 : Int32) + ((4 : Int32) * a_1)) + a_2).toNatClampNeg)) rfl dX12_ofLeaven_13 ?_
  obtain ⟨h1, h2⟩ := z_s2 hf
  subst h1 h2
  exact hret _ _ _ _ hP hS dX12_ofLeaven_14
