def fm_aLine (S_0 : zSt) : Option (Int32 × zSt) :=
  if (S_0.1 0 14) = (20 : Int32) then (
  if (S_0.1 0 10) = (16 : Int32) then (
  zbd (fm_bad S_0 (3 : Int32)) fun r_28 S_29 =>
  zck (zbo r_28) <|
  some (r_28, S_29)) else (
  znm (zpI S_0 0 20 (0 : Int32)) fun S_1 =>
  zbd (fm_next0 S_1) fun _ S_3 =>
  zck (zix ((3 : Int32) * (S_3.1 0 10)) 48) <|
  znm (zpI S_3 4 (((3 : Int32) * (S_3.1 0 10)).toNatClampNeg) (S_3.1 0 11)) fun S_6 =>
  zbd (fm_sumUp S_6) fun r_7 S_8 =>
  if r_7 = 0 then (
  some ((0 : Int32), S_8)) else (
  zck (zix (((3 : Int32) * (S_8.1 0 10)) + (1 : Int32)) 48) <|
  znm (zpI S_8 4 ((((3 : Int32) * (S_8.1 0 10)) + (1 : Int32)).toNatClampNeg) (S_8.1 0 11)) fun S_11 =>
  znm (fun (S_12 : zSt) =>
  zck (zix (((3 : Int32) * (S_12.1 0 10)) + (2 : Int32)) 48) <|
  znm (zpI S_12 4 ((((3 : Int32) * (S_12.1 0 10)) + (2 : Int32)).toNatClampNeg) (S_12.1 0 11)) fun S_14 =>
  zbd (fm_need S_14 (159 : Int32)) fun r_15 S_16 =>
  zck (zbo r_15) <|
  some (r_15, S_16)) fun j_101 =>
  if (S_11.1 0 14) = (3 : Int32) then (
  zbd (fm_next0 S_11) fun _ S_20 =>
  zbd (fm_any_c S_20) fun r_22 S_23 =>
  if r_22 = 0 then (
  some ((0 : Int32), S_23)) else (
  j_101  S_23)) else (
  j_101  S_11)))) else (
  zbd (fm_bad S_0 (1 : Int32)) fun r_33 S_34 =>
  zck (zbo r_33) <|
  some (r_33, S_34))
set_option maxHeartbeats 4000000 in
set_option maxRecDepth 100000 in
theorem cm_aLine (l : Launch) (D : va_G) (K : (Nat → Nat) × (Nat → Nat)) (cy : Nat → ClassId) (ad : Nat → Nat) (S_0 : zSt) (ro : Int32) (So : zSt) (hf : fm_aLine S_0 = some (ro, So)) : zMI l yX12_aLine (zws yX12_aLine cX12_aLine 1 (Option.some .boolean)) ({ frames := 186, cells := 0, slots := 0, locals := 3954 }) D (zTy cy) K (zM cy ad) [.ref (ad 0)] S_0 ro So := by
  refine z_metZ (own := RX12) (lv := [(0, .ref (ad 0))]) (by decide) rfl rfl (Nat.le_of_ble_eq_true rfl) rfl ?_
  intro p e s m below meth c A Q X hK hE hD hA hret hP hS ls hl
  obtain ⟨hx, hb, hml, hown, hts⟩ := id X
  have k0 := (fun w h => List.mem_cons_of_mem _ (zFX12 w h) : ∀ w ∈ u_ws RX12 TX12 36, w ∈ zws yX12_aLine cX12_aLine 1 (Option.some .boolean))
  have k1 := hts _ (List.mem_cons_of_mem _ wt_5_109)
  have k2 := hts _ (List.mem_cons_of_mem _ wt_5_105)
  have k3 := hts _ (List.mem_cons_of_mem _ wt_5_115)
  have k4 := hts _ (List.mem_cons_of_mem _ wt_5_100)
  have k5 := hts _ (List.mem_cons_of_mem _ wt_5_106)
  refine lv_aload_n hx hb dX12_aLine_0 rfl (lv_at hl 0 rfl) ?_
  refine va_get (D := D) (ci := 12) (v := .int (S_0.1 0 14)) (C := RX12) (T := TX12) (N := 36) hx hb hts k0 hown hK hP 0 (zM_0 cy ad S_0) rfl 14 (by decide) k1 (fun _ h9 => h9) rfl dX12_aLine_1 ?_
  refine lv_bipush (v := 20) hx hb dX12_aLine_4 (by decide) ?_
  refine lv_icmp_eq (tgt := 15) hx hb dX12_aLine_6 (by decide) (fun c_37 => ?_) (fun c_37 => ?_)
  · have hf := z_it c_37 hf
    refine lv_aload_n hx hb dX12_aLine_15 rfl (lv_at hl 0 rfl) ?_
    refine va_get (D := D) (ci := 12) (v := .int (S_0.1 0 10)) (C := RX12) (T := TX12) (N := 36) hx hb hts k0 hown hK hP 0 (zM_0 cy ad S_0) rfl 10 (by decide) k2 (fun _ h9 => h9) rfl dX12_aLine_16 ?_
    refine lv_bipush (v := 16) hx hb dX12_aLine_19 (by decide) ?_
    refine lv_icmp_ne (tgt := 30) hx hb dX12_aLine_21 (by decide) (fun c_32 => ?_) (fun c_32 => ?_)
    · have hf := z_if c_32 hf
      refine lv_aload_n hx hb dX12_aLine_30 rfl (lv_at hl 0 rfl) ?_
      refine lv_iconst (v := 0) hx hb dX12_aLine_31 (by decide) ?_
      refine va_put (D := D) (ci := 12) (v := .int (0 : Int32)) (ty := .int) (C := RX12) (T := TX12) (N := 36) hx hb hts k0 tyX12 tyX12_ok nmX12 hown hK hP (hD S_0) hS 0 (zM_0 cy ad S_0) rfl 20 (by decide) k3 (fun _ h9 => h9) rfl (tyX12_ok 20 (by decide)) rfl rfl (Nat.le_of_ble_eq_true rfl) dX12_aLine_32 (fun H locs hP _ hS => ?_)
      obtain ⟨S_1, eS_1, hf⟩ := z_nm hf
      have hP := zW_putI hP eS_1 (by decide) rfl
      refine lv_aload_n hx hb dX12_aLine_35 rfl (lv_at hl 0 rfl) ?_
      obtain ⟨r_2, S_3, h_4, hf⟩ := z_bd hf
      refine z_cVV (As := []) (rest := []) X hK hE hD hA hP hS (cm_next0 l D K cy ad S_1 _ h_4) (cwV 0 hts (z_gV wt_5_223 wt_5_225 wp_45 wt_1_13 wt_5_226) rfl rfl rfl ⟨rfl, yd_yX12_next0⟩ ⟨Nat.le_of_ble_eq_true rfl, Nat.le_of_ble_eq_true rfl⟩) (va_recv hK hP (ci := 12) (q0 := 0) rfl (zM_0 cy ad S_1)) hl.1 rfl rfl (Nat.le_of_ble_eq_true rfl) dX12_aLine_36 (fun H locs hP hS => ?_)
      refine lv_aload_n hx hb dX12_aLine_39 rfl (lv_at hl 0 rfl) ?_
      refine va_get (D := D) (ci := 12) (v := .ref (ad 4)) (C := RX12) (T := TX12) (N := 36) hx hb hts k0 hown hK hP 0 (zM_0 cy ad S_3) rfl 5 (by decide) k4 (fun _ h9 => h9) rfl dX12_aLine_40 ?_
      refine lv_iconst (v := 3) hx hb dX12_aLine_43 (by decide) ?_
      refine lv_aload_n hx hb dX12_aLine_44 rfl (lv_at hl 0 rfl) ?_
      refine va_get (D := D) (ci := 12) (v := .int (S_3.1 0 10)) (C := RX12) (T := TX12) (N := 36) hx hb hts k0 hown hK hP 0 (zM_0 cy ad S_3) rfl 10 (by decide) k2 (fun _ h9 => h9) rfl dX12_aLine_45 ?_
      refine lv_imul hx hb dX12_aLine_48 ?_
      refine lv_aload_n hx hb dX12_aLine_49 rfl (lv_at hl 0 rfl) ?_
      refine va_get (D := D) (ci := 12) (v := .int (S_3.1 0 11)) (C := RX12) (T := TX12) (N := 36) hx hb hts k0 hown hK hP 0 (zM_0 cy ad S_3) rfl 11 (by decide) k5 (fun _ h9 => h9) rfl dX12_aLine_50 ?_
      obtain ⟨h_5, hf⟩ := z_ix hf
      refine z_iast hx hb hK hP (hD S_3) hS 4 0 (zM_4 cy ad S_3) rfl h_5 (k := (((3 : Int32) * (S_3.1 0 10)).toNatClampNeg)) rfl dX12_aLine_53 (fun H locs hP hS => ?_)
      obtain ⟨S_6, eS_6, hf⟩ := z_nm hf
      have hP := zW_putI hP eS_6 (by decide) rfl
      refine lv_aload_n hx hb dX12_aLine_54 rfl (lv_at hl 0 rfl) ?_
      obtain ⟨r_7, S_8, h_9, hf⟩ := z_bd hf
      refine z_cVI (As := []) (rest := []) X hK hE hD hA hP hS (cm_sumUp l D K cy ad S_6 _ _ h_9) (cwV 0 hts (z_gV wt_6_34 wt_6_36 wp_52 wt_1_13 wt_6_37) rfl rfl rfl ⟨rfl, yd_yX12_sumUp⟩ ⟨Nat.le_of_ble_eq_true rfl, Nat.le_of_ble_eq_true rfl⟩) (va_recv hK hP (ci := 12) (q0 := 0) rfl (zM_0 cy ad S_6)) hl.1 rfl rfl (Nat.le_of_ble_eq_true rfl) dX12_aLine_55 (fun H locs hP hS => ?_)
      refine lv_if_ne (tgt := 63) hx hb dX12_aLine_58 (by decide) (fun c_27 => ?_) (fun c_27 => ?_)
      · have hf := z_if c_27 hf
        refine lv_aload_n hx hb dX12_aLine_63 rfl (lv_at hl 0 rfl) ?_
        refine va_get (D := D) (ci := 12) (v := .ref (ad 4)) (C := RX12) (T := TX12) (N := 36) hx hb hts k0 hown hK hP 0 (zM_0 cy ad S_8) rfl 5 (by decide) k4 (fun _ h9 => h9) rfl dX12_aLine_64 ?_
        refine lv_iconst (v := 3) hx hb dX12_aLine_67 (by decide) ?_
        refine lv_aload_n hx hb dX12_aLine_68 rfl (lv_at hl 0 rfl) ?_
        refine va_get (D := D) (ci := 12) (v := .int (S_8.1 0 10)) (C := RX12) (T := TX12) (N := 36) hx hb hts k0 hown hK hP 0 (zM_0 cy ad S_8) rfl 10 (by decide) k2 (fun _ h9 => h9) rfl dX12_aLine_69 ?_
        refine lv_imul hx hb dX12_aLine_72 ?_
        refine lv_iconst (v := 1) hx hb dX12_aLine_73 (by decide) ?_
        refine lv_iadd hx hb dX12_aLine_74 ?_
        refine lv_aload_n hx hb dX12_aLine_75 rfl (lv_at hl 0 rfl) ?_
        refine va_get (D := D) (ci := 12) (v := .int (S_8.1 0 11)) (C := RX12) (T := TX12) (N := 36) hx hb hts k0 hown hK hP 0 (zM_0 cy ad S_8) rfl 11 (by decide) k5 (fun _ h9 => h9) rfl dX12_aLine_76 ?_
        obtain ⟨h_10, hf⟩ := z_ix hf
        refine z_iast hx hb hK hP (hD S_8) hS 4 0 (zM_4 cy ad S_8) rfl h_10 (k := ((((3 : Int32) * (S_8.1 0 10)) + (1 : Int32)).toNatClampNeg)) rfl dX12_aLine_79 (fun H locs hP hS => ?_)
        obtain ⟨S_11, eS_11, hf⟩ := z_nm hf
        have hP := zW_putI hP eS_11 (by decide) rfl
        refine lv_aload_n hx hb dX12_aLine_80 rfl (lv_at hl 0 rfl) ?_
        refine va_get (D := D) (ci := 12) (v := .int (S_11.1 0 14)) (C := RX12) (T := TX12) (N := 36) hx hb hts k0 hown hK hP 0 (zM_0 cy ad S_11) rfl 14 (by decide) k1 (fun _ h9 => h9) rfl dX12_aLine_81 ?_
        refine lv_iconst (v := 3) hx hb dX12_aLine_84 (by decide) ?_
        obtain ⟨j_101, ej_101, hf⟩ := z_nm hf
        have J_101 : ∀ (S_12 : zSt) (H : Heap) (locs : List Loc) (ls : Array Slot), j_101  S_12 = some (ro, So) → va_P D vwCl (zM cy ad S_12) H → va_S A s.heap H locs → lv_has ls 1 [(0, .ref (ad 0))] → W p l e ({ frames := 186, cells := 0, slots := 0, locals := 3954 }) s m ([.ref (ad 0)] : List Value).toArray below meth c H locs 0 0 Q (F0 m 101 ls []) := by
          intro  S_12 H locs ls hf hP hS hl
          have hf := z_e1 ej_101 hf
          refine lv_aload_n hx hb dX12_aLine_101 rfl (lv_at hl 0 rfl) ?_
          refine va_get (D := D) (ci := 12) (v := .ref (ad 4)) (C := RX12) (T := TX12) (N := 36) hx hb hts k0 hown hK hP 0 (zM_0 cy ad S_12) rfl 5 (by decide) k4 (fun _ h9 => h9) rfl dX12_aLine_102 ?_
          refine lv_iconst (v := 3) hx hb dX12_aLine_105 (by decide) ?_
          refine lv_aload_n hx hb dX12_aLine_106 rfl (lv_at hl 0 rfl) ?_
          refine va_get (D := D) (ci := 12) (v := .int (S_12.1 0 10)) (C := RX12) (T := TX12) (N := 36) hx hb hts k0 hown hK hP 0 (zM_0 cy ad S_12) rfl 10 (by decide) k2 (fun _ h9 => h9) rfl dX12_aLine_107 ?_
          refine lv_imul hx hb dX12_aLine_110 ?_
          refine lv_iconst (v := 2) hx hb dX12_aLine_111 (by decide) ?_
          refine lv_iadd hx hb dX12_aLine_112 ?_
          refine lv_aload_n hx hb dX12_aLine_113 rfl (lv_at hl 0 rfl) ?_
          refine va_get (D := D) (ci := 12) (v := .int (S_12.1 0 11)) (C := RX12) (T := TX12) (N := 36) hx hb hts k0 hown hK hP 0 (zM_0 cy ad S_12) rfl 11 (by decide) k5 (fun _ h9 => h9) rfl dX12_aLine_114 ?_
          obtain ⟨h_13, hf⟩ := z_ix hf
          refine z_iast hx hb hK hP (hD S_12) hS 4 0 (zM_4 cy ad S_12) rfl h_13 (k := ((((3 : Int32) * (S_12.1 0 10)) + (2 : Int32)).toNatClampNeg)) rfl dX12_aLine_117 (fun H locs hP hS => ?_)
          obtain ⟨S_14, eS_14, hf⟩ := z_nm hf
          have hP := zW_putI hP eS_14 (by decide) rfl
          refine lv_aload_n hx hb dX12_aLine_118 rfl (lv_at hl 0 rfl) ?_
          refine lv_sipush (v := 159) hx hb dX12_aLine_119 (by decide) ?_
          obtain ⟨r_15, S_16, h_17, hf⟩ := z_bd hf
          refine z_cVI (As := [.int (159 : Int32)]) (rest := []) X hK hE hD hA hP hS (cm_need l D K cy ad S_14 _ _ _ h_17) (cwV 1 hts (z_gV wt_6_66 wt_6_68 wp_60 wt_1_13 wt_6_69) rfl rfl rfl ⟨rfl, yd_yX12_need⟩ ⟨Nat.le_of_ble_eq_true rfl, Nat.le_of_ble_eq_true rfl⟩) (va_recv hK hP (ci := 12) (q0 := 0) rfl (zM_0 cy ad S_14)) hl.1 rfl rfl (Nat.le_of_ble_eq_true rfl) dX12_aLine_122 (fun H locs hP hS => ?_)
          obtain ⟨h_18, hf⟩ := z_bo hf
          obtain ⟨h1, h2⟩ := z_s2 hf
          subst h1 h2
          exact hret _ _ _ _ h_18 hP hS dX12_aLine_125
        refine lv_icmp_ne (tgt := 101) hx hb dX12_aLine_85 (by decide) (fun c_26 => ?_) (fun c_26 => ?_)
        · have hf := z_if c_26 hf
          exact J_101  S_11 _ _ _ hf hP hS (lv_sub hl [0] rfl)
        · have hf := z_it c_26 hf
          refine lv_aload_n hx hb dX12_aLine_88 rfl (lv_at hl 0 rfl) ?_
          obtain ⟨r_19, S_20, h_21, hf⟩ := z_bd hf
          refine z_cVV (As := []) (rest := []) X hK hE hD hA hP hS (cm_next0 l D K cy ad S_11 _ h_21) (cwV 0 hts (z_gV wt_5_223 wt_5_225 wp_45 wt_1_13 wt_5_226) rfl rfl rfl ⟨rfl, yd_yX12_next0⟩ ⟨Nat.le_of_ble_eq_true rfl, Nat.le_of_ble_eq_true rfl⟩) (va_recv hK hP (ci := 12) (q0 := 0) rfl (zM_0 cy ad S_11)) hl.1 rfl rfl (Nat.le_of_ble_eq_true rfl) dX12_aLine_89 (fun H locs hP hS => ?_)
          refine lv_aload_n hx hb dX12_aLine_92 rfl (lv_at hl 0 rfl) ?_
          obtain ⟨r_22, S_23, h_24, hf⟩ := z_bd hf
          refine z_cVI (As := []) (rest := []) X hK hE hD hA hP hS (cm_any_c l D K cy ad S_20 _ _ h_24) (cwV 0 hts (z_gV wt_6_50 wt_6_52 wp_56 wt_1_13 wt_6_53) rfl rfl rfl ⟨rfl, yd_yX12_any⟩ ⟨Nat.le_of_ble_eq_true rfl, Nat.le_of_ble_eq_true rfl⟩) (va_recv hK hP (ci := 12) (q0 := 0) rfl (zM_0 cy ad S_20)) hl.1 rfl rfl (Nat.le_of_ble_eq_true rfl) dX12_aLine_93 (fun H locs hP hS => ?_)
          refine lv_if_ne (tgt := 101) hx hb dX12_aLine_96 (by decide) (fun c_25 => ?_) (fun c_25 => ?_)
          · have hf := z_if c_25 hf
            exact J_101  S_23 _ _ _ hf hP hS (lv_sub hl [0] rfl)
          · have hf := z_it c_25 hf
            refine lv_iconst (v := 0) hx hb dX12_aLine_99 (by decide) ?_
            obtain ⟨h1, h2⟩ := z_s2 hf
            subst h1 h2
            exact hret _ _ _ _ rfl hP hS dX12_aLine_100
      · have hf := z_it c_27 hf
        refine lv_iconst (v := 0) hx hb dX12_aLine_61 (by decide) ?_
        obtain ⟨h1, h2⟩ := z_s2 hf
        subst h1 h2
        exact hret _ _ _ _ rfl hP hS dX12_aLine_62
    · have hf := z_it c_32 hf
      refine lv_aload_n hx hb dX12_aLine_24 rfl (lv_at hl 0 rfl) ?_
      refine lv_iconst (v := 3) hx hb dX12_aLine_25 (by decide) ?_
      obtain ⟨r_28, S_29, h_30, hf⟩ := z_bd hf
      refine z_cVI (As := [.int (3 : Int32)]) (rest := []) X hK hE hD hA hP hS (cm_bad l D K cy ad S_0 _ _ _ h_30) (cwV 1 hts (z_gV wt_6_30 wt_6_32 wp_51 wt_1_13 wt_6_33) rfl rfl rfl ⟨rfl, yd_yX12_bad⟩ ⟨Nat.le_of_ble_eq_true rfl, Nat.le_of_ble_eq_true rfl⟩) (va_recv hK hP (ci := 12) (q0 := 0) rfl (zM_0 cy ad S_0)) hl.1 rfl rfl (Nat.le_of_ble_eq_true rfl) dX12_aLine_26 (fun H locs hP hS => ?_)
      obtain ⟨h_31, hf⟩ := z_bo hf
      obtain ⟨h1, h2⟩ := z_s2 hf
      subst h1 h2
      exact hret _ _ _ _ h_31 hP hS dX12_aLine_29
  · have hf := z_if c_37 hf
    refine lv_aload_n hx hb dX12_aLine_9 rfl (lv_at hl 0 rfl) ?_
    refine lv_iconst (v := 1) hx hb dX12_aLine_10 (by decide) ?_
    obtain ⟨r_33, S_34, h_35, hf⟩ := z_bd hf
    refine z_cVI (As := [.int (1 : Int32)]) (rest := []) X hK hE hD hA hP hS (cm_bad l D K cy ad S_0 _ _ _ h_35) (cwV 1 hts (z_gV wt_6_30 wt_6_32 wp_51 wt_1_13 wt_6_33) rfl rfl rfl ⟨rfl, yd_yX12_bad⟩ ⟨Nat.le_of_ble_eq_true rfl, Nat.le_of_ble_eq_true rfl⟩) (va_recv hK hP (ci := 12) (q0 := 0) rfl (zM_0 cy ad S_0)) hl.1 rfl rfl (Nat.le_of_ble_eq_true rfl) dX12_aLine_11 (fun H locs hP hS => ?_)
    obtain ⟨h_36, hf⟩ := z_bo hf
    obtain ⟨h1, h2⟩ := z_s2 hf
    subst h1 h2
    exact hret _ _ _ _ h_36 hP hS dX12_aLine_14
def fm_text_L186 : Nat → Int32 → zSt → Option (Int32 × zSt)
  | 0, _, _ => none
  | n_186 + 1, x_17, S_18 =>
    if ((2 : Int32) * (S_18.1 0 11)) ≤ x_17 then (
    some (S_18.1 0 10, S_18)) else (
    zck (zix x_17 820) <|
    zck (zix ((660 : Int32) + x_17) 1480) <|
    znm (zpI S_18 1 (((660 : Int32) + x_17).toNatClampNeg) (S_18.1 5 (x_17.toNatClampNeg))) fun S_21 =>
    znm (x_17 + (1 : Int32)) fun x_22 =>
    fm_text_L186 n_186 x_22 S_21)
def fm_text_L112 (j_184 : zSt → Option (Int32 × zSt)) : Nat → Int32 → zSt → Option (Int32 × zSt)
  | 0, _, _ => none
  | n_112 + 1, x_24, S_25 =>
    if (S_25.1 0 10) ≤ x_24 then (
    j_184  S_25) else (
    zck (zix ((3 : Int32) * x_24) 48) <|
    zck (zix ((600 : Int32) + x_24) 1480) <|
    znm (zpI S_25 1 (((600 : Int32) + x_24).toNatClampNeg) (S_25.1 4 (((3 : Int32) * x_24).toNatClampNeg))) fun S_28 =>
    zck (zix (((3 : Int32) * x_24) + (1 : Int32)) 48) <|
    zck (zix ((620 : Int32) + x_24) 1480) <|
    znm (zpI S_28 1 (((620 : Int32) + x_24).toNatClampNeg) (S_28.1 4 ((((3 : Int32) * x_24) + (1 : Int32)).toNatClampNeg))) fun S_31 =>
    zck (zix (((3 : Int32) * x_24) + (2 : Int32)) 48) <|
    zck (zix ((640 : Int32) + x_24) 1480) <|
    znm (zpI S_31 1 (((640 : Int32) + x_24).toNatClampNeg) (S_31.1 4 ((((3 : Int32) * x_24) + (2 : Int32)).toNatClampNeg))) fun S_34 =>
    znm (x_24 + (1 : Int32)) fun x_35 =>
    fm_text_L112 j_184 n_112 x_35 S_34)
def fm_text_L26 (j_63 : Int32 → zSt → Option (Int32 × zSt)) : Nat → Int32 → zSt → Option (Int32 × zSt)
  | 0, _, _ => none
  | n_26 + 1, x_39, S_40 =>
    if x_39 = 0 then (
    j_63 x_39 S_40) else (
    if (S_40.1 0 14) = 0 then (
    j_63 x_39 S_40) else (
    zbd (fm_aLine S_40) fun r_41 S_42 =>
    znm (fun (x_44 : Int32) (S_45 : zSt) =>
    znm (zpI S_45 0 10 ((S_42.1 0 10) + x_44)) fun S_46 =>
    fm_text_L26 j_63 n_26 r_41 S_46) fun j_56 =>
    if r_41 = 0 then (
    j_56 (0 : Int32) S_42) else (
    j_56 (1 : Int32) S_42)))
def fm_text (S_0 : zSt) : Option (Int32 × zSt) :=
  znm (zpI S_0 0 17 (0 : Int32)) fun S_1 =>
  znm (zpI S_1 0 13 (0 : Int32)) fun S_2 =>
  znm (zpI S_2 0 10 (0 : Int32)) fun S_3 =>
  znm (zpI S_3 0 11 (0 : Int32)) fun S_4 =>
  zbd (fm_next0 S_4) fun _ S_6 =>
  znm (fun (x_8 : Int32) (S_9 : zSt) =>
  znm (zpI S_9 0 12 (0 : Int32)) fun S_10 =>
  znm (zpI S_10 0 19 (S_10.1 0 17)) fun S_11 =>
  znm (fun (x_12 : Int32) (S_13 : zSt) =>
  znm (zpI S_13 0 21 x_12) fun S_14 =>
  if x_8 = 0 then (
  some ((-1 : Int32), S_14)) else (
  znm (zpI S_14 1 590 (S_14.1 0 10)) fun S_15 =>
  znm (fun (S_16 : zSt) =>
  fm_text_L186 zFU (0 : Int32) S_16) fun j_184 =>
  fm_text_L112 j_184 zFU (0 : Int32) S_15)) fun j_89 =>
  if x_8 = 0 then (
  j_89 (S_11.1 0 18) S_11) else (
  j_89 (-1 : Int32) S_11)) fun j_63 =>
  fm_text_L26 j_63 zFU (1 : Int32) S_6
set_option maxHeartbeats 4000000 in
set_option maxRecDepth 100000 in
theorem cm_text (l : Launch) (D : va_G) (K : (Nat → Nat) × (Nat → Nat)) (cy : Nat → ClassId) (ad : Nat → Nat) (S_0 : zSt) (ro : Int32) (So : zSt) (hf : fm_text S_0 = some (ro, So)) : zMI l yX12_text (zws yX12_text cX12_text 3 (Option.some .int)) ({ frames := 187, cells := 0, slots := 0, locals := 3974 }) D (zTy cy) K (zM cy ad) [.ref (ad 0)] S_0 ro So := by
  refine z_metI (own := RX12) (lv := [(0, .ref (ad 0))]) (by decide) rfl rfl (Nat.le_of_ble_eq_true rfl) rfl ?_
  intro p e s m below meth c A Q X hK hE hD hA hret hP hS ls hl
  obtain ⟨hx, hb, hml, hown, hts⟩ := id X
  have k0 := (fun w h => List.mem_cons_of_mem _ (zFX12 w h) : ∀ w ∈ u_ws RX12 TX12 36, w ∈ zws yX12_text cX12_text 3 (Option.some .int))
  have k1 := hts _ (List.mem_cons_of_mem _ wt_5_112)
  have k2 := hts _ (List.mem_cons_of_mem _ wt_5_108)
  have k3 := hts _ (List.mem_cons_of_mem _ wt_5_105)
  have k4 := hts _ (List.mem_cons_of_mem _ wt_5_106)
  have k5 := hts _ (List.mem_cons_of_mem _ wt_5_107)
  have k6 := hts _ (List.mem_cons_of_mem _ wt_5_114)
  have k7 := hts _ (List.mem_cons_of_mem _ wt_5_116)
  have k8 := hts _ (List.mem_cons_of_mem _ wt_5_95)
  have k9 := hts _ (List.mem_cons_of_mem _ wt_5_101)
  have k10 := hts _ (List.mem_cons_of_mem _ wt_5_100)
  have k11 := hts _ (List.mem_cons_of_mem _ wt_5_113)
  have k12 := hts _ (List.mem_cons_of_mem _ wt_5_109)
  refine lv_aload_n hx hb dX12_text_0 rfl (lv_at hl 0 rfl) ?_
  refine lv_iconst (v := 0) hx hb dX12_text_1 (by decide) ?_
  refine va_put (D := D) (ci := 12) (v := .int (0 : Int32)) (ty := .int) (C := RX12) (T := TX12) (N := 36) hx hb hts k0 tyX12 tyX12_ok nmX12 hown hK hP (hD S_0) hS 0 (zM_0 cy ad S_0) rfl 17 (by decide) k1 (fun _ h9 => h9) rfl (tyX12_ok 17 (by decide)) rfl rfl (Nat.le_of_ble_eq_true rfl) dX12_text_2 (fun H locs hP _ hS => ?_)
  obtain ⟨S_1, eS_1, hf⟩ := z_nm hf
  have hP := zW_putI hP eS_1 (by decide) rfl
  refine lv_aload_n hx hb dX12_text_5 rfl (lv_at hl 0 rfl) ?_
  refine lv_iconst (v := 0) hx hb dX12_text_6 (by decide) ?_
  refine va_put (D := D) (ci := 12) (v := .int (0 : Int32)) (ty := .int) (C := RX12) (T := TX12) (N := 36) hx hb hts k0 tyX12 tyX12_ok nmX12 hown hK hP (hD S_1) hS 0 (zM_0 cy ad S_1) rfl 13 (by decide) k2 (fun _ h9 => h9) rfl (tyX12_ok 13 (by decide)) rfl rfl (Nat.le_of_ble_eq_true rfl) dX12_text_7 (fun H locs hP _ hS => ?_)
  obtain ⟨S_2, eS_2, hf⟩ := z_nm hf
  have hP := zW_putI hP eS_2 (by decide) rfl
  refine lv_aload_n hx hb dX12_text_10 rfl (lv_at hl 0 rfl) ?_
  refine lv_iconst (v := 0) hx hb dX12_text_11 (by decide) ?_
  refine va_put (D := D) (ci := 12) (v := .int (0 : Int32)) (ty := .int) (C := RX12) (T := TX12) (N := 36) hx hb hts k0 tyX12 tyX12_ok nmX12 hown hK hP (hD S_2) hS 0 (zM_0 cy ad S_2) rfl 10 (by decide) k3 (fun _ h9 => h9) rfl (tyX12_ok 10 (by decide)) rfl rfl (Nat.le_of_ble_eq_true rfl) dX12_text_12 (fun H locs hP _ hS => ?_)
  obtain ⟨S_3, eS_3, hf⟩ := z_nm hf
  have hP := zW_putI hP eS_3 (by decide) rfl
  refine lv_aload_n hx hb dX12_text_15 rfl (lv_at hl 0 rfl) ?_
  refine lv_iconst (v := 0) hx hb dX12_text_16 (by decide) ?_
  refine va_put (D := D) (ci := 12) (v := .int (0 : Int32)) (ty := .int) (C := RX12) (T := TX12) (N := 36) hx hb hts k0 tyX12 tyX12_ok nmX12 hown hK hP (hD S_3) hS 0 (zM_0 cy ad S_3) rfl 11 (by decide) k4 (fun _ h9 => h9) rfl (tyX12_ok 11 (by decide)) rfl rfl (Nat.le_of_ble_eq_true rfl) dX12_text_17 (fun H locs hP _ hS => ?_)
  obtain ⟨S_4, eS_4, hf⟩ := z_nm hf
  have hP := zW_putI hP eS_4 (by decide) rfl
  refine lv_aload_n hx hb dX12_text_20 rfl (lv_at hl 0 rfl) ?_
  obtain ⟨r_5, S_6, h_7, hf⟩ := z_bd hf
  refine z_cVV (As := []) (rest := []) X hK hE hD hA hP hS (cm_next0 l D K cy ad S_4 _ h_7) (cwV 0 hts (z_gV wt_5_223 wt_5_225 wp_45 wt_1_13 wt_5_226) rfl rfl rfl ⟨rfl, yd_yX12_next0⟩ ⟨Nat.le_of_ble_eq_true rfl, Nat.le_of_ble_eq_true rfl⟩) (va_recv hK hP (ci := 12) (q0 := 0) rfl (zM_0 cy ad S_4)) hl.1 rfl rfl (Nat.le_of_ble_eq_true rfl) dX12_text_21 (fun H locs hP hS => ?_)
  refine lv_iconst (v := 1) hx hb dX12_text_24 (by decide) ?_
  refine lv_istore_n (lv' := [(1, .int (1 : Int32)), (0, .ref (ad 0))]) hx hb dX12_text_25 rfl hl (by decide) rfl (fun ls hl => ?_)
  obtain ⟨j_63, ej_63, hf⟩ := z_nm hf
  have J_63 : ∀ (x_8 : Int32) (S_9 : zSt) (H : Heap) (locs : List Loc) (ls : Array Slot), j_63 x_8 S_9 = some (ro, So) → va_P D vwCl (zM cy ad S_9) H → va_S A s.heap H locs → lv_has ls 3 [(0, .ref (ad 0)), (1, .int x_8)] → W p l e ({ frames := 187, cells := 0, slots := 0, locals := 3974 }) s m ([.ref (ad 0)] : List Value).toArray below meth c H locs 0 0 Q (F0 m 63 ls []) := by
    intro x_8 S_9 H locs ls hf hP hS hl
    have hf := z_e2 ej_63 hf
    refine lv_aload_n hx hb dX12_text_63 rfl (lv_at hl 0 rfl) ?_
    refine lv_iconst (v := 0) hx hb dX12_text_64 (by decide) ?_
    refine va_put (D := D) (ci := 12) (v := .int (0 : Int32)) (ty := .int) (C := RX12) (T := TX12) (N := 36) hx hb hts k0 tyX12 tyX12_ok nmX12 hown hK hP (hD S_9) hS 0 (zM_0 cy ad S_9) rfl 12 (by decide) k5 (fun _ h9 => h9) rfl (tyX12_ok 12 (by decide)) rfl rfl (Nat.le_of_ble_eq_true rfl) dX12_text_65 (fun H locs hP _ hS => ?_)
    obtain ⟨S_10, eS_10, hf⟩ := z_nm hf
    have hP := zW_putI hP eS_10 (by decide) rfl
    refine lv_aload_n hx hb dX12_text_68 rfl (lv_at hl 0 rfl) ?_
    refine lv_aload_n hx hb dX12_text_69 rfl (lv_at hl 0 rfl) ?_
    refine va_get (D := D) (ci := 12) (v := .int (S_10.1 0 17)) (C := RX12) (T := TX12) (N := 36) hx hb hts k0 hown hK hP 0 (zM_0 cy ad S_10) rfl 17 (by decide) k1 (fun _ h9 => h9) rfl dX12_text_70 ?_
    refine va_put (D := D) (ci := 12) (v := .int (S_10.1 0 17)) (ty := .int) (C := RX12) (T := TX12) (N := 36) hx hb hts k0 tyX12 tyX12_ok nmX12 hown hK hP (hD S_10) hS 0 (zM_0 cy ad S_10) rfl 19 (by decide) k6 (fun _ h9 => h9) rfl (tyX12_ok 19 (by decide)) rfl rfl (Nat.le_of_ble_eq_true rfl) dX12_text_73 (fun H locs hP _ hS => ?_)
    obtain ⟨S_11, eS_11, hf⟩ := z_nm hf
    have hP := zW_putI hP eS_11 (by decide) rfl
    refine lv_aload_n hx hb dX12_text_76 rfl (lv_at hl 0 rfl) ?_
    refine lv_iload_n hx hb dX12_text_77 rfl (lv_at hl 1 rfl) ?_
    obtain ⟨j_89, ej_89, hf⟩ := z_nm hf
    have J_89 : ∀ (x_12 : Int32) (S_13 : zSt) (H : Heap) (locs : List Loc) (ls : Array Slot), j_89 x_12 S_13 = some (ro, So) → va_P D vwCl (zM cy ad S_13) H → va_S A s.heap H locs → lv_has ls 3 [(0, .ref (ad 0)), (1, .int x_8)] → W p l e ({ frames := 187, cells := 0, slots := 0, locals := 3974 }) s m ([.ref (ad 0)] : List Value).toArray below meth c H locs 0 0 Q (F0 m 89 ls [.int x_12, .ref (ad 0)]) := by
      intro x_12 S_13 H locs ls hf hP hS hl
      have hf := z_e2 ej_89 hf
      refine va_put (D := D) (ci := 12) (v := .int x_12) (ty := .int) (C := RX12) (T := TX12) (N := 36) hx hb hts k0 tyX12 tyX12_ok nmX12 hown hK hP (hD S_13) hS 0 (zM_0 cy ad S_13) rfl 21 (by decide) k7 (fun _ h9 => h9) rfl (tyX12_ok 21 (by decide)) rfl rfl (Nat.le_of_ble_eq_true rfl) dX12_text_89 (fun H locs hP _ hS => ?_)
      obtain ⟨S_14, eS_14, hf⟩ := z_nm hf
      have hP := zW_putI hP eS_14 (by decide) rfl
      refine lv_iload_n hx hb dX12_text_92 rfl (lv_at hl 1 rfl) ?_
      refine lv_if_ne (tgt := 98) hx hb dX12_text_93 (by decide) (fun c_37 => ?_) (fun c_37 => ?_)
      · have hf := z_if c_37 hf
        refine lv_aload_n hx hb dX12_text_98 rfl (lv_at hl 0 rfl) ?_
        refine va_get (D := D) (ci := 12) (v := .ref (ad 1)) (C := RX12) (T := TX12) (N := 36) hx hb hts k0 hown hK hP 0 (zM_0 cy ad S_14) rfl 0 (by decide) k8 (fun _ h9 => h9) rfl dX12_text_99 ?_
        refine lv_sipush (v := 590) hx hb dX12_text_102 (by decide) ?_
        refine lv_aload_n hx hb dX12_text_105 rfl (lv_at hl 0 rfl) ?_
        refine va_get (D := D) (ci := 12) (v := .int (S_14.1 0 10)) (C := RX12) (T := TX12) (N := 36) hx hb hts k0 hown hK hP 0 (zM_0 cy ad S_14) rfl 10 (by decide) k3 (fun _ h9 => h9) rfl dX12_text_106 ?_
        refine z_iast hx hb hK hP (hD S_14) hS 1 0 (zM_1 cy ad S_14) rfl (vp_in_iff.mpr (by decide)) (k := 590) (by decide) dX12_text_109 (fun H locs hP hS => ?_)
        obtain ⟨S_15, eS_15, hf⟩ := z_nm hf
        have hP := zW_putI hP eS_15 (by decide) rfl
        refine lv_iconst (v := 0) hx hb dX12_text_110 (by decide) ?_
        refine lv_istore_n (lv' := [(2, .int (0 : Int32)), (0, .ref (ad 0)), (1, .int x_8)]) hx hb dX12_text_111 rfl hl (by decide) rfl (fun ls hl => ?_)
        obtain ⟨j_184, ej_184, hf⟩ := z_nm hf
        have J_184 : ∀ (S_16 : zSt) (H : Heap) (locs : List Loc) (ls : Array Slot), j_184  S_16 = some (ro, So) → va_P D vwCl (zM cy ad S_16) H → va_S A s.heap H locs → lv_has ls 3 [(0, .ref (ad 0))] → W p l e ({ frames := 187, cells := 0, slots := 0, locals := 3974 }) s m ([.ref (ad 0)] : List Value).toArray below meth c H locs 0 0 Q (F0 m 184 ls []) := by
          intro  S_16 H locs ls hf hP hS hl
          have hf := z_e1 ej_184 hf
          refine lv_iconst (v := 0) hx hb dX12_text_184 (by decide) ?_
          refine lv_istore_n (lv' := [(2, .int (0 : Int32)), (0, .ref (ad 0))]) hx hb dX12_text_185 rfl hl (by decide) rfl (fun ls hl => ?_)
          have L_186 : ∀ (n_186 : Nat) (x_17 : Int32) (S_18 : zSt) (H : Heap) (locs : List Loc) (ls : Array Slot), fm_text_L186 n_186 x_17 S_18 = some (ro, So) → va_P D vwCl (zM cy ad S_18) H → va_S A s.heap H locs → lv_has ls 3 [(0, .ref (ad 0)), (2, .int x_17)] → W p l e ({ frames := 187, cells := 0, slots := 0, locals := 3974 }) s m ([.ref (ad 0)] : List Value).toArray below meth c H locs 0 0 Q (F0 m 186 ls []) := by
            intro n_186
            induction n_186 with
            | zero =>
              intro x_17 S_18 H locs ls hf hP hS hl
              exact z_no hf
            | succ n_186 ih_186 =>
              intro x_17 S_18 H locs ls hf hP hS hl
              rw [fm_text_L186] at hf
              refine lv_iload_n hx hb dX12_text_186 rfl (lv_at hl 1 rfl) ?_
              refine lv_iconst (v := 2) hx hb dX12_text_187 (by decide) ?_
              refine lv_aload_n hx hb dX12_text_188 rfl (lv_at hl 0 rfl) ?_
              refine va_get (D := D) (ci := 12) (v := .int (S_18.1 0 11)) (C := RX12) (T := TX12) (N := 36) hx hb hts k0 hown hK hP 0 (zM_0 cy ad S_18) rfl 11 (by decide) k4 (fun _ h9 => h9) rfl dX12_text_189 ?_
              refine lv_imul hx hb dX12_text_192 ?_
              refine lv_icmp_ge (tgt := 218) hx hb dX12_text_193 (by decide) (fun c_23 => ?_) (fun c_23 => ?_)
              · have hf := z_it c_23 hf
                refine lv_aload_n hx hb dX12_text_218 rfl (lv_at hl 0 rfl) ?_
                refine va_get (D := D) (ci := 12) (v := .int (S_18.1 0 10)) (C := RX12) (T := TX12) (N := 36) hx hb hts k0 hown hK hP 0 (zM_0 cy ad S_18) rfl 10 (by decide) k3 (fun _ h9 => h9) rfl dX12_text_219 ?_
                obtain ⟨h1, h2⟩ := z_s2 hf
                subst h1 h2
                exact hret _ _ _ _ hP hS dX12_text_222
              · have hf := z_if c_23 hf
                refine lv_aload_n hx hb dX12_text_196 rfl (lv_at hl 0 rfl) ?_
                refine va_get (D := D) (ci := 12) (v := .ref (ad 1)) (C := RX12) (T := TX12) (N := 36) hx hb hts k0 hown hK hP 0 (zM_0 cy ad S_18) rfl 0 (by decide) k8 (fun _ h9 => h9) rfl dX12_text_197 ?_
                refine lv_sipush (v := 660) hx hb dX12_text_200 (by decide) ?_
                refine lv_iload_n hx hb dX12_text_203 rfl (lv_at hl 1 rfl) ?_
                refine lv_iadd hx hb dX12_text_204 ?_
                refine lv_aload_n hx hb dX12_text_205 rfl (lv_at hl 0 rfl) ?_
                refine va_get (D := D) (ci := 12) (v := .ref (ad 5)) (C := RX12) (T := TX12) (N := 36) hx hb hts k0 hown hK hP 0 (zM_0 cy ad S_18) rfl 6 (by decide) k9 (fun _ h9 => h9) rfl dX12_text_206 ?_
                refine lv_iload_n hx hb dX12_text_209 rfl (lv_at hl 1 rfl) ?_
                obtain ⟨h_19, hf⟩ := z_ix hf
                refine z_iald hx hb hK hP 5 0 (zM_5 cy ad S_18) rfl h_19 (k := (x_17.toNatClampNeg)) rfl dX12_text_210 ?_
                obtain ⟨h_20, hf⟩ := z_ix hf
                refine z_iast hx hb hK hP (hD S_18) hS 1 0 (zM_1 cy ad S_18) rfl h_20 (k := (((660 : Int32) + x_17).toNatClampNeg)) rfl dX12_text_211 (fun H locs hP hS => ?_)
                obtain ⟨S_21, eS_21, hf⟩ := z_nm hf
                have hP := zW_putI hP eS_21 (by decide) rfl
                obtain ⟨x_22, ex_22, hf⟩ := z_nm hf
                refine lv_iinc (v := x_22) (lv' := [(2, .int x_22), (0, .ref (ad 0))]) hx hb dX12_text_212 hl (k := 1) rfl (by rw [ex_22]; rfl) (by decide) rfl (fun ls hl => ?_)
                refine lv_goto (tgt := 186) hx hb dX12_text_215 (by decide) ?_
                exact ih_186 x_22 S_21 _ _ _ hf hP hS (lv_sub hl [1, 0] rfl)
          exact L_186 zFU (0 : Int32) S_16 _ _ _ hf hP hS (lv_sub hl [1, 0] rfl)
        have L_112 : ∀ (n_112 : Nat) (x_24 : Int32) (S_25 : zSt) (H : Heap) (locs : List Loc) (ls : Array Slot), fm_text_L112 j_184 n_112 x_24 S_25 = some (ro, So) → va_P D vwCl (zM cy ad S_25) H → va_S A s.heap H locs → lv_has ls 3 [(0, .ref (ad 0)), (2, .int x_24)] → W p l e ({ frames := 187, cells := 0, slots := 0, locals := 3974 }) s m ([.ref (ad 0)] : List Value).toArray below meth c H locs 0 0 Q (F0 m 112 ls []) := by
          intro n_112
          induction n_112 with
          | zero =>
            intro x_24 S_25 H locs ls hf hP hS hl
            exact z_no hf
          | succ n_112 ih_112 =>
            intro x_24 S_25 H locs ls hf hP hS hl
            rw [fm_text_L112] at hf
            refine lv_iload_n hx hb dX12_text_112 rfl (lv_at hl 1 rfl) ?_
            refine lv_aload_n hx hb dX12_text_113 rfl (lv_at hl 0 rfl) ?_
            refine va_get (D := D) (ci := 12) (v := .int (S_25.1 0 10)) (C := RX12) (T := TX12) (N := 36) hx hb hts k0 hown hK hP 0 (zM_0 cy ad S_25) rfl 10 (by decide) k3 (fun _ h9 => h9) rfl dX12_text_114 ?_
            refine lv_icmp_ge (tgt := 184) hx hb dX12_text_117 (by decide) (fun c_36 => ?_) (fun c_36 => ?_)
            · have hf := z_it c_36 hf
              exact J_184  S_25 _ _ _ hf hP hS (lv_sub hl [0] rfl)
            · have hf := z_if c_36 hf
              refine lv_aload_n hx hb dX12_text_120 rfl (lv_at hl 0 rfl) ?_
              refine va_get (D := D) (ci := 12) (v := .ref (ad 1)) (C := RX12) (T := TX12) (N := 36) hx hb hts k0 hown hK hP 0 (zM_0 cy ad S_25) rfl 0 (by decide) k8 (fun _ h9 => h9) rfl dX12_text_121 ?_
              refine lv_sipush (v := 600) hx hb dX12_text_124 (by decide) ?_
              refine lv_iload_n hx hb dX12_text_127 rfl (lv_at hl 1 rfl) ?_
              refine lv_iadd hx hb dX12_text_128 ?_
              refine lv_aload_n hx hb dX12_text_129 rfl (lv_at hl 0 rfl) ?_
              refine va_get (D := D) (ci := 12) (v := .ref (ad 4)) (C := RX12) (T := TX12) (N := 36) hx hb hts k0 hown hK hP 0 (zM_0 cy ad S_25) rfl 5 (by decide) k10 (fun _ h9 => h9) rfl dX12_text_130 ?_
              refine lv_iconst (v := 3) hx hb dX12_text_133 (by decide) ?_
              refine lv_iload_n hx hb dX12_text_134 rfl (lv_at hl 1 rfl) ?_
              refine lv_imul hx hb dX12_text_135 ?_
              obtain ⟨h_26, hf⟩ := z_ix hf
              refine z_iald hx hb hK hP 4 0 (zM_4 cy ad S_25) rfl h_26 (k := (((3 : Int32) * x_24).toNatClampNeg)) rfl dX12_text_136 ?_
              obtain ⟨h_27, hf⟩ := z_ix hf
              refine z_iast hx hb hK hP (hD S_25) hS 1 0 (zM_1 cy ad S_25) rfl h_27 (k := (((600 : Int32) + x_24).toNatClampNeg)) rfl dX12_text_137 (fun H locs hP hS => ?_)
              obtain ⟨S_28, eS_28, hf⟩ := z_nm hf
              have hP := zW_putI hP eS_28 (by decide) rfl
              refine lv_aload_n hx hb dX12_text_138 rfl (lv_at hl 0 rfl) ?_
              refine va_get (D := D) (ci := 12) (v := .ref (ad 1)) (C := RX12) (T := TX12) (N := 36) hx hb hts k0 hown hK hP 0 (zM_0 cy ad S_28) rfl 0 (by decide) k8 (fun _ h9 => h9) rfl dX12_text_139 ?_
              refine lv_sipush (v := 620) hx hb dX12_text_142 (by decide) ?_
              refine lv_iload_n hx hb dX12_text_145 rfl (lv_at hl 1 rfl) ?_
              refine lv_iadd hx hb dX12_text_146 ?_
              refine lv_aload_n hx hb dX12_text_147 rfl (lv_at hl 0 rfl) ?_
              refine va_get (D := D) (ci := 12) (v := .ref (ad 4)) (C := RX12) (T := TX12) (N := 36) hx hb hts k0 hown hK hP 0 (zM_0 cy ad S_28) rfl 5 (by decide) k10 (fun _ h9 => h9) rfl dX12_text_148 ?_
              refine lv_iconst (v := 3) hx hb dX12_text_151 (by decide) ?_
              refine lv_iload_n hx hb dX12_text_152 rfl (lv_at hl 1 rfl) ?_
              refine lv_imul hx hb dX12_text_153 ?_
              refine lv_iconst (v := 1) hx hb dX12_text_154 (by decide) ?_
              refine lv_iadd hx hb dX12_text_155 ?_
              obtain ⟨h_29, hf⟩ := z_ix hf
              refine z_iald hx hb hK hP 4 0 (zM_4 cy ad S_28) rfl h_29 (k := ((((3 : Int32) * x_24) + (1 : Int32)).toNatClampNeg)) rfl dX12_text_156 ?_
              obtain ⟨h_30, hf⟩ := z_ix hf
              refine z_iast hx hb hK hP (hD S_28) hS 1 0 (zM_1 cy ad S_28) rfl h_30 (k := (((620 : Int32) + x_24).toNatClampNeg)) rfl dX12_text_157 (fun H locs hP hS => ?_)
              obtain ⟨S_31, eS_31, hf⟩ := z_nm hf
              have hP := zW_putI hP eS_31 (by decide) rfl
              refine lv_aload_n hx hb dX12_text_158 rfl (lv_at hl 0 rfl) ?_
              refine va_get (D := D) (ci := 12) (v := .ref (ad 1)) (C := RX12) (T := TX12) (N := 36) hx hb hts k0 hown hK hP 0 (zM_0 cy ad S_31) rfl 0 (by decide) k8 (fun _ h9 => h9) rfl dX12_text_159 ?_
              refine lv_sipush (v := 640) hx hb dX12_text_162 (by decide) ?_
              refine lv_iload_n hx hb dX12_text_165 rfl (lv_at hl 1 rfl) ?_
              refine lv_iadd hx hb dX12_text_166 ?_
              refine lv_aload_n hx hb dX12_text_167 rfl (lv_at hl 0 rfl) ?_
              refine va_get (D := D) (ci := 12) (v := .ref (ad 4)) (C := RX12) (T := TX12) (N := 36) hx hb hts k0 hown hK hP 0 (zM_0 cy ad S_31) rfl 5 (by decide) k10 (fun _ h9 => h9) rfl dX12_text_168 ?_
              refine lv_iconst (v := 3) hx hb dX12_text_171 (by decide) ?_
              refine lv_iload_n hx hb dX12_text_172 rfl (lv_at hl 1 rfl) ?_
              refine lv_imul hx hb dX12_text_173 ?_
              refine lv_iconst (v := 2) hx hb dX12_text_174 (by decide) ?_
              refine lv_iadd hx hb dX12_text_175 ?_
              obtain ⟨h_32, hf⟩ := z_ix hf
              refine z_iald hx hb hK hP 4 0 (zM_4 cy ad S_31) rfl h_32 (k := ((((3 : Int32) * x_24) + (2 : Int32)).toNatClampNeg)) rfl dX12_text_176 ?_
              obtain ⟨h_33, hf⟩ := z_ix hf
              refine z_iast hx hb hK hP (hD S_31) hS 1 0 (zM_1 cy ad S_31) rfl h_33 (k := (((640 : Int32) + x_24).toNatClampNeg)) rfl dX12_text_177 (fun H locs hP hS => ?_)
              obtain ⟨S_34, eS_34, hf⟩ := z_nm hf
              have hP := zW_putI hP eS_34 (by decide) rfl
              obtain ⟨x_35, ex_35, hf⟩ := z_nm hf
              refine lv_iinc (v := x_35) (lv' := [(2, .int x_35), (0, .ref (ad 0))]) hx hb dX12_text_178 hl (k := 1) rfl (by rw [ex_35]; rfl) (by decide) rfl (fun ls hl => ?_)
              refine lv_goto (tgt := 112) hx hb dX12_text_181 (by decide) ?_
              exact ih_112 x_35 S_34 _ _ _ hf hP hS (lv_sub hl [1, 0] rfl)
        exact L_112 zFU (0 : Int32) S_15 _ _ _ hf hP hS (lv_sub hl [1, 0] rfl)
      · have hf := z_it c_37 hf
        refine lv_iconst (v := -1) hx hb dX12_text_96 (by decide) ?_
        obtain ⟨h1, h2⟩ := z_s2 hf
        subst h1 h2
        exact hret _ _ _ _ hP hS dX12_text_97
    refine lv_if_eq (tgt := 85) hx hb dX12_text_78 (by decide) (fun c_38 => ?_) (fun c_38 => ?_)
    · have hf := z_it c_38 hf
      refine lv_aload_n hx hb dX12_text_85 rfl (lv_at hl 0 rfl) ?_
      refine va_get (D := D) (ci := 12) (v := .int (S_11.1 0 18)) (C := RX12) (T := TX12) (N := 36) hx hb hts k0 hown hK hP 0 (zM_0 cy ad S_11) rfl 18 (by decide) k11 (fun _ h9 => h9) rfl dX12_text_86 ?_
      exact J_89 (S_11.1 0 18) S_11 _ _ _ hf hP hS (lv_sub hl [0, 1] rfl)
    · have hf := z_if c_38 hf
      refine lv_iconst (v := -1) hx hb dX12_text_81 (by decide) ?_
      refine lv_goto (tgt := 89) hx hb dX12_text_82 (by decide) ?_
      exact J_89 (-1 : Int32) S_11 _ _ _ hf hP hS (lv_sub hl [0, 1] rfl)
  have L_26 : ∀ (n_26 : Nat) (x_39 : Int32) (S_40 : zSt) (H : Heap) (locs : List Loc) (ls : Array Slot), fm_text_L26 j_63 n_26 x_39 S_40 = some (ro, So) → va_P D vwCl (zM cy ad S_40) H → va_S A s.heap H locs → lv_has ls 3 [(0, .ref (ad 0)), (1, .int x_39)] → W p l e ({ frames := 187, cells := 0, slots := 0, locals := 3974 }) s m ([.ref (ad 0)] : List Value).toArray below meth c H locs 0 0 Q (F0 m 26 ls []) := by
    intro n_26
    induction n_26 with
    | zero =>
      intro x_39 S_40 H locs ls hf hP hS hl
      exact z_no hf
    | succ n_26 ih_26 =>
      intro x_39 S_40 H locs ls hf hP hS hl
      rw [fm_text_L26] at hf
      refine lv_iload_n hx hb dX12_text_26 rfl (lv_at hl 1 rfl) ?_
      refine lv_if_eq (tgt := 63) hx hb dX12_text_27 (by decide) (fun c_49 => ?_) (fun c_49 => ?_)
      · have hf := z_it c_49 hf
        exact J_63 x_39 S_40 _ _ _ hf hP hS (lv_sub hl [0, 1] rfl)
      · have hf := z_if c_49 hf
        refine lv_aload_n hx hb dX12_text_30 rfl (lv_at hl 0 rfl) ?_
        refine va_get (D := D) (ci := 12) (v := .int (S_40.1 0 14)) (C := RX12) (T := TX12) (N := 36) hx hb hts k0 hown hK hP 0 (zM_0 cy ad S_40) rfl 14 (by decide) k12 (fun _ h9 => h9) rfl dX12_text_31 ?_
        refine lv_if_eq (tgt := 63) hx hb dX12_text_34 (by decide) (fun c_48 => ?_) (fun c_48 => ?_)
        · have hf := z_it c_48 hf
          exact J_63 x_39 S_40 _ _ _ hf hP hS (lv_sub hl [0, 1] rfl)
        · have hf := z_if c_48 hf
          refine lv_aload_n hx hb dX12_text_37 rfl (lv_at hl 0 rfl) ?_
          obtain ⟨r_41, S_42, h_43, hf⟩ := z_bd hf
          refine z_cVI (As := []) (rest := []) X hK hE hD hA hP hS (cm_aLine l D K cy ad S_40 _ _ h_43) (cwV 0 hts (z_gV wt_6_26 wt_6_28 wp_50 wt_1_13 wt_6_29) rfl rfl rfl ⟨rfl, yd_yX12_aLine⟩ ⟨Nat.le_of_ble_eq_true rfl, Nat.le_of_ble_eq_true rfl⟩) (va_recv hK hP (ci := 12) (q0 := 0) rfl (zM_0 cy ad S_40)) hl.1 rfl rfl (Nat.le_of_ble_eq_true rfl) dX12_text_38 (fun H locs hP hS => ?_)
          refine lv_istore_n (lv' := [(1, .int r_41), (0, .ref (ad 0))]) hx hb dX12_text_41 rfl hl (by decide) rfl (fun ls hl => ?_)
          refine lv_aload_n hx hb dX12_text_42 rfl (lv_at hl 1 rfl) ?_
          refine lv_dup hx hb dX12_text_43 rfl ?_
          refine va_get (D := D) (ci := 12) (v := .int (S_42.1 0 10)) (C := RX12) (T := TX12) (N := 36) hx hb hts k0 hown hK hP 0 (zM_0 cy ad S_42) rfl 10 (by decide) k3 (fun _ h9 => h9) rfl dX12_text_44 ?_
          refine lv_iload_n hx hb dX12_text_47 rfl (lv_at hl 0 rfl) ?_
          obtain ⟨j_56, ej_56, hf⟩ := z_nm hf
          have J_56 : ∀ (x_44 : Int32) (S_45 : zSt) (H : Heap) (locs : List Loc) (ls : Array Slot), j_56 x_44 S_45 = some (ro, So) → va_P D vwCl (zM cy ad S_45) H → va_S A s.heap H locs → lv_has ls 3 [(0, .ref (ad 0)), (1, .int r_41)] → W p l e ({ frames := 187, cells := 0, slots := 0, locals := 3974 }) s m ([.ref (ad 0)] : List Value).toArray below meth c H locs 0 0 Q (F0 m 56 ls [.int x_44, .int (S_42.1 0 10), .ref (ad 0)]) := by
            intro x_44 S_45 H locs ls hf hP hS hl
            have hf := z_e2 ej_56 hf
            refine lv_iadd hx hb dX12_text_56 ?_
            refine va_put (D := D) (ci := 12) (v := .int ((S_42.1 0 10) + x_44)) (ty := .int) (C := RX12) (T := TX12) (N := 36) hx hb hts k0 tyX12 tyX12_ok nmX12 hown hK hP (hD S_45) hS 0 (zM_0 cy ad S_45) rfl 10 (by decide) k3 (fun _ h9 => h9) rfl (tyX12_ok 10 (by decide)) rfl rfl (Nat.le_of_ble_eq_true rfl) dX12_text_57 (fun H locs hP _ hS => ?_)
            obtain ⟨S_46, eS_46, hf⟩ := z_nm hf
            have hP := zW_putI hP eS_46 (by decide) rfl
            refine lv_goto (tgt := 26) hx hb dX12_text_60 (by decide) ?_
            exact ih_26 r_41 S_46 _ _ _ hf hP hS (lv_sub hl [0, 1] rfl)
          refine lv_if_eq (tgt := 55) hx hb dX12_text_48 (by decide) (fun c_47 => ?_) (fun c_47 => ?_)
          · have hf := z_it c_47 hf
            refine lv_iconst (v := 0) hx hb dX12_text_55 (by decide) ?_
            exact J_56 (0 : Int32) S_42 _ _ _ hf hP hS (lv_sub hl [1, 0] rfl)
          · have hf := z_if c_47 hf
            refine lv_iconst (v := 1) hx hb dX12_text_51 (by decide) ?_
            refine lv_goto (tgt := 56) hx hb dX12_text_52 (by decide) ?_
            exact J_56 (1 : Int32) S_42 _ _ _ hf hP hS (lv_sub hl [1, 0] rfl)
  exact L_26 zFU (1 : Int32) S_6 _ _ _ hf hP hS (lv_sub hl [1, 0] rfl)
def fm_fault (S_0 : zSt) (a_1 : Int32) : Option (Int32 × zSt) :=
  znm (fun (x_1 : Int32) (S_2 : zSt) =>
  some (x_1, S_2)) fun j_24 =>
  if a_1 = 0 then (
  j_24 (S_0.1 0 19) S_0) else (
  if a_1 = (1 : Int32) then (
  j_24 (S_0.1 0 21) S_0) else (
  j_24 (-1 : Int32) S_0))
set_option maxHeartbeats 4000000 in
set_option maxRecDepth 100000 in
theorem cm_fault (l : Launch) (D : va_G) (K : (Nat → Nat) × (Nat → Nat)) (cy : Nat → ClassId) (ad : Nat → Nat) (S_0 : zSt) (a_1 : Int32) (ro : Int32) (So : zSt) (hf : fm_fault S_0 a_1 = some (ro, So)) : zMI l yX12_fault (zws yX12_fault cX12_fault 2 (Option.some .int)) ({ frames := 0, cells := 0, slots := 0, locals := 0 }) D (zTy cy) K (zM cy ad) [.ref (ad 0), .int a_1] S_0 ro So := by
  refine z_metI (own := RX12) (lv := [(0, .ref (ad 0)), (1, .int a_1)]) (by decide) rfl rfl (Nat.le_of_ble_eq_true rfl) rfl ?_
  intro p e s m below meth c A Q X hK hE hD hA hret hP hS ls hl
  obtain ⟨hx, hb, hml, hown, hts⟩ := id X
  have k0 := (fun w h => List.mem_cons_of_mem _ (zFX12 w h) : ∀ w ∈ u_ws RX12 TX12 36, w ∈ zws yX12_fault cX12_fault 2 (Option.some .int))
  have k1 := hts _ (List.mem_cons_of_mem _ wt_5_116)
  have k2 := hts _ (List.mem_cons_of_mem _ wt_5_114)
  refine lv_iload_n hx hb dX12_fault_0 rfl (lv_at hl 1 rfl) ?_
  obtain ⟨j_24, ej_24, hf⟩ := z_nm hf
  have J_24 : ∀ (x_1 : Int32) (S_2 : zSt) (H : Heap) (locs : List Loc) (ls : Array Slot), j_24 x_1 S_2 = some (ro, So) → va_P D vwCl (zM cy ad S_2) H → va_S A s.heap H locs → lv_has ls 2 [] → W p l e ({ frames := 0, cells := 0, slots := 0, locals := 0 }) s m ([.ref (ad 0), .int a_1] : List Value).toArray below meth c H locs 0 0 Q (F0 m 24 ls [.int x_1]) := by
    intro x_1 S_2 H locs ls hf hP hS hl
    have hf := z_e2 ej_24 hf
    obtain ⟨h1, h2⟩ := z_s2 hf
    subst h1 h2
    exact hret _ _ _ _ hP hS dX12_fault_24
  refine lv_if_ne (tgt := 11) hx hb dX12_fault_1 (by decide) (fun c_4 => ?_) (fun c_4 => ?_)
  · have hf := z_if c_4 hf
    refine lv_iload_n hx hb dX12_fault_11 rfl (lv_at hl 1 rfl) ?_
    refine lv_iconst (v := 1) hx hb dX12_fault_12 (by decide) ?_
    refine lv_icmp_ne (tgt := 23) hx hb dX12_fault_13 (by decide) (fun c_3 => ?_) (fun c_3 => ?_)
    · have hf := z_if c_3 hf
      refine lv_iconst (v := -1) hx hb dX12_fault_23 (by decide) ?_
      exact J_24 (-1 : Int32) S_0 _ _ _ hf hP hS (lv_sub hl [] rfl)
    · have hf := z_it c_3 hf
      refine lv_aload_n hx hb dX12_fault_16 rfl (lv_at hl 0 rfl) ?_
      refine va_get (D := D) (ci := 12) (v := .int (S_0.1 0 21)) (C := RX12) (T := TX12) (N := 36) hx hb hts k0 hown hK hP 0 (zM_0 cy ad S_0) rfl 21 (by decide) k1 (fun _ h9 => h9) rfl dX12_fault_17 ?_
      refine lv_goto (tgt := 24) hx hb dX12_fault_20 (by decide) ?_
      exact J_24 (S_0.1 0 21) S_0 _ _ _ hf hP hS (lv_sub hl [] rfl)
  · have hf := z_it c_4 hf
    refine lv_aload_n hx hb dX12_fault_4 rfl (lv_at hl 0 rfl) ?_
    refine va_get (D := D) (ci := 12) (v := .int (S_0.1 0 19)) (C := RX12) (T := TX12) (N := 36) hx hb hts k0 hown hK hP 0 (zM_0 cy ad S_0) rfl 19 (by decide) k2 (fun _ h9 => h9) rfl dX12_fault_5 ?_
    refine lv_goto (tgt := 24) hx hb dX12_fault_8 (by decide) ?_
    exact J_24 (S_0.1 0 19) S_0 _ _ _ hf hP hS (lv_sub hl [] rfl)
def fm_both (S_0 : zSt) (a_1 : Int32) (a_2 : Int32) (a_3 : Int32) : Option (Int32 × zSt) :=
  znm (fun (S_1 : zSt) =>
  some (a_2 ||| a_3, S_1)) fun j_101 =>
  if a_1 = (13 : Int32) then (
  some (a_2 + a_3, S_0)) else (
  if a_1 = (14 : Int32) then (
  some (a_2 - a_3, S_0)) else (
  if a_1 = (15 : Int32) then (
  some (a_2 * a_3, S_0)) else (
  if a_1 = (16 : Int32) then (
  j_101  S_0) else (
  if a_1 = (17 : Int32) then (
  znm (fun (x_10 : Int32) (S_11 : zSt) =>
  some (x_10, S_11)) fun j_74 =>
  if a_3 ≤ a_2 then (
  j_74 (0 : Int32) S_0) else (
  j_74 (1 : Int32) S_0)) else (
  if a_1 = (18 : Int32) then (
  znm (fun (x_15 : Int32) (S_16 : zSt) =>
  some (x_15, S_16)) fun j_85 =>
  if a_2 = a_3 then (
  j_85 (1 : Int32) S_0) else (
  j_85 (0 : Int32) S_0)) else (
  if a_1 = (19 : Int32) then (
  znm (fun (x_20 : Int32) (S_21 : zSt) =>
  some (x_20, S_21)) fun j_96 =>
  if a_2 ≤ a_3 then (
  j_96 (0 : Int32) S_0) else (
  j_96 (1 : Int32) S_0)) else (
  if a_1 = (20 : Int32) then (
  j_101  S_0) else (
  if a_1 = (21 : Int32) then (
  some (a_2 &&& a_3, S_0)) else (
  j_101  S_0)))))))))
set_option maxHeartbeats 4000000 in
set_option maxRecDepth 100000 in
theorem cm_both (l : Launch) (D : va_G) (K : (Nat → Nat) × (Nat → Nat)) (cy : Nat → ClassId) (ad : Nat → Nat) (S_0 : zSt) (a_1 : Int32) (a_2 : Int32) (a_3 : Int32) (ro : Int32) (So : zSt) (hf : fm_both S_0 a_1 a_2 a_3 = some (ro, So)) : zMI l yX12_both (zws yX12_both cX12_both 3 (Option.some .int)) ({ frames := 0, cells := 0, slots := 0, locals := 0 }) D (zTy cy) K (zM cy ad) [.int a_1, .int a_2, .int a_3] S_0 ro So := by
  refine z_metI (own := RX12) (lv := [(0, .int a_1), (1, .int a_2), (2, .int a_3)]) (by decide) rfl rfl (Nat.le_of_ble_eq_true rfl) rfl ?_
  intro p e s m below meth c A Q X hK hE hD hA hret hP hS ls hl
  obtain ⟨hx, hb, hml, hown, hts⟩ := id X
  refine lv_iload_n hx hb dX12_both_0 rfl (lv_at hl 0 rfl) ?_
  obtain ⟨j_101, ej_101, hf⟩ := z_nm hf
  have J_101 : ∀ (S_1 : zSt) (H : Heap) (locs : List Loc) (ls : Array Slot), j_101  S_1 = some (ro, So) → va_P D vwCl (zM cy ad S_1) H → va_S A s.heap H locs → lv_has ls 3 [(1, .int a_2), (2, .int a_3)] → W p l e ({ frames := 0, cells := 0, slots := 0, locals := 0 }) s m ([.int a_1, .int a_2, .int a_3] : List Value).toArray below meth c H locs 0 0 Q (F0 m 101 ls []) := by
    intro  S_1 H locs ls hf hP hS hl
    have hf := z_e1 ej_101 hf
    refine lv_iload_n hx hb dX12_both_101 rfl (lv_at hl 0 rfl) ?_
    refine lv_iload_n hx hb dX12_both_102 rfl (lv_at hl 1 rfl) ?_
    refine lv_ior hx hb dX12_both_103 ?_
    obtain ⟨h1, h2⟩ := z_s2 hf
    subst h1 h2
    exact hret _ _ _ _ hP hS dX12_both_104
  by_cases c_2 : a_1 = (13 : Int32)
  · have hf := z_it c_2 hf
    refine lv_tableIn (off := 51) (tgt := 52) hx hb dX12_both_1 (by rw [c_2]; decide) (by rw [c_2]; decide) (by rw [c_2]; rfl) (by decide) ?_
    refine lv_iload_n hx hb dX12_both_52 rfl (lv_at hl 1 rfl) ?_
    refine lv_iload_n hx hb dX12_both_53 rfl (lv_at hl 2 rfl) ?_
    refine lv_iadd hx hb dX12_both_54 ?_
    obtain ⟨h1, h2⟩ := z_s2 hf
    subst h1 h2
    exact hret _ _ _ _ hP hS dX12_both_55
  have hf := z_if c_2 hf
  have n_3 : a_1.toInt ≠ 13 := z_ne c_2 (by decide)
  by_cases c_4 : a_1 = (14 : Int32)
  · have hf := z_it c_4 hf
    refine lv_tableIn (off := 55) (tgt := 56) hx hb dX12_both_1 (by rw [c_4]; decide) (by rw [c_4]; decide) (by rw [c_4]; rfl) (by decide) ?_
    refine lv_iload_n hx hb dX12_both_56 rfl (lv_at hl 1 rfl) ?_
    refine lv_iload_n hx hb dX12_both_57 rfl (lv_at hl 2 rfl) ?_
    refine lv_isub hx hb dX12_both_58 ?_
    obtain ⟨h1, h2⟩ := z_s2 hf
    subst h1 h2
    exact hret _ _ _ _ hP hS dX12_both_59
  have hf := z_if c_4 hf
  have n_5 : a_1.toInt ≠ 14 := z_ne c_4 (by decide)
  by_cases c_6 : a_1 = (15 : Int32)
  · have hf := z_it c_6 hf
    refine lv_tableIn (off := 59) (tgt := 60) hx hb dX12_both_1 (by rw [c_6]; decide) (by rw [c_6]; decide) (by rw [c_6]; rfl) (by decide) ?_
    refine lv_iload_n hx hb dX12_both_60 rfl (lv_at hl 1 rfl) ?_
    refine lv_iload_n hx hb dX12_both_61 rfl (lv_at hl 2 rfl) ?_
    refine lv_imul hx hb dX12_both_62 ?_
    obtain ⟨h1, h2⟩ := z_s2 hf
    subst h1 h2
    exact hret _ _ _ _ hP hS dX12_both_63
  have hf := z_if c_6 hf
  have n_7 : a_1.toInt ≠ 15 := z_ne c_6 (by decide)
  by_cases c_8 : a_1 = (16 : Int32)
  · have hf := z_it c_8 hf
    refine lv_tableIn (off := 100) (tgt := 101) hx hb dX12_both_1 (by rw [c_8]; decide) (by rw [c_8]; decide) (by rw [c_8]; rfl) (by decide) ?_
    exact J_101  S_0 _ _ _ hf hP hS (lv_sub hl [1, 2] rfl)
  have hf := z_if c_8 hf
  have n_9 : a_1.toInt ≠ 16 := z_ne c_8 (by decide)
  by_cases c_13 : a_1 = (17 : Int32)
  · have hf := z_it c_13 hf
    refine lv_tableIn (off := 63) (tgt := 64) hx hb dX12_both_1 (by rw [c_13]; decide) (by rw [c_13]; decide) (by rw [c_13]; rfl) (by decide) ?_
    refine lv_iload_n hx hb dX12_both_64 rfl (lv_at hl 1 rfl) ?_
    refine lv_iload_n hx hb dX12_both_65 rfl (lv_at hl 2 rfl) ?_
    obtain ⟨j_74, ej_74, hf⟩ := z_nm hf
    have J_74 : ∀ (x_10 : Int32) (S_11 : zSt) (H : Heap) (locs : List Loc) (ls : Array Slot), j_74 x_10 S_11 = some (ro, So) → va_P D vwCl (zM cy ad S_11) H → va_S A s.heap H locs → lv_has ls 3 [] → W p l e ({ frames := 0, cells := 0, slots := 0, locals := 0 }) s m ([.int a_1, .int a_2, .int a_3] : List Value).toArray below meth c H locs 0 0 Q (F0 m 74 ls [.int x_10]) := by
      intro x_10 S_11 H locs ls hf hP hS hl
      have hf := z_e2 ej_74 hf
      obtain ⟨h1, h2⟩ := z_s2 hf
      subst h1 h2
      exact hret _ _ _ _ hP hS dX12_both_74
    refine lv_icmp_ge (tgt := 73) hx hb dX12_both_66 (by decide) (fun c_12 => ?_) (fun c_12 => ?_)
    · have hf := z_it c_12 hf
      refine lv_iconst (v := 0) hx hb dX12_both_73 (by decide) ?_
      exact J_74 (0 : Int32) S_0 _ _ _ hf hP hS (lv_sub hl [] rfl)
    · have hf := z_if c_12 hf
      refine lv_iconst (v := 1) hx hb dX12_both_69 (by decide) ?_
      refine lv_goto (tgt := 74) hx hb dX12_both_70 (by decide) ?_
      exact J_74 (1 : Int32) S_0 _ _ _ hf hP hS (lv_sub hl [] rfl)
  have hf := z_if c_13 hf
  have n_14 : a_1.toInt ≠ 17 := z_ne c_13 (by decide)
  by_cases c_18 : a_1 = (18 : Int32)
  · have hf := z_it c_18 hf
    refine lv_tableIn (off := 74) (tgt := 75) hx hb dX12_both_1 (by rw [c_18]; decide) (by rw [c_18]; decide) (by rw [c_18]; rfl) (by decide) ?_
    refine lv_iload_n hx hb dX12_both_75 rfl (lv_at hl 1 rfl) ?_
    refine lv_iload_n hx hb dX12_both_76 rfl (lv_at hl 2 rfl) ?_
    obtain ⟨j_85, ej_85, hf⟩ := z_nm hf
    have J_85 : ∀ (x_15 : Int32) (S_16 : zSt) (H : Heap) (locs : List Loc) (ls : Array Slot), j_85 x_15 S_16 = some (ro, So) → va_P D vwCl (zM cy ad S_16) H → va_S A s.heap H locs → lv_has ls 3 [] → W p l e ({ frames := 0, cells := 0, slots := 0, locals := 0 }) s m ([.int a_1, .int a_2, .int a_3] : List Value).toArray below meth c H locs 0 0 Q (F0 m 85 ls [.int x_15]) := by
      intro x_15 S_16 H locs ls hf hP hS hl
      have hf := z_e2 ej_85 hf
      obtain ⟨h1, h2⟩ := z_s2 hf
      subst h1 h2
      exact hret _ _ _ _ hP hS dX12_both_85
    refine lv_icmp_ne (tgt := 84) hx hb dX12_both_77 (by decide) (fun c_17 => ?_) (fun c_17 => ?_)
    · have hf := z_if c_17 hf
      refine lv_iconst (v := 0) hx hb dX12_both_84 (by decide) ?_
      exact J_85 (0 : Int32) S_0 _ _ _ hf hP hS (lv_sub hl [] rfl)
    · have hf := z_it c_17 hf
      refine lv_iconst (v := 1) hx hb dX12_both_80 (by decide) ?_
      refine lv_goto (tgt := 85) hx hb dX12_both_81 (by decide) ?_
      exact J_85 (1 : Int32) S_0 _ _ _ hf hP hS (lv_sub hl [] rfl)
  have hf := z_if c_18 hf
  have n_19 : a_1.toInt ≠ 18 := z_ne c_18 (by decide)
  by_cases c_23 : a_1 = (19 : Int32)
  · have hf := z_it c_23 hf
    refine lv_tableIn (off := 85) (tgt := 86) hx hb dX12_both_1 (by rw [c_23]; decide) (by rw [c_23]; decide) (by rw [c_23]; rfl) (by decide) ?_
    refine lv_iload_n hx hb dX12_both_86 rfl (lv_at hl 1 rfl) ?_
    refine lv_iload_n hx hb dX12_both_87 rfl (lv_at hl 2 rfl) ?_
    obtain ⟨j_96, ej_96, hf⟩ := z_nm hf
    have J_96 : ∀ (x_20 : Int32) (S_21 : zSt) (H : Heap) (locs : List Loc) (ls : Array Slot), j_96 x_20 S_21 = some (ro, So) → va_P D vwCl (zM cy ad S_21) H → va_S A s.heap H locs → lv_has ls 3 [] → W p l e ({ frames := 0, cells := 0, slots := 0, locals := 0 }) s m ([.int a_1, .int a_2, .int a_3] : List Value).toArray below meth c H locs 0 0 Q (F0 m 96 ls [.int x_20]) := by
      intro x_20 S_21 H locs ls hf hP hS hl
      have hf := z_e2 ej_96 hf
      obtain ⟨h1, h2⟩ := z_s2 hf
      subst h1 h2
      exact hret _ _ _ _ hP hS dX12_both_96
    refine lv_icmp_le (tgt := 95) hx hb dX12_both_88 (by decide) (fun c_22 => ?_) (fun c_22 => ?_)
    · have hf := z_it c_22 hf
      refine lv_iconst (v := 0) hx hb dX12_both_95 (by decide) ?_
      exact J_96 (0 : Int32) S_0 _ _ _ hf hP hS (lv_sub hl [] rfl)
    · have hf := z_if c_22 hf
      refine lv_iconst (v := 1) hx hb dX12_both_91 (by decide) ?_
      refine lv_goto (tgt := 96) hx hb dX12_both_92 (by decide) ?_
      exact J_96 (1 : Int32) S_0 _ _ _ hf hP hS (lv_sub hl [] rfl)
  have hf := z_if c_23 hf
  have n_24 : a_1.toInt ≠ 19 := z_ne c_23 (by decide)
  by_cases c_25 : a_1 = (20 : Int32)
  · have hf := z_it c_25 hf
    refine lv_tableIn (off := 100) (tgt := 101) hx hb dX12_both_1 (by rw [c_25]; decide) (by rw [c_25]; decide) (by rw [c_25]; rfl) (by decide) ?_
    exact J_101  S_0 _ _ _ hf hP hS (lv_sub hl [1, 2] rfl)
  have hf := z_if c_25 hf
  have n_26 : a_1.toInt ≠ 20 := z_ne c_25 (by decide)
  by_cases c_27 : a_1 = (21 : Int32)
  · have hf := z_it c_27 hf
    refine lv_tableIn (off := 96) (tgt := 97) hx hb dX12_both_1 (by rw [c_27]; decide) (by rw [c_27]; decide) (by rw [c_27]; rfl) (by decide) ?_
    refine lv_iload_n hx hb dX12_both_97 rfl (lv_at hl 1 rfl) ?_
    refine lv_iload_n hx hb dX12_both_98 rfl (lv_at hl 2 rfl) ?_
    refine lv_iand hx hb dX12_both_99 ?_
    obtain ⟨h1, h2⟩ := z_s2 hf
    subst h1 h2
    exact hret _ _ _ _ hP hS dX12_both_100
  have hf := z_if c_27 hf
  have n_28 : a_1.toInt ≠ 21 := z_ne c_27 (by decide)
  refine lv_tableOut (tgt := 101) hx hb dX12_both_1 (by omega) (by decide) ?_
  exact J_101  S_0 _ _ _ hf hP hS (lv_sub hl [1, 2] rfl)
def fm_comesTo_L5 (a_2 : Int32) : Nat → Int32 → Int32 → zSt → Option (Int32 × zSt)
  | 0, _, _, _ => none
  | n_5 + 1, x_1, x_2, S_3 =>
    if a_2 ≤ x_2 then (
    some (S_3.1 7 0, S_3)) else (
    zck (zix ((660 : Int32) + ((2 : Int32) * x_2)) 1480) <|
    znm (S_3.1 1 (((660 : Int32) + ((2 : Int32) * x_2)).toNatClampNeg)) fun x_5 =>
    zck (zix (((660 : Int32) + ((2 : Int32) * x_2)) + (1 : Int32)) 1480) <|
    znm (S_3.1 1 ((((660 : Int32) + ((2 : Int32) * x_2)) + (1 : Int32)).toNatClampNeg)) fun x_7 =>
    znm (fun (x_8 : Int32) (S_9 : zSt) =>
    znm (x_2 + (1 : Int32)) fun x_10 =>
    fm_comesTo_L5 a_2 n_5 x_8 x_10 S_9) fun j_160 =>
    if (13 : Int32) ≤ x_5 then (
    if x_5 = (16 : Int32) then (
    zck (zix (x_1 - (1 : Int32)) 420) <|
    zck (znz x_7) <|
    zck (zix (x_1 - (1 : Int32)) 420) <|
    znm (zpI S_3 7 ((x_1 - (1 : Int32)).toNatClampNeg) ((S_3.1 7 ((x_1 - (1 : Int32)).toNatClampNeg)) / x_7)) fun S_26 =>
    j_160 x_1 S_26) else (
    if x_5 = (20 : Int32) then (
    zck (zix (x_1 - (1 : Int32)) 420) <|
    zck (zix (x_1 - (1 : Int32)) 420) <|
    znm (zpI S_3 7 ((x_1 - (1 : Int32)).toNatClampNeg) ((1 : Int32) - (S_3.1 7 ((x_1 - (1 : Int32)).toNatClampNeg)))) fun S_21 =>
    j_160 x_1 S_21) else (
    znm (x_1 + (-1 : Int32)) fun x_11 =>
    zck (zix (x_11 - (1 : Int32)) 420) <|
    zck (zix x_11 420) <|
    zbd (fm_both S_3 x_5 (S_3.1 7 ((x_11 - (1 : Int32)).toNatClampNeg)) (S_3.1 7 (x_11.toNatClampNeg))) fun r_14 S_15 =>
    zck (zix (x_11 - (1 : Int32)) 420) <|
    znm (zpI S_15 7 ((x_11 - (1 : Int32)).toNatClampNeg) r_14) fun S_18 =>
    j_160 x_11 S_18))) else (
    znm (fun (x_28 : Int32) (S_29 : zSt) =>
    zck (zix x_1 420) <|
    znm (zpI S_29 7 (x_1.toNatClampNeg) x_28) fun S_31 =>
    znm (x_1 + (1 : Int32)) fun x_32 =>
    j_160 x_32 S_31) fun j_72 =>
    if x_5 = 0 then (
    j_72 x_7 S_3) else (
    zck (zix x_5 11) <|
    j_72 (S_3.1 8 (x_5.toNatClampNeg)) S_3)))
def fm_comesTo (S_0 : zSt) (a_1 : Int32) (a_2 : Int32) : Option (Int32 × zSt) :=
  fm_comesTo_L5 a_2 zFU (0 : Int32) a_1 S_0
set_option maxHeartbeats 4000000 in
set_option maxRecDepth 100000 in
theorem cm_comesTo (l : Launch) (D : va_G) (K : (Nat → Nat) × (Nat → Nat)) (cy : Nat → ClassId) (ad : Nat → Nat) (S_0 : zSt) (a_1 : Int32) (a_2 : Int32) (ro : Int32) (So : zSt) (hf : fm_comesTo S_0 a_1 a_2 = some (ro, So)) : zMI l yX12_comesTo (zws yX12_comesTo cX12_comesTo 7 (Option.some .int)) ({ frames := 1, cells := 0, slots := 0, locals := 22 }) D (zTy cy) K (zM cy ad) [.ref (ad 0), .int a_1, .int a_2] S_0 ro So := by
  refine z_metI (own := RX12) (lv := [(0, .ref (ad 0)), (1, .int a_1), (2, .int a_2)]) (by decide) rfl rfl (Nat.le_of_ble_eq_true rfl) rfl ?_
  intro p e s m below meth c A Q X hK hE hD hA hret hP hS ls hl
  obtain ⟨hx, hb, hml, hown, hts⟩ := id X
  have k0 := (fun w h => List.mem_cons_of_mem _ (zFX12 w h) : ∀ w ∈ u_ws RX12 TX12 36, w ∈ zws yX12_comesTo cX12_comesTo 7 (Option.some .int))
  have k1 := hts _ (List.mem_cons_of_mem _ wt_5_103)
  have k2 := hts _ (List.mem_cons_of_mem _ wt_5_95)
  have k3 := hts _ (List.mem_cons_of_mem _ wt_5_104)
  refine lv_iconst (v := 0) hx hb dX12_comesTo_0 (by decide) ?_
  refine lv_istore_n (lv' := [(3, .int (0 : Int32)), (0, .ref (ad 0)), (1, .int a_1), (2, .int a_2)]) hx hb dX12_comesTo_1 rfl hl (by decide) rfl (fun ls hl => ?_)
  refine lv_iload_n hx hb dX12_comesTo_2 rfl (lv_at hl 2 rfl) ?_
  refine lv_istore (lv' := [(4, .int a_1), (3, .int (0 : Int32)), (0, .ref (ad 0)), (1, .int a_1), (2, .int a_2)]) hx hb dX12_comesTo_3 hl (by decide) rfl (fun ls hl => ?_)
  have L_5 : ∀ (n_5 : Nat) (x_1 : Int32) (x_2 : Int32) (S_3 : zSt) (H : Heap) (locs : List Loc) (ls : Array Slot), fm_comesTo_L5 a_2 n_5 x_1 x_2 S_3 = some (ro, So) → va_P D vwCl (zM cy ad S_3) H → va_S A s.heap H locs → lv_has ls 7 [(0, .ref (ad 0)), (2, .int a_2), (3, .int x_1), (4, .int x_2)] → W p l e ({ frames := 1, cells := 0, slots := 0, locals := 22 }) s m ([.ref (ad 0), .int a_1, .int a_2] : List Value).toArray below meth c H locs 0 0 Q (F0 m 5 ls []) := by
    intro n_5
    induction n_5 with
    | zero =>
      intro x_1 x_2 S_3 H locs ls hf hP hS hl
      exact z_no hf
    | succ n_5 ih_5 =>
      intro x_1 x_2 S_3 H locs ls hf hP hS hl
      rw [fm_comesTo_L5] at hf
      refine lv_iload hx hb dX12_comesTo_5 (lv_at hl 3 rfl) ?_
      refine lv_iload_n hx hb dX12_comesTo_7 rfl (lv_at hl 1 rfl) ?_
      refine lv_icmp_ge (tgt := 166) hx hb dX12_comesTo_8 (by decide) (fun c_36 => ?_) (fun c_36 => ?_)
      · have hf := z_it c_36 hf
        refine lv_aload_n hx hb dX12_comesTo_166 rfl (lv_at hl 0 rfl) ?_
        refine va_get (D := D) (ci := 12) (v := .ref (ad 7)) (C := RX12) (T := TX12) (N := 36) hx hb hts k0 hown hK hP 0 (zM_0 cy ad S_3) rfl 8 (by decide) k1 (fun _ h9 => h9) rfl dX12_comesTo_167 ?_
        refine lv_iconst (v := 0) hx hb dX12_comesTo_170 (by decide) ?_
        refine z_iald hx hb hK hP 7 0 (zM_7 cy ad S_3) rfl (vp_in_iff.mpr (by decide)) (k := 0) (by decide) dX12_comesTo_171 ?_
        obtain ⟨h1, h2⟩ := z_s2 hf
        subst h1 h2
        exact hret _ _ _ _ hP hS dX12_comesTo_172
      · have hf := z_if c_36 hf
        refine lv_aload_n hx hb dX12_comesTo_11 rfl (lv_at hl 0 rfl) ?_
        refine va_get (D := D) (ci := 12) (v := .ref (ad 1)) (C := RX12) (T := TX12) (N := 36) hx hb hts k0 hown hK hP 0 (zM_0 cy ad S_3) rfl 0 (by decide) k2 (fun _ h9 => h9) rfl dX12_comesTo_12 ?_
        refine lv_sipush (v := 660) hx hb dX12_comesTo_15 (by decide) ?_
        refine lv_iconst (v := 2) hx hb dX12_comesTo_18 (by decide) ?_
        refine lv_iload hx hb dX12_comesTo_19 (lv_at hl 3 rfl) ?_
        refine lv_imul hx hb dX12_comesTo_21 ?_
        refine lv_iadd hx hb dX12_comesTo_22 ?_
        obtain ⟨h_4, hf⟩ := z_ix hf
        refine z_iald hx hb hK hP 1 0 (zM_1 cy ad S_3) rfl h_4 (k := (((660 : Int32) + ((2 : Int32) * x_2)).toNatClampNeg)) rfl dX12_comesTo_23 ?_
        refine lv_topi (fun x_5 ex_5 => ?_)
        have hf := z_nv ex_5 hf
        refine lv_istore (lv' := [(5, .int x_5), (0, .ref (ad 0)), (2, .int a_2), (3, .int x_1), (4, .int x_2)]) hx hb dX12_comesTo_24 hl (by decide) rfl (fun ls hl => ?_)
        refine lv_aload_n hx hb dX12_comesTo_26 rfl (lv_at hl 1 rfl) ?_
        refine va_get (D := D) (ci := 12) (v := .ref (ad 1)) (C := RX12) (T := TX12) (N := 36) hx hb hts k0 hown hK hP 0 (zM_0 cy ad S_3) rfl 0 (by decide) k2 (fun _ h9 => h9) rfl dX12_comesTo_27 ?_
        refine lv_sipush (v := 660) hx hb dX12_comesTo_30 (by decide) ?_
        refine lv_iconst (v := 2) hx hb dX12_comesTo_33 (by decide) ?_
        refine lv_iload hx hb dX12_comesTo_34 (lv_at hl 4 rfl) ?_
        refine lv_imul hx hb dX12_comesTo_36 ?_
        refine lv_iadd hx hb dX12_comesTo_37 ?_
        refine lv_iconst (v := 1) hx hb dX12_comesTo_38 (by decide) ?_
        refine lv_iadd hx hb dX12_comesTo_39 ?_
        obtain ⟨h_6, hf⟩ := z_ix hf
        refine z_iald hx hb hK hP 1 0 (zM_1 cy ad S_3) rfl h_6 (k := ((((660 : Int32) + ((2 : Int32) * x_2)) + (1 : Int32)).toNatClampNeg)) rfl dX12_comesTo_40 ?_
        refine lv_topi (fun x_7 ex_7 => ?_)
        have hf := z_nv ex_7 hf
        refine lv_istore (lv' := [(6, .int x_7), (5, .int x_5), (0, .ref (ad 0)), (2, .int a_2), (3, .int x_1), (4, .int x_2)]) hx hb dX12_comesTo_41 hl (by decide) rfl (fun ls hl => ?_)
        refine lv_iload hx hb dX12_comesTo_43 (lv_at hl 1 rfl) ?_
        refine lv_bipush (v := 13) hx hb dX12_comesTo_45 (by decide) ?_
        obtain ⟨j_160, ej_160, hf⟩ := z_nm hf
        have J_160 : ∀ (x_8 : Int32) (S_9 : zSt) (H : Heap) (locs : List Loc) (ls : Array Slot), j_160 x_8 S_9 = some (ro, So) → va_P D vwCl (zM cy ad S_9) H → va_S A s.heap H locs → lv_has ls 7 [(0, .ref (ad 0)), (2, .int a_2), (3, .int x_8), (4, .int x_2)] → W p l e ({ frames := 1, cells := 0, slots := 0, locals := 22 }) s m ([.ref (ad 0), .int a_1, .int a_2] : List Value).toArray below meth c H locs 0 0 Q (F0 m 160 ls []) := by
          intro x_8 S_9 H locs ls hf hP hS hl
          have hf := z_e2 ej_160 hf
          obtain ⟨x_10, ex_10, hf⟩ := z_nm hf
          refine lv_iinc (v := x_10) (lv' := [(4, .int x_10), (0, .ref (ad 0)), (2, .int a_2), (3, .int x_8)]) hx hb dX12_comesTo_160 hl (k := 3) rfl (by rw [ex_10]; rfl) (by decide) rfl (fun ls hl => ?_)
          refine lv_goto (tgt := 5) hx hb dX12_comesTo_163 (by decide) ?_
          exact ih_5 x_8 x_10 S_9 _ _ _ hf hP hS (lv_sub hl [1, 2, 3, 0] rfl)
        refine lv_icmp_ge (tgt := 79) hx hb dX12_comesTo_47 (by decide) (fun c_35 => ?_) (fun c_35 => ?_)
        · have hf := z_it c_35 hf
          refine lv_iload hx hb dX12_comesTo_79 (lv_at hl 1 rfl) ?_
          refine lv_bipush (v := 16) hx hb dX12_comesTo_81 (by decide) ?_
          refine lv_icmp_ne (tgt := 102) hx hb dX12_comesTo_83 (by decide) (fun c_27 => ?_) (fun c_27 => ?_)
          · have hf := z_if c_27 hf
            refine lv_iload hx hb dX12_comesTo_102 (lv_at hl 1 rfl) ?_
            refine lv_bipush (v := 20) hx hb dX12_comesTo_104 (by decide) ?_
            refine lv_icmp_ne (tgt := 130) hx hb dX12_comesTo_106 (by decide) (fun c_22 => ?_) (fun c_22 => ?_)
            · have hf := z_if c_22 hf
              obtain ⟨x_11, ex_11, hf⟩ := z_nm hf
              refine lv_iinc (v := x_11) (lv' := [(3, .int x_11), (6, .int x_7), (5, .int x_5), (0, .ref (ad 0)), (2, .int a_2), (4, .int x_2)]) hx hb dX12_comesTo_130 hl (k := 4) rfl (by rw [ex_11]; rfl) (by decide) rfl (fun ls hl => ?_)
              refine lv_aload_n hx hb dX12_comesTo_133 rfl (lv_at hl 3 rfl) ?_
              refine va_get (D := D) (ci := 12) (v := .ref (ad 7)) (C := RX12) (T := TX12) (N := 36) hx hb hts k0 hown hK hP 0 (zM_0 cy ad S_3) rfl 8 (by decide) k1 (fun _ h9 => h9) rfl dX12_comesTo_134 ?_
              refine lv_iload_n hx hb dX12_comesTo_137 rfl (lv_at hl 0 rfl) ?_
              refine lv_iconst (v := 1) hx hb dX12_comesTo_138 (by decide) ?_
              refine lv_isub hx hb dX12_comesTo_139 ?_
              refine lv_iload hx hb dX12_comesTo_140 (lv_at hl 2 rfl) ?_
              refine lv_aload_n hx hb dX12_comesTo_142 rfl (lv_at hl 3 rfl) ?_
              refine va_get (D := D) (ci := 12) (v := .ref (ad 7)) (C := RX12) (T := TX12) (N := 36) hx hb hts k0 hown hK hP 0 (zM_0 cy ad S_3) rfl 8 (by decide) k1 (fun _ h9 => h9) rfl dX12_comesTo_143 ?_
              refine lv_iload_n hx hb dX12_comesTo_146 rfl (lv_at hl 0 rfl) ?_
              refine lv_iconst (v := 1) hx hb dX12_comesTo_147 (by decide) ?_
              refine lv_isub hx hb dX12_comesTo_148 ?_
              obtain ⟨h_12, hf⟩ := z_ix hf
              refine z_iald hx hb hK hP 7 0 (zM_7 cy ad S_3) rfl h_12 (k := ((x_11 - (1 : Int32)).toNatClampNeg)) rfl dX12_comesTo_149 ?_
              refine lv_aload_n hx hb dX12_comesTo_150 rfl (lv_at hl 3 rfl) ?_
              refine va_get (D := D) (ci := 12) (v := .ref (ad 7)) (C := RX12) (T := TX12) (N := 36) hx hb hts k0 hown hK hP 0 (zM_0 cy ad S_3) rfl 8 (by decide) k1 (fun _ h9 => h9) rfl dX12_comesTo_151 ?_
              refine lv_iload_n hx hb dX12_comesTo_154 rfl (lv_at hl 0 rfl) ?_
              obtain ⟨h_13, hf⟩ := z_ix hf
              refine z_iald hx hb hK hP 7 0 (zM_7 cy ad S_3) rfl h_13 (k := (x_11.toNatClampNeg)) rfl dX12_comesTo_155 ?_
              obtain ⟨r_14, S_15, h_16, hf⟩ := z_bd hf
              refine z_cSI (As := [.int x_5, .int (S_3.1 7 ((x_11 - (1 : Int32)).toNatClampNeg)), .int (S_3.1 7 (x_11.toNatClampNeg))]) (rest := [.int (x_11 - (1 : Int32)), .ref (ad 7)]) X hK hE hD hA hP hS (cm_both l D K cy ad S_3 _ _ _ _ _ h_16) (va_cwS 3 hts (z_gS wt_6_132 wt_6_133 wt_1_13 wt_6_134) rfl rfl rfl yd_yX12_both ⟨Nat.le_of_ble_eq_true rfl, Nat.le_of_ble_eq_true rfl⟩) hl.1 rfl rfl (Nat.le_of_ble_eq_true rfl) dX12_comesTo_156 (fun H locs hP hS => ?_)
              obtain ⟨h_17, hf⟩ := z_ix hf
              refine z_iast hx hb hK hP (hD S_15) hS 7 0 (zM_7 cy ad S_15) rfl h_17 (k := ((x_11 - (1 : Int32)).toNatClampNeg)) rfl dX12_comesTo_159 (fun H locs hP hS => ?_)
              obtain ⟨S_18, eS_18, hf⟩ := z_nm hf
              have hP := zW_putI hP eS_18 (by decide) rfl
              exact J_160 x_11 S_18 _ _ _ hf hP hS (lv_sub hl [3, 4, 0, 5] rfl)
            · have hf := z_it c_22 hf
              refine lv_aload_n hx hb dX12_comesTo_109 rfl (lv_at hl 2 rfl) ?_
              refine va_get (D := D) (ci := 12) (v := .ref (ad 7)) (C := RX12) (T := TX12) (N := 36) hx hb hts k0 hown hK hP 0 (zM_0 cy ad S_3) rfl 8 (by decide) k1 (fun _ h9 => h9) rfl dX12_comesTo_110 ?_
              refine lv_iload_n hx hb dX12_comesTo_113 rfl (lv_at hl 4 rfl) ?_
              refine lv_iconst (v := 1) hx hb dX12_comesTo_114 (by decide) ?_
              refine lv_isub hx hb dX12_comesTo_115 ?_
              refine lv_iconst (v := 1) hx hb dX12_comesTo_116 (by decide) ?_
              refine lv_aload_n hx hb dX12_comesTo_117 rfl (lv_at hl 2 rfl) ?_
              refine va_get (D := D) (ci := 12) (v := .ref (ad 7)) (C := RX12) (T := TX12) (N := 36) hx hb hts k0 hown hK hP 0 (zM_0 cy ad S_3) rfl 8 (by decide) k1 (fun _ h9 => h9) rfl dX12_comesTo_118 ?_
              refine lv_iload_n hx hb dX12_comesTo_121 rfl (lv_at hl 4 rfl) ?_
              refine lv_iconst (v := 1) hx hb dX12_comesTo_122 (by decide) ?_
              refine lv_isub hx hb dX12_comesTo_123 ?_
              obtain ⟨h_19, hf⟩ := z_ix hf
              refine z_iald hx hb hK hP 7 0 (zM_7 cy ad S_3) rfl h_19 (k := ((x_1 - (1 : Int32)).toNatClampNeg)) rfl dX12_comesTo_124 ?_
              refine lv_isub hx hb dX12_comesTo_125 ?_
              obtain ⟨h_20, hf⟩ := z_ix hf
              refine z_iast hx hb hK hP (hD S_3) hS 7 0 (zM_7 cy ad S_3) rfl h_20 (k := ((x_1 - (1 : Int32)).toNatClampNeg)) rfl dX12_comesTo_126 (fun H locs hP hS => ?_)
              obtain ⟨S_21, eS_21, hf⟩ := z_nm hf
              have hP := zW_putI hP eS_21 (by decide) rfl
              refine lv_goto (tgt := 160) hx hb dX12_comesTo_127 (by decide) ?_
              exact J_160 x_1 S_21 _ _ _ hf hP hS (lv_sub hl [2, 3, 4, 5] rfl)
          · have hf := z_it c_27 hf
            refine lv_aload_n hx hb dX12_comesTo_86 rfl (lv_at hl 2 rfl) ?_
            refine va_get (D := D) (ci := 12) (v := .ref (ad 7)) (C := RX12) (T := TX12) (N := 36) hx hb hts k0 hown hK hP 0 (zM_0 cy ad S_3) rfl 8 (by decide) k1 (fun _ h9 => h9) rfl dX12_comesTo_87 ?_
            refine lv_iload_n hx hb dX12_comesTo_90 rfl (lv_at hl 4 rfl) ?_
            refine lv_iconst (v := 1) hx hb dX12_comesTo_91 (by decide) ?_
            refine lv_isub hx hb dX12_comesTo_92 ?_
            refine lv_dup2_11 hx hb dX12_comesTo_93 rfl rfl ?_
            obtain ⟨h_23, hf⟩ := z_ix hf
            refine z_iald hx hb hK hP 7 0 (zM_7 cy ad S_3) rfl h_23 (k := ((x_1 - (1 : Int32)).toNatClampNeg)) rfl dX12_comesTo_94 ?_
            refine lv_iload hx hb dX12_comesTo_95 (lv_at hl 0 rfl) ?_
            obtain ⟨h_24, hf⟩ := z_nz hf
            refine lv_idiv hx hb dX12_comesTo_97 h_24 ?_
            obtain ⟨h_25, hf⟩ := z_ix hf
            refine z_iast hx hb hK hP (hD S_3) hS 7 0 (zM_7 cy ad S_3) rfl h_25 (k := ((x_1 - (1 : Int32)).toNatClampNeg)) rfl dX12_comesTo_98 (fun H locs hP hS => ?_)
            obtain ⟨S_26, eS_26, hf⟩ := z_nm hf
            have hP := zW_putI hP eS_26 (by decide) rfl
            refine lv_goto (tgt := 160) hx hb dX12_comesTo_99 (by decide) ?_
            exact J_160 x_1 S_26 _ _ _ hf hP hS (lv_sub hl [2, 3, 4, 5] rfl)
        · have hf := z_if c_35 hf
          refine lv_aload_n hx hb dX12_comesTo_50 rfl (lv_at hl 2 rfl) ?_
          refine va_get (D := D) (ci := 12) (v := .ref (ad 7)) (C := RX12) (T := TX12) (N := 36) hx hb hts k0 hown hK hP 0 (zM_0 cy ad S_3) rfl 8 (by decide) k1 (fun _ h9 => h9) rfl dX12_comesTo_51 ?_
          refine lv_iload_n hx hb dX12_comesTo_54 rfl (lv_at hl 4 rfl) ?_
          refine lv_iload hx hb dX12_comesTo_55 (lv_at hl 1 rfl) ?_
          obtain ⟨j_72, ej_72, hf⟩ := z_nm hf
          have J_72 : ∀ (x_28 : Int32) (S_29 : zSt) (H : Heap) (locs : List Loc) (ls : Array Slot), j_72 x_28 S_29 = some (ro, So) → va_P D vwCl (zM cy ad S_29) H → va_S A s.heap H locs → lv_has ls 7 [(0, .ref (ad 0)), (2, .int a_2), (3, .int x_1), (4, .int x_2)] → W p l e ({ frames := 1, cells := 0, slots := 0, locals := 22 }) s m ([.ref (ad 0), .int a_1, .int a_2] : List Value).toArray below meth c H locs 0 0 Q (F0 m 72 ls [.int x_28, .int x_1, .ref (ad 7)]) := by
            intro x_28 S_29 H locs ls hf hP hS hl
            have hf := z_e2 ej_72 hf
            obtain ⟨h_30, hf⟩ := z_ix hf
            refine z_iast hx hb hK hP (hD S_29) hS 7 0 (zM_7 cy ad S_29) rfl h_30 (k := (x_1.toNatClampNeg)) rfl dX12_comesTo_72 (fun H locs hP hS => ?_)
            obtain ⟨S_31, eS_31, hf⟩ := z_nm hf
            have hP := zW_putI hP eS_31 (by decide) rfl
            obtain ⟨x_32, ex_32, hf⟩ := z_nm hf
            refine lv_iinc (v := x_32) (lv' := [(3, .int x_32), (0, .ref (ad 0)), (2, .int a_2), (4, .int x_2)]) hx hb dX12_comesTo_73 hl (k := 2) rfl (by rw [ex_32]; rfl) (by decide) rfl (fun ls hl => ?_)
            refine lv_goto (tgt := 160) hx hb dX12_comesTo_76 (by decide) ?_
            exact J_160 x_32 S_31 _ _ _ hf hP hS (lv_sub hl [1, 2, 0, 3] rfl)
          refine lv_if_ne (tgt := 65) hx hb dX12_comesTo_57 (by decide) (fun c_34 => ?_) (fun c_34 => ?_)
          · have hf := z_if c_34 hf
            refine lv_aload_n hx hb dX12_comesTo_65 rfl (lv_at hl 2 rfl) ?_
            refine va_get (D := D) (ci := 12) (v := .ref (ad 8)) (C := RX12) (T := TX12) (N := 36) hx hb hts k0 hown hK hP 0 (zM_0 cy ad S_3) rfl 9 (by decide) k3 (fun _ h9 => h9) rfl dX12_comesTo_66 ?_
            refine lv_iload hx hb dX12_comesTo_69 (lv_at hl 1 rfl) ?_
            obtain ⟨h_33, hf⟩ := z_ix hf
            refine z_iald hx hb hK hP 8 0 (zM_8 cy ad S_3) rfl h_33 (k := (x_5.toNatClampNeg)) rfl dX12_comesTo_71 ?_
            exact J_72 (S_3.1 8 (x_5.toNatClampNeg)) S_3 _ _ _ hf hP hS (lv_sub hl [2, 3, 4, 5] rfl)
          · have hf := z_it c_34 hf
            refine lv_iload hx hb dX12_comesTo_60 (lv_at hl 0 rfl) ?_
            refine lv_goto (tgt := 72) hx hb dX12_comesTo_62 (by decide) ?_
            exact J_72 x_7 S_3 _ _ _ hf hP hS (lv_sub hl [2, 3, 4, 5] rfl)
  exact L_5 zFU (0 : Int32) a_1 S_0 _ _ _ hf hP hS (lv_sub hl [2, 4, 1, 0] rfl)
def fm_takesRow_L23 (x_1 : Int32) : Nat → Int32 → zSt → Option (Int32 × zSt)
  | 0, _, _ => none
  | n_23 + 1, x_6, S_7 =>
    if x_1 ≤ x_6 then (
    some (x_1, S_7)) else (
    zck (zix x_6 400) <|
    zbd (fm_isIn S_7 (S_7.1 6 (x_6.toNatClampNeg)) (97 : Int32) (104 : Int32)) fun r_9 S_10 =>
    if r_9 = 0 then (
    some ((-1 : Int32), S_10)) else (
    znm (x_6 + (1 : Int32)) fun x_12 =>
    fm_takesRow_L23 x_1 n_23 x_12 S_10))
def fm_takesRow (S_0 : zSt) : Option (Int32 × zSt) :=
  znm (S_0.1 0 12) fun x_1 =>
  znm (zpI S_0 0 12 (0 : Int32)) fun S_2 =>
  zbd (fm_isIn S_2 x_1 (1 : Int32) (5 : Int32)) fun r_3 S_4 =>
  if r_3 = 0 then (
  some ((-1 : Int32), S_4)) else (
  fm_takesRow_L23 x_1 zFU (0 : Int32) S_4)
set_option maxHeartbeats 4000000 in
set_option maxRecDepth 100000 in
theorem cm_takesRow (l : Launch) (D : va_G) (K : (Nat → Nat) × (Nat → Nat)) (cy : Nat → ClassId) (ad : Nat → Nat) (S_0 : zSt) (ro : Int32) (So : zSt) (hf : fm_takesRow S_0 = some (ro, So)) : zMI l yX12_takesRow (zws yX12_takesRow cX12_takesRow 3 (Option.some .int)) ({ frames := 1, cells := 0, slots := 0, locals := 22 }) D (zTy cy) K (zM cy ad) [.ref (ad 0)] S_0 ro So := by
  refine z_metI (own := RX12) (lv := [(0, .ref (ad 0))]) (by decide) rfl rfl (Nat.le_of_ble_eq_true rfl) rfl ?_
  intro p e s m below meth c A Q X hK hE hD hA hret hP hS ls hl
  obtain ⟨hx, hb, hml, hown, hts⟩ := id X
  have k0 := (fun w h => List.mem_cons_of_mem _ (zFX12 w h) : ∀ w ∈ u_ws RX12 TX12 36, w ∈ zws yX12_takesRow cX12_takesRow 3 (Option.some .int))
  have k1 := hts _ (List.mem_cons_of_mem _ wt_5_107)
  have k2 := hts _ (List.mem_cons_of_mem _ wt_5_102)
  refine lv_aload_n hx hb dX12_takesRow_0 rfl (lv_at hl 0 rfl) ?_
  refine va_get (D := D) (ci := 12) (v := .int (S_0.1 0 12)) (C := RX12) (T := TX12) (N := 36) hx hb hts k0 hown hK hP 0 (zM_0 cy ad S_0) rfl 12 (by decide) k1 (fun _ h9 => h9) rfl dX12_takesRow_1 ?_
  refine lv_topi (fun x_1 ex_1 => ?_)
  have hf := z_nv ex_1 hf
  refine lv_istore_n (lv' := [(1, .int x_1), (0, .ref (ad 0))]) hx hb dX12_takesRow_4 rfl hl (by decide) rfl (fun ls hl => ?_)
  refine lv_aload_n hx hb dX12_takesRow_5 rfl (lv_at hl 1 rfl) ?_
  refine lv_iconst (v := 0) hx hb dX12_takesRow_6 (by decide) ?_
  refine va_put (D := D) (ci := 12) (v := .int (0 : Int32)) (ty := .int) (C := RX12) (T := TX12) (N := 36) hx hb hts k0 tyX12 tyX12_ok nmX12 hown hK hP (hD S_0) hS 0 (zM_0 cy ad S_0) rfl 12 (by decide) k1 (fun _ h9 => h9) rfl (tyX12_ok 12 (by decide)) rfl rfl (Nat.le_of_ble_eq_true rfl) dX12_takesRow_7 (fun H locs hP _ hS => ?_)
  obtain ⟨S_2, eS_2, hf⟩ := z_nm hf
  have hP := zW_putI hP eS_2 (by decide) rfl
  refine lv_iload_n hx hb dX12_takesRow_10 rfl (lv_at hl 0 rfl) ?_
  refine lv_iconst (v := 1) hx hb dX12_takesRow_11 (by decide) ?_
  refine lv_iconst (v := 5) hx hb dX12_takesRow_12 (by decide) ?_
  obtain ⟨r_3, S_4, h_5, hf⟩ := z_bd hf
  refine z_cSI (As := [.int x_1, .int (1 : Int32), .int (5 : Int32)]) (rest := []) X hK hE hD hA hP hS (cm_isIn l D K cy ad S_2 _ _ _ _ _ h_5) (va_cwS 3 hts (z_gS wt_5_216 wt_5_217 wt_1_13 wt_5_218) rfl rfl rfl yd_yX12_isIn ⟨Nat.le_of_ble_eq_true rfl, Nat.le_of_ble_eq_true rfl⟩) hl.1 rfl rfl (Nat.le_of_ble_eq_true rfl) dX12_takesRow_13 (fun H locs hP hS => ?_)
  refine lv_if_ne (tgt := 21) hx hb dX12_takesRow_16 (by decide) (fun c_15 => ?_) (fun c_15 => ?_)
  · have hf := z_if c_15 hf
    refine lv_iconst (v := 0) hx hb dX12_takesRow_21 (by decide) ?_
    refine lv_istore_n (lv' := [(2, .int (0 : Int32)), (1, .int x_1), (0, .ref (ad 0))]) hx hb dX12_takesRow_22 rfl hl (by decide) rfl (fun ls hl => ?_)
    have L_23 : ∀ (n_23 : Nat) (x_6 : Int32) (S_7 : zSt) (H : Heap) (locs : List Loc) (ls : Array Slot), fm_takesRow_L23 x_1 n_23 x_6 S_7 = some (ro, So) → va_P D vwCl (zM cy ad S_7) H → va_S A s.heap H locs → lv_has ls 3 [(0, .ref (ad 0)), (1, .int x_1), (2, .int x_6)] → W p l e ({ frames := 1, cells := 0, slots := 0, locals := 22 }) s m ([.ref (ad 0)] : List Value).toArray below meth c H locs 0 0 Q (F0 m 23 ls []) := by
      intro n_23
      induction n_23 with
      | zero =>
        intro x_6 S_7 H locs ls hf hP hS hl
        exact z_no hf
      | succ n_23 ih_23 =>
        intro x_6 S_7 H locs ls hf hP hS hl
        rw [fm_takesRow_L23] at hf
        refine lv_iload_n hx hb dX12_takesRow_23 rfl (lv_at hl 2 rfl) ?_
        refine lv_iload_n hx hb dX12_takesRow_24 rfl (lv_at hl 1 rfl) ?_
        refine lv_icmp_ge (tgt := 52) hx hb dX12_takesRow_25 (by decide) (fun c_14 => ?_) (fun c_14 => ?_)
        · have hf := z_it c_14 hf
          refine lv_iload_n hx hb dX12_takesRow_52 rfl (lv_at hl 1 rfl) ?_
          obtain ⟨h1, h2⟩ := z_s2 hf
          subst h1 h2
          exact hret _ _ _ _ hP hS dX12_takesRow_53
        · have hf := z_if c_14 hf
          refine lv_aload_n hx hb dX12_takesRow_28 rfl (lv_at hl 0 rfl) ?_
          refine va_get (D := D) (ci := 12) (v := .ref (ad 6)) (C := RX12) (T := TX12) (N := 36) hx hb hts k0 hown hK hP 0 (zM_0 cy ad S_7) rfl 7 (by decide) k2 (fun _ h9 => h9) rfl dX12_takesRow_29 ?_
          refine lv_iload_n hx hb dX12_takesRow_32 rfl (lv_at hl 2 rfl) ?_
          obtain ⟨h_8, hf⟩ := z_ix hf
          refine z_iald hx hb hK hP 6 0 (zM_6 cy ad S_7) rfl h_8 (k := (x_6.toNatClampNeg)) rfl dX12_takesRow_33 ?_
          refine lv_bipush (v := 97) hx hb dX12_takesRow_34 (by decide) ?_
          refine lv_bipush (v := 104) hx hb dX12_takesRow_36 (by decide) ?_
          obtain ⟨r_9, S_10, h_11, hf⟩ := z_bd hf
          refine z_cSI (As := [.int (S_7.1 6 (x_6.toNatClampNeg)), .int (97 : Int32), .int (104 : Int32)]) (rest := []) X hK hE hD hA hP hS (cm_isIn l D K cy ad S_7 _ _ _ _ _ h_11) (va_cwS 3 hts (z_gS wt_5_216 wt_5_217 wt_1_13 wt_5_218) rfl rfl rfl yd_yX12_isIn ⟨Nat.le_of_ble_eq_true rfl, Nat.le_of_ble_eq_true rfl⟩) hl.1 rfl rfl (Nat.le_of_ble_eq_true rfl) dX12_takesRow_38 (fun H locs hP hS => ?_)
          refine lv_if_ne (tgt := 46) hx hb dX12_takesRow_41 (by decide) (fun c_13 => ?_) (fun c_13 => ?_)
          · have hf := z_if c_13 hf
            obtain ⟨x_12, ex_12, hf⟩ := z_nm hf
            refine lv_iinc (v := x_12) (lv' := [(2, .int x_12), (0, .ref (ad 0)), (1, .int x_1)]) hx hb dX12_takesRow_46 hl (k := 2) rfl (by rw [ex_12]; rfl) (by decide) rfl (fun ls hl => ?_)
            refine lv_goto (tgt := 23) hx hb dX12_takesRow_49 (by decide) ?_
            exact ih_23 x_12 S_10 _ _ _ hf hP hS (lv_sub hl [1, 2, 0] rfl)
          · have hf := z_it c_13 hf
            refine lv_iconst (v := -1) hx hb dX12_takesRow_44 (by decide) ?_
            obtain ⟨h1, h2⟩ := z_s2 hf
            subst h1 h2
            exact hret _ _ _ _ hP hS dX12_takesRow_45
    exact L_23 zFU (0 : Int32) S_4 _ _ _ hf hP hS (lv_sub hl [2, 1, 0] rfl)
  · have hf := z_it c_15 hf
    refine lv_iconst (v := -1) hx hb dX12_takesRow_19 (by decide) ?_
    obtain ⟨h1, h2⟩ := z_s2 hf
    subst h1 h2
    exact hret _ _ _ _ hP hS dX12_takesRow_20
def fm_house_L143 (r_1 : Int32) (x_14 : Int32) (j_179 : zSt → Option (Int32 × zSt)) : Nat → Int32 → zSt → Option (Int32 × zSt)
  | 0, _, _ => none
  | n_143 + 1, x_29, S_30 =>
    if r_1 ≤ x_29 then (
    j_179  S_30) else (
    zck (zix x_29 400) <|
    zck (zix ((x_14 + (10 : Int32)) + x_29) 1480) <|
    znm (zpI S_30 1 (((x_14 + (10 : Int32)) + x_29).toNatClampNeg) ((S_30.1 6 (x_29.toNatClampNeg)) - (97 : Int32))) fun S_33 =>
    znm (x_29 + (1 : Int32)) fun x_34 =>
    fm_house_L143 r_1 x_14 j_179 n_143 x_34 S_33)
def fm_house_L74 (a_1 : Int32) (a_2 : Int32) (a_3 : Int32) (r_1 : Int32) (x_14 : Int32) (j_98 : zSt → Option (Int32 × zSt)) : Nat → Int32 → zSt → Option (Int32 × zSt)
  | 0, _, _ => none
  | n_74 + 1, x_36, S_37 =>
    if (16 : Int32) ≤ x_36 then (
    j_98  S_37) else (
    zck (zix (x_14 + x_36) 1480) <|
    znm (zpI S_37 1 ((x_14 + x_36).toNatClampNeg) (0 : Int32)) fun S_39 =>
    znm (x_36 + (1 : Int32)) fun x_40 =>
    fm_house_L74 a_1 a_2 a_3 r_1 x_14 j_98 n_74 x_40 S_39)
def fm_house (S_0 : zSt) (a_1 : Int32) (a_2 : Int32) (a_3 : Int32) : Option (Int32 × zSt) :=
  zbd (fm_takesRow S_0) fun r_1 S_2 =>
  znm (fun (S_4 : zSt) =>
  some ((-1 : Int32), S_4)) fun j_55 =>
  if r_1 = (-1 : Int32) then (
  j_55  S_2) else (
  zbd (fm_isIn S_2 a_1 (0 : Int32) (999 : Int32)) fun r_5 S_6 =>
  if r_5 = 0 then (
  j_55  S_6) else (
  zbd (fm_isIn S_6 a_2 (1 : Int32) (999 : Int32)) fun r_8 S_9 =>
  if r_8 = 0 then (
  j_55  S_9) else (
  zbd (fm_isIn S_9 a_3 (1 : Int32) (99 : Int32)) fun r_11 S_12 =>
  if r_11 = 0 then (
  j_55  S_12) else (
  if (S_12.1 1 4) = (9 : Int32) then (
  j_55  S_12) else (
  znm ((20 : Int32) + ((16 : Int32) * (S_12.1 1 4))) fun x_14 =>
  znm (fun (S_15 : zSt) =>
  zck (zix (x_14 + (0 : Int32)) 1480) <|
  znm (zpI S_15 1 ((x_14 + (0 : Int32)).toNatClampNeg) a_1) fun S_17 =>
  zck (zix (x_14 + (1 : Int32)) 1480) <|
  znm (zpI S_17 1 ((x_14 + (1 : Int32)).toNatClampNeg) a_2) fun S_19 =>
  zck (zix (x_14 + (2 : Int32)) 1480) <|
  znm (zpI S_19 1 ((x_14 + (2 : Int32)).toNatClampNeg) a_3) fun S_21 =>
  zck (zix (x_14 + (9 : Int32)) 1480) <|
  znm (zpI S_21 1 ((x_14 + (9 : Int32)).toNatClampNeg) r_1) fun S_23 =>
  znm (fun (S_24 : zSt) =>
  znm (zpI S_24 1 4 ((S_24.1 1 4) + (1 : Int32))) fun S_25 =>
  zbd (fm_forgets S_25) fun _ S_27 =>
  some ((S_27.1 1 4) - (1 : Int32), S_27)) fun j_179 =>
  fm_house_L143 r_1 x_14 j_179 zFU (0 : Int32) S_23) fun j_98 =>
  fm_house_L74 a_1 a_2 a_3 r_1 x_14 j_98 zFU (0 : Int32) S_12)))))
set_option maxHeartbeats 4000000 in
set_option maxRecDepth 100000 in
theorem cm_house (l : Launch) (D : va_G) (K : (Nat → Nat) × (Nat → Nat)) (cy : Nat → ClassId) (ad : Nat → Nat) (S_0 : zSt) (a_1 : Int32) (a_2 : Int32) (a_3 : Int32) (ro : Int32) (So : zSt) (hf : fm_house S_0 a_1 a_2 a_3 = some (ro, So)) : zMI l yX12_house (zws yX12_house cX12_house 7 (Option.some .int)) ({ frames := 2, cells := 0, slots := 0, locals := 44 }) D (zTy cy) K (zM cy ad) [.ref (ad 0), .int a_1, .int a_2, .int a_3] S_0 ro So := by
  refine z_metI (own := RX12) (lv := [(0, .ref (ad 0)), (1, .int a_1), (2, .int a_2), (3, .int a_3)]) (by decide) rfl rfl (Nat.le_of_ble_eq_true rfl) rfl ?_
  intro p e s m below meth c A Q X hK hE hD hA hret hP hS ls hl
  obtain ⟨hx, hb, hml, hown, hts⟩ := id X
  have k0 := (fun w h => List.mem_cons_of_mem _ (zFX12 w h) : ∀ w ∈ u_ws RX12 TX12 36, w ∈ zws yX12_house cX12_house 7 (Option.some .int))
  have k1 := hts _ (List.mem_cons_of_mem _ wt_5_95)
  have k2 := hts _ (List.mem_cons_of_mem _ wt_5_102)
  refine lv_aload_n hx hb dX12_house_0 rfl (lv_at hl 0 rfl) ?_
  obtain ⟨r_1, S_2, h_3, hf⟩ := z_bd hf
  refine z_cVI (As := []) (rest := []) X hK hE hD hA hP hS (cm_takesRow l D K cy ad S_0 _ _ h_3) (cwV 0 hts (z_gV wt_6_78 wt_6_80 wp_61 wt_1_13 wt_6_81) rfl rfl rfl ⟨rfl, yd_yX12_takesRow⟩ ⟨Nat.le_of_ble_eq_true rfl, Nat.le_of_ble_eq_true rfl⟩) (va_recv hK hP (ci := 12) (q0 := 0) rfl (zM_0 cy ad S_0)) hl.1 rfl rfl (Nat.le_of_ble_eq_true rfl) dX12_house_1 (fun H locs hP hS => ?_)
  refine lv_istore (lv' := [(4, .int r_1), (0, .ref (ad 0)), (1, .int a_1), (2, .int a_2), (3, .int a_3)]) hx hb dX12_house_4 hl (by decide) rfl (fun ls hl => ?_)
  refine lv_iload hx hb dX12_house_6 (lv_at hl 0 rfl) ?_
  refine lv_iconst (v := -1) hx hb dX12_house_8 (by decide) ?_
  obtain ⟨j_55, ej_55, hf⟩ := z_nm hf
  have J_55 : ∀ (S_4 : zSt) (H : Heap) (locs : List Loc) (ls : Array Slot), j_55  S_4 = some (ro, So) → va_P D vwCl (zM cy ad S_4) H → va_S A s.heap H locs → lv_has ls 7 [] → W p l e ({ frames := 2, cells := 0, slots := 0, locals := 44 }) s m ([.ref (ad 0), .int a_1, .int a_2, .int a_3] : List Value).toArray below meth c H locs 0 0 Q (F0 m 55 ls []) := by
    intro  S_4 H locs ls hf hP hS hl
    have hf := z_e1 ej_55 hf
    refine lv_iconst (v := -1) hx hb dX12_house_55 (by decide) ?_
    obtain ⟨h1, h2⟩ := z_s2 hf
    subst h1 h2
    exact hret _ _ _ _ hP hS dX12_house_56
  refine lv_icmp_eq (tgt := 55) hx hb dX12_house_9 (by decide) (fun c_46 => ?_) (fun c_46 => ?_)
  · have hf := z_it c_46 hf
    exact J_55  S_2 _ _ _ hf hP hS (lv_sub hl [] rfl)
  · have hf := z_if c_46 hf
    refine lv_iload_n hx hb dX12_house_12 rfl (lv_at hl 2 rfl) ?_
    refine lv_iconst (v := 0) hx hb dX12_house_13 (by decide) ?_
    refine lv_sipush (v := 999) hx hb dX12_house_14 (by decide) ?_
    obtain ⟨r_5, S_6, h_7, hf⟩ := z_bd hf
    refine z_cSI (As := [.int a_1, .int (0 : Int32), .int (999 : Int32)]) (rest := []) X hK hE hD hA hP hS (cm_isIn l D K cy ad S_2 _ _ _ _ _ h_7) (va_cwS 3 hts (z_gS wt_5_216 wt_5_217 wt_1_13 wt_5_218) rfl rfl rfl yd_yX12_isIn ⟨Nat.le_of_ble_eq_true rfl, Nat.le_of_ble_eq_true rfl⟩) hl.1 rfl rfl (Nat.le_of_ble_eq_true rfl) dX12_house_17 (fun H locs hP hS => ?_)
    refine lv_if_eq (tgt := 55) hx hb dX12_house_20 (by decide) (fun c_45 => ?_) (fun c_45 => ?_)
    · have hf := z_it c_45 hf
      exact J_55  S_6 _ _ _ hf hP hS (lv_sub hl [] rfl)
    · have hf := z_if c_45 hf
      refine lv_iload_n hx hb dX12_house_23 rfl (lv_at hl 3 rfl) ?_
      refine lv_iconst (v := 1) hx hb dX12_house_24 (by decide) ?_
      refine lv_sipush (v := 999) hx hb dX12_house_25 (by decide) ?_
      obtain ⟨r_8, S_9, h_10, hf⟩ := z_bd hf
      refine z_cSI (As := [.int a_2, .int (1 : Int32), .int (999 : Int32)]) (rest := []) X hK hE hD hA hP hS (cm_isIn l D K cy ad S_6 _ _ _ _ _ h_10) (va_cwS 3 hts (z_gS wt_5_216 wt_5_217 wt_1_13 wt_5_218) rfl rfl rfl yd_yX12_isIn ⟨Nat.le_of_ble_eq_true rfl, Nat.le_of_ble_eq_true rfl⟩) hl.1 rfl rfl (Nat.le_of_ble_eq_true rfl) dX12_house_28 (fun H locs hP hS => ?_)
      refine lv_if_eq (tgt := 55) hx hb dX12_house_31 (by decide) (fun c_44 => ?_) (fun c_44 => ?_)
      · have hf := z_it c_44 hf
        exact J_55  S_9 _ _ _ hf hP hS (lv_sub hl [] rfl)
      · have hf := z_if c_44 hf
        refine lv_iload_n hx hb dX12_house_34 rfl (lv_at hl 4 rfl) ?_
        refine lv_iconst (v := 1) hx hb dX12_house_35 (by decide) ?_
        refine lv_bipush (v := 99) hx hb dX12_house_36 (by decide) ?_
        obtain ⟨r_11, S_12, h_13, hf⟩ := z_bd hf
        refine z_cSI (As := [.int a_3, .int (1 : Int32), .int (99 : Int32)]) (rest := []) X hK hE hD hA hP hS (cm_isIn l D K cy ad S_9 _ _ _ _ _ h_13) (va_cwS 3 hts (z_gS wt_5_216 wt_5_217 wt_1_13 wt_5_218) rfl rfl rfl yd_yX12_isIn ⟨Nat.le_of_ble_eq_true rfl, Nat.le_of_ble_eq_true rfl⟩) hl.1 rfl rfl (Nat.le_of_ble_eq_true rfl) dX12_house_38 (fun H locs hP hS => ?_)
        refine lv_if_eq (tgt := 55) hx hb dX12_house_41 (by decide) (fun c_43 => ?_) (fun c_43 => ?_)
        · have hf := z_it c_43 hf
          exact J_55  S_12 _ _ _ hf hP hS (lv_sub hl [] rfl)
        · have hf := z_if c_43 hf
          refine lv_aload_n hx hb dX12_house_44 rfl (lv_at hl 1 rfl) ?_
          refine va_get (D := D) (ci := 12) (v := .ref (ad 1)) (C := RX12) (T := TX12) (N := 36) hx hb hts k0 hown hK hP 0 (zM_0 cy ad S_12) rfl 0 (by decide) k1 (fun _ h9 => h9) rfl dX12_house_45 ?_
          refine lv_iconst (v := 4) hx hb dX12_house_48 (by decide) ?_
          refine z_iald hx hb hK hP 1 0 (zM_1 cy ad S_12) rfl (vp_in_iff.mpr (by decide)) (k := 4) (by decide) dX12_house_49 ?_
          refine lv_bipush (v := 9) hx hb dX12_house_50 (by decide) ?_
          refine lv_icmp_ne (tgt := 57) hx hb dX12_house_52 (by decide) (fun c_42 => ?_) (fun c_42 => ?_)
          · have hf := z_if c_42 hf
            refine lv_bipush (v := 20) hx hb dX12_house_57 (by decide) ?_
            refine lv_bipush (v := 16) hx hb dX12_house_59 (by decide) ?_
            refine lv_aload_n hx hb dX12_house_61 rfl (lv_at hl 1 rfl) ?_
            refine va_get (D := D) (ci := 12) (v := .ref (ad 1)) (C := RX12) (T := TX12) (N := 36) hx hb hts k0 hown hK hP 0 (zM_0 cy ad S_12) rfl 0 (by decide) k1 (fun _ h9 => h9) rfl dX12_house_62 ?_
            refine lv_iconst (v := 4) hx hb dX12_house_65 (by decide) ?_
            refine z_iald hx hb hK hP 1 0 (zM_1 cy ad S_12) rfl (vp_in_iff.mpr (by decide)) (k := 4) (by decide) dX12_house_66 ?_
            refine lv_imul hx hb dX12_house_67 ?_
            refine lv_iadd hx hb dX12_house_68 ?_
            refine lv_topi (fun x_14 ex_14 => ?_)
            have hf := z_nv ex_14 hf
            refine lv_istore (lv' := [(5, .int x_14), (4, .int r_1), (0, .ref (ad 0)), (1, .int a_1), (2, .int a_2), (3, .int a_3)]) hx hb dX12_house_69 hl (by decide) rfl (fun ls hl => ?_)
            refine lv_iconst (v := 0) hx hb dX12_house_71 (by decide) ?_
            refine lv_istore (lv' := [(6, .int (0 : Int32)), (5, .int x_14), (4, .int r_1), (0, .ref (ad 0)), (1, .int a_1), (2, .int a_2), (3, .int a_3)]) hx hb dX12_house_72 hl (by decide) rfl (fun ls hl => ?_)
            obtain ⟨j_98, ej_98, hf⟩ := z_nm hf
            have J_98 : ∀ (S_15 : zSt) (H : Heap) (locs : List Loc) (ls : Array Slot), j_98  S_15 = some (ro, So) → va_P D vwCl (zM cy ad S_15) H → va_S A s.heap H locs → lv_has ls 7 [(0, .ref (ad 0)), (1, .int a_1), (2, .int a_2), (3, .int a_3), (4, .int r_1), (5, .int x_14)] → W p l e ({ frames := 2, cells := 0, slots := 0, locals := 44 }) s m ([.ref (ad 0), .int a_1, .int a_2, .int a_3] : List Value).toArray below meth c H locs 0 0 Q (F0 m 98 ls []) := by
              intro  S_15 H locs ls hf hP hS hl
              have hf := z_e1 ej_98 hf
              refine lv_aload_n hx hb dX12_house_98 rfl (lv_at hl 0 rfl) ?_
              refine va_get (D := D) (ci := 12) (v := .ref (ad 1)) (C := RX12) (T := TX12) (N := 36) hx hb hts k0 hown hK hP 0 (zM_0 cy ad S_15) rfl 0 (by decide) k1 (fun _ h9 => h9) rfl dX12_house_99 ?_
              refine lv_iload hx hb dX12_house_102 (lv_at hl 5 rfl) ?_
              refine lv_iconst (v := 0) hx hb dX12_house_104 (by decide) ?_
              refine lv_iadd hx hb dX12_house_105 ?_
              refine lv_iload_n hx hb dX12_house_106 rfl (lv_at hl 1 rfl) ?_
              obtain ⟨h_16, hf⟩ := z_ix hf
              refine z_iast hx hb hK hP (hD S_15) hS 1 0 (zM_1 cy ad S_15) rfl h_16 (k := ((x_14 + (0 : Int32)).toNatClampNeg)) rfl dX12_house_107 (fun H locs hP hS => ?_)
              obtain ⟨S_17, eS_17, hf⟩ := z_nm hf
              have hP := zW_putI hP eS_17 (by decide) rfl
              refine lv_aload_n hx hb dX12_house_108 rfl (lv_at hl 0 rfl) ?_
              refine va_get (D := D) (ci := 12) (v := .ref (ad 1)) (C := RX12) (T := TX12) (N := 36) hx hb hts k0 hown hK hP 0 (zM_0 cy ad S_17) rfl 0 (by decide) k1 (fun _ h9 => h9) rfl dX12_house_109 ?_
              refine lv_iload hx hb dX12_house_112 (lv_at hl 5 rfl) ?_
              refine lv_iconst (v := 1) hx hb dX12_house_114 (by decide) ?_
              refine lv_iadd hx hb dX12_house_115 ?_
              refine lv_iload_n hx hb dX12_house_116 rfl (lv_at hl 2 rfl) ?_
              obtain ⟨h_18, hf⟩ := z_ix hf
              refine z_iast hx hb hK hP (hD S_17) hS 1 0 (zM_1 cy ad S_17) rfl h_18 (k := ((x_14 + (1 : Int32)).toNatClampNeg)) rfl dX12_house_117 (fun H locs hP hS => ?_)
              obtain ⟨S_19, eS_19, hf⟩ := z_nm hf
              have hP := zW_putI hP eS_19 (by decide) rfl
              refine lv_aload_n hx hb dX12_house_118 rfl (lv_at hl 0 rfl) ?_
              refine va_get (D := D) (ci := 12) (v := .ref (ad 1)) (C := RX12) (T := TX12) (N := 36) hx hb hts k0 hown hK hP 0 (zM_0 cy ad S_19) rfl 0 (by decide) k1 (fun _ h9 => h9) rfl dX12_house_119 ?_
              refine lv_iload hx hb dX12_house_122 (lv_at hl 5 rfl) ?_
              refine lv_iconst (v := 2) hx hb dX12_house_124 (by decide) ?_
              refine lv_iadd hx hb dX12_house_125 ?_
              refine lv_iload_n hx hb dX12_house_126 rfl (lv_at hl 3 rfl) ?_
              obtain ⟨h_20, hf⟩ := z_ix hf
              refine z_iast hx hb hK hP (hD S_19) hS 1 0 (zM_1 cy ad S_19) rfl h_20 (k := ((x_14 + (2 : Int32)).toNatClampNeg)) rfl dX12_house_127 (fun H locs hP hS => ?_)
              obtain ⟨S_21, eS_21, hf⟩ := z_nm hf
              have hP := zW_putI hP eS_21 (by decide) rfl
              refine lv_aload_n hx hb dX12_house_128 rfl (lv_at hl 0 rfl) ?_
              refine va_get (D := D) (ci := 12) (v := .ref (ad 1)) (C := RX12) (T := TX12) (N := 36) hx hb hts k0 hown hK hP 0 (zM_0 cy ad S_21) rfl 0 (by decide) k1 (fun _ h9 => h9) rfl dX12_house_129 ?_
              refine lv_iload hx hb dX12_house_132 (lv_at hl 5 rfl) ?_
              refine lv_bipush (v := 9) hx hb dX12_house_134 (by decide) ?_
              refine lv_iadd hx hb dX12_house_136 ?_
              refine lv_iload hx hb dX12_house_137 (lv_at hl 4 rfl) ?_
              obtain ⟨h_22, hf⟩ := z_ix hf
              refine z_iast hx hb hK hP (hD S_21) hS 1 0 (zM_1 cy ad S_21) rfl h_22 (k := ((x_14 + (9 : Int32)).toNatClampNeg)) rfl dX12_house_139 (fun H locs hP hS => ?_)
              obtain ⟨S_23, eS_23, hf⟩ := z_nm hf
              have hP := zW_putI hP eS_23 (by decide) rfl
              refine lv_iconst (v := 0) hx hb dX12_house_140 (by decide) ?_
              refine lv_istore (lv' := [(6, .int (0 : Int32)), (0, .ref (ad 0)), (1, .int a_1), (2, .int a_2), (3, .int a_3), (4, .int r_1), (5, .int x_14)]) hx hb dX12_house_141 hl (by decide) rfl (fun ls hl => ?_)
              obtain ⟨j_179, ej_179, hf⟩ := z_nm hf
              have J_179 : ∀ (S_24 : zSt) (H : Heap) (locs : List Loc) (ls : Array Slot), j_179  S_24 = some (ro, So) → va_P D vwCl (zM cy ad S_24) H → va_S A s.heap H locs → lv_has ls 7 [(0, .ref (ad 0))] → W p l e ({ frames := 2, cells := 0, slots := 0, locals := 44 }) s m ([.ref (ad 0), .int a_1, .int a_2, .int a_3] : List Value).toArray below meth c H locs 0 0 Q (F0 m 179 ls []) := by
                intro  S_24 H locs ls hf hP hS hl
                have hf := z_e1 ej_179 hf
                refine lv_aload_n hx hb dX12_house_179 rfl (lv_at hl 0 rfl) ?_
                refine va_get (D := D) (ci := 12) (v := .ref (ad 1)) (C := RX12) (T := TX12) (N := 36) hx hb hts k0 hown hK hP 0 (zM_0 cy ad S_24) rfl 0 (by decide) k1 (fun _ h9 => h9) rfl dX12_house_180 ?_
                refine lv_iconst (v := 4) hx hb dX12_house_183 (by decide) ?_
                refine lv_dup2_11 hx hb dX12_house_184 rfl rfl ?_
                refine z_iald hx hb hK hP 1 0 (zM_1 cy ad S_24) rfl (vp_in_iff.mpr (by decide)) (k := 4) (by decide) dX12_house_185 ?_
                refine lv_iconst (v := 1) hx hb dX12_house_186 (by decide) ?_
                refine lv_iadd hx hb dX12_house_187 ?_
                refine z_iast hx hb hK hP (hD S_24) hS 1 0 (zM_1 cy ad S_24) rfl (vp_in_iff.mpr (by decide)) (k := 4) (by decide) dX12_house_188 (fun H locs hP hS => ?_)
                obtain ⟨S_25, eS_25, hf⟩ := z_nm hf
                have hP := zW_putI hP eS_25 (by decide) rfl
                refine lv_aload_n hx hb dX12_house_189 rfl (lv_at hl 0 rfl) ?_
                obtain ⟨r_26, S_27, h_28, hf⟩ := z_bd hf
                refine z_cVV (As := []) (rest := []) X hK hE hD hA hP hS (cm_forgets l D K cy ad S_25 _ h_28) (cwV 0 hts (z_gV wt_6_82 wt_6_84 wp_62 wt_1_13 wt_6_85) rfl rfl rfl ⟨rfl, yd_yX12_forgets⟩ ⟨Nat.le_of_ble_eq_true rfl, Nat.le_of_ble_eq_true rfl⟩) (va_recv hK hP (ci := 12) (q0 := 0) rfl (zM_0 cy ad S_25)) hl.1 rfl rfl (Nat.le_of_ble_eq_true rfl) dX12_house_190 (fun H locs hP hS => ?_)
                refine lv_aload_n hx hb dX12_house_193 rfl (lv_at hl 0 rfl) ?_
                refine va_get (D := D) (ci := 12) (v := .ref (ad 1)) (C := RX12) (T := TX12) (N := 36) hx hb hts k0 hown hK hP 0 (zM_0 cy ad S_27) rfl 0 (by decide) k1 (fun _ h9 => h9) rfl dX12_house_194 ?_
                refine lv_iconst (v := 4) hx hb dX12_house_197 (by decide) ?_
                refine z_iald hx hb hK hP 1 0 (zM_1 cy ad S_27) rfl (vp_in_iff.mpr (by decide)) (k := 4) (by decide) dX12_house_198 ?_
                refine lv_iconst (v := 1) hx hb dX12_house_199 (by decide) ?_
                refine lv_isub hx hb dX12_house_200 ?_
                obtain ⟨h1, h2⟩ := z_s2 hf
                subst h1 h2
                exact hret _ _ _ _ hP hS dX12_house_201
              have L_143 : ∀ (n_143 : Nat) (x_29 : Int32) (S_30 : zSt) (H : Heap) (locs : List Loc) (ls : Array Slot), fm_house_L143 r_1 x_14 j_179 n_143 x_29 S_30 = some (ro, So) → va_P D vwCl (zM cy ad S_30) H → va_S A s.heap H locs → lv_has ls 7 [(0, .ref (ad 0)), (4, .int r_1), (5, .int x_14), (6, .int x_29)] → W p l e ({ frames := 2, cells := 0, slots := 0, locals := 44 }) s m ([.ref (ad 0), .int a_1, .int a_2, .int a_3] : List Value).toArray below meth c H locs 0 0 Q (F0 m 143 ls []) := by
                intro n_143
                induction n_143 with
                | zero =>
                  intro x_29 S_30 H locs ls hf hP hS hl
                  exact z_no hf
                | succ n_143 ih_143 =>
                  intro x_29 S_30 H locs ls hf hP hS hl
                  rw [fm_house_L143] at hf
                  refine lv_iload hx hb dX12_house_143 (lv_at hl 3 rfl) ?_
                  refine lv_iload hx hb dX12_house_145 (lv_at hl 1 rfl) ?_
                  refine lv_icmp_ge (tgt := 179) hx hb dX12_house_147 (by decide) (fun c_35 => ?_) (fun c_35 => ?_)
                  · have hf := z_it c_35 hf
                    exact J_179  S_30 _ _ _ hf hP hS (lv_sub hl [0] rfl)
                  · have hf := z_if c_35 hf
                    refine lv_aload_n hx hb dX12_house_150 rfl (lv_at hl 0 rfl) ?_
                    refine va_get (D := D) (ci := 12) (v := .ref (ad 1)) (C := RX12) (T := TX12) (N := 36) hx hb hts k0 hown hK hP 0 (zM_0 cy ad S_30) rfl 0 (by decide) k1 (fun _ h9 => h9) rfl dX12_house_151 ?_
                    refine lv_iload hx hb dX12_house_154 (lv_at hl 2 rfl) ?_
                    refine lv_bipush (v := 10) hx hb dX12_house_156 (by decide) ?_
                    refine lv_iadd hx hb dX12_house_158 ?_
                    refine lv_iload hx hb dX12_house_159 (lv_at hl 3 rfl) ?_
                    refine lv_iadd hx hb dX12_house_161 ?_
                    refine lv_aload_n hx hb dX12_house_162 rfl (lv_at hl 0 rfl) ?_
                    refine va_get (D := D) (ci := 12) (v := .ref (ad 6)) (C := RX12) (T := TX12) (N := 36) hx hb hts k0 hown hK hP 0 (zM_0 cy ad S_30) rfl 7 (by decide) k2 (fun _ h9 => h9) rfl dX12_house_163 ?_
                    refine lv_iload hx hb dX12_house_166 (lv_at hl 3 rfl) ?_
                    obtain ⟨h_31, hf⟩ := z_ix hf
                    refine z_iald hx hb hK hP 6 0 (zM_6 cy ad S_30) rfl h_31 (k := (x_29.toNatClampNeg)) rfl dX12_house_168 ?_
                    refine lv_bipush (v := 97) hx hb dX12_house_169 (by decide) ?_
                    refine lv_isub hx hb dX12_house_171 ?_
                    obtain ⟨h_32, hf⟩ := z_ix hf
                    refine z_iast hx hb hK hP (hD S_30) hS 1 0 (zM_1 cy ad S_30) rfl h_32 (k := (((x_14 + (10 : Int32)) + x_29).toNatClampNeg)) rfl dX12_house_172 (fun H locs hP hS => ?_)
                    obtain ⟨S_33, eS_33, hf⟩ := z_nm hf
                    have hP := zW_putI hP eS_33 (by decide) rfl
                    obtain ⟨x_34, ex_34, hf⟩ := z_nm hf
                    refine lv_iinc (v := x_34) (lv' := [(6, .int x_34), (0, .ref (ad 0)), (4, .int r_1), (5, .int x_14)]) hx hb dX12_house_173 hl (k := 3) rfl (by rw [ex_34]; rfl) (by decide) rfl (fun ls hl => ?_)
                    refine lv_goto (tgt := 143) hx hb dX12_house_176 (by decide) ?_
                    exact ih_143 x_34 S_33 _ _ _ hf hP hS (lv_sub hl [1, 2, 3, 0] rfl)
              exact L_143 zFU (0 : Int32) S_23 _ _ _ hf hP hS (lv_sub hl [1, 5, 6, 0] rfl)
            have L_74 : ∀ (n_74 : Nat) (x_36 : Int32) (S_37 : zSt) (H : Heap) (locs : List Loc) (ls : Array Slot), fm_house_L74 a_1 a_2 a_3 r_1 x_14 j_98 n_74 x_36 S_37 = some (ro, So) → va_P D vwCl (zM cy ad S_37) H → va_S A s.heap H locs → lv_has ls 7 [(0, .ref (ad 0)), (1, .int a_1), (2, .int a_2), (3, .int a_3), (4, .int r_1), (5, .int x_14), (6, .int x_36)] → W p l e ({ frames := 2, cells := 0, slots := 0, locals := 44 }) s m ([.ref (ad 0), .int a_1, .int a_2, .int a_3] : List Value).toArray below meth c H locs 0 0 Q (F0 m 74 ls []) := by
              intro n_74
              induction n_74 with
              | zero =>
                intro x_36 S_37 H locs ls hf hP hS hl
                exact z_no hf
              | succ n_74 ih_74 =>
                intro x_36 S_37 H locs ls hf hP hS hl
                rw [fm_house_L74] at hf
                refine lv_iload hx hb dX12_house_74 (lv_at hl 6 rfl) ?_
                refine lv_bipush (v := 16) hx hb dX12_house_76 (by decide) ?_
                refine lv_icmp_ge (tgt := 98) hx hb dX12_house_78 (by decide) (fun c_41 => ?_) (fun c_41 => ?_)
                · have hf := z_it c_41 hf
                  exact J_98  S_37 _ _ _ hf hP hS (lv_sub hl [0, 1, 2, 3, 4, 5] rfl)
                · have hf := z_if c_41 hf
                  refine lv_aload_n hx hb dX12_house_81 rfl (lv_at hl 0 rfl) ?_
                  refine va_get (D := D) (ci := 12) (v := .ref (ad 1)) (C := RX12) (T := TX12) (N := 36) hx hb hts k0 hown hK hP 0 (zM_0 cy ad S_37) rfl 0 (by decide) k1 (fun _ h9 => h9) rfl dX12_house_82 ?_
                  refine lv_iload hx hb dX12_house_85 (lv_at hl 5 rfl) ?_
                  refine lv_iload hx hb dX12_house_87 (lv_at hl 6 rfl) ?_
                  refine lv_iadd hx hb dX12_house_89 ?_
                  refine lv_iconst (v := 0) hx hb dX12_house_90 (by decide) ?_
                  obtain ⟨h_38, hf⟩ := z_ix hf
                  refine z_iast hx hb hK hP (hD S_37) hS 1 0 (zM_1 cy ad S_37) rfl h_38 (k := ((x_14 + x_36).toNatClampNeg)) rfl dX12_house_91 (fun H locs hP hS => ?_)
                  obtain ⟨S_39, eS_39, hf⟩ := z_nm hf
                  have hP := zW_putI hP eS_39 (by decide) rfl
                  obtain ⟨x_40, ex_40, hf⟩ := z_nm hf
                  refine lv_iinc (v := x_40) (lv' := [(6, .int x_40), (0, .ref (ad 0)), (1, .int a_1), (2, .int a_2), (3, .int a_3), (4, .int r_1), (5, .int x_14)]) hx hb dX12_house_92 hl (k := 6) rfl (by rw [ex_40]; rfl) (by decide) rfl (fun ls hl => ?_)
                  refine lv_goto (tgt := 74) hx hb dX12_house_95 (by decide) ?_
                  exact ih_74 x_40 S_39 _ _ _ hf hP hS (lv_sub hl [1, 2, 3, 4, 5, 6, 0] rfl)
            exact L_74 zFU (0 : Int32) S_12 _ _ _ hf hP hS (lv_sub hl [3, 4, 5, 6, 2, 1, 0] rfl)
          · have hf := z_it c_42 hf
            exact J_55  S_12 _ _ _ hf hP hS (lv_sub hl [] rfl)
def fm_give (S_0 : zSt) (a_1 : Int32) (a_2 : Int32) : Option (Int32 × zSt) :=
  zbd (fm_isHouse S_0 a_1) fun r_1 S_2 =>
  znm (fun (S_4 : zSt) =>
  some ((0 : Int32), S_4)) fun j_31 =>
  if r_1 = 0 then (
  j_31  S_2) else (
  zbd (fm_isIn S_2 a_2 (0 : Int32) (99999 : Int32)) fun r_5 S_6 =>
  if r_5 = 0 then (
  j_31  S_6) else (
  zbd (fm_own S_6 a_1 (3 : Int32)) fun r_8 S_9 =>
  if (r_8 + a_2) ≤ (999999 : Int32) then (
  zbd (fm_adds S_9 a_1 (3 : Int32) a_2) fun _ S_12 =>
  zbd (fm_forgets S_12) fun _ S_15 =>
  some ((1 : Int32), S_15)) else (
  j_31  S_9)))
set_option maxHeartbeats 4000000 in
set_option maxRecDepth 100000 in
theorem cm_give (l : Launch) (D : va_G) (K : (Nat → Nat) × (Nat → Nat)) (cy : Nat → ClassId) (ad : Nat → Nat) (S_0 : zSt) (a_1 : Int32) (a_2 : Int32) (ro : Int32) (So : zSt) (hf : fm_give S_0 a_1 a_2 = some (ro, So)) : zMI l yX12_give (zws yX12_give cX12_give 3 (Option.some .boolean)) ({ frames := 2, cells := 0, slots := 0, locals := 43 }) D (zTy cy) K (zM cy ad) [.ref (ad 0), .int a_1, .int a_2] S_0 ro So := by
  refine z_metZ (own := RX12) (lv := [(0, .ref (ad 0)), (1, .int a_1), (2, .int a_2)]) (by decide) rfl rfl (Nat.le_of_ble_eq_true rfl) rfl ?_
  intro p e s m below meth c A Q X hK hE hD hA hret hP hS ls hl
  obtain ⟨hx, hb, hml, hown, hts⟩ := id X
  have k0 := hts _ (List.mem_cons_of_mem _ wt_6_94)
  have k1 := hts _ (List.mem_cons_of_mem _ wt_6_99)
  refine lv_aload_n hx hb dX12_give_0 rfl (lv_at hl 0 rfl) ?_
  refine lv_iload_n hx hb dX12_give_1 rfl (lv_at hl 1 rfl) ?_
  obtain ⟨r_1, S_2, h_3, hf⟩ := z_bd hf
  refine z_cVI (As := [.int a_1]) (rest := []) X hK hE hD hA hP hS (cm_isHouse l D K cy ad S_0 _ _ _ h_3) (cwV 1 hts (z_gV wt_6_90 wt_6_92 wp_63 wt_1_13 wt_6_93) rfl rfl rfl ⟨rfl, yd_yX12_isHouse⟩ ⟨Nat.le_of_ble_eq_true rfl, Nat.le_of_ble_eq_true rfl⟩) (va_recv hK hP (ci := 12) (q0 := 0) rfl (zM_0 cy ad S_0)) hl.1 rfl rfl (Nat.le_of_ble_eq_true rfl) dX12_give_2 (fun H locs hP hS => ?_)
  obtain ⟨j_31, ej_31, hf⟩ := z_nm hf
  have J_31 : ∀ (S_4 : zSt) (H : Heap) (locs : List Loc) (ls : Array Slot), j_31  S_4 = some (ro, So) → va_P D vwCl (zM cy ad S_4) H → va_S A s.heap H locs → lv_has ls 3 [] → W p l e ({ frames := 2, cells := 0, slots := 0, locals := 43 }) s m ([.ref (ad 0), .int a_1, .int a_2] : List Value).toArray below meth c H locs 0 0 Q (F0 m 31 ls []) := by
    intro  S_4 H locs ls hf hP hS hl
    have hf := z_e1 ej_31 hf
    refine lv_iconst (v := 0) hx hb dX12_give_31 (by decide) ?_
    obtain ⟨h1, h2⟩ := z_s2 hf
    subst h1 h2
    exact hret _ _ _ _ rfl hP hS dX12_give_32
  refine lv_if_eq (tgt := 31) hx hb dX12_give_5 (by decide) (fun c_19 => ?_) (fun c_19 => ?_)
  · have hf := z_it c_19 hf
    exact J_31  S_2 _ _ _ hf hP hS (lv_sub hl [] rfl)
  · have hf := z_if c_19 hf
    refine lv_iload_n hx hb dX12_give_8 rfl (lv_at hl 2 rfl) ?_
    refine lv_iconst (v := 0) hx hb dX12_give_9 (by decide) ?_
    refine lv_ldc hx hb hown k0 dX12_give_10 ?_
    obtain ⟨r_5, S_6, h_7, hf⟩ := z_bd hf
    refine z_cSI (As := [.int a_2, .int (0 : Int32), .int (99999 : Int32)]) (rest := []) X hK hE hD hA hP hS (cm_isIn l D K cy ad S_2 _ _ _ _ _ h_7) (va_cwS 3 hts (z_gS wt_5_216 wt_5_217 wt_1_13 wt_5_218) rfl rfl rfl yd_yX12_isIn ⟨Nat.le_of_ble_eq_true rfl, Nat.le_of_ble_eq_true rfl⟩) hl.1 rfl rfl (Nat.le_of_ble_eq_true rfl) dX12_give_12 (fun H locs hP hS => ?_)
    refine lv_if_eq (tgt := 31) hx hb dX12_give_15 (by decide) (fun c_18 => ?_) (fun c_18 => ?_)
    · have hf := z_it c_18 hf
      exact J_31  S_6 _ _ _ hf hP hS (lv_sub hl [] rfl)
    · have hf := z_if c_18 hf
      refine lv_aload_n hx hb dX12_give_18 rfl (lv_at hl 0 rfl) ?_
      refine lv_iload_n hx hb dX12_give_19 rfl (lv_at hl 1 rfl) ?_
      refine lv_iconst (v := 3) hx hb dX12_give_20 (by decide) ?_
      obtain ⟨r_8, S_9, h_10, hf⟩ := z_bd hf
      refine z_cVI (As := [.int a_1, .int (3 : Int32)]) (rest := []) X hK hE hD hA hP hS (cm_own l D K cy ad S_6 _ _ _ _ h_10) (cwV 2 hts (z_gV wt_6_95 wt_6_97 wp_64 wt_1_13 wt_6_98) rfl rfl rfl ⟨rfl, yd_yX12_own⟩ ⟨Nat.le_of_ble_eq_true rfl, Nat.le_of_ble_eq_true rfl⟩) (va_recv hK hP (ci := 12) (q0 := 0) rfl (zM_0 cy ad S_6)) hl.1 rfl rfl (Nat.le_of_ble_eq_true rfl) dX12_give_21 (fun H locs hP hS => ?_)
      refine lv_iload_n hx hb dX12_give_24 rfl (lv_at hl 2 rfl) ?_
      refine lv_iadd hx hb dX12_give_25 ?_
      refine lv_ldc hx hb hown k1 dX12_give_26 ?_
      refine lv_icmp_le (tgt := 33) hx hb dX12_give_28 (by decide) (fun c_17 => ?_) (fun c_17 => ?_)
      · have hf := z_it c_17 hf
        refine lv_aload_n hx hb dX12_give_33 rfl (lv_at hl 0 rfl) ?_
        refine lv_iload_n hx hb dX12_give_34 rfl (lv_at hl 1 rfl) ?_
        refine lv_iconst (v := 3) hx hb dX12_give_35 (by decide) ?_
        refine lv_iload_n hx hb dX12_give_36 rfl (lv_at hl 2 rfl) ?_
        obtain ⟨r_11, S_12, h_13, hf⟩ := z_bd hf
        refine z_cVV (As := [.int a_1, .int (3 : Int32), .int a_2]) (rest := []) X hK hE hD hA hP hS (cm_adds l D K cy ad S_9 _ _ _ _ h_13) (cwV 3 hts (z_gV wt_6_100 wt_6_102 wp_65 wt_1_13 wt_6_103) rfl rfl rfl ⟨rfl, yd_yX12_adds⟩ ⟨Nat.le_of_ble_eq_true rfl, Nat.le_of_ble_eq_true rfl⟩) (va_recv hK hP (ci := 12) (q0 := 0) rfl (zM_0 cy ad S_9)) hl.1 rfl rfl (Nat.le_of_ble_eq_true rfl) dX12_give_37 (fun H locs hP hS => ?_)
        refine lv_aload_n hx hb dX12_give_40 rfl (lv_at hl 0 rfl) ?_
        obtain ⟨r_14, S_15, h_16, hf⟩ := z_bd hf
        refine z_cVV (As := []) (rest := []) X hK hE hD hA hP hS (cm_forgets l D K cy ad S_12 _ h_16) (cwV 0 hts (z_gV wt_6_82 wt_6_84 wp_62 wt_1_13 wt_6_85) rfl rfl rfl ⟨rfl, yd_yX12_forgets⟩ ⟨Nat.le_of_ble_eq_true rfl, Nat.le_of_ble_eq_true rfl⟩) (va_recv hK hP (ci := 12) (q0 := 0) rfl (zM_0 cy ad S_12)) hl.1 rfl rfl (Nat.le_of_ble_eq_true rfl) dX12_give_41 (fun H locs hP hS => ?_)
        refine lv_iconst (v := 1) hx hb dX12_give_44 (by decide) ?_
        obtain ⟨h1, h2⟩ := z_s2 hf
        subst h1 h2
        exact hret _ _ _ _ rfl hP hS dX12_give_45
      · have hf := z_if c_17 hf
        exact J_31  S_9 _ _ _ hf hP hS (lv_sub hl [] rfl)
def fm_set (S_0 : zSt) (a_1 : Int32) (a_2 : Int32) : Option (Int32 × zSt) :=
  zbd (fm_isIn S_0 a_1 (0 : Int32) (3 : Int32)) fun r_1 S_2 =>
  znm (fun (S_4 : zSt) =>
  some ((0 : Int32), S_4)) fun j_37 =>
  if r_1 = 0 then (
  j_37  S_2) else (
  znm (fun (x_5 : Int32) (S_6 : zSt) =>
  znm (fun (x_7 : Int32) (S_8 : zSt) =>
  zbd (fm_isIn S_8 a_2 x_5 x_7) fun r_9 S_10 =>
  if r_9 = 0 then (
  j_37  S_10) else (
  zck (zix a_1 1480) <|
  znm (zpI S_10 1 (a_1.toNatClampNeg) a_2) fun S_13 =>
  zbd (fm_forgets S_13) fun _ S_15 =>
  some ((1 : Int32), S_15))) fun j_31 =>
  if a_1 = (3 : Int32) then (
  j_31 (100 : Int32) S_6) else (
  j_31 (99 : Int32) S_6)) fun j_19 =>
  if a_1 = 0 then (
  j_19 (1 : Int32) S_2) else (
  j_19 (0 : Int32) S_2))
set_option maxHeartbeats 4000000 in
set_option maxRecDepth 100000 in
theorem cm_set (l : Launch) (D : va_G) (K : (Nat → Nat) × (Nat → Nat)) (cy : Nat → ClassId) (ad : Nat → Nat) (S_0 : zSt) (a_1 : Int32) (a_2 : Int32) (ro : Int32) (So : zSt) (hf : fm_set S_0 a_1 a_2 = some (ro, So)) : zMI l yX12_set (zws yX12_set cX12_set 3 (Option.some .boolean)) ({ frames := 1, cells := 0, slots := 0, locals := 22 }) D (zTy cy) K (zM cy ad) [.ref (ad 0), .int a_1, .int a_2] S_0 ro So := by
  refine z_metZ (own := RX12) (lv := [(0, .ref (ad 0)), (1, .int a_1), (2, .int a_2)]) (by decide) rfl rfl (Nat.le_of_ble_eq_true rfl) rfl ?_
  intro p e s m below meth c A Q X hK hE hD hA hret hP hS ls hl
  obtain ⟨hx, hb, hml, hown, hts⟩ := id X
  have k0 := (fun w h => List.mem_cons_of_mem _ (zFX12 w h) : ∀ w ∈ u_ws RX12 TX12 36, w ∈ zws yX12_set cX12_set 3 (Option.some .boolean))
  have k1 := hts _ (List.mem_cons_of_mem _ wt_5_95)
  refine lv_iload_n hx hb dX12_set_0 rfl (lv_at hl 1 rfl) ?_
  refine lv_iconst (v := 0) hx hb dX12_set_1 (by decide) ?_
  refine lv_iconst (v := 3) hx hb dX12_set_2 (by decide) ?_
  obtain ⟨r_1, S_2, h_3, hf⟩ := z_bd hf
  refine z_cSI (As := [.int a_1, .int (0 : Int32), .int (3 : Int32)]) (rest := []) X hK hE hD hA hP hS (cm_isIn l D K cy ad S_0 _ _ _ _ _ h_3) (va_cwS 3 hts (z_gS wt_5_216 wt_5_217 wt_1_13 wt_5_218) rfl rfl rfl yd_yX12_isIn ⟨Nat.le_of_ble_eq_true rfl, Nat.le_of_ble_eq_true rfl⟩) hl.1 rfl rfl (Nat.le_of_ble_eq_true rfl) dX12_set_3 (fun H locs hP hS => ?_)
  obtain ⟨j_37, ej_37, hf⟩ := z_nm hf
  have J_37 : ∀ (S_4 : zSt) (H : Heap) (locs : List Loc) (ls : Array Slot), j_37  S_4 = some (ro, So) → va_P D vwCl (zM cy ad S_4) H → va_S A s.heap H locs → lv_has ls 3 [] → W p l e ({ frames := 1, cells := 0, slots := 0, locals := 22 }) s m ([.ref (ad 0), .int a_1, .int a_2] : List Value).toArray below meth c H locs 0 0 Q (F0 m 37 ls []) := by
    intro  S_4 H locs ls hf hP hS hl
    have hf := z_e1 ej_37 hf
    refine lv_iconst (v := 0) hx hb dX12_set_37 (by decide) ?_
    obtain ⟨h1, h2⟩ := z_s2 hf
    subst h1 h2
    exact hret _ _ _ _ rfl hP hS dX12_set_38
  refine lv_if_eq (tgt := 37) hx hb dX12_set_6 (by decide) (fun c_20 => ?_) (fun c_20 => ?_)
  · have hf := z_it c_20 hf
    exact J_37  S_2 _ _ _ hf hP hS (lv_sub hl [] rfl)
  · have hf := z_if c_20 hf
    refine lv_iload_n hx hb dX12_set_9 rfl (lv_at hl 2 rfl) ?_
    refine lv_iload_n hx hb dX12_set_10 rfl (lv_at hl 1 rfl) ?_
    obtain ⟨j_19, ej_19, hf⟩ := z_nm hf
    have J_19 : ∀ (x_5 : Int32) (S_6 : zSt) (H : Heap) (locs : List Loc) (ls : Array Slot), j_19 x_5 S_6 = some (ro, So) → va_P D vwCl (zM cy ad S_6) H → va_S A s.heap H locs → lv_has ls 3 [(0, .ref (ad 0)), (1, .int a_1), (2, .int a_2)] → W p l e ({ frames := 1, cells := 0, slots := 0, locals := 22 }) s m ([.ref (ad 0), .int a_1, .int a_2] : List Value).toArray below meth c H locs 0 0 Q (F0 m 19 ls [.int x_5, .int a_2]) := by
      intro x_5 S_6 H locs ls hf hP hS hl
      have hf := z_e2 ej_19 hf
      refine lv_iload_n hx hb dX12_set_19 rfl (lv_at hl 1 rfl) ?_
      refine lv_iconst (v := 3) hx hb dX12_set_20 (by decide) ?_
      obtain ⟨j_31, ej_31, hf⟩ := z_nm hf
      have J_31 : ∀ (x_7 : Int32) (S_8 : zSt) (H : Heap) (locs : List Loc) (ls : Array Slot), j_31 x_7 S_8 = some (ro, So) → va_P D vwCl (zM cy ad S_8) H → va_S A s.heap H locs → lv_has ls 3 [(0, .ref (ad 0)), (1, .int a_1), (2, .int a_2)] → W p l e ({ frames := 1, cells := 0, slots := 0, locals := 22 }) s m ([.ref (ad 0), .int a_1, .int a_2] : List Value).toArray below meth c H locs 0 0 Q (F0 m 31 ls [.int x_7, .int x_5, .int a_2]) := by
        intro x_7 S_8 H locs ls hf hP hS hl
        have hf := z_e2 ej_31 hf
        obtain ⟨r_9, S_10, h_11, hf⟩ := z_bd hf
        refine z_cSI (As := [.int a_2, .int x_5, .int x_7]) (rest := []) X hK hE hD hA hP hS (cm_isIn l D K cy ad S_8 _ _ _ _ _ h_11) (va_cwS 3 hts (z_gS wt_5_216 wt_5_217 wt_1_13 wt_5_218) rfl rfl rfl yd_yX12_isIn ⟨Nat.le_of_ble_eq_true rfl, Nat.le_of_ble_eq_true rfl⟩) hl.1 rfl rfl (Nat.le_of_ble_eq_true rfl) dX12_set_31 (fun H locs hP hS => ?_)
        refine lv_if_ne (tgt := 39) hx hb dX12_set_34 (by decide) (fun c_17 => ?_) (fun c_17 => ?_)
        · have hf := z_if c_17 hf
          refine lv_aload_n hx hb dX12_set_39 rfl (lv_at hl 0 rfl) ?_
          refine va_get (D := D) (ci := 12) (v := .ref (ad 1)) (C := RX12) (T := TX12) (N := 36) hx hb hts k0 hown hK hP 0 (zM_0 cy ad S_10) rfl 0 (by decide) k1 (fun _ h9 => h9) rfl dX12_set_40 ?_
          refine lv_iload_n hx hb dX12_set_43 rfl (lv_at hl 1 rfl) ?_
          refine lv_iload_n hx hb dX12_set_44 rfl (lv_at hl 2 rfl) ?_
          obtain ⟨h_12, hf⟩ := z_ix hf
          refine z_iast hx hb hK hP (hD S_10) hS 1 0 (zM_1 cy ad S_10) rfl h_12 (k := (a_1.toNatClampNeg)) rfl dX12_set_45 (fun H locs hP hS => ?_)
          obtain ⟨S_13, eS_13, hf⟩ := z_nm hf
          have hP := zW_putI hP eS_13 (by decide) rfl
          refine lv_aload_n hx hb dX12_set_46 rfl (lv_at hl 0 rfl) ?_
          obtain ⟨r_14, S_15, h_16, hf⟩ := z_bd hf
          refine z_cVV (As := []) (rest := []) X hK hE hD hA hP hS (cm_forgets l D K cy ad S_13 _ h_16) (cwV 0 hts (z_gV wt_6_82 wt_6_84 wp_62 wt_1_13 wt_6_85) rfl rfl rfl ⟨rfl, yd_yX12_forgets⟩ ⟨Nat.le_of_ble_eq_true rfl, Nat.le_of_ble_eq_true rfl⟩) (va_recv hK hP (ci := 12) (q0 := 0) rfl (zM_0 cy ad S_13)) hl.1 rfl rfl (Nat.le_of_ble_eq_true rfl) dX12_set_47 (fun H locs hP hS => ?_)
          refine lv_iconst (v := 1) hx hb dX12_set_50 (by decide) ?_
          obtain ⟨h1, h2⟩ := z_s2 hf
          subst h1 h2
          exact hret _ _ _ _ rfl hP hS dX12_set_51
        · have hf := z_it c_17 hf
          exact J_37  S_10 _ _ _ hf hP hS (lv_sub hl [] rfl)
      refine lv_icmp_ne (tgt := 29) hx hb dX12_set_21 (by decide) (fun c_18 => ?_) (fun c_18 => ?_)
      · have hf := z_if c_18 hf
        refine lv_bipush (v := 99) hx hb dX12_set_29 (by decide) ?_
        exact J_31 (99 : Int32) S_6 _ _ _ hf hP hS (lv_sub hl [0, 1, 2] rfl)
      · have hf := z_it c_18 hf
        refine lv_bipush (v := 100) hx hb dX12_set_24 (by decide) ?_
        refine lv_goto (tgt := 31) hx hb dX12_set_26 (by decide) ?_
        exact J_31 (100 : Int32) S_6 _ _ _ hf hP hS (lv_sub hl [0, 1, 2] rfl)
    refine lv_if_ne (tgt := 18) hx hb dX12_set_11 (by decide) (fun c_19 => ?_) (fun c_19 => ?_)
    · have hf := z_if c_19 hf
      refine lv_iconst (v := 0) hx hb dX12_set_18 (by decide) ?_
      exact J_19 (0 : Int32) S_2 _ _ _ hf hP hS (lv_sub hl [0, 1, 2] rfl)
    · have hf := z_it c_19 hf
      refine lv_iconst (v := 1) hx hb dX12_set_14 (by decide) ?_
      refine lv_goto (tgt := 19) hx hb dX12_set_15 (by decide) ?_
      exact J_19 (1 : Int32) S_2 _ _ _ hf hP hS (lv_sub hl [0, 1, 2] rfl)
def fm_debt (S_0 : zSt) (a_1 : Int32) (a_2 : Int32) : Option (Int32 × zSt) :=
  zck (zix (((180 : Int32) + ((9 : Int32) * a_1)) + a_2) 1480) <|
  some (S_0.1 1 ((((180 : Int32) + ((9 : Int32) * a_1)) + a_2).toNatClampNeg), S_0)
set_option maxHeartbeats 4000000 in
set_option maxRecDepth 100000 in
theorem cm_debt (l : Launch) (D : va_G) (K : (Nat → Nat) × (Nat → Nat)) (cy : Nat → ClassId) (ad : Nat → Nat) (S_0 : zSt) (a_1 : Int32) (a_2 : Int32) (ro : Int32) (So : zSt) (hf : fm_debt S_0 a_1 a_2 = some (ro, So)) : zMI l yX12_debt (zws yX12_debt cX12_debt 3 (Option.some .int)) ({ frames := 0, cells := 0, slots := 0, locals := 0 }) D (zTy cy) K (zM cy ad) [.ref (ad 0), .int a_1, .int a_2] S_0 ro So := by
  refine z_metI (own := RX12) (lv := [(0, .ref (ad 0)), (1, .int a_1), (2, .int a_2)]) (by decide) rfl rfl (Nat.le_of_ble_eq_true rfl) rfl ?_
  intro p e s m below meth c A Q X hK hE hD hA hret hP hS ls hl
  obtain ⟨hx, hb, hml, hown, hts⟩ := id X
  have k0 := (fun w h => List.mem_cons_of_mem _ (zFX12 w h) : ∀ w ∈ u_ws RX12 TX12 36, w ∈ zws yX12_debt cX12_debt 3 (Option.some .int))
  have k1 := hts _ (List.mem_cons_of_mem _ wt_5_95)
  refine lv_aload_n hx hb dX12_debt_0 rfl (lv_at hl 0 rfl) ?_
  refine va_get (D := D) (ci := 12) (v := .ref (ad 1)) (C := RX12) (T := TX12) (N := 36) hx hb hts k0 hown hK hP 0 (zM_0 cy ad S_0) rfl 0 (by decide) k1 (fun _ h9 => h9) rfl dX12_debt_1 ?_
  refine lv_sipush (v := 180) hx hb dX12_debt_4 (by decide) ?_
  refine lv_bipush (v := 9) hx hb dX12_debt_7 (by decide) ?_
  refine lv_iload_n hx hb dX12_debt_9 rfl (lv_at hl 1 rfl) ?_
  refine lv_imul hx hb dX12_debt_10 ?_
  refine lv_iadd hx hb dX12_debt_11 ?_
  refine lv_iload_n hx hb dX12_debt_12 rfl (lv_at hl 2 rfl) ?_
  refine lv_iadd hx hb dX12_debt_13 ?_
  obtain ⟨h_1, hf⟩ := z_ix hf
  refine z_iald hx hb hK hP 1 0 (zM_1 cy ad S_0) rfl h_1 (k := ((((180 : Int32) + ((9 : Int32) * a_1)) + a_2).toNatClampNeg)) rfl dX12_debt_14 ?_
  obtain ⟨h1, h2⟩ := z_s2 hf
  subst h1 h2
  exact hret _ _ _ _ hP hS dX12_debt_15
