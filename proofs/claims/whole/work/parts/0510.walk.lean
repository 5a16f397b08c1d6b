def fm_net_L4 (a_1 : Int32) : Nat → Int32 → Int32 → zSt → Option (Int32 × zSt)
  | 0, _, _, _ => none
  | n_4 + 1, x_1, x_2, S_3 =>
    if (S_3.1 1 4) ≤ x_2 then (
    some (x_1, S_3)) else (
    zbd (fm_debt S_3 x_2 a_1) fun r_4 S_5 =>
    zbd (fm_debt S_5 a_1 x_2) fun r_7 S_8 =>
    znm (x_1 + (r_4 - r_7)) fun x_10 =>
    znm (x_2 + (1 : Int32)) fun x_11 =>
    fm_net_L4 a_1 n_4 x_10 x_11 S_8)
def fm_net (S_0 : zSt) (a_1 : Int32) : Option (Int32 × zSt) :=
  fm_net_L4 a_1 zFU (0 : Int32) (0 : Int32) S_0
set_option maxHeartbeats 4000000 in
set_option maxRecDepth 100000 in
theorem cm_net (l : Launch) (D : va_G) (K : (Nat → Nat) × (Nat → Nat)) (cy : Nat → ClassId) (ad : Nat → Nat) (S_0 : zSt) (a_1 : Int32) (ro : Int32) (So : zSt) (hf : fm_net S_0 a_1 = some (ro, So)) : zMI l yX12_net (zws yX12_net cX12_net 4 (Option.some .int)) ({ frames := 1, cells := 0, slots := 0, locals := 22 }) D (zTy cy) K (zM cy ad) [.ref (ad 0), .int a_1] S_0 ro So := by
  refine z_metI (own := RX12) (lv := [(0, .ref (ad 0)), (1, .int a_1)]) (by decide) rfl rfl (Nat.le_of_ble_eq_true rfl) rfl ?_
  intro p e s m below meth c A Q X hK hE hD hA hret hP hS ls hl
  obtain ⟨hx, hb, hml, hown, hts⟩ := id X
  have k0 := (fun w h => List.mem_cons_of_mem _ (zFX12 w h) : ∀ w ∈ u_ws RX12 TX12 36, w ∈ zws yX12_net cX12_net 4 (Option.some .int))
  have k1 := hts _ (List.mem_cons_of_mem _ wt_5_95)
  refine lv_iconst (v := 0) hx hb dX12_net_0 (by decide) ?_
  refine lv_istore_n (lv' := [(2, .int (0 : Int32)), (0, .ref (ad 0)), (1, .int a_1)]) hx hb dX12_net_1 rfl hl (by decide) rfl (fun ls hl => ?_)
  refine lv_iconst (v := 0) hx hb dX12_net_2 (by decide) ?_
  refine lv_istore_n (lv' := [(3, .int (0 : Int32)), (2, .int (0 : Int32)), (0, .ref (ad 0)), (1, .int a_1)]) hx hb dX12_net_3 rfl hl (by decide) rfl (fun ls hl => ?_)
  have L_4 : ∀ (n_4 : Nat) (x_1 : Int32) (x_2 : Int32) (S_3 : zSt) (H : Heap) (locs : List Loc) (ls : Array Slot), fm_net_L4 a_1 n_4 x_1 x_2 S_3 = some (ro, So) → va_P D vwCl (zM cy ad S_3) H → va_S A s.heap H locs → lv_has ls 4 [(0, .ref (ad 0)), (1, .int a_1), (2, .int x_1), (3, .int x_2)] → W p l e ({ frames := 1, cells := 0, slots := 0, locals := 22 }) s m ([.ref (ad 0), .int a_1] : List Value).toArray below meth c H locs 0 0 Q (F0 m 4 ls []) := by
    intro n_4
    induction n_4 with
    | zero =>
      intro x_1 x_2 S_3 H locs ls hf hP hS hl
      exact z_no hf
    | succ n_4 ih_4 =>
      intro x_1 x_2 S_3 H locs ls hf hP hS hl
      rw [fm_net_L4] at hf
      refine lv_iload_n hx hb dX12_net_4 rfl (lv_at hl 3 rfl) ?_
      refine lv_aload_n hx hb dX12_net_5 rfl (lv_at hl 0 rfl) ?_
      refine va_get (D := D) (ci := 12) (v := .ref (ad 1)) (C := RX12) (T := TX12) (N := 36) hx hb hts k0 hown hK hP 0 (zM_0 cy ad S_3) rfl 0 (by decide) k1 (fun _ h9 => h9) rfl dX12_net_6 ?_
      refine lv_iconst (v := 4) hx hb dX12_net_9 (by decide) ?_
      refine z_iald hx hb hK hP 1 0 (zM_1 cy ad S_3) rfl (vp_in_iff.mpr (by decide)) (k := 4) (by decide) dX12_net_10 ?_
      refine lv_icmp_ge (tgt := 36) hx hb dX12_net_11 (by decide) (fun c_12 => ?_) (fun c_12 => ?_)
      · have hf := z_it c_12 hf
        refine lv_iload_n hx hb dX12_net_36 rfl (lv_at hl 2 rfl) ?_
        obtain ⟨h1, h2⟩ := z_s2 hf
        subst h1 h2
        exact hret _ _ _ _ hP hS dX12_net_37
      · have hf := z_if c_12 hf
        refine lv_iload_n hx hb dX12_net_14 rfl (lv_at hl 2 rfl) ?_
        refine lv_aload_n hx hb dX12_net_15 rfl (lv_at hl 0 rfl) ?_
        refine lv_iload_n hx hb dX12_net_16 rfl (lv_at hl 3 rfl) ?_
        refine lv_iload_n hx hb dX12_net_17 rfl (lv_at hl 1 rfl) ?_
        obtain ⟨r_4, S_5, h_6, hf⟩ := z_bd hf
        refine z_cVI (As := [.int x_2, .int a_1]) (rest := [.int x_1]) X hK hE hD hA hP hS (cm_debt l D K cy ad S_3 _ _ _ _ h_6) (cwV 2 hts (z_gV wt_6_124 wt_6_126 wp_69 wt_1_13 wt_6_127) rfl rfl rfl ⟨rfl, yd_yX12_debt⟩ ⟨Nat.le_of_ble_eq_true rfl, Nat.le_of_ble_eq_true rfl⟩) (va_recv hK hP (ci := 12) (q0 := 0) rfl (zM_0 cy ad S_3)) hl.1 rfl rfl (Nat.le_of_ble_eq_true rfl) dX12_net_18 (fun H locs hP hS => ?_)
        refine lv_aload_n hx hb dX12_net_21 rfl (lv_at hl 0 rfl) ?_
        refine lv_iload_n hx hb dX12_net_22 rfl (lv_at hl 1 rfl) ?_
        refine lv_iload_n hx hb dX12_net_23 rfl (lv_at hl 3 rfl) ?_
        obtain ⟨r_7, S_8, h_9, hf⟩ := z_bd hf
        refine z_cVI (As := [.int a_1, .int x_2]) (rest := [.int r_4, .int x_1]) X hK hE hD hA hP hS (cm_debt l D K cy ad S_5 _ _ _ _ h_9) (cwV 2 hts (z_gV wt_6_124 wt_6_126 wp_69 wt_1_13 wt_6_127) rfl rfl rfl ⟨rfl, yd_yX12_debt⟩ ⟨Nat.le_of_ble_eq_true rfl, Nat.le_of_ble_eq_true rfl⟩) (va_recv hK hP (ci := 12) (q0 := 0) rfl (zM_0 cy ad S_5)) hl.1 rfl rfl (Nat.le_of_ble_eq_true rfl) dX12_net_24 (fun H locs hP hS => ?_)
        refine lv_isub hx hb dX12_net_27 ?_
        refine lv_iadd hx hb dX12_net_28 ?_
        refine lv_topi (fun x_10 ex_10 => ?_)
        have hf := z_nv ex_10 hf
        refine lv_istore_n (lv' := [(2, .int x_10), (0, .ref (ad 0)), (1, .int a_1), (3, .int x_2)]) hx hb dX12_net_29 rfl hl (by decide) rfl (fun ls hl => ?_)
        obtain ⟨x_11, ex_11, hf⟩ := z_nm hf
        refine lv_iinc (v := x_11) (lv' := [(3, .int x_11), (2, .int x_10), (0, .ref (ad 0)), (1, .int a_1)]) hx hb dX12_net_30 hl (k := 3) rfl (by rw [ex_11]; rfl) (by decide) rfl (fun ls hl => ?_)
        refine lv_goto (tgt := 4) hx hb dX12_net_33 (by decide) ?_
        exact ih_4 x_10 x_11 S_8 _ _ _ hf hP hS (lv_sub hl [2, 3, 1, 0] rfl)
  exact L_4 zFU (0 : Int32) (0 : Int32) S_0 _ _ _ hf hP hS (lv_sub hl [2, 3, 1, 0] rfl)
def fm_worth_L103 (j_166 : Int32 → zSt → Option (Int32 × zSt)) : Nat → Int32 → zSt → Option (Int32 × zSt)
  | 0, _, _ => none
  | n_103 + 1, x_27, S_28 =>
    if (S_28.1 1 590) ≤ x_27 then (
    some ((0 : Int32), S_28)) else (
    zck (zix ((640 : Int32) + x_27) 1480) <|
    zck (zix ((620 : Int32) + x_27) 1480) <|
    if (S_28.1 1 (((640 : Int32) + x_27).toNatClampNeg)) = (S_28.1 1 (((620 : Int32) + x_27).toNatClampNeg)) then (
    j_166 x_27 S_28) else (
    zck (zix ((620 : Int32) + x_27) 1480) <|
    zck (zix ((640 : Int32) + x_27) 1480) <|
    zbd (fm_comesTo S_28 (S_28.1 1 (((620 : Int32) + x_27).toNatClampNeg)) (S_28.1 1 (((640 : Int32) + x_27).toNatClampNeg))) fun r_33 S_34 =>
    if r_33 = (1 : Int32) then (
    j_166 x_27 S_34) else (
    znm (x_27 + (1 : Int32)) fun x_36 =>
    fm_worth_L103 j_166 n_103 x_36 S_34)))
def fm_worth_L26 (a_1 : Int32) (j_53 : zSt → Option (Int32 × zSt)) : Nat → Int32 → zSt → Option (Int32 × zSt)
  | 0, _, _ => none
  | n_26 + 1, x_40, S_41 =>
    if (4 : Int32) ≤ x_40 then (
    j_53  S_41) else (
    zbd (fm_own S_41 a_1 ((3 : Int32) + x_40)) fun r_42 S_43 =>
    zck (zix ((3 : Int32) + x_40) 11) <|
    znm (zpI S_43 8 (((3 : Int32) + x_40).toNatClampNeg) r_42) fun S_46 =>
    znm (x_40 + (1 : Int32)) fun x_47 =>
    fm_worth_L26 a_1 j_53 n_26 x_47 S_46)
def fm_worth (S_0 : zSt) (a_1 : Int32) : Option (Int32 × zSt) :=
  zbd (fm_own S_0 a_1 (0 : Int32)) fun r_1 S_2 =>
  znm (zpI S_2 8 1 r_1) fun S_4 =>
  zbd (fm_own S_4 a_1 (1 : Int32)) fun r_5 S_6 =>
  znm (zpI S_6 8 2 r_5) fun S_8 =>
  znm (fun (S_9 : zSt) =>
  zbd (fm_own S_9 a_1 (8 : Int32)) fun r_10 S_11 =>
  znm (zpI S_11 8 7 r_10) fun S_13 =>
  znm (zpI S_13 8 8 a_1) fun S_14 =>
  znm (zpI S_14 8 9 (S_14.1 1 5)) fun S_15 =>
  zbd (fm_net S_15 a_1) fun r_16 S_17 =>
  znm (zpI S_17 8 10 (-r_16)) fun S_19 =>
  znm (fun (x_20 : Int32) (S_21 : zSt) =>
  zck (zix ((600 : Int32) + x_20) 1480) <|
  zck (zix ((620 : Int32) + x_20) 1480) <|
  zbd (fm_comesTo S_21 (S_21.1 1 (((600 : Int32) + x_20).toNatClampNeg)) (S_21.1 1 (((620 : Int32) + x_20).toNatClampNeg))) fun r_24 S_25 =>
  some (r_24, S_25)) fun j_166 =>
  fm_worth_L103 j_166 zFU (0 : Int32) S_19) fun j_53 =>
  fm_worth_L26 a_1 j_53 zFU (0 : Int32) S_8
set_option maxHeartbeats 4000000 in
set_option maxRecDepth 100000 in
theorem cm_worth (l : Launch) (D : va_G) (K : (Nat → Nat) × (Nat → Nat)) (cy : Nat → ClassId) (ad : Nat → Nat) (S_0 : zSt) (a_1 : Int32) (ro : Int32) (So : zSt) (hf : fm_worth S_0 a_1 = some (ro, So)) : zMI l yX12_worth (zws yX12_worth cX12_worth 3 (Option.some .int)) ({ frames := 2, cells := 0, slots := 0, locals := 48 }) D (zTy cy) K (zM cy ad) [.ref (ad 0), .int a_1] S_0 ro So := by
  refine z_metI (own := RX12) (lv := [(0, .ref (ad 0)), (1, .int a_1)]) (by decide) rfl rfl (Nat.le_of_ble_eq_true rfl) rfl ?_
  intro p e s m below meth c A Q X hK hE hD hA hret hP hS ls hl
  obtain ⟨hx, hb, hml, hown, hts⟩ := id X
  have k0 := (fun w h => List.mem_cons_of_mem _ (zFX12 w h) : ∀ w ∈ u_ws RX12 TX12 36, w ∈ zws yX12_worth cX12_worth 3 (Option.some .int))
  have k1 := hts _ (List.mem_cons_of_mem _ wt_5_104)
  have k2 := hts _ (List.mem_cons_of_mem _ wt_5_95)
  refine lv_aload_n hx hb dX12_worth_0 rfl (lv_at hl 0 rfl) ?_
  refine va_get (D := D) (ci := 12) (v := .ref (ad 8)) (C := RX12) (T := TX12) (N := 36) hx hb hts k0 hown hK hP 0 (zM_0 cy ad S_0) rfl 9 (by decide) k1 (fun _ h9 => h9) rfl dX12_worth_1 ?_
  refine lv_iconst (v := 1) hx hb dX12_worth_4 (by decide) ?_
  refine lv_aload_n hx hb dX12_worth_5 rfl (lv_at hl 0 rfl) ?_
  refine lv_iload_n hx hb dX12_worth_6 rfl (lv_at hl 1 rfl) ?_
  refine lv_iconst (v := 0) hx hb dX12_worth_7 (by decide) ?_
  obtain ⟨r_1, S_2, h_3, hf⟩ := z_bd hf
  refine z_cVI (As := [.int a_1, .int (0 : Int32)]) (rest := [.int (1 : Int32), .ref (ad 8)]) X hK hE hD hA hP hS (cm_own l D K cy ad S_0 _ _ _ _ h_3) (cwV 2 hts (z_gV wt_6_95 wt_6_97 wp_64 wt_1_13 wt_6_98) rfl rfl rfl ⟨rfl, yd_yX12_own⟩ ⟨Nat.le_of_ble_eq_true rfl, Nat.le_of_ble_eq_true rfl⟩) (va_recv hK hP (ci := 12) (q0 := 0) rfl (zM_0 cy ad S_0)) hl.1 rfl rfl (Nat.le_of_ble_eq_true rfl) dX12_worth_8 (fun H locs hP hS => ?_)
  refine z_iast hx hb hK hP (hD S_2) hS 8 0 (zM_8 cy ad S_2) rfl (vp_in_iff.mpr (by decide)) (k := 1) (by decide) dX12_worth_11 (fun H locs hP hS => ?_)
  obtain ⟨S_4, eS_4, hf⟩ := z_nm hf
  have hP := zW_putI hP eS_4 (by decide) rfl
  refine lv_aload_n hx hb dX12_worth_12 rfl (lv_at hl 0 rfl) ?_
  refine va_get (D := D) (ci := 12) (v := .ref (ad 8)) (C := RX12) (T := TX12) (N := 36) hx hb hts k0 hown hK hP 0 (zM_0 cy ad S_4) rfl 9 (by decide) k1 (fun _ h9 => h9) rfl dX12_worth_13 ?_
  refine lv_iconst (v := 2) hx hb dX12_worth_16 (by decide) ?_
  refine lv_aload_n hx hb dX12_worth_17 rfl (lv_at hl 0 rfl) ?_
  refine lv_iload_n hx hb dX12_worth_18 rfl (lv_at hl 1 rfl) ?_
  refine lv_iconst (v := 1) hx hb dX12_worth_19 (by decide) ?_
  obtain ⟨r_5, S_6, h_7, hf⟩ := z_bd hf
  refine z_cVI (As := [.int a_1, .int (1 : Int32)]) (rest := [.int (2 : Int32), .ref (ad 8)]) X hK hE hD hA hP hS (cm_own l D K cy ad S_4 _ _ _ _ h_7) (cwV 2 hts (z_gV wt_6_95 wt_6_97 wp_64 wt_1_13 wt_6_98) rfl rfl rfl ⟨rfl, yd_yX12_own⟩ ⟨Nat.le_of_ble_eq_true rfl, Nat.le_of_ble_eq_true rfl⟩) (va_recv hK hP (ci := 12) (q0 := 0) rfl (zM_0 cy ad S_4)) hl.1 rfl rfl (Nat.le_of_ble_eq_true rfl) dX12_worth_20 (fun H locs hP hS => ?_)
  refine z_iast hx hb hK hP (hD S_6) hS 8 0 (zM_8 cy ad S_6) rfl (vp_in_iff.mpr (by decide)) (k := 2) (by decide) dX12_worth_23 (fun H locs hP hS => ?_)
  obtain ⟨S_8, eS_8, hf⟩ := z_nm hf
  have hP := zW_putI hP eS_8 (by decide) rfl
  refine lv_iconst (v := 0) hx hb dX12_worth_24 (by decide) ?_
  refine lv_istore_n (lv' := [(2, .int (0 : Int32)), (0, .ref (ad 0)), (1, .int a_1)]) hx hb dX12_worth_25 rfl hl (by decide) rfl (fun ls hl => ?_)
  obtain ⟨j_53, ej_53, hf⟩ := z_nm hf
  have J_53 : ∀ (S_9 : zSt) (H : Heap) (locs : List Loc) (ls : Array Slot), j_53  S_9 = some (ro, So) → va_P D vwCl (zM cy ad S_9) H → va_S A s.heap H locs → lv_has ls 3 [(0, .ref (ad 0)), (1, .int a_1)] → W p l e ({ frames := 2, cells := 0, slots := 0, locals := 48 }) s m ([.ref (ad 0), .int a_1] : List Value).toArray below meth c H locs 0 0 Q (F0 m 53 ls []) := by
    intro  S_9 H locs ls hf hP hS hl
    have hf := z_e1 ej_53 hf
    refine lv_aload_n hx hb dX12_worth_53 rfl (lv_at hl 0 rfl) ?_
    refine va_get (D := D) (ci := 12) (v := .ref (ad 8)) (C := RX12) (T := TX12) (N := 36) hx hb hts k0 hown hK hP 0 (zM_0 cy ad S_9) rfl 9 (by decide) k1 (fun _ h9 => h9) rfl dX12_worth_54 ?_
    refine lv_bipush (v := 7) hx hb dX12_worth_57 (by decide) ?_
    refine lv_aload_n hx hb dX12_worth_59 rfl (lv_at hl 0 rfl) ?_
    refine lv_iload_n hx hb dX12_worth_60 rfl (lv_at hl 1 rfl) ?_
    refine lv_bipush (v := 8) hx hb dX12_worth_61 (by decide) ?_
    obtain ⟨r_10, S_11, h_12, hf⟩ := z_bd hf
    refine z_cVI (As := [.int a_1, .int (8 : Int32)]) (rest := [.int (7 : Int32), .ref (ad 8)]) X hK hE hD hA hP hS (cm_own l D K cy ad S_9 _ _ _ _ h_12) (cwV 2 hts (z_gV wt_6_95 wt_6_97 wp_64 wt_1_13 wt_6_98) rfl rfl rfl ⟨rfl, yd_yX12_own⟩ ⟨Nat.le_of_ble_eq_true rfl, Nat.le_of_ble_eq_true rfl⟩) (va_recv hK hP (ci := 12) (q0 := 0) rfl (zM_0 cy ad S_9)) hl.1 rfl rfl (Nat.le_of_ble_eq_true rfl) dX12_worth_63 (fun H locs hP hS => ?_)
    refine z_iast hx hb hK hP (hD S_11) hS 8 0 (zM_8 cy ad S_11) rfl (vp_in_iff.mpr (by decide)) (k := 7) (by decide) dX12_worth_66 (fun H locs hP hS => ?_)
    obtain ⟨S_13, eS_13, hf⟩ := z_nm hf
    have hP := zW_putI hP eS_13 (by decide) rfl
    refine lv_aload_n hx hb dX12_worth_67 rfl (lv_at hl 0 rfl) ?_
    refine va_get (D := D) (ci := 12) (v := .ref (ad 8)) (C := RX12) (T := TX12) (N := 36) hx hb hts k0 hown hK hP 0 (zM_0 cy ad S_13) rfl 9 (by decide) k1 (fun _ h9 => h9) rfl dX12_worth_68 ?_
    refine lv_bipush (v := 8) hx hb dX12_worth_71 (by decide) ?_
    refine lv_iload_n hx hb dX12_worth_73 rfl (lv_at hl 1 rfl) ?_
    refine z_iast hx hb hK hP (hD S_13) hS 8 0 (zM_8 cy ad S_13) rfl (vp_in_iff.mpr (by decide)) (k := 8) (by decide) dX12_worth_74 (fun H locs hP hS => ?_)
    obtain ⟨S_14, eS_14, hf⟩ := z_nm hf
    have hP := zW_putI hP eS_14 (by decide) rfl
    refine lv_aload_n hx hb dX12_worth_75 rfl (lv_at hl 0 rfl) ?_
    refine va_get (D := D) (ci := 12) (v := .ref (ad 8)) (C := RX12) (T := TX12) (N := 36) hx hb hts k0 hown hK hP 0 (zM_0 cy ad S_14) rfl 9 (by decide) k1 (fun _ h9 => h9) rfl dX12_worth_76 ?_
    refine lv_bipush (v := 9) hx hb dX12_worth_79 (by decide) ?_
    refine lv_aload_n hx hb dX12_worth_81 rfl (lv_at hl 0 rfl) ?_
    refine va_get (D := D) (ci := 12) (v := .ref (ad 1)) (C := RX12) (T := TX12) (N := 36) hx hb hts k0 hown hK hP 0 (zM_0 cy ad S_14) rfl 0 (by decide) k2 (fun _ h9 => h9) rfl dX12_worth_82 ?_
    refine lv_iconst (v := 5) hx hb dX12_worth_85 (by decide) ?_
    refine z_iald hx hb hK hP 1 0 (zM_1 cy ad S_14) rfl (vp_in_iff.mpr (by decide)) (k := 5) (by decide) dX12_worth_86 ?_
    refine z_iast hx hb hK hP (hD S_14) hS 8 0 (zM_8 cy ad S_14) rfl (vp_in_iff.mpr (by decide)) (k := 9) (by decide) dX12_worth_87 (fun H locs hP hS => ?_)
    obtain ⟨S_15, eS_15, hf⟩ := z_nm hf
    have hP := zW_putI hP eS_15 (by decide) rfl
    refine lv_aload_n hx hb dX12_worth_88 rfl (lv_at hl 0 rfl) ?_
    refine va_get (D := D) (ci := 12) (v := .ref (ad 8)) (C := RX12) (T := TX12) (N := 36) hx hb hts k0 hown hK hP 0 (zM_0 cy ad S_15) rfl 9 (by decide) k1 (fun _ h9 => h9) rfl dX12_worth_89 ?_
    refine lv_bipush (v := 10) hx hb dX12_worth_92 (by decide) ?_
    refine lv_aload_n hx hb dX12_worth_94 rfl (lv_at hl 0 rfl) ?_
    refine lv_iload_n hx hb dX12_worth_95 rfl (lv_at hl 1 rfl) ?_
    obtain ⟨r_16, S_17, h_18, hf⟩ := z_bd hf
    refine z_cVI (As := [.int a_1]) (rest := [.int (10 : Int32), .ref (ad 8)]) X hK hE hD hA hP hS (cm_net l D K cy ad S_15 _ _ _ h_18) (cwV 1 hts (z_gV wt_6_120 wt_6_122 wp_68 wt_1_13 wt_6_123) rfl rfl rfl ⟨rfl, yd_yX12_net⟩ ⟨Nat.le_of_ble_eq_true rfl, Nat.le_of_ble_eq_true rfl⟩) (va_recv hK hP (ci := 12) (q0 := 0) rfl (zM_0 cy ad S_15)) hl.1 rfl rfl (Nat.le_of_ble_eq_true rfl) dX12_worth_96 (fun H locs hP hS => ?_)
    refine lv_ineg hx hb dX12_worth_99 ?_
    refine z_iast hx hb hK hP (hD S_17) hS 8 0 (zM_8 cy ad S_17) rfl (vp_in_iff.mpr (by decide)) (k := 10) (by decide) dX12_worth_100 (fun H locs hP hS => ?_)
    obtain ⟨S_19, eS_19, hf⟩ := z_nm hf
    have hP := zW_putI hP eS_19 (by decide) rfl
    refine lv_iconst (v := 0) hx hb dX12_worth_101 (by decide) ?_
    refine lv_istore_n (lv' := [(2, .int (0 : Int32)), (0, .ref (ad 0)), (1, .int a_1)]) hx hb dX12_worth_102 rfl hl (by decide) rfl (fun ls hl => ?_)
    obtain ⟨j_166, ej_166, hf⟩ := z_nm hf
    have J_166 : ∀ (x_20 : Int32) (S_21 : zSt) (H : Heap) (locs : List Loc) (ls : Array Slot), j_166 x_20 S_21 = some (ro, So) → va_P D vwCl (zM cy ad S_21) H → va_S A s.heap H locs → lv_has ls 3 [(0, .ref (ad 0)), (2, .int x_20)] → W p l e ({ frames := 2, cells := 0, slots := 0, locals := 48 }) s m ([.ref (ad 0), .int a_1] : List Value).toArray below meth c H locs 0 0 Q (F0 m 166 ls []) := by
      intro x_20 S_21 H locs ls hf hP hS hl
      have hf := z_e2 ej_166 hf
      refine lv_aload_n hx hb dX12_worth_166 rfl (lv_at hl 0 rfl) ?_
      refine lv_aload_n hx hb dX12_worth_167 rfl (lv_at hl 0 rfl) ?_
      refine va_get (D := D) (ci := 12) (v := .ref (ad 1)) (C := RX12) (T := TX12) (N := 36) hx hb hts k0 hown hK hP 0 (zM_0 cy ad S_21) rfl 0 (by decide) k2 (fun _ h9 => h9) rfl dX12_worth_168 ?_
      refine lv_sipush (v := 600) hx hb dX12_worth_171 (by decide) ?_
      refine lv_iload_n hx hb dX12_worth_174 rfl (lv_at hl 1 rfl) ?_
      refine lv_iadd hx hb dX12_worth_175 ?_
      obtain ⟨h_22, hf⟩ := z_ix hf
      refine z_iald hx hb hK hP 1 0 (zM_1 cy ad S_21) rfl h_22 (k := (((600 : Int32) + x_20).toNatClampNeg)) rfl dX12_worth_176 ?_
      refine lv_aload_n hx hb dX12_worth_177 rfl (lv_at hl 0 rfl) ?_
      refine va_get (D := D) (ci := 12) (v := .ref (ad 1)) (C := RX12) (T := TX12) (N := 36) hx hb hts k0 hown hK hP 0 (zM_0 cy ad S_21) rfl 0 (by decide) k2 (fun _ h9 => h9) rfl dX12_worth_178 ?_
      refine lv_sipush (v := 620) hx hb dX12_worth_181 (by decide) ?_
      refine lv_iload_n hx hb dX12_worth_184 rfl (lv_at hl 1 rfl) ?_
      refine lv_iadd hx hb dX12_worth_185 ?_
      obtain ⟨h_23, hf⟩ := z_ix hf
      refine z_iald hx hb hK hP 1 0 (zM_1 cy ad S_21) rfl h_23 (k := (((620 : Int32) + x_20).toNatClampNeg)) rfl dX12_worth_186 ?_
      obtain ⟨r_24, S_25, h_26, hf⟩ := z_bd hf
      refine z_cVI (As := [.int (S_21.1 1 (((600 : Int32) + x_20).toNatClampNeg)), .int (S_21.1 1 (((620 : Int32) + x_20).toNatClampNeg))]) (rest := []) X hK hE hD hA hP hS (cm_comesTo l D K cy ad S_21 _ _ _ _ h_26) (cwV 2 hts (z_gV wt_6_128 wt_6_130 wp_70 wt_1_13 wt_6_131) rfl rfl rfl ⟨rfl, yd_yX12_comesTo⟩ ⟨Nat.le_of_ble_eq_true rfl, Nat.le_of_ble_eq_true rfl⟩) (va_recv hK hP (ci := 12) (q0 := 0) rfl (zM_0 cy ad S_21)) hl.1 rfl rfl (Nat.le_of_ble_eq_true rfl) dX12_worth_187 (fun H locs hP hS => ?_)
      obtain ⟨h1, h2⟩ := z_s2 hf
      subst h1 h2
      exact hret _ _ _ _ hP hS dX12_worth_190
    have L_103 : ∀ (n_103 : Nat) (x_27 : Int32) (S_28 : zSt) (H : Heap) (locs : List Loc) (ls : Array Slot), fm_worth_L103 j_166 n_103 x_27 S_28 = some (ro, So) → va_P D vwCl (zM cy ad S_28) H → va_S A s.heap H locs → lv_has ls 3 [(0, .ref (ad 0)), (2, .int x_27)] → W p l e ({ frames := 2, cells := 0, slots := 0, locals := 48 }) s m ([.ref (ad 0), .int a_1] : List Value).toArray below meth c H locs 0 0 Q (F0 m 103 ls []) := by
      intro n_103
      induction n_103 with
      | zero =>
        intro x_27 S_28 H locs ls hf hP hS hl
        exact z_no hf
      | succ n_103 ih_103 =>
        intro x_27 S_28 H locs ls hf hP hS hl
        rw [fm_worth_L103] at hf
        refine lv_iload_n hx hb dX12_worth_103 rfl (lv_at hl 1 rfl) ?_
        refine lv_aload_n hx hb dX12_worth_104 rfl (lv_at hl 0 rfl) ?_
        refine va_get (D := D) (ci := 12) (v := .ref (ad 1)) (C := RX12) (T := TX12) (N := 36) hx hb hts k0 hown hK hP 0 (zM_0 cy ad S_28) rfl 0 (by decide) k2 (fun _ h9 => h9) rfl dX12_worth_105 ?_
        refine lv_sipush (v := 590) hx hb dX12_worth_108 (by decide) ?_
        refine z_iald hx hb hK hP 1 0 (zM_1 cy ad S_28) rfl (vp_in_iff.mpr (by decide)) (k := 590) (by decide) dX12_worth_111 ?_
        refine lv_icmp_ge (tgt := 197) hx hb dX12_worth_112 (by decide) (fun c_39 => ?_) (fun c_39 => ?_)
        · have hf := z_it c_39 hf
          refine lv_iconst (v := 0) hx hb dX12_worth_197 (by decide) ?_
          obtain ⟨h1, h2⟩ := z_s2 hf
          subst h1 h2
          exact hret _ _ _ _ hP hS dX12_worth_198
        · have hf := z_if c_39 hf
          refine lv_aload_n hx hb dX12_worth_115 rfl (lv_at hl 0 rfl) ?_
          refine va_get (D := D) (ci := 12) (v := .ref (ad 1)) (C := RX12) (T := TX12) (N := 36) hx hb hts k0 hown hK hP 0 (zM_0 cy ad S_28) rfl 0 (by decide) k2 (fun _ h9 => h9) rfl dX12_worth_116 ?_
          refine lv_sipush (v := 640) hx hb dX12_worth_119 (by decide) ?_
          refine lv_iload_n hx hb dX12_worth_122 rfl (lv_at hl 1 rfl) ?_
          refine lv_iadd hx hb dX12_worth_123 ?_
          obtain ⟨h_29, hf⟩ := z_ix hf
          refine z_iald hx hb hK hP 1 0 (zM_1 cy ad S_28) rfl h_29 (k := (((640 : Int32) + x_27).toNatClampNeg)) rfl dX12_worth_124 ?_
          refine lv_aload_n hx hb dX12_worth_125 rfl (lv_at hl 0 rfl) ?_
          refine va_get (D := D) (ci := 12) (v := .ref (ad 1)) (C := RX12) (T := TX12) (N := 36) hx hb hts k0 hown hK hP 0 (zM_0 cy ad S_28) rfl 0 (by decide) k2 (fun _ h9 => h9) rfl dX12_worth_126 ?_
          refine lv_sipush (v := 620) hx hb dX12_worth_129 (by decide) ?_
          refine lv_iload_n hx hb dX12_worth_132 rfl (lv_at hl 1 rfl) ?_
          refine lv_iadd hx hb dX12_worth_133 ?_
          obtain ⟨h_30, hf⟩ := z_ix hf
          refine z_iald hx hb hK hP 1 0 (zM_1 cy ad S_28) rfl h_30 (k := (((620 : Int32) + x_27).toNatClampNeg)) rfl dX12_worth_134 ?_
          refine lv_icmp_eq (tgt := 166) hx hb dX12_worth_135 (by decide) (fun c_38 => ?_) (fun c_38 => ?_)
          · have hf := z_it c_38 hf
            exact J_166 x_27 S_28 _ _ _ hf hP hS (lv_sub hl [0, 1] rfl)
          · have hf := z_if c_38 hf
            refine lv_aload_n hx hb dX12_worth_138 rfl (lv_at hl 0 rfl) ?_
            refine lv_aload_n hx hb dX12_worth_139 rfl (lv_at hl 0 rfl) ?_
            refine va_get (D := D) (ci := 12) (v := .ref (ad 1)) (C := RX12) (T := TX12) (N := 36) hx hb hts k0 hown hK hP 0 (zM_0 cy ad S_28) rfl 0 (by decide) k2 (fun _ h9 => h9) rfl dX12_worth_140 ?_
            refine lv_sipush (v := 620) hx hb dX12_worth_143 (by decide) ?_
            refine lv_iload_n hx hb dX12_worth_146 rfl (lv_at hl 1 rfl) ?_
            refine lv_iadd hx hb dX12_worth_147 ?_
            obtain ⟨h_31, hf⟩ := z_ix hf
            refine z_iald hx hb hK hP 1 0 (zM_1 cy ad S_28) rfl h_31 (k := (((620 : Int32) + x_27).toNatClampNeg)) rfl dX12_worth_148 ?_
            refine lv_aload_n hx hb dX12_worth_149 rfl (lv_at hl 0 rfl) ?_
            refine va_get (D := D) (ci := 12) (v := .ref (ad 1)) (C := RX12) (T := TX12) (N := 36) hx hb hts k0 hown hK hP 0 (zM_0 cy ad S_28) rfl 0 (by decide) k2 (fun _ h9 => h9) rfl dX12_worth_150 ?_
            refine lv_sipush (v := 640) hx hb dX12_worth_153 (by decide) ?_
            refine lv_iload_n hx hb dX12_worth_156 rfl (lv_at hl 1 rfl) ?_
            refine lv_iadd hx hb dX12_worth_157 ?_
            obtain ⟨h_32, hf⟩ := z_ix hf
            refine z_iald hx hb hK hP 1 0 (zM_1 cy ad S_28) rfl h_32 (k := (((640 : Int32) + x_27).toNatClampNeg)) rfl dX12_worth_158 ?_
            obtain ⟨r_33, S_34, h_35, hf⟩ := z_bd hf
            refine z_cVI (As := [.int (S_28.1 1 (((620 : Int32) + x_27).toNatClampNeg)), .int (S_28.1 1 (((640 : Int32) + x_27).toNatClampNeg))]) (rest := []) X hK hE hD hA hP hS (cm_comesTo l D K cy ad S_28 _ _ _ _ h_35) (cwV 2 hts (z_gV wt_6_128 wt_6_130 wp_70 wt_1_13 wt_6_131) rfl rfl rfl ⟨rfl, yd_yX12_comesTo⟩ ⟨Nat.le_of_ble_eq_true rfl, Nat.le_of_ble_eq_true rfl⟩) (va_recv hK hP (ci := 12) (q0 := 0) rfl (zM_0 cy ad S_28)) hl.1 rfl rfl (Nat.le_of_ble_eq_true rfl) dX12_worth_159 (fun H locs hP hS => ?_)
            refine lv_iconst (v := 1) hx hb dX12_worth_162 (by decide) ?_
            refine lv_icmp_ne (tgt := 191) hx hb dX12_worth_163 (by decide) (fun c_37 => ?_) (fun c_37 => ?_)
            · have hf := z_if c_37 hf
              obtain ⟨x_36, ex_36, hf⟩ := z_nm hf
              refine lv_iinc (v := x_36) (lv' := [(2, .int x_36), (0, .ref (ad 0))]) hx hb dX12_worth_191 hl (k := 1) rfl (by rw [ex_36]; rfl) (by decide) rfl (fun ls hl => ?_)
              refine lv_goto (tgt := 103) hx hb dX12_worth_194 (by decide) ?_
              exact ih_103 x_36 S_34 _ _ _ hf hP hS (lv_sub hl [1, 0] rfl)
            · have hf := z_it c_37 hf
              exact J_166 x_27 S_34 _ _ _ hf hP hS (lv_sub hl [0, 1] rfl)
    exact L_103 zFU (0 : Int32) S_19 _ _ _ hf hP hS (lv_sub hl [1, 0] rfl)
  have L_26 : ∀ (n_26 : Nat) (x_40 : Int32) (S_41 : zSt) (H : Heap) (locs : List Loc) (ls : Array Slot), fm_worth_L26 a_1 j_53 n_26 x_40 S_41 = some (ro, So) → va_P D vwCl (zM cy ad S_41) H → va_S A s.heap H locs → lv_has ls 3 [(0, .ref (ad 0)), (1, .int a_1), (2, .int x_40)] → W p l e ({ frames := 2, cells := 0, slots := 0, locals := 48 }) s m ([.ref (ad 0), .int a_1] : List Value).toArray below meth c H locs 0 0 Q (F0 m 26 ls []) := by
    intro n_26
    induction n_26 with
    | zero =>
      intro x_40 S_41 H locs ls hf hP hS hl
      exact z_no hf
    | succ n_26 ih_26 =>
      intro x_40 S_41 H locs ls hf hP hS hl
      rw [fm_worth_L26] at hf
      refine lv_iload_n hx hb dX12_worth_26 rfl (lv_at hl 2 rfl) ?_
      refine lv_iconst (v := 4) hx hb dX12_worth_27 (by decide) ?_
      refine lv_icmp_ge (tgt := 53) hx hb dX12_worth_28 (by decide) (fun c_48 => ?_) (fun c_48 => ?_)
      · have hf := z_it c_48 hf
        exact J_53  S_41 _ _ _ hf hP hS (lv_sub hl [0, 1] rfl)
      · have hf := z_if c_48 hf
        refine lv_aload_n hx hb dX12_worth_31 rfl (lv_at hl 0 rfl) ?_
        refine va_get (D := D) (ci := 12) (v := .ref (ad 8)) (C := RX12) (T := TX12) (N := 36) hx hb hts k0 hown hK hP 0 (zM_0 cy ad S_41) rfl 9 (by decide) k1 (fun _ h9 => h9) rfl dX12_worth_32 ?_
        refine lv_iconst (v := 3) hx hb dX12_worth_35 (by decide) ?_
        refine lv_iload_n hx hb dX12_worth_36 rfl (lv_at hl 2 rfl) ?_
        refine lv_iadd hx hb dX12_worth_37 ?_
        refine lv_aload_n hx hb dX12_worth_38 rfl (lv_at hl 0 rfl) ?_
        refine lv_iload_n hx hb dX12_worth_39 rfl (lv_at hl 1 rfl) ?_
        refine lv_iconst (v := 3) hx hb dX12_worth_40 (by decide) ?_
        refine lv_iload_n hx hb dX12_worth_41 rfl (lv_at hl 2 rfl) ?_
        refine lv_iadd hx hb dX12_worth_42 ?_
        obtain ⟨r_42, S_43, h_44, hf⟩ := z_bd hf
        refine z_cVI (As := [.int a_1, .int ((3 : Int32) + x_40)]) (rest := [.int ((3 : Int32) + x_40), .ref (ad 8)]) X hK hE hD hA hP hS (cm_own l D K cy ad S_41 _ _ _ _ h_44) (cwV 2 hts (z_gV wt_6_95 wt_6_97 wp_64 wt_1_13 wt_6_98) rfl rfl rfl ⟨rfl, yd_yX12_own⟩ ⟨Nat.le_of_ble_eq_true rfl, Nat.le_of_ble_eq_true rfl⟩) (va_recv hK hP (ci := 12) (q0 := 0) rfl (zM_0 cy ad S_41)) hl.1 rfl rfl (Nat.le_of_ble_eq_true rfl) dX12_worth_43 (fun H locs hP hS => ?_)
        obtain ⟨h_45, hf⟩ := z_ix hf
        refine z_iast hx hb hK hP (hD S_43) hS 8 0 (zM_8 cy ad S_43) rfl h_45 (k := (((3 : Int32) + x_40).toNatClampNeg)) rfl dX12_worth_46 (fun H locs hP hS => ?_)
        obtain ⟨S_46, eS_46, hf⟩ := z_nm hf
        have hP := zW_putI hP eS_46 (by decide) rfl
        obtain ⟨x_47, ex_47, hf⟩ := z_nm hf
        refine lv_iinc (v := x_47) (lv' := [(2, .int x_47), (0, .ref (ad 0)), (1, .int a_1)]) hx hb dX12_worth_47 hl (k := 2) rfl (by rw [ex_47]; rfl) (by decide) rfl (fun ls hl => ?_)
        refine lv_goto (tgt := 26) hx hb dX12_worth_50 (by decide) ?_
        exact ih_26 x_47 S_46 _ _ _ hf hP hS (lv_sub hl [1, 2, 0] rfl)
  exact L_26 zFU (0 : Int32) S_8 _ _ _ hf hP hS (lv_sub hl [1, 2, 0] rfl)
def fm_laysOrder_L175 (x_4 : Int32) : Nat → Int32 → zSt → Option (Unit × zSt)
  | 0, _, _ => none
  | n_175 + 1, x_8, S_9 =>
    if x_8 ≤ 0 then (
    znm (zpI S_9 9 0 x_4) fun S_10 =>
    some ((), S_10)) else (
    zck (zix (x_8 - (1 : Int32)) 9) <|
    zck (zix x_8 9) <|
    znm (zpI S_9 9 (x_8.toNatClampNeg) (S_9.1 9 ((x_8 - (1 : Int32)).toNatClampNeg))) fun S_13 =>
    znm (x_8 + (-1 : Int32)) fun x_14 =>
    fm_laysOrder_L175 x_4 n_175 x_14 S_13)
def fm_laysOrder_L154 (x_4 : Int32) (j_171 : Int32 → zSt → Option (Unit × zSt)) : Nat → Int32 → zSt → Option (Unit × zSt)
  | 0, _, _ => none
  | n_154 + 1, x_16, S_17 =>
    zck (zix x_16 9) <|
    if (S_17.1 9 (x_16.toNatClampNeg)) = x_4 then (
    j_171 x_16 S_17) else (
    znm (x_16 + (1 : Int32)) fun x_19 =>
    fm_laysOrder_L154 x_4 j_171 n_154 x_19 S_17)
def fm_laysOrder_L118 (x_1 : Int32) (j_151 : Int32 → zSt → Option (Unit × zSt)) : Nat → Int32 → Int32 → zSt → Option (Unit × zSt)
  | 0, _, _, _ => none
  | n_118 + 1, x_21, x_22, S_23 =>
    if x_1 ≤ x_22 then (
    j_151 x_21 S_23) else (
    zbd (fm_own S_23 x_22 (7 : Int32)) fun r_24 S_25 =>
    zbd (fm_own S_25 x_21 (7 : Int32)) fun r_27 S_28 =>
    znm (fun (x_30 : Int32) (S_31 : zSt) =>
    znm (x_22 + (1 : Int32)) fun x_32 =>
    fm_laysOrder_L118 x_1 j_151 n_118 x_30 x_32 S_31) fun j_145 =>
    if r_27 ≤ r_24 then (
    j_145 x_21 S_28) else (
    j_145 x_22 S_28))
def fm_laysOrder_L28 (a_1 : Int32) (x_1 : Int32) (x_38 : Int32) (j_78 : Int32 → zSt → Option (Unit × zSt)) : Nat → Int32 → zSt → Option (Unit × zSt)
  | 0, _, _ => none
  | n_28 + 1, x_50, S_51 =>
    if x_50 ≤ 0 then (
    j_78 x_50 S_51) else (
    zck (zix (x_50 - (1 : Int32)) 9) <|
    zck (zix (S_51.1 9 ((x_50 - (1 : Int32)).toNatClampNeg)) 9) <|
    zck (zix x_38 9) <|
    if (S_51.1 10 (x_38.toNatClampNeg)) ≤ (S_51.1 10 ((S_51.1 9 ((x_50 - (1 : Int32)).toNatClampNeg)).toNatClampNeg)) then (
    j_78 x_50 S_51) else (
    zck (zix (x_50 - (1 : Int32)) 9) <|
    zck (zix x_50 9) <|
    znm (zpI S_51 9 (x_50.toNatClampNeg) (S_51.1 9 ((x_50 - (1 : Int32)).toNatClampNeg))) fun S_57 =>
    znm (x_50 + (-1 : Int32)) fun x_58 =>
    fm_laysOrder_L28 a_1 x_1 x_38 j_78 n_28 x_58 S_57))
def fm_laysOrder_L9 (a_1 : Int32) (x_1 : Int32) (j_92 : zSt → Option (Unit × zSt)) : Nat → Int32 → zSt → Option (Unit × zSt)
  | 0, _, _ => none
  | n_9 + 1, x_38, S_39 =>
    if x_1 ≤ x_38 then (
    j_92  S_39) else (
    zbd (fm_worth S_39 x_38) fun r_40 S_41 =>
    zck (zix x_38 9) <|
    znm (zpI S_41 10 (x_38.toNatClampNeg) r_40) fun S_44 =>
    znm (fun (x_45 : Int32) (S_46 : zSt) =>
    zck (zix x_45 9) <|
    znm (zpI S_46 9 (x_45.toNatClampNeg) x_38) fun S_48 =>
    znm (x_38 + (1 : Int32)) fun x_49 =>
    fm_laysOrder_L9 a_1 x_1 j_92 n_9 x_49 S_48) fun j_78 =>
    fm_laysOrder_L28 a_1 x_1 x_38 j_78 zFU x_38 S_44)
def fm_laysOrder (S_0 : zSt) (a_1 : Int32) : Option (Unit × zSt) :=
  znm (S_0.1 1 4) fun x_1 =>
  znm (fun (S_2 : zSt) =>
  znm (fun (S_3 : zSt) =>
  some ((), S_3)) fun j_112 =>
  if a_1 = 0 then (
  j_112  S_2) else (
  if ((S_2.1 1 5) - (S_2.1 1 5) / (7 : Int32) * (7 : Int32)) = 0 then (
  if x_1 = 0 then (
  j_112  S_2) else (
  znm (fun (x_4 : Int32) (S_5 : zSt) =>
  znm (fun (x_6 : Int32) (S_7 : zSt) =>
  fm_laysOrder_L175 x_4 zFU x_6 S_7) fun j_171 =>
  fm_laysOrder_L154 x_4 j_171 zFU (0 : Int32) S_5) fun j_151 =>
  fm_laysOrder_L118 x_1 j_151 zFU (0 : Int32) (1 : Int32) S_2)) else (
  j_112  S_2))) fun j_92 =>
  fm_laysOrder_L9 a_1 x_1 j_92 zFU (0 : Int32) S_0
set_option maxHeartbeats 4000000 in
set_option maxRecDepth 100000 in
theorem cm_laysOrder (l : Launch) (D : va_G) (K : (Nat → Nat) × (Nat → Nat)) (cy : Nat → ClassId) (ad : Nat → Nat) (S_0 : zSt) (a_1 : Int32) (So : zSt) (hf : fm_laysOrder S_0 a_1 = some ((), So)) : zMV l yX12_laysOrder (zws yX12_laysOrder cX12_laysOrder 6 none) ({ frames := 3, cells := 0, slots := 0, locals := 70 }) D (zTy cy) K (zM cy ad) [.ref (ad 0), .int a_1] S_0 So := by
  refine z_metV (own := RX12) (lv := [(0, .ref (ad 0)), (1, .int a_1)]) (by decide) rfl rfl (Nat.le_of_ble_eq_true rfl) rfl ?_
  intro p e s m below meth c A Q X hK hE hD hA hret hP hS ls hl
  obtain ⟨hx, hb, hml, hown, hts⟩ := id X
  have k0 := (fun w h => List.mem_cons_of_mem _ (zFX12 w h) : ∀ w ∈ u_ws RX12 TX12 36, w ∈ zws yX12_laysOrder cX12_laysOrder 6 none)
  have k1 := hts _ (List.mem_cons_of_mem _ wt_5_95)
  have k2 := hts _ (List.mem_cons_of_mem _ wt_5_117)
  have k3 := hts _ (List.mem_cons_of_mem _ wt_5_118)
  refine lv_aload_n hx hb dX12_laysOrder_0 rfl (lv_at hl 0 rfl) ?_
  refine va_get (D := D) (ci := 12) (v := .ref (ad 1)) (C := RX12) (T := TX12) (N := 36) hx hb hts k0 hown hK hP 0 (zM_0 cy ad S_0) rfl 0 (by decide) k1 (fun _ h9 => h9) rfl dX12_laysOrder_1 ?_
  refine lv_iconst (v := 4) hx hb dX12_laysOrder_4 (by decide) ?_
  refine z_iald hx hb hK hP 1 0 (zM_1 cy ad S_0) rfl (vp_in_iff.mpr (by decide)) (k := 4) (by decide) dX12_laysOrder_5 ?_
  refine lv_topi (fun x_1 ex_1 => ?_)
  have hf := z_nv ex_1 hf
  refine lv_istore_n (lv' := [(2, .int x_1), (0, .ref (ad 0)), (1, .int a_1)]) hx hb dX12_laysOrder_6 rfl hl (by decide) rfl (fun ls hl => ?_)
  refine lv_iconst (v := 0) hx hb dX12_laysOrder_7 (by decide) ?_
  refine lv_istore_n (lv' := [(3, .int (0 : Int32)), (2, .int x_1), (0, .ref (ad 0)), (1, .int a_1)]) hx hb dX12_laysOrder_8 rfl hl (by decide) rfl (fun ls hl => ?_)
  obtain ⟨j_92, ej_92, hf⟩ := z_nm hf
  have J_92 : ∀ (S_2 : zSt) (H : Heap) (locs : List Loc) (ls : Array Slot), j_92  S_2 = some ((), So) → va_P D vwCl (zM cy ad S_2) H → va_S A s.heap H locs → lv_has ls 6 [(0, .ref (ad 0)), (1, .int a_1), (2, .int x_1)] → W p l e ({ frames := 3, cells := 0, slots := 0, locals := 70 }) s m ([.ref (ad 0), .int a_1] : List Value).toArray below meth c H locs 0 0 Q (F0 m 92 ls []) := by
    intro  S_2 H locs ls hf hP hS hl
    have hf := z_e1 ej_92 hf
    refine lv_iload_n hx hb dX12_laysOrder_92 rfl (lv_at hl 1 rfl) ?_
    obtain ⟨j_112, ej_112, hf⟩ := z_nm hf
    have J_112 : ∀ (S_3 : zSt) (H : Heap) (locs : List Loc) (ls : Array Slot), j_112  S_3 = some ((), So) → va_P D vwCl (zM cy ad S_3) H → va_S A s.heap H locs → lv_has ls 6 [] → W p l e ({ frames := 3, cells := 0, slots := 0, locals := 70 }) s m ([.ref (ad 0), .int a_1] : List Value).toArray below meth c H locs 0 0 Q (F0 m 112 ls []) := by
      intro  S_3 H locs ls hf hP hS hl
      have hf := z_e1 ej_112 hf
      obtain ⟨h1, h2⟩ := z_s2 hf
      subst h2
      exact hret _ _ _ _ hP hS dX12_laysOrder_112
    refine lv_if_eq (tgt := 112) hx hb dX12_laysOrder_93 (by decide) (fun c_37 => ?_) (fun c_37 => ?_)
    · have hf := z_it c_37 hf
      exact J_112  S_2 _ _ _ hf hP hS (lv_sub hl [] rfl)
    · have hf := z_if c_37 hf
      refine lv_aload_n hx hb dX12_laysOrder_96 rfl (lv_at hl 0 rfl) ?_
      refine va_get (D := D) (ci := 12) (v := .ref (ad 1)) (C := RX12) (T := TX12) (N := 36) hx hb hts k0 hown hK hP 0 (zM_0 cy ad S_2) rfl 0 (by decide) k1 (fun _ h9 => h9) rfl dX12_laysOrder_97 ?_
      refine lv_iconst (v := 5) hx hb dX12_laysOrder_100 (by decide) ?_
      refine z_iald hx hb hK hP 1 0 (zM_1 cy ad S_2) rfl (vp_in_iff.mpr (by decide)) (k := 5) (by decide) dX12_laysOrder_101 ?_
      refine lv_bipush (v := 7) hx hb dX12_laysOrder_102 (by decide) ?_
      refine lv_irem hx hb dX12_laysOrder_104 (by decide) ?_
      refine lv_if_ne (tgt := 112) hx hb dX12_laysOrder_105 (by decide) (fun c_36 => ?_) (fun c_36 => ?_)
      · have hf := z_if c_36 hf
        exact J_112  S_2 _ _ _ hf hP hS (lv_sub hl [] rfl)
      · have hf := z_it c_36 hf
        refine lv_iload_n hx hb dX12_laysOrder_108 rfl (lv_at hl 2 rfl) ?_
        refine lv_if_ne (tgt := 113) hx hb dX12_laysOrder_109 (by decide) (fun c_35 => ?_) (fun c_35 => ?_)
        · have hf := z_if c_35 hf
          refine lv_iconst (v := 0) hx hb dX12_laysOrder_113 (by decide) ?_
          refine lv_istore_n (lv' := [(3, .int (0 : Int32)), (0, .ref (ad 0)), (1, .int a_1), (2, .int x_1)]) hx hb dX12_laysOrder_114 rfl hl (by decide) rfl (fun ls hl => ?_)
          refine lv_iconst (v := 1) hx hb dX12_laysOrder_115 (by decide) ?_
          refine lv_istore (lv' := [(4, .int (1 : Int32)), (3, .int (0 : Int32)), (0, .ref (ad 0)), (1, .int a_1), (2, .int x_1)]) hx hb dX12_laysOrder_116 hl (by decide) rfl (fun ls hl => ?_)
          obtain ⟨j_151, ej_151, hf⟩ := z_nm hf
          have J_151 : ∀ (x_4 : Int32) (S_5 : zSt) (H : Heap) (locs : List Loc) (ls : Array Slot), j_151 x_4 S_5 = some ((), So) → va_P D vwCl (zM cy ad S_5) H → va_S A s.heap H locs → lv_has ls 6 [(0, .ref (ad 0)), (3, .int x_4)] → W p l e ({ frames := 3, cells := 0, slots := 0, locals := 70 }) s m ([.ref (ad 0), .int a_1] : List Value).toArray below meth c H locs 0 0 Q (F0 m 151 ls []) := by
            intro x_4 S_5 H locs ls hf hP hS hl
            have hf := z_e2 ej_151 hf
            refine lv_iconst (v := 0) hx hb dX12_laysOrder_151 (by decide) ?_
            refine lv_istore (lv' := [(4, .int (0 : Int32)), (0, .ref (ad 0)), (3, .int x_4)]) hx hb dX12_laysOrder_152 hl (by decide) rfl (fun ls hl => ?_)
            obtain ⟨j_171, ej_171, hf⟩ := z_nm hf
            have J_171 : ∀ (x_6 : Int32) (S_7 : zSt) (H : Heap) (locs : List Loc) (ls : Array Slot), j_171 x_6 S_7 = some ((), So) → va_P D vwCl (zM cy ad S_7) H → va_S A s.heap H locs → lv_has ls 6 [(0, .ref (ad 0)), (3, .int x_4), (4, .int x_6)] → W p l e ({ frames := 3, cells := 0, slots := 0, locals := 70 }) s m ([.ref (ad 0), .int a_1] : List Value).toArray below meth c H locs 0 0 Q (F0 m 171 ls []) := by
              intro x_6 S_7 H locs ls hf hP hS hl
              have hf := z_e2 ej_171 hf
              refine lv_iload hx hb dX12_laysOrder_171 (lv_at hl 2 rfl) ?_
              refine lv_istore (lv' := [(5, .int x_6), (0, .ref (ad 0)), (3, .int x_4), (4, .int x_6)]) hx hb dX12_laysOrder_173 hl (by decide) rfl (fun ls hl => ?_)
              have L_175 : ∀ (n_175 : Nat) (x_8 : Int32) (S_9 : zSt) (H : Heap) (locs : List Loc) (ls : Array Slot), fm_laysOrder_L175 x_4 n_175 x_8 S_9 = some ((), So) → va_P D vwCl (zM cy ad S_9) H → va_S A s.heap H locs → lv_has ls 6 [(0, .ref (ad 0)), (3, .int x_4), (5, .int x_8)] → W p l e ({ frames := 3, cells := 0, slots := 0, locals := 70 }) s m ([.ref (ad 0), .int a_1] : List Value).toArray below meth c H locs 0 0 Q (F0 m 175 ls []) := by
                intro n_175
                induction n_175 with
                | zero =>
                  intro x_8 S_9 H locs ls hf hP hS hl
                  exact z_no hf
                | succ n_175 ih_175 =>
                  intro x_8 S_9 H locs ls hf hP hS hl
                  rw [fm_laysOrder_L175] at hf
                  refine lv_iload hx hb dX12_laysOrder_175 (lv_at hl 2 rfl) ?_
                  refine lv_if_le (tgt := 202) hx hb dX12_laysOrder_177 (by decide) (fun c_15 => ?_) (fun c_15 => ?_)
                  · have hf := z_it c_15 hf
                    refine lv_aload_n hx hb dX12_laysOrder_202 rfl (lv_at hl 0 rfl) ?_
                    refine va_get (D := D) (ci := 12) (v := .ref (ad 9)) (C := RX12) (T := TX12) (N := 36) hx hb hts k0 hown hK hP 0 (zM_0 cy ad S_9) rfl 22 (by decide) k2 (fun _ h9 => h9) rfl dX12_laysOrder_203 ?_
                    refine lv_iconst (v := 0) hx hb dX12_laysOrder_206 (by decide) ?_
                    refine lv_iload_n hx hb dX12_laysOrder_207 rfl (lv_at hl 1 rfl) ?_
                    refine z_iast hx hb hK hP (hD S_9) hS 9 0 (zM_9 cy ad S_9) rfl (vp_in_iff.mpr (by decide)) (k := 0) (by decide) dX12_laysOrder_208 (fun H locs hP hS => ?_)
                    obtain ⟨S_10, eS_10, hf⟩ := z_nm hf
                    have hP := zW_putI hP eS_10 (by decide) rfl
                    obtain ⟨h1, h2⟩ := z_s2 hf
                    subst h2
                    exact hret _ _ _ _ hP hS dX12_laysOrder_209
                  · have hf := z_if c_15 hf
                    refine lv_aload_n hx hb dX12_laysOrder_180 rfl (lv_at hl 0 rfl) ?_
                    refine va_get (D := D) (ci := 12) (v := .ref (ad 9)) (C := RX12) (T := TX12) (N := 36) hx hb hts k0 hown hK hP 0 (zM_0 cy ad S_9) rfl 22 (by decide) k2 (fun _ h9 => h9) rfl dX12_laysOrder_181 ?_
                    refine lv_iload hx hb dX12_laysOrder_184 (lv_at hl 2 rfl) ?_
                    refine lv_aload_n hx hb dX12_laysOrder_186 rfl (lv_at hl 0 rfl) ?_
                    refine va_get (D := D) (ci := 12) (v := .ref (ad 9)) (C := RX12) (T := TX12) (N := 36) hx hb hts k0 hown hK hP 0 (zM_0 cy ad S_9) rfl 22 (by decide) k2 (fun _ h9 => h9) rfl dX12_laysOrder_187 ?_
                    refine lv_iload hx hb dX12_laysOrder_190 (lv_at hl 2 rfl) ?_
                    refine lv_iconst (v := 1) hx hb dX12_laysOrder_192 (by decide) ?_
                    refine lv_isub hx hb dX12_laysOrder_193 ?_
                    obtain ⟨h_11, hf⟩ := z_ix hf
                    refine z_iald hx hb hK hP 9 0 (zM_9 cy ad S_9) rfl h_11 (k := ((x_8 - (1 : Int32)).toNatClampNeg)) rfl dX12_laysOrder_194 ?_
                    obtain ⟨h_12, hf⟩ := z_ix hf
                    refine z_iast hx hb hK hP (hD S_9) hS 9 0 (zM_9 cy ad S_9) rfl h_12 (k := (x_8.toNatClampNeg)) rfl dX12_laysOrder_195 (fun H locs hP hS => ?_)
                    obtain ⟨S_13, eS_13, hf⟩ := z_nm hf
                    have hP := zW_putI hP eS_13 (by decide) rfl
                    obtain ⟨x_14, ex_14, hf⟩ := z_nm hf
                    refine lv_iinc (v := x_14) (lv' := [(5, .int x_14), (0, .ref (ad 0)), (3, .int x_4)]) hx hb dX12_laysOrder_196 hl (k := 2) rfl (by rw [ex_14]; rfl) (by decide) rfl (fun ls hl => ?_)
                    refine lv_goto (tgt := 175) hx hb dX12_laysOrder_199 (by decide) ?_
                    exact ih_175 x_14 S_13 _ _ _ hf hP hS (lv_sub hl [1, 2, 0] rfl)
              exact L_175 zFU x_6 S_7 _ _ _ hf hP hS (lv_sub hl [1, 2, 0] rfl)
            have L_154 : ∀ (n_154 : Nat) (x_16 : Int32) (S_17 : zSt) (H : Heap) (locs : List Loc) (ls : Array Slot), fm_laysOrder_L154 x_4 j_171 n_154 x_16 S_17 = some ((), So) → va_P D vwCl (zM cy ad S_17) H → va_S A s.heap H locs → lv_has ls 6 [(0, .ref (ad 0)), (3, .int x_4), (4, .int x_16)] → W p l e ({ frames := 3, cells := 0, slots := 0, locals := 70 }) s m ([.ref (ad 0), .int a_1] : List Value).toArray below meth c H locs 0 0 Q (F0 m 154 ls []) := by
              intro n_154
              induction n_154 with
              | zero =>
                intro x_16 S_17 H locs ls hf hP hS hl
                exact z_no hf
              | succ n_154 ih_154 =>
                intro x_16 S_17 H locs ls hf hP hS hl
                rw [fm_laysOrder_L154] at hf
                refine lv_aload_n hx hb dX12_laysOrder_154 rfl (lv_at hl 0 rfl) ?_
                refine va_get (D := D) (ci := 12) (v := .ref (ad 9)) (C := RX12) (T := TX12) (N := 36) hx hb hts k0 hown hK hP 0 (zM_0 cy ad S_17) rfl 22 (by decide) k2 (fun _ h9 => h9) rfl dX12_laysOrder_155 ?_
                refine lv_iload hx hb dX12_laysOrder_158 (lv_at hl 2 rfl) ?_
                obtain ⟨h_18, hf⟩ := z_ix hf
                refine z_iald hx hb hK hP 9 0 (zM_9 cy ad S_17) rfl h_18 (k := (x_16.toNatClampNeg)) rfl dX12_laysOrder_160 ?_
                refine lv_iload_n hx hb dX12_laysOrder_161 rfl (lv_at hl 1 rfl) ?_
                refine lv_icmp_eq (tgt := 171) hx hb dX12_laysOrder_162 (by decide) (fun c_20 => ?_) (fun c_20 => ?_)
                · have hf := z_it c_20 hf
                  exact J_171 x_16 S_17 _ _ _ hf hP hS (lv_sub hl [0, 1, 2] rfl)
                · have hf := z_if c_20 hf
                  obtain ⟨x_19, ex_19, hf⟩ := z_nm hf
                  refine lv_iinc (v := x_19) (lv' := [(4, .int x_19), (0, .ref (ad 0)), (3, .int x_4)]) hx hb dX12_laysOrder_165 hl (k := 2) rfl (by rw [ex_19]; rfl) (by decide) rfl (fun ls hl => ?_)
                  refine lv_goto (tgt := 154) hx hb dX12_laysOrder_168 (by decide) ?_
                  exact ih_154 x_19 S_17 _ _ _ hf hP hS (lv_sub hl [1, 2, 0] rfl)
            exact L_154 zFU (0 : Int32) S_5 _ _ _ hf hP hS (lv_sub hl [1, 2, 0] rfl)
          have L_118 : ∀ (n_118 : Nat) (x_21 : Int32) (x_22 : Int32) (S_23 : zSt) (H : Heap) (locs : List Loc) (ls : Array Slot), fm_laysOrder_L118 x_1 j_151 n_118 x_21 x_22 S_23 = some ((), So) → va_P D vwCl (zM cy ad S_23) H → va_S A s.heap H locs → lv_has ls 6 [(0, .ref (ad 0)), (2, .int x_1), (3, .int x_21), (4, .int x_22)] → W p l e ({ frames := 3, cells := 0, slots := 0, locals := 70 }) s m ([.ref (ad 0), .int a_1] : List Value).toArray below meth c H locs 0 0 Q (F0 m 118 ls []) := by
            intro n_118
            induction n_118 with
            | zero =>
              intro x_21 x_22 S_23 H locs ls hf hP hS hl
              exact z_no hf
            | succ n_118 ih_118 =>
              intro x_21 x_22 S_23 H locs ls hf hP hS hl
              rw [fm_laysOrder_L118] at hf
              refine lv_iload hx hb dX12_laysOrder_118 (lv_at hl 3 rfl) ?_
              refine lv_iload_n hx hb dX12_laysOrder_120 rfl (lv_at hl 1 rfl) ?_
              refine lv_icmp_ge (tgt := 151) hx hb dX12_laysOrder_121 (by decide) (fun c_34 => ?_) (fun c_34 => ?_)
              · have hf := z_it c_34 hf
                exact J_151 x_21 S_23 _ _ _ hf hP hS (lv_sub hl [0, 2] rfl)
              · have hf := z_if c_34 hf
                refine lv_aload_n hx hb dX12_laysOrder_124 rfl (lv_at hl 0 rfl) ?_
                refine lv_iload hx hb dX12_laysOrder_125 (lv_at hl 3 rfl) ?_
                refine lv_bipush (v := 7) hx hb dX12_laysOrder_127 (by decide) ?_
                obtain ⟨r_24, S_25, h_26, hf⟩ := z_bd hf
                refine z_cVI (As := [.int x_22, .int (7 : Int32)]) (rest := []) X hK hE hD hA hP hS (cm_own l D K cy ad S_23 _ _ _ _ h_26) (cwV 2 hts (z_gV wt_6_95 wt_6_97 wp_64 wt_1_13 wt_6_98) rfl rfl rfl ⟨rfl, yd_yX12_own⟩ ⟨Nat.le_of_ble_eq_true rfl, Nat.le_of_ble_eq_true rfl⟩) (va_recv hK hP (ci := 12) (q0 := 0) rfl (zM_0 cy ad S_23)) hl.1 rfl rfl (Nat.le_of_ble_eq_true rfl) dX12_laysOrder_129 (fun H locs hP hS => ?_)
                refine lv_aload_n hx hb dX12_laysOrder_132 rfl (lv_at hl 0 rfl) ?_
                refine lv_iload_n hx hb dX12_laysOrder_133 rfl (lv_at hl 2 rfl) ?_
                refine lv_bipush (v := 7) hx hb dX12_laysOrder_134 (by decide) ?_
                obtain ⟨r_27, S_28, h_29, hf⟩ := z_bd hf
                refine z_cVI (As := [.int x_21, .int (7 : Int32)]) (rest := [.int r_24]) X hK hE hD hA hP hS (cm_own l D K cy ad S_25 _ _ _ _ h_29) (cwV 2 hts (z_gV wt_6_95 wt_6_97 wp_64 wt_1_13 wt_6_98) rfl rfl rfl ⟨rfl, yd_yX12_own⟩ ⟨Nat.le_of_ble_eq_true rfl, Nat.le_of_ble_eq_true rfl⟩) (va_recv hK hP (ci := 12) (q0 := 0) rfl (zM_0 cy ad S_25)) hl.1 rfl rfl (Nat.le_of_ble_eq_true rfl) dX12_laysOrder_136 (fun H locs hP hS => ?_)
                obtain ⟨j_145, ej_145, hf⟩ := z_nm hf
                have J_145 : ∀ (x_30 : Int32) (S_31 : zSt) (H : Heap) (locs : List Loc) (ls : Array Slot), j_145 x_30 S_31 = some ((), So) → va_P D vwCl (zM cy ad S_31) H → va_S A s.heap H locs → lv_has ls 6 [(0, .ref (ad 0)), (2, .int x_1), (3, .int x_30), (4, .int x_22)] → W p l e ({ frames := 3, cells := 0, slots := 0, locals := 70 }) s m ([.ref (ad 0), .int a_1] : List Value).toArray below meth c H locs 0 0 Q (F0 m 145 ls []) := by
                  intro x_30 S_31 H locs ls hf hP hS hl
                  have hf := z_e2 ej_145 hf
                  obtain ⟨x_32, ex_32, hf⟩ := z_nm hf
                  refine lv_iinc (v := x_32) (lv' := [(4, .int x_32), (0, .ref (ad 0)), (2, .int x_1), (3, .int x_30)]) hx hb dX12_laysOrder_145 hl (k := 3) rfl (by rw [ex_32]; rfl) (by decide) rfl (fun ls hl => ?_)
                  refine lv_goto (tgt := 118) hx hb dX12_laysOrder_148 (by decide) ?_
                  exact ih_118 x_30 x_32 S_31 _ _ _ hf hP hS (lv_sub hl [1, 2, 3, 0] rfl)
                refine lv_icmp_ge (tgt := 145) hx hb dX12_laysOrder_139 (by decide) (fun c_33 => ?_) (fun c_33 => ?_)
                · have hf := z_it c_33 hf
                  exact J_145 x_21 S_28 _ _ _ hf hP hS (lv_sub hl [0, 1, 2, 3] rfl)
                · have hf := z_if c_33 hf
                  refine lv_iload hx hb dX12_laysOrder_142 (lv_at hl 3 rfl) ?_
                  refine lv_istore_n (lv' := [(3, .int x_22), (0, .ref (ad 0)), (2, .int x_1), (4, .int x_22)]) hx hb dX12_laysOrder_144 rfl hl (by decide) rfl (fun ls hl => ?_)
                  exact J_145 x_22 S_28 _ _ _ hf hP hS (lv_sub hl [1, 2, 0, 3] rfl)
          exact L_118 zFU (0 : Int32) (1 : Int32) S_2 _ _ _ hf hP hS (lv_sub hl [2, 4, 1, 0] rfl)
        · have hf := z_it c_35 hf
          exact J_112  S_2 _ _ _ hf hP hS (lv_sub hl [] rfl)
  have L_9 : ∀ (n_9 : Nat) (x_38 : Int32) (S_39 : zSt) (H : Heap) (locs : List Loc) (ls : Array Slot), fm_laysOrder_L9 a_1 x_1 j_92 n_9 x_38 S_39 = some ((), So) → va_P D vwCl (zM cy ad S_39) H → va_S A s.heap H locs → lv_has ls 6 [(0, .ref (ad 0)), (1, .int a_1), (2, .int x_1), (3, .int x_38)] → W p l e ({ frames := 3, cells := 0, slots := 0, locals := 70 }) s m ([.ref (ad 0), .int a_1] : List Value).toArray below meth c H locs 0 0 Q (F0 m 9 ls []) := by
    intro n_9
    induction n_9 with
    | zero =>
      intro x_38 S_39 H locs ls hf hP hS hl
      exact z_no hf
    | succ n_9 ih_9 =>
      intro x_38 S_39 H locs ls hf hP hS hl
      rw [fm_laysOrder_L9] at hf
      refine lv_iload_n hx hb dX12_laysOrder_9 rfl (lv_at hl 3 rfl) ?_
      refine lv_iload_n hx hb dX12_laysOrder_10 rfl (lv_at hl 2 rfl) ?_
      refine lv_icmp_ge (tgt := 92) hx hb dX12_laysOrder_11 (by decide) (fun c_61 => ?_) (fun c_61 => ?_)
      · have hf := z_it c_61 hf
        exact J_92  S_39 _ _ _ hf hP hS (lv_sub hl [0, 1, 2] rfl)
      · have hf := z_if c_61 hf
        refine lv_aload_n hx hb dX12_laysOrder_14 rfl (lv_at hl 0 rfl) ?_
        refine va_get (D := D) (ci := 12) (v := .ref (ad 10)) (C := RX12) (T := TX12) (N := 36) hx hb hts k0 hown hK hP 0 (zM_0 cy ad S_39) rfl 23 (by decide) k3 (fun _ h9 => h9) rfl dX12_laysOrder_15 ?_
        refine lv_iload_n hx hb dX12_laysOrder_18 rfl (lv_at hl 3 rfl) ?_
        refine lv_aload_n hx hb dX12_laysOrder_19 rfl (lv_at hl 0 rfl) ?_
        refine lv_iload_n hx hb dX12_laysOrder_20 rfl (lv_at hl 3 rfl) ?_
        obtain ⟨r_40, S_41, h_42, hf⟩ := z_bd hf
        refine z_cVI (As := [.int x_38]) (rest := [.int x_38, .ref (ad 10)]) X hK hE hD hA hP hS (cm_worth l D K cy ad S_39 _ _ _ h_42) (cwV 1 hts (z_gV wt_6_116 wt_6_118 wp_67 wt_1_13 wt_6_119) rfl rfl rfl ⟨rfl, yd_yX12_worth⟩ ⟨Nat.le_of_ble_eq_true rfl, Nat.le_of_ble_eq_true rfl⟩) (va_recv hK hP (ci := 12) (q0 := 0) rfl (zM_0 cy ad S_39)) hl.1 rfl rfl (Nat.le_of_ble_eq_true rfl) dX12_laysOrder_21 (fun H locs hP hS => ?_)
        obtain ⟨h_43, hf⟩ := z_ix hf
        refine z_iast hx hb hK hP (hD S_41) hS 10 0 (zM_10 cy ad S_41) rfl h_43 (k := (x_38.toNatClampNeg)) rfl dX12_laysOrder_24 (fun H locs hP hS => ?_)
        obtain ⟨S_44, eS_44, hf⟩ := z_nm hf
        have hP := zW_putI hP eS_44 (by decide) rfl
        refine lv_iload_n hx hb dX12_laysOrder_25 rfl (lv_at hl 3 rfl) ?_
        refine lv_istore (lv' := [(4, .int x_38), (0, .ref (ad 0)), (1, .int a_1), (2, .int x_1), (3, .int x_38)]) hx hb dX12_laysOrder_26 hl (by decide) rfl (fun ls hl => ?_)
        obtain ⟨j_78, ej_78, hf⟩ := z_nm hf
        have J_78 : ∀ (x_45 : Int32) (S_46 : zSt) (H : Heap) (locs : List Loc) (ls : Array Slot), j_78 x_45 S_46 = some ((), So) → va_P D vwCl (zM cy ad S_46) H → va_S A s.heap H locs → lv_has ls 6 [(0, .ref (ad 0)), (1, .int a_1), (2, .int x_1), (3, .int x_38), (4, .int x_45)] → W p l e ({ frames := 3, cells := 0, slots := 0, locals := 70 }) s m ([.ref (ad 0), .int a_1] : List Value).toArray below meth c H locs 0 0 Q (F0 m 78 ls []) := by
          intro x_45 S_46 H locs ls hf hP hS hl
          have hf := z_e2 ej_78 hf
          refine lv_aload_n hx hb dX12_laysOrder_78 rfl (lv_at hl 0 rfl) ?_
          refine va_get (D := D) (ci := 12) (v := .ref (ad 9)) (C := RX12) (T := TX12) (N := 36) hx hb hts k0 hown hK hP 0 (zM_0 cy ad S_46) rfl 22 (by decide) k2 (fun _ h9 => h9) rfl dX12_laysOrder_79 ?_
          refine lv_iload hx hb dX12_laysOrder_82 (lv_at hl 4 rfl) ?_
          refine lv_iload_n hx hb dX12_laysOrder_84 rfl (lv_at hl 3 rfl) ?_
          obtain ⟨h_47, hf⟩ := z_ix hf
          refine z_iast hx hb hK hP (hD S_46) hS 9 0 (zM_9 cy ad S_46) rfl h_47 (k := (x_45.toNatClampNeg)) rfl dX12_laysOrder_85 (fun H locs hP hS => ?_)
          obtain ⟨S_48, eS_48, hf⟩ := z_nm hf
          have hP := zW_putI hP eS_48 (by decide) rfl
          obtain ⟨x_49, ex_49, hf⟩ := z_nm hf
          refine lv_iinc (v := x_49) (lv' := [(3, .int x_49), (0, .ref (ad 0)), (1, .int a_1), (2, .int x_1), (4, .int x_45)]) hx hb dX12_laysOrder_86 hl (k := 3) rfl (by rw [ex_49]; rfl) (by decide) rfl (fun ls hl => ?_)
          refine lv_goto (tgt := 9) hx hb dX12_laysOrder_89 (by decide) ?_
          exact ih_9 x_49 S_48 _ _ _ hf hP hS (lv_sub hl [1, 2, 3, 0] rfl)
        have L_28 : ∀ (n_28 : Nat) (x_50 : Int32) (S_51 : zSt) (H : Heap) (locs : List Loc) (ls : Array Slot), fm_laysOrder_L28 a_1 x_1 x_38 j_78 n_28 x_50 S_51 = some ((), So) → va_P D vwCl (zM cy ad S_51) H → va_S A s.heap H locs → lv_has ls 6 [(0, .ref (ad 0)), (1, .int a_1), (2, .int x_1), (3, .int x_38), (4, .int x_50)] → W p l e ({ frames := 3, cells := 0, slots := 0, locals := 70 }) s m ([.ref (ad 0), .int a_1] : List Value).toArray below meth c H locs 0 0 Q (F0 m 28 ls []) := by
          intro n_28
          induction n_28 with
          | zero =>
            intro x_50 S_51 H locs ls hf hP hS hl
            exact z_no hf
          | succ n_28 ih_28 =>
            intro x_50 S_51 H locs ls hf hP hS hl
            rw [fm_laysOrder_L28] at hf
            refine lv_iload hx hb dX12_laysOrder_28 (lv_at hl 4 rfl) ?_
            refine lv_if_le (tgt := 78) hx hb dX12_laysOrder_30 (by decide) (fun c_60 => ?_) (fun c_60 => ?_)
            · have hf := z_it c_60 hf
              exact J_78 x_50 S_51 _ _ _ hf hP hS (lv_sub hl [0, 1, 2, 3, 4] rfl)
            · have hf := z_if c_60 hf
              refine lv_aload_n hx hb dX12_laysOrder_33 rfl (lv_at hl 0 rfl) ?_
              refine va_get (D := D) (ci := 12) (v := .ref (ad 10)) (C := RX12) (T := TX12) (N := 36) hx hb hts k0 hown hK hP 0 (zM_0 cy ad S_51) rfl 23 (by decide) k3 (fun _ h9 => h9) rfl dX12_laysOrder_34 ?_
              refine lv_aload_n hx hb dX12_laysOrder_37 rfl (lv_at hl 0 rfl) ?_
              refine va_get (D := D) (ci := 12) (v := .ref (ad 9)) (C := RX12) (T := TX12) (N := 36) hx hb hts k0 hown hK hP 0 (zM_0 cy ad S_51) rfl 22 (by decide) k2 (fun _ h9 => h9) rfl dX12_laysOrder_38 ?_
              refine lv_iload hx hb dX12_laysOrder_41 (lv_at hl 4 rfl) ?_
              refine lv_iconst (v := 1) hx hb dX12_laysOrder_43 (by decide) ?_
              refine lv_isub hx hb dX12_laysOrder_44 ?_
              obtain ⟨h_52, hf⟩ := z_ix hf
              refine z_iald hx hb hK hP 9 0 (zM_9 cy ad S_51) rfl h_52 (k := ((x_50 - (1 : Int32)).toNatClampNeg)) rfl dX12_laysOrder_45 ?_
              obtain ⟨h_53, hf⟩ := z_ix hf
              refine z_iald hx hb hK hP 10 0 (zM_10 cy ad S_51) rfl h_53 (k := ((S_51.1 9 ((x_50 - (1 : Int32)).toNatClampNeg)).toNatClampNeg)) rfl dX12_laysOrder_46 ?_
              refine lv_aload_n hx hb dX12_laysOrder_47 rfl (lv_at hl 0 rfl) ?_
              refine va_get (D := D) (ci := 12) (v := .ref (ad 10)) (C := RX12) (T := TX12) (N := 36) hx hb hts k0 hown hK hP 0 (zM_0 cy ad S_51) rfl 23 (by decide) k3 (fun _ h9 => h9) rfl dX12_laysOrder_48 ?_
              refine lv_iload_n hx hb dX12_laysOrder_51 rfl (lv_at hl 3 rfl) ?_
              obtain ⟨h_54, hf⟩ := z_ix hf
              refine z_iald hx hb hK hP 10 0 (zM_10 cy ad S_51) rfl h_54 (k := (x_38.toNatClampNeg)) rfl dX12_laysOrder_52 ?_
              refine lv_icmp_ge (tgt := 78) hx hb dX12_laysOrder_53 (by decide) (fun c_59 => ?_) (fun c_59 => ?_)
              · have hf := z_it c_59 hf
                exact J_78 x_50 S_51 _ _ _ hf hP hS (lv_sub hl [0, 1, 2, 3, 4] rfl)
              · have hf := z_if c_59 hf
                refine lv_aload_n hx hb dX12_laysOrder_56 rfl (lv_at hl 0 rfl) ?_
                refine va_get (D := D) (ci := 12) (v := .ref (ad 9)) (C := RX12) (T := TX12) (N := 36) hx hb hts k0 hown hK hP 0 (zM_0 cy ad S_51) rfl 22 (by decide) k2 (fun _ h9 => h9) rfl dX12_laysOrder_57 ?_
                refine lv_iload hx hb dX12_laysOrder_60 (lv_at hl 4 rfl) ?_
                refine lv_aload_n hx hb dX12_laysOrder_62 rfl (lv_at hl 0 rfl) ?_
                refine va_get (D := D) (ci := 12) (v := .ref (ad 9)) (C := RX12) (T := TX12) (N := 36) hx hb hts k0 hown hK hP 0 (zM_0 cy ad S_51) rfl 22 (by decide) k2 (fun _ h9 => h9) rfl dX12_laysOrder_63 ?_
                refine lv_iload hx hb dX12_laysOrder_66 (lv_at hl 4 rfl) ?_
                refine lv_iconst (v := 1) hx hb dX12_laysOrder_68 (by decide) ?_
                refine lv_isub hx hb dX12_laysOrder_69 ?_
                obtain ⟨h_55, hf⟩ := z_ix hf
                refine z_iald hx hb hK hP 9 0 (zM_9 cy ad S_51) rfl h_55 (k := ((x_50 - (1 : Int32)).toNatClampNeg)) rfl dX12_laysOrder_70 ?_
                obtain ⟨h_56, hf⟩ := z_ix hf
                refine z_iast hx hb hK hP (hD S_51) hS 9 0 (zM_9 cy ad S_51) rfl h_56 (k := (x_50.toNatClampNeg)) rfl dX12_laysOrder_71 (fun H locs hP hS => ?_)
                obtain ⟨S_57, eS_57, hf⟩ := z_nm hf
                have hP := zW_putI hP eS_57 (by decide) rfl
                obtain ⟨x_58, ex_58, hf⟩ := z_nm hf
                refine lv_iinc (v := x_58) (lv' := [(4, .int x_58), (0, .ref (ad 0)), (1, .int a_1), (2, .int x_1), (3, .int x_38)]) hx hb dX12_laysOrder_72 hl (k := 4) rfl (by rw [ex_58]; rfl) (by decide) rfl (fun ls hl => ?_)
                refine lv_goto (tgt := 28) hx hb dX12_laysOrder_75 (by decide) ?_
                exact ih_28 x_58 S_57 _ _ _ hf hP hS (lv_sub hl [1, 2, 3, 4, 0] rfl)
        exact L_28 zFU x_38 S_44 _ _ _ hf hP hS (lv_sub hl [1, 2, 3, 4, 0] rfl)
  exact L_9 zFU (0 : Int32) S_0 _ _ _ hf hP hS (lv_sub hl [2, 3, 1, 0] rfl)
def fm_order (S_0 : zSt) (a_1 : Int32) : Option (Int32 × zSt) :=
  zbd (fm_isHouse S_0 a_1) fun r_1 S_2 =>
  if r_1 = 0 then (
  some ((-1 : Int32), S_2)) else (
  zbd (fm_laysOrder S_2 (1 : Int32)) fun _ S_5 =>
  zck (zix a_1 9) <|
  some (S_5.1 9 (a_1.toNatClampNeg), S_5))
set_option maxHeartbeats 4000000 in
set_option maxRecDepth 100000 in
theorem cm_order (l : Launch) (D : va_G) (K : (Nat → Nat) × (Nat → Nat)) (cy : Nat → ClassId) (ad : Nat → Nat) (S_0 : zSt) (a_1 : Int32) (ro : Int32) (So : zSt) (hf : fm_order S_0 a_1 = some (ro, So)) : zMI l yX12_order (zws yX12_order cX12_order 2 (Option.some .int)) ({ frames := 4, cells := 0, slots := 0, locals := 95 }) D (zTy cy) K (zM cy ad) [.ref (ad 0), .int a_1] S_0 ro So := by
  refine z_metI (own := RX12) (lv := [(0, .ref (ad 0)), (1, .int a_1)]) (by decide) rfl rfl (Nat.le_of_ble_eq_true rfl) rfl ?_
  intro p e s m below meth c A Q X hK hE hD hA hret hP hS ls hl
  obtain ⟨hx, hb, hml, hown, hts⟩ := id X
  have k0 := (fun w h => List.mem_cons_of_mem _ (zFX12 w h) : ∀ w ∈ u_ws RX12 TX12 36, w ∈ zws yX12_order cX12_order 2 (Option.some .int))
  have k1 := hts _ (List.mem_cons_of_mem _ wt_5_117)
  refine lv_aload_n hx hb dX12_order_0 rfl (lv_at hl 0 rfl) ?_
  refine lv_iload_n hx hb dX12_order_1 rfl (lv_at hl 1 rfl) ?_
  obtain ⟨r_1, S_2, h_3, hf⟩ := z_bd hf
  refine z_cVI (As := [.int a_1]) (rest := []) X hK hE hD hA hP hS (cm_isHouse l D K cy ad S_0 _ _ _ h_3) (cwV 1 hts (z_gV wt_6_90 wt_6_92 wp_63 wt_1_13 wt_6_93) rfl rfl rfl ⟨rfl, yd_yX12_isHouse⟩ ⟨Nat.le_of_ble_eq_true rfl, Nat.le_of_ble_eq_true rfl⟩) (va_recv hK hP (ci := 12) (q0 := 0) rfl (zM_0 cy ad S_0)) hl.1 rfl rfl (Nat.le_of_ble_eq_true rfl) dX12_order_2 (fun H locs hP hS => ?_)
  refine lv_if_ne (tgt := 10) hx hb dX12_order_5 (by decide) (fun c_8 => ?_) (fun c_8 => ?_)
  · have hf := z_if c_8 hf
    refine lv_aload_n hx hb dX12_order_10 rfl (lv_at hl 0 rfl) ?_
    refine lv_iconst (v := 1) hx hb dX12_order_11 (by decide) ?_
    obtain ⟨r_4, S_5, h_6, hf⟩ := z_bd hf
    refine z_cVV (As := [.int (1 : Int32)]) (rest := []) X hK hE hD hA hP hS (cm_laysOrder l D K cy ad S_2 _ _ h_6) (cwV 1 hts (z_gV wt_6_112 wt_6_114 wp_66 wt_1_13 wt_6_115) rfl rfl rfl ⟨rfl, yd_yX12_laysOrder⟩ ⟨Nat.le_of_ble_eq_true rfl, Nat.le_of_ble_eq_true rfl⟩) (va_recv hK hP (ci := 12) (q0 := 0) rfl (zM_0 cy ad S_2)) hl.1 rfl rfl (Nat.le_of_ble_eq_true rfl) dX12_order_12 (fun H locs hP hS => ?_)
    refine lv_aload_n hx hb dX12_order_15 rfl (lv_at hl 0 rfl) ?_
    refine va_get (D := D) (ci := 12) (v := .ref (ad 9)) (C := RX12) (T := TX12) (N := 36) hx hb hts k0 hown hK hP 0 (zM_0 cy ad S_5) rfl 22 (by decide) k1 (fun _ h9 => h9) rfl dX12_order_16 ?_
    refine lv_iload_n hx hb dX12_order_19 rfl (lv_at hl 1 rfl) ?_
    obtain ⟨h_7, hf⟩ := z_ix hf
    refine z_iald hx hb hK hP 9 0 (zM_9 cy ad S_5) rfl h_7 (k := (a_1.toNatClampNeg)) rfl dX12_order_20 ?_
    obtain ⟨h1, h2⟩ := z_s2 hf
    subst h1 h2
    exact hret _ _ _ _ hP hS dX12_order_21
  · have hf := z_it c_8 hf
    refine lv_iconst (v := -1) hx hb dX12_order_8 (by decide) ?_
    obtain ⟨h1, h2⟩ := z_s2 hf
    subst h1 h2
    exact hret _ _ _ _ hP hS dX12_order_9
def fm_loaf (S_0 : zSt) (a_1 : Int32) : Option (Int32 × zSt) :=
  zbd (fm_own S_0 a_1 (3 : Int32)) fun r_1 S_2 =>
  zbd (fm_own S_2 a_1 (0 : Int32)) fun r_4 S_5 =>
  znm (fun (x_7 : Int32) (S_8 : zSt) =>
  some (x_7, S_8)) fun j_30 =>
  if r_4 ≤ r_1 then (
  zbd (fm_own S_5 a_1 (0 : Int32)) fun r_9 S_10 =>
  j_30 r_9 S_10) else (
  zbd (fm_own S_5 a_1 (3 : Int32)) fun r_12 S_13 =>
  j_30 r_12 S_13)
set_option maxHeartbeats 4000000 in
set_option maxRecDepth 100000 in
theorem cm_loaf (l : Launch) (D : va_G) (K : (Nat → Nat) × (Nat → Nat)) (cy : Nat → ClassId) (ad : Nat → Nat) (S_0 : zSt) (a_1 : Int32) (ro : Int32) (So : zSt) (hf : fm_loaf S_0 a_1 = some (ro, So)) : zMI l yX12_loaf (zws yX12_loaf cX12_loaf 2 (Option.some .int)) ({ frames := 1, cells := 0, slots := 0, locals := 22 }) D (zTy cy) K (zM cy ad) [.ref (ad 0), .int a_1] S_0 ro So := by
  refine z_metI (own := RX12) (lv := [(0, .ref (ad 0)), (1, .int a_1)]) (by decide) rfl rfl (Nat.le_of_ble_eq_true rfl) rfl ?_
  intro p e s m below meth c A Q X hK hE hD hA hret hP hS ls hl
  obtain ⟨hx, hb, hml, hown, hts⟩ := id X
  refine lv_aload_n hx hb dX12_loaf_0 rfl (lv_at hl 0 rfl) ?_
  refine lv_iload_n hx hb dX12_loaf_1 rfl (lv_at hl 1 rfl) ?_
  refine lv_iconst (v := 3) hx hb dX12_loaf_2 (by decide) ?_
  obtain ⟨r_1, S_2, h_3, hf⟩ := z_bd hf
  refine z_cVI (As := [.int a_1, .int (3 : Int32)]) (rest := []) X hK hE hD hA hP hS (cm_own l D K cy ad S_0 _ _ _ _ h_3) (cwV 2 hts (z_gV wt_6_95 wt_6_97 wp_64 wt_1_13 wt_6_98) rfl rfl rfl ⟨rfl, yd_yX12_own⟩ ⟨Nat.le_of_ble_eq_true rfl, Nat.le_of_ble_eq_true rfl⟩) (va_recv hK hP (ci := 12) (q0 := 0) rfl (zM_0 cy ad S_0)) hl.1 rfl rfl (Nat.le_of_ble_eq_true rfl) dX12_loaf_3 (fun H locs hP hS => ?_)
  refine lv_aload_n hx hb dX12_loaf_6 rfl (lv_at hl 0 rfl) ?_
  refine lv_iload_n hx hb dX12_loaf_7 rfl (lv_at hl 1 rfl) ?_
  refine lv_iconst (v := 0) hx hb dX12_loaf_8 (by decide) ?_
  obtain ⟨r_4, S_5, h_6, hf⟩ := z_bd hf
  refine z_cVI (As := [.int a_1, .int (0 : Int32)]) (rest := [.int r_1]) X hK hE hD hA hP hS (cm_own l D K cy ad S_2 _ _ _ _ h_6) (cwV 2 hts (z_gV wt_6_95 wt_6_97 wp_64 wt_1_13 wt_6_98) rfl rfl rfl ⟨rfl, yd_yX12_own⟩ ⟨Nat.le_of_ble_eq_true rfl, Nat.le_of_ble_eq_true rfl⟩) (va_recv hK hP (ci := 12) (q0 := 0) rfl (zM_0 cy ad S_2)) hl.1 rfl rfl (Nat.le_of_ble_eq_true rfl) dX12_loaf_9 (fun H locs hP hS => ?_)
  obtain ⟨j_30, ej_30, hf⟩ := z_nm hf
  have J_30 : ∀ (x_7 : Int32) (S_8 : zSt) (H : Heap) (locs : List Loc) (ls : Array Slot), j_30 x_7 S_8 = some (ro, So) → va_P D vwCl (zM cy ad S_8) H → va_S A s.heap H locs → lv_has ls 2 [] → W p l e ({ frames := 1, cells := 0, slots := 0, locals := 22 }) s m ([.ref (ad 0), .int a_1] : List Value).toArray below meth c H locs 0 0 Q (F0 m 30 ls [.int x_7]) := by
    intro x_7 S_8 H locs ls hf hP hS hl
    have hf := z_e2 ej_30 hf
    obtain ⟨h1, h2⟩ := z_s2 hf
    subst h1 h2
    exact hret _ _ _ _ hP hS dX12_loaf_30
  refine lv_icmp_ge (tgt := 24) hx hb dX12_loaf_12 (by decide) (fun c_15 => ?_) (fun c_15 => ?_)
  · have hf := z_it c_15 hf
    refine lv_aload_n hx hb dX12_loaf_24 rfl (lv_at hl 0 rfl) ?_
    refine lv_iload_n hx hb dX12_loaf_25 rfl (lv_at hl 1 rfl) ?_
    refine lv_iconst (v := 0) hx hb dX12_loaf_26 (by decide) ?_
    obtain ⟨r_9, S_10, h_11, hf⟩ := z_bd hf
    refine z_cVI (As := [.int a_1, .int (0 : Int32)]) (rest := []) X hK hE hD hA hP hS (cm_own l D K cy ad S_5 _ _ _ _ h_11) (cwV 2 hts (z_gV wt_6_95 wt_6_97 wp_64 wt_1_13 wt_6_98) rfl rfl rfl ⟨rfl, yd_yX12_own⟩ ⟨Nat.le_of_ble_eq_true rfl, Nat.le_of_ble_eq_true rfl⟩) (va_recv hK hP (ci := 12) (q0 := 0) rfl (zM_0 cy ad S_5)) hl.1 rfl rfl (Nat.le_of_ble_eq_true rfl) dX12_loaf_27 (fun H locs hP hS => ?_)
    exact J_30 r_9 S_10 _ _ _ hf hP hS (lv_sub hl [] rfl)
  · have hf := z_if c_15 hf
    refine lv_aload_n hx hb dX12_loaf_15 rfl (lv_at hl 0 rfl) ?_
    refine lv_iload_n hx hb dX12_loaf_16 rfl (lv_at hl 1 rfl) ?_
    refine lv_iconst (v := 3) hx hb dX12_loaf_17 (by decide) ?_
    obtain ⟨r_12, S_13, h_14, hf⟩ := z_bd hf
    refine z_cVI (As := [.int a_1, .int (3 : Int32)]) (rest := []) X hK hE hD hA hP hS (cm_own l D K cy ad S_5 _ _ _ _ h_14) (cwV 2 hts (z_gV wt_6_95 wt_6_97 wp_64 wt_1_13 wt_6_98) rfl rfl rfl ⟨rfl, yd_yX12_own⟩ ⟨Nat.le_of_ble_eq_true rfl, Nat.le_of_ble_eq_true rfl⟩) (va_recv hK hP (ci := 12) (q0 := 0) rfl (zM_0 cy ad S_5)) hl.1 rfl rfl (Nat.le_of_ble_eq_true rfl) dX12_loaf_18 (fun H locs hP hS => ?_)
    refine lv_goto (tgt := 30) hx hb dX12_loaf_21 (by decide) ?_
    exact J_30 r_12 S_13 _ _ _ hf hP hS (lv_sub hl [] rfl)
def fm_heats (S_0 : zSt) (a_1 : Int32) : Option (Int32 × zSt) :=
  zbd (fm_loaf S_0 a_1) fun r_1 S_2 =>
  if r_1 = 0 then (
  some ((0 : Int32), S_2)) else (
  zbd (fm_own S_2 a_1 (1 : Int32)) fun r_4 S_5 =>
  znm (fun (x_7 : Int32) (S_8 : zSt) =>
  zbd (fm_own S_8 a_1 (2 : Int32)) fun r_9 S_10 =>
  znm (zpI S_10 0 24 ((S_8.1 0 24) + ((x_7 * (S_8.1 1 0)) - ((S_8.1 1 1) * r_9)))) fun S_12 =>
  znm (fun (x_13 : Int32) (S_14 : zSt) =>
  znm (zpI S_14 0 24 x_13) fun S_15 =>
  some (x_7, S_15)) fun j_102 =>
  if 0 ≤ (S_12.1 0 24) then (
  j_102 (S_12.1 0 24) S_12) else (
  j_102 (0 : Int32) S_12)) fun j_54 =>
  if (S_2.1 0 24) < r_4 then (
  zbd (fm_own S_5 a_1 (1 : Int32)) fun r_17 S_18 =>
  zck (znz (S_18.1 1 0)) <|
  j_54 ((((r_17 - (S_18.1 0 24)) + (S_18.1 1 0)) - (1 : Int32)) / (S_18.1 1 0)) S_18) else (
  j_54 (0 : Int32) S_5))
set_option maxHeartbeats 4000000 in
set_option maxRecDepth 100000 in
theorem cm_heats (l : Launch) (D : va_G) (K : (Nat → Nat) × (Nat → Nat)) (cy : Nat → ClassId) (ad : Nat → Nat) (S_0 : zSt) (a_1 : Int32) (ro : Int32) (So : zSt) (hf : fm_heats S_0 a_1 = some (ro, So)) : zMI l yX12_heats (zws yX12_heats cX12_heats 3 (Option.some .int)) ({ frames := 2, cells := 0, slots := 0, locals := 43 }) D (zTy cy) K (zM cy ad) [.ref (ad 0), .int a_1] S_0 ro So := by
  refine z_metI (own := RX12) (lv := [(0, .ref (ad 0)), (1, .int a_1)]) (by decide) rfl rfl (Nat.le_of_ble_eq_true rfl) rfl ?_
  intro p e s m below meth c A Q X hK hE hD hA hret hP hS ls hl
  obtain ⟨hx, hb, hml, hown, hts⟩ := id X
  have k0 := (fun w h => List.mem_cons_of_mem _ (zFX12 w h) : ∀ w ∈ u_ws RX12 TX12 36, w ∈ zws yX12_heats cX12_heats 3 (Option.some .int))
  have k1 := hts _ (List.mem_cons_of_mem _ wt_5_119)
  have k2 := hts _ (List.mem_cons_of_mem _ wt_5_95)
  refine lv_aload_n hx hb dX12_heats_0 rfl (lv_at hl 0 rfl) ?_
  refine lv_iload_n hx hb dX12_heats_1 rfl (lv_at hl 1 rfl) ?_
  obtain ⟨r_1, S_2, h_3, hf⟩ := z_bd hf
  refine z_cVI (As := [.int a_1]) (rest := []) X hK hE hD hA hP hS (cm_loaf l D K cy ad S_0 _ _ _ h_3) (cwV 1 hts (z_gV wt_6_149 wt_6_151 wp_73 wt_1_13 wt_6_152) rfl rfl rfl ⟨rfl, yd_yX12_loaf⟩ ⟨Nat.le_of_ble_eq_true rfl, Nat.le_of_ble_eq_true rfl⟩) (va_recv hK hP (ci := 12) (q0 := 0) rfl (zM_0 cy ad S_0)) hl.1 rfl rfl (Nat.le_of_ble_eq_true rfl) dX12_heats_2 (fun H locs hP hS => ?_)
  refine lv_if_ne (tgt := 10) hx hb dX12_heats_5 (by decide) (fun c_22 => ?_) (fun c_22 => ?_)
  · have hf := z_if c_22 hf
    refine lv_aload_n hx hb dX12_heats_10 rfl (lv_at hl 0 rfl) ?_
    refine va_get (D := D) (ci := 12) (v := .int (S_2.1 0 24)) (C := RX12) (T := TX12) (N := 36) hx hb hts k0 hown hK hP 0 (zM_0 cy ad S_2) rfl 24 (by decide) k1 (fun _ h9 => h9) rfl dX12_heats_11 ?_
    refine lv_aload_n hx hb dX12_heats_14 rfl (lv_at hl 0 rfl) ?_
    refine lv_iload_n hx hb dX12_heats_15 rfl (lv_at hl 1 rfl) ?_
    refine lv_iconst (v := 1) hx hb dX12_heats_16 (by decide) ?_
    obtain ⟨r_4, S_5, h_6, hf⟩ := z_bd hf
    refine z_cVI (As := [.int a_1, .int (1 : Int32)]) (rest := [.int (S_2.1 0 24)]) X hK hE hD hA hP hS (cm_own l D K cy ad S_2 _ _ _ _ h_6) (cwV 2 hts (z_gV wt_6_95 wt_6_97 wp_64 wt_1_13 wt_6_98) rfl rfl rfl ⟨rfl, yd_yX12_own⟩ ⟨Nat.le_of_ble_eq_true rfl, Nat.le_of_ble_eq_true rfl⟩) (va_recv hK hP (ci := 12) (q0 := 0) rfl (zM_0 cy ad S_2)) hl.1 rfl rfl (Nat.le_of_ble_eq_true rfl) dX12_heats_17 (fun H locs hP hS => ?_)
    obtain ⟨j_54, ej_54, hf⟩ := z_nm hf
    have J_54 : ∀ (x_7 : Int32) (S_8 : zSt) (H : Heap) (locs : List Loc) (ls : Array Slot), j_54 x_7 S_8 = some (ro, So) → va_P D vwCl (zM cy ad S_8) H → va_S A s.heap H locs → lv_has ls 3 [(0, .ref (ad 0)), (1, .int a_1)] → W p l e ({ frames := 2, cells := 0, slots := 0, locals := 43 }) s m ([.ref (ad 0), .int a_1] : List Value).toArray below meth c H locs 0 0 Q (F0 m 54 ls [.int x_7]) := by
      intro x_7 S_8 H locs ls hf hP hS hl
      have hf := z_e2 ej_54 hf
      refine lv_istore_n (lv' := [(2, .int x_7), (0, .ref (ad 0)), (1, .int a_1)]) hx hb dX12_heats_54 rfl hl (by decide) rfl (fun ls hl => ?_)
      refine lv_aload_n hx hb dX12_heats_55 rfl (lv_at hl 1 rfl) ?_
      refine lv_dup hx hb dX12_heats_56 rfl ?_
      refine va_get (D := D) (ci := 12) (v := .int (S_8.1 0 24)) (C := RX12) (T := TX12) (N := 36) hx hb hts k0 hown hK hP 0 (zM_0 cy ad S_8) rfl 24 (by decide) k1 (fun _ h9 => h9) rfl dX12_heats_57 ?_
      refine lv_iload_n hx hb dX12_heats_60 rfl (lv_at hl 0 rfl) ?_
      refine lv_aload_n hx hb dX12_heats_61 rfl (lv_at hl 1 rfl) ?_
      refine va_get (D := D) (ci := 12) (v := .ref (ad 1)) (C := RX12) (T := TX12) (N := 36) hx hb hts k0 hown hK hP 0 (zM_0 cy ad S_8) rfl 0 (by decide) k2 (fun _ h9 => h9) rfl dX12_heats_62 ?_
      refine lv_iconst (v := 0) hx hb dX12_heats_65 (by decide) ?_
      refine z_iald hx hb hK hP 1 0 (zM_1 cy ad S_8) rfl (vp_in_iff.mpr (by decide)) (k := 0) (by decide) dX12_heats_66 ?_
      refine lv_imul hx hb dX12_heats_67 ?_
      refine lv_aload_n hx hb dX12_heats_68 rfl (lv_at hl 1 rfl) ?_
      refine va_get (D := D) (ci := 12) (v := .ref (ad 1)) (C := RX12) (T := TX12) (N := 36) hx hb hts k0 hown hK hP 0 (zM_0 cy ad S_8) rfl 0 (by decide) k2 (fun _ h9 => h9) rfl dX12_heats_69 ?_
      refine lv_iconst (v := 1) hx hb dX12_heats_72 (by decide) ?_
      refine z_iald hx hb hK hP 1 0 (zM_1 cy ad S_8) rfl (vp_in_iff.mpr (by decide)) (k := 1) (by decide) dX12_heats_73 ?_
      refine lv_aload_n hx hb dX12_heats_74 rfl (lv_at hl 1 rfl) ?_
      refine lv_iload_n hx hb dX12_heats_75 rfl (lv_at hl 2 rfl) ?_
      refine lv_iconst (v := 2) hx hb dX12_heats_76 (by decide) ?_
      obtain ⟨r_9, S_10, h_11, hf⟩ := z_bd hf
      refine z_cVI (As := [.int a_1, .int (2 : Int32)]) (rest := [.int (S_8.1 1 1), .int (x_7 * (S_8.1 1 0)), .int (S_8.1 0 24), .ref (ad 0)]) X hK hE hD hA hP hS (cm_own l D K cy ad S_8 _ _ _ _ h_11) (cwV 2 hts (z_gV wt_6_95 wt_6_97 wp_64 wt_1_13 wt_6_98) rfl rfl rfl ⟨rfl, yd_yX12_own⟩ ⟨Nat.le_of_ble_eq_true rfl, Nat.le_of_ble_eq_true rfl⟩) (va_recv hK hP (ci := 12) (q0 := 0) rfl (zM_0 cy ad S_8)) hl.1 rfl rfl (Nat.le_of_ble_eq_true rfl) dX12_heats_77 (fun H locs hP hS => ?_)
      refine lv_imul hx hb dX12_heats_80 ?_
      refine lv_isub hx hb dX12_heats_81 ?_
      refine lv_iadd hx hb dX12_heats_82 ?_
      refine va_put (D := D) (ci := 12) (v := .int ((S_8.1 0 24) + ((x_7 * (S_8.1 1 0)) - ((S_8.1 1 1) * r_9)))) (ty := .int) (C := RX12) (T := TX12) (N := 36) hx hb hts k0 tyX12 tyX12_ok nmX12 hown hK hP (hD S_10) hS 0 (zM_0 cy ad S_10) rfl 24 (by decide) k1 (fun _ h9 => h9) rfl (tyX12_ok 24 (by decide)) rfl rfl (Nat.le_of_ble_eq_true rfl) dX12_heats_83 (fun H locs hP _ hS => ?_)
      obtain ⟨S_12, eS_12, hf⟩ := z_nm hf
      have hP := zW_putI hP eS_12 (by decide) rfl
      refine lv_aload_n hx hb dX12_heats_86 rfl (lv_at hl 1 rfl) ?_
      refine lv_aload_n hx hb dX12_heats_87 rfl (lv_at hl 1 rfl) ?_
      refine va_get (D := D) (ci := 12) (v := .int (S_12.1 0 24)) (C := RX12) (T := TX12) (N := 36) hx hb hts k0 hown hK hP 0 (zM_0 cy ad S_12) rfl 24 (by decide) k1 (fun _ h9 => h9) rfl dX12_heats_88 ?_
      obtain ⟨j_102, ej_102, hf⟩ := z_nm hf
      have J_102 : ∀ (x_13 : Int32) (S_14 : zSt) (H : Heap) (locs : List Loc) (ls : Array Slot), j_102 x_13 S_14 = some (ro, So) → va_P D vwCl (zM cy ad S_14) H → va_S A s.heap H locs → lv_has ls 3 [(2, .int x_7)] → W p l e ({ frames := 2, cells := 0, slots := 0, locals := 43 }) s m ([.ref (ad 0), .int a_1] : List Value).toArray below meth c H locs 0 0 Q (F0 m 102 ls [.int x_13, .ref (ad 0)]) := by
        intro x_13 S_14 H locs ls hf hP hS hl
        have hf := z_e2 ej_102 hf
        refine va_put (D := D) (ci := 12) (v := .int x_13) (ty := .int) (C := RX12) (T := TX12) (N := 36) hx hb hts k0 tyX12 tyX12_ok nmX12 hown hK hP (hD S_14) hS 0 (zM_0 cy ad S_14) rfl 24 (by decide) k1 (fun _ h9 => h9) rfl (tyX12_ok 24 (by decide)) rfl rfl (Nat.le_of_ble_eq_true rfl) dX12_heats_102 (fun H locs hP _ hS => ?_)
        obtain ⟨S_15, eS_15, hf⟩ := z_nm hf
        have hP := zW_putI hP eS_15 (by decide) rfl
        refine lv_iload_n hx hb dX12_heats_105 rfl (lv_at hl 0 rfl) ?_
        obtain ⟨h1, h2⟩ := z_s2 hf
        subst h1 h2
        exact hret _ _ _ _ hP hS dX12_heats_106
      refine lv_if_ge (tgt := 98) hx hb dX12_heats_91 (by decide) (fun c_16 => ?_) (fun c_16 => ?_)
      · have hf := z_it c_16 hf
        refine lv_aload_n hx hb dX12_heats_98 rfl (lv_at hl 1 rfl) ?_
        refine va_get (D := D) (ci := 12) (v := .int (S_12.1 0 24)) (C := RX12) (T := TX12) (N := 36) hx hb hts k0 hown hK hP 0 (zM_0 cy ad S_12) rfl 24 (by decide) k1 (fun _ h9 => h9) rfl dX12_heats_99 ?_
        exact J_102 (S_12.1 0 24) S_12 _ _ _ hf hP hS (lv_sub hl [0] rfl)
      · have hf := z_if c_16 hf
        refine lv_iconst (v := 0) hx hb dX12_heats_94 (by decide) ?_
        refine lv_goto (tgt := 102) hx hb dX12_heats_95 (by decide) ?_
        exact J_102 (0 : Int32) S_12 _ _ _ hf hP hS (lv_sub hl [0] rfl)
    refine lv_icmp_lt (tgt := 27) hx hb dX12_heats_20 (by decide) (fun c_21 => ?_) (fun c_21 => ?_)
    · have hf := z_it c_21 hf
      refine lv_aload_n hx hb dX12_heats_27 rfl (lv_at hl 0 rfl) ?_
      refine lv_iload_n hx hb dX12_heats_28 rfl (lv_at hl 1 rfl) ?_
      refine lv_iconst (v := 1) hx hb dX12_heats_29 (by decide) ?_
      obtain ⟨r_17, S_18, h_19, hf⟩ := z_bd hf
      refine z_cVI (As := [.int a_1, .int (1 : Int32)]) (rest := []) X hK hE hD hA hP hS (cm_own l D K cy ad S_5 _ _ _ _ h_19) (cwV 2 hts (z_gV wt_6_95 wt_6_97 wp_64 wt_1_13 wt_6_98) rfl rfl rfl ⟨rfl, yd_yX12_own⟩ ⟨Nat.le_of_ble_eq_true rfl, Nat.le_of_ble_eq_true rfl⟩) (va_recv hK hP (ci := 12) (q0 := 0) rfl (zM_0 cy ad S_5)) hl.1 rfl rfl (Nat.le_of_ble_eq_true rfl) dX12_heats_30 (fun H locs hP hS => ?_)
      refine lv_aload_n hx hb dX12_heats_33 rfl (lv_at hl 0 rfl) ?_
      refine va_get (D := D) (ci := 12) (v := .int (S_18.1 0 24)) (C := RX12) (T := TX12) (N := 36) hx hb hts k0 hown hK hP 0 (zM_0 cy ad S_18) rfl 24 (by decide) k1 (fun _ h9 => h9) rfl dX12_heats_34 ?_
      refine lv_isub hx hb dX12_heats_37 ?_
      refine lv_aload_n hx hb dX12_heats_38 rfl (lv_at hl 0 rfl) ?_
      refine va_get (D := D) (ci := 12) (v := .ref (ad 1)) (C := RX12) (T := TX12) (N := 36) hx hb hts k0 hown hK hP 0 (zM_0 cy ad S_18) rfl 0 (by decide) k2 (fun _ h9 => h9) rfl dX12_heats_39 ?_
      refine lv_iconst (v := 0) hx hb dX12_heats_42 (by decide) ?_
      refine z_iald hx hb hK hP 1 0 (zM_1 cy ad S_18) rfl (vp_in_iff.mpr (by decide)) (k := 0) (by decide) dX12_heats_43 ?_
      refine lv_iadd hx hb dX12_heats_44 ?_
      refine lv_iconst (v := 1) hx hb dX12_heats_45 (by decide) ?_
      refine lv_isub hx hb dX12_heats_46 ?_
      refine lv_aload_n hx hb dX12_heats_47 rfl (lv_at hl 0 rfl) ?_
      refine va_get (D := D) (ci := 12) (v := .ref (ad 1)) (C := RX12) (T := TX12) (N := 36) hx hb hts k0 hown hK hP 0 (zM_0 cy ad S_18) rfl 0 (by decide) k2 (fun _ h9 => h9) rfl dX12_heats_48 ?_
      refine lv_iconst (v := 0) hx hb dX12_heats_51 (by decide) ?_
      refine z_iald hx hb hK hP 1 0 (zM_1 cy ad S_18) rfl (vp_in_iff.mpr (by decide)) (k := 0) (by decide) dX12_heats_52 ?_
      obtain ⟨h_20, hf⟩ := z_nz hf
      refine lv_idiv hx hb dX12_heats_53 h_20 ?_
      exact J_54 ((((r_17 - (S_18.1 0 24)) + (S_18.1 1 0)) - (1 : Int32)) / (S_18.1 1 0)) S_18 _ _ _ hf hP hS (lv_sub hl [0, 1] rfl)
    · have hf := z_if c_21 hf
      refine lv_iconst (v := 0) hx hb dX12_heats_23 (by decide) ?_
      refine lv_goto (tgt := 54) hx hb dX12_heats_24 (by decide) ?_
      exact J_54 (0 : Int32) S_5 _ _ _ hf hP hS (lv_sub hl [0, 1] rfl)
  · have hf := z_it c_22 hf
    refine lv_iconst (v := 0) hx hb dX12_heats_8 (by decide) ?_
    obtain ⟨h1, h2⟩ := z_s2 hf
    subst h1 h2
    exact hret _ _ _ _ hP hS dX12_heats_9
def fm_aDay_L104 (x_1 : Int32) (x_2 : Int32) (x_7 : Int32) (j_274 : zSt → Option (Int32 × zSt)) : Nat → Int32 → zSt → Option (Int32 × zSt)
  | 0, _, _ => none
  | n_104 + 1, x_30, S_31 =>
    if x_1 ≤ x_30 then (
    j_274  S_31) else (
    zck (zix x_30 9) <|
    znm (S_31.1 9 (x_30.toNatClampNeg)) fun x_33 =>
    zck (zix ((170 : Int32) + x_30) 1480) <|
    znm (zpI S_31 1 (((170 : Int32) + x_30).toNatClampNeg) x_33) fun S_35 =>
    zbd (fm_loaf S_35 x_33) fun r_36 S_37 =>
    zbd (fm_heats S_37 x_33) fun r_39 S_40 =>
    zbd (fm_adds S_40 x_33 (5 : Int32) r_39) fun _ S_43 =>
    zbd (fm_adds S_43 x_33 (3 : Int32) (-r_36)) fun _ S_46 =>
    znm (fun (x_48 : Int32) (S_49 : zSt) =>
    zck (zix (((20 : Int32) + ((16 : Int32) * x_33)) + (8 : Int32)) 1480) <|
    znm (zpI S_49 1 ((((20 : Int32) + ((16 : Int32) * x_33)) + (8 : Int32)).toNatClampNeg) x_48) fun S_51 =>
    znm (fun (S_52 : zSt) =>
    znm (x_30 + (1 : Int32)) fun x_53 =>
    fm_aDay_L104 x_1 x_2 x_7 j_274 n_104 x_53 S_52) fun j_268 =>
    if x_30 = x_7 then (
    znm (zpI S_51 1 8 ((S_51.1 1 8) + r_36)) fun S_65 =>
    j_268  S_65) else (
    znm (fun (x_54 : Int32) (S_55 : zSt) =>
    zbd (fm_adds S_55 x_33 (4 : Int32) (r_36 - x_54)) fun _ S_57 =>
    if x_30 ≤ 0 then (
    j_268  S_57) else (
    zck (zix (x_30 - (1 : Int32)) 9) <|
    zbd (fm_adds S_57 (S_57.1 9 ((x_30 - (1 : Int32)).toNatClampNeg)) (4 : Int32) x_54) fun _ S_61 =>
    j_268  S_61)) fun j_233 =>
    if x_30 = 0 then (
    j_233 (0 : Int32) S_51) else (
    j_233 (r_36 / (9 : Int32)) S_51))) fun j_197 =>
    if r_36 = 0 then (
    zbd (fm_own S_46 x_33 (8 : Int32)) fun r_67 S_68 =>
    j_197 (r_67 + (1 : Int32)) S_68) else (
    j_197 (0 : Int32) S_46))
def fm_aDay (S_0 : zSt) : Option (Int32 × zSt) :=
  znm (S_0.1 1 4) fun x_1 =>
  znm (fun (x_2 : Int32) (S_3 : zSt) =>
  zbd (fm_laysOrder S_3 (1 : Int32)) fun _ S_5 =>
  znm (fun (x_7 : Int32) (S_8 : zSt) =>
  znm (zpI S_8 0 24 (0 : Int32)) fun S_9 =>
  znm (zpI S_9 1 9 x_1) fun S_10 =>
  znm (fun (x_11 : Int32) (S_12 : zSt) =>
  znm (zpI S_12 1 10 x_11) fun S_13 =>
  znm (fun (S_14 : zSt) =>
  znm (fun (S_15 : zSt) =>
  znm (zpI S_15 1 5 ((S_15.1 1 5) + (1 : Int32))) fun S_16 =>
  znm (fun (x_17 : Int32) (S_18 : zSt) =>
  some (x_17, S_18)) fun j_332 =>
  if x_7 = (-1 : Int32) then (
  j_332 (0 : Int32) S_16) else (
  j_332 (1 : Int32) S_16)) fun j_312 =>
  if x_1 ≤ 0 then (
  j_312  S_14) else (
  zbd (fm_adds S_14 (S_14.1 9 0) (6 : Int32) (1 : Int32)) fun _ S_21 =>
  znm (fun (x_23 : Int32) (S_24 : zSt) =>
  zbd (fm_adds S_24 (S_21.1 9 0) (7 : Int32) x_23) fun _ S_26 =>
  j_312  S_26) fun j_309 =>
  if x_2 = 0 then (
  j_309 (0 : Int32) S_21) else (
  j_309 (1 : Int32) S_21))) fun j_274 =>
  fm_aDay_L104 x_1 x_2 x_7 j_274 zFU (0 : Int32) S_13) fun j_100 =>
  if x_7 = (-1 : Int32) then (
  j_100 (-1 : Int32) S_10) else (
  zck (zix x_7 9) <|
  j_100 (S_10.1 9 (x_7.toNatClampNeg)) S_10)) fun j_66 =>
  if (S_5.1 1 3) ≤ 0 then (
  j_66 (-1 : Int32) S_5) else (
  if x_1 ≤ 0 then (
  j_66 (-1 : Int32) S_5) else (
  zbd (fm_draw S_5 (100 : Int32)) fun r_74 S_75 =>
  if (S_75.1 1 3) ≤ r_74 then (
  j_66 (-1 : Int32) S_75) else (
  zbd (fm_draw S_75 x_1) fun r_77 S_78 =>
  j_66 r_77 S_78)))) fun j_24 =>
  if ((S_0.1 1 5) - (S_0.1 1 5) / (7 : Int32) * (7 : Int32)) = 0 then (
  j_24 (1 : Int32) S_0) else (
  j_24 (0 : Int32) S_0)
set_option maxHeartbeats 4000000 in
set_option maxRecDepth 100000 in
theorem cm_aDay (l : Launch) (D : va_G) (K : (Nat → Nat) × (Nat → Nat)) (cy : Nat → ClassId) (ad : Nat → Nat) (S_0 : zSt) (ro : Int32) (So : zSt) (hf : fm_aDay S_0 = some (ro, So)) : zMI l yX12_aDay (zws yX12_aDay cX12_aDay 8 (Option.some .int)) ({ frames := 4, cells := 0, slots := 0, locals := 95 }) D (zTy cy) K (zM cy ad) [.ref (ad 0)] S_0 ro So := by
  refine z_metI (own := RX12) (lv := [(0, .ref (ad 0))]) (by decide) rfl rfl (Nat.le_of_ble_eq_true rfl) rfl ?_
  intro p e s m below meth c A Q X hK hE hD hA hret hP hS ls hl
  obtain ⟨hx, hb, hml, hown, hts⟩ := id X
  have k0 := (fun w h => List.mem_cons_of_mem _ (zFX12 w h) : ∀ w ∈ u_ws RX12 TX12 36, w ∈ zws yX12_aDay cX12_aDay 8 (Option.some .int))
  have k1 := hts _ (List.mem_cons_of_mem _ wt_5_95)
  have k2 := hts _ (List.mem_cons_of_mem _ wt_5_119)
  have k3 := hts _ (List.mem_cons_of_mem _ wt_5_117)
  refine lv_aload_n hx hb dX12_aDay_0 rfl (lv_at hl 0 rfl) ?_
  refine va_get (D := D) (ci := 12) (v := .ref (ad 1)) (C := RX12) (T := TX12) (N := 36) hx hb hts k0 hown hK hP 0 (zM_0 cy ad S_0) rfl 0 (by decide) k1 (fun _ h9 => h9) rfl dX12_aDay_1 ?_
  refine lv_iconst (v := 4) hx hb dX12_aDay_4 (by decide) ?_
  refine z_iald hx hb hK hP 1 0 (zM_1 cy ad S_0) rfl (vp_in_iff.mpr (by decide)) (k := 4) (by decide) dX12_aDay_5 ?_
  refine lv_topi (fun x_1 ex_1 => ?_)
  have hf := z_nv ex_1 hf
  refine lv_istore_n (lv' := [(1, .int x_1), (0, .ref (ad 0))]) hx hb dX12_aDay_6 rfl hl (by decide) rfl (fun ls hl => ?_)
  refine lv_aload_n hx hb dX12_aDay_7 rfl (lv_at hl 1 rfl) ?_
  refine va_get (D := D) (ci := 12) (v := .ref (ad 1)) (C := RX12) (T := TX12) (N := 36) hx hb hts k0 hown hK hP 0 (zM_0 cy ad S_0) rfl 0 (by decide) k1 (fun _ h9 => h9) rfl dX12_aDay_8 ?_
  refine lv_iconst (v := 5) hx hb dX12_aDay_11 (by decide) ?_
  refine z_iald hx hb hK hP 1 0 (zM_1 cy ad S_0) rfl (vp_in_iff.mpr (by decide)) (k := 5) (by decide) dX12_aDay_12 ?_
  refine lv_bipush (v := 7) hx hb dX12_aDay_13 (by decide) ?_
  refine lv_irem hx hb dX12_aDay_15 (by decide) ?_
  obtain ⟨j_24, ej_24, hf⟩ := z_nm hf
  have J_24 : ∀ (x_2 : Int32) (S_3 : zSt) (H : Heap) (locs : List Loc) (ls : Array Slot), j_24 x_2 S_3 = some (ro, So) → va_P D vwCl (zM cy ad S_3) H → va_S A s.heap H locs → lv_has ls 8 [(0, .ref (ad 0)), (1, .int x_1)] → W p l e ({ frames := 4, cells := 0, slots := 0, locals := 95 }) s m ([.ref (ad 0)] : List Value).toArray below meth c H locs 0 0 Q (F0 m 24 ls [.int x_2]) := by
    intro x_2 S_3 H locs ls hf hP hS hl
    have hf := z_e2 ej_24 hf
    refine lv_istore_n (lv' := [(2, .int x_2), (0, .ref (ad 0)), (1, .int x_1)]) hx hb dX12_aDay_24 rfl hl (by decide) rfl (fun ls hl => ?_)
    refine lv_aload_n hx hb dX12_aDay_25 rfl (lv_at hl 1 rfl) ?_
    refine lv_iconst (v := 1) hx hb dX12_aDay_26 (by decide) ?_
    obtain ⟨r_4, S_5, h_6, hf⟩ := z_bd hf
    refine z_cVV (As := [.int (1 : Int32)]) (rest := []) X hK hE hD hA hP hS (cm_laysOrder l D K cy ad S_3 _ _ h_6) (cwV 1 hts (z_gV wt_6_112 wt_6_114 wp_66 wt_1_13 wt_6_115) rfl rfl rfl ⟨rfl, yd_yX12_laysOrder⟩ ⟨Nat.le_of_ble_eq_true rfl, Nat.le_of_ble_eq_true rfl⟩) (va_recv hK hP (ci := 12) (q0 := 0) rfl (zM_0 cy ad S_3)) hl.1 rfl rfl (Nat.le_of_ble_eq_true rfl) dX12_aDay_27 (fun H locs hP hS => ?_)
    refine lv_iconst (v := -1) hx hb dX12_aDay_30 (by decide) ?_
    refine lv_istore_n (lv' := [(3, .int (-1 : Int32)), (2, .int x_2), (0, .ref (ad 0)), (1, .int x_1)]) hx hb dX12_aDay_31 rfl hl (by decide) rfl (fun ls hl => ?_)
    refine lv_aload_n hx hb dX12_aDay_32 rfl (lv_at hl 2 rfl) ?_
    refine va_get (D := D) (ci := 12) (v := .ref (ad 1)) (C := RX12) (T := TX12) (N := 36) hx hb hts k0 hown hK hP 0 (zM_0 cy ad S_5) rfl 0 (by decide) k1 (fun _ h9 => h9) rfl dX12_aDay_33 ?_
    refine lv_iconst (v := 3) hx hb dX12_aDay_36 (by decide) ?_
    refine z_iald hx hb hK hP 1 0 (zM_1 cy ad S_5) rfl (vp_in_iff.mpr (by decide)) (k := 3) (by decide) dX12_aDay_37 ?_
    obtain ⟨j_66, ej_66, hf⟩ := z_nm hf
    have J_66 : ∀ (x_7 : Int32) (S_8 : zSt) (H : Heap) (locs : List Loc) (ls : Array Slot), j_66 x_7 S_8 = some (ro, So) → va_P D vwCl (zM cy ad S_8) H → va_S A s.heap H locs → lv_has ls 8 [(0, .ref (ad 0)), (1, .int x_1), (2, .int x_2), (3, .int x_7)] → W p l e ({ frames := 4, cells := 0, slots := 0, locals := 95 }) s m ([.ref (ad 0)] : List Value).toArray below meth c H locs 0 0 Q (F0 m 66 ls []) := by
      intro x_7 S_8 H locs ls hf hP hS hl
      have hf := z_e2 ej_66 hf
      refine lv_aload_n hx hb dX12_aDay_66 rfl (lv_at hl 0 rfl) ?_
      refine lv_iconst (v := 0) hx hb dX12_aDay_67 (by decide) ?_
      refine va_put (D := D) (ci := 12) (v := .int (0 : Int32)) (ty := .int) (C := RX12) (T := TX12) (N := 36) hx hb hts k0 tyX12 tyX12_ok nmX12 hown hK hP (hD S_8) hS 0 (zM_0 cy ad S_8) rfl 24 (by decide) k2 (fun _ h9 => h9) rfl (tyX12_ok 24 (by decide)) rfl rfl (Nat.le_of_ble_eq_true rfl) dX12_aDay_68 (fun H locs hP _ hS => ?_)
      obtain ⟨S_9, eS_9, hf⟩ := z_nm hf
      have hP := zW_putI hP eS_9 (by decide) rfl
      refine lv_aload_n hx hb dX12_aDay_71 rfl (lv_at hl 0 rfl) ?_
      refine va_get (D := D) (ci := 12) (v := .ref (ad 1)) (C := RX12) (T := TX12) (N := 36) hx hb hts k0 hown hK hP 0 (zM_0 cy ad S_9) rfl 0 (by decide) k1 (fun _ h9 => h9) rfl dX12_aDay_72 ?_
      refine lv_bipush (v := 9) hx hb dX12_aDay_75 (by decide) ?_
      refine lv_iload_n hx hb dX12_aDay_77 rfl (lv_at hl 1 rfl) ?_
      refine z_iast hx hb hK hP (hD S_9) hS 1 0 (zM_1 cy ad S_9) rfl (vp_in_iff.mpr (by decide)) (k := 9) (by decide) dX12_aDay_78 (fun H locs hP hS => ?_)
      obtain ⟨S_10, eS_10, hf⟩ := z_nm hf
      have hP := zW_putI hP eS_10 (by decide) rfl
      refine lv_aload_n hx hb dX12_aDay_79 rfl (lv_at hl 0 rfl) ?_
      refine va_get (D := D) (ci := 12) (v := .ref (ad 1)) (C := RX12) (T := TX12) (N := 36) hx hb hts k0 hown hK hP 0 (zM_0 cy ad S_10) rfl 0 (by decide) k1 (fun _ h9 => h9) rfl dX12_aDay_80 ?_
      refine lv_bipush (v := 10) hx hb dX12_aDay_83 (by decide) ?_
      refine lv_iload_n hx hb dX12_aDay_85 rfl (lv_at hl 3 rfl) ?_
      refine lv_iconst (v := -1) hx hb dX12_aDay_86 (by decide) ?_
      obtain ⟨j_100, ej_100, hf⟩ := z_nm hf
      have J_100 : ∀ (x_11 : Int32) (S_12 : zSt) (H : Heap) (locs : List Loc) (ls : Array Slot), j_100 x_11 S_12 = some (ro, So) → va_P D vwCl (zM cy ad S_12) H → va_S A s.heap H locs → lv_has ls 8 [(0, .ref (ad 0)), (1, .int x_1), (2, .int x_2), (3, .int x_7)] → W p l e ({ frames := 4, cells := 0, slots := 0, locals := 95 }) s m ([.ref (ad 0)] : List Value).toArray below meth c H locs 0 0 Q (F0 m 100 ls [.int x_11, .int (10 : Int32), .ref (ad 1)]) := by
        intro x_11 S_12 H locs ls hf hP hS hl
        have hf := z_e2 ej_100 hf
        refine z_iast hx hb hK hP (hD S_12) hS 1 0 (zM_1 cy ad S_12) rfl (vp_in_iff.mpr (by decide)) (k := 10) (by decide) dX12_aDay_100 (fun H locs hP hS => ?_)
        obtain ⟨S_13, eS_13, hf⟩ := z_nm hf
        have hP := zW_putI hP eS_13 (by decide) rfl
        refine lv_iconst (v := 0) hx hb dX12_aDay_101 (by decide) ?_
        refine lv_istore (lv' := [(4, .int (0 : Int32)), (0, .ref (ad 0)), (1, .int x_1), (2, .int x_2), (3, .int x_7)]) hx hb dX12_aDay_102 hl (by decide) rfl (fun ls hl => ?_)
        obtain ⟨j_274, ej_274, hf⟩ := z_nm hf
        have J_274 : ∀ (S_14 : zSt) (H : Heap) (locs : List Loc) (ls : Array Slot), j_274  S_14 = some (ro, So) → va_P D vwCl (zM cy ad S_14) H → va_S A s.heap H locs → lv_has ls 8 [(0, .ref (ad 0)), (1, .int x_1), (2, .int x_2), (3, .int x_7)] → W p l e ({ frames := 4, cells := 0, slots := 0, locals := 95 }) s m ([.ref (ad 0)] : List Value).toArray below meth c H locs 0 0 Q (F0 m 274 ls []) := by
          intro  S_14 H locs ls hf hP hS hl
          have hf := z_e1 ej_274 hf
          refine lv_iload_n hx hb dX12_aDay_274 rfl (lv_at hl 1 rfl) ?_
          obtain ⟨j_312, ej_312, hf⟩ := z_nm hf
          have J_312 : ∀ (S_15 : zSt) (H : Heap) (locs : List Loc) (ls : Array Slot), j_312  S_15 = some (ro, So) → va_P D vwCl (zM cy ad S_15) H → va_S A s.heap H locs → lv_has ls 8 [(0, .ref (ad 0)), (3, .int x_7)] → W p l e ({ frames := 4, cells := 0, slots := 0, locals := 95 }) s m ([.ref (ad 0)] : List Value).toArray below meth c H locs 0 0 Q (F0 m 312 ls []) := by
            intro  S_15 H locs ls hf hP hS hl
            have hf := z_e1 ej_312 hf
            refine lv_aload_n hx hb dX12_aDay_312 rfl (lv_at hl 0 rfl) ?_
            refine va_get (D := D) (ci := 12) (v := .ref (ad 1)) (C := RX12) (T := TX12) (N := 36) hx hb hts k0 hown hK hP 0 (zM_0 cy ad S_15) rfl 0 (by decide) k1 (fun _ h9 => h9) rfl dX12_aDay_313 ?_
            refine lv_iconst (v := 5) hx hb dX12_aDay_316 (by decide) ?_
            refine lv_dup2_11 hx hb dX12_aDay_317 rfl rfl ?_
            refine z_iald hx hb hK hP 1 0 (zM_1 cy ad S_15) rfl (vp_in_iff.mpr (by decide)) (k := 5) (by decide) dX12_aDay_318 ?_
            refine lv_iconst (v := 1) hx hb dX12_aDay_319 (by decide) ?_
            refine lv_iadd hx hb dX12_aDay_320 ?_
            refine z_iast hx hb hK hP (hD S_15) hS 1 0 (zM_1 cy ad S_15) rfl (vp_in_iff.mpr (by decide)) (k := 5) (by decide) dX12_aDay_321 (fun H locs hP hS => ?_)
            obtain ⟨S_16, eS_16, hf⟩ := z_nm hf
            have hP := zW_putI hP eS_16 (by decide) rfl
            refine lv_iload_n hx hb dX12_aDay_322 rfl (lv_at hl 1 rfl) ?_
            refine lv_iconst (v := -1) hx hb dX12_aDay_323 (by decide) ?_
            obtain ⟨j_332, ej_332, hf⟩ := z_nm hf
            have J_332 : ∀ (x_17 : Int32) (S_18 : zSt) (H : Heap) (locs : List Loc) (ls : Array Slot), j_332 x_17 S_18 = some (ro, So) → va_P D vwCl (zM cy ad S_18) H → va_S A s.heap H locs → lv_has ls 8 [] → W p l e ({ frames := 4, cells := 0, slots := 0, locals := 95 }) s m ([.ref (ad 0)] : List Value).toArray below meth c H locs 0 0 Q (F0 m 332 ls [.int x_17]) := by
              intro x_17 S_18 H locs ls hf hP hS hl
              have hf := z_e2 ej_332 hf
              obtain ⟨h1, h2⟩ := z_s2 hf
              subst h1 h2
              exact hret _ _ _ _ hP hS dX12_aDay_332
            refine lv_icmp_ne (tgt := 331) hx hb dX12_aDay_324 (by decide) (fun c_19 => ?_) (fun c_19 => ?_)
            · have hf := z_if c_19 hf
              refine lv_iconst (v := 1) hx hb dX12_aDay_331 (by decide) ?_
              exact J_332 (1 : Int32) S_16 _ _ _ hf hP hS (lv_sub hl [] rfl)
            · have hf := z_it c_19 hf
              refine lv_iconst (v := 0) hx hb dX12_aDay_327 (by decide) ?_
              refine lv_goto (tgt := 332) hx hb dX12_aDay_328 (by decide) ?_
              exact J_332 (0 : Int32) S_16 _ _ _ hf hP hS (lv_sub hl [] rfl)
          refine lv_if_le (tgt := 312) hx hb dX12_aDay_275 (by decide) (fun c_29 => ?_) (fun c_29 => ?_)
          · have hf := z_it c_29 hf
            exact J_312  S_14 _ _ _ hf hP hS (lv_sub hl [0, 3] rfl)
          · have hf := z_if c_29 hf
            refine lv_aload_n hx hb dX12_aDay_278 rfl (lv_at hl 0 rfl) ?_
            refine lv_aload_n hx hb dX12_aDay_279 rfl (lv_at hl 0 rfl) ?_
            refine va_get (D := D) (ci := 12) (v := .ref (ad 9)) (C := RX12) (T := TX12) (N := 36) hx hb hts k0 hown hK hP 0 (zM_0 cy ad S_14) rfl 22 (by decide) k3 (fun _ h9 => h9) rfl dX12_aDay_280 ?_
            refine lv_iconst (v := 0) hx hb dX12_aDay_283 (by decide) ?_
            refine z_iald hx hb hK hP 9 0 (zM_9 cy ad S_14) rfl (vp_in_iff.mpr (by decide)) (k := 0) (by decide) dX12_aDay_284 ?_
            refine lv_bipush (v := 6) hx hb dX12_aDay_285 (by decide) ?_
            refine lv_iconst (v := 1) hx hb dX12_aDay_287 (by decide) ?_
            obtain ⟨r_20, S_21, h_22, hf⟩ := z_bd hf
            refine z_cVV (As := [.int (S_14.1 9 0), .int (6 : Int32), .int (1 : Int32)]) (rest := []) X hK hE hD hA hP hS (cm_adds l D K cy ad S_14 _ _ _ _ h_22) (cwV 3 hts (z_gV wt_6_100 wt_6_102 wp_65 wt_1_13 wt_6_103) rfl rfl rfl ⟨rfl, yd_yX12_adds⟩ ⟨Nat.le_of_ble_eq_true rfl, Nat.le_of_ble_eq_true rfl⟩) (va_recv hK hP (ci := 12) (q0 := 0) rfl (zM_0 cy ad S_14)) hl.1 rfl rfl (Nat.le_of_ble_eq_true rfl) dX12_aDay_288 (fun H locs hP hS => ?_)
            refine lv_aload_n hx hb dX12_aDay_291 rfl (lv_at hl 0 rfl) ?_
            refine lv_aload_n hx hb dX12_aDay_292 rfl (lv_at hl 0 rfl) ?_
            refine va_get (D := D) (ci := 12) (v := .ref (ad 9)) (C := RX12) (T := TX12) (N := 36) hx hb hts k0 hown hK hP 0 (zM_0 cy ad S_21) rfl 22 (by decide) k3 (fun _ h9 => h9) rfl dX12_aDay_293 ?_
            refine lv_iconst (v := 0) hx hb dX12_aDay_296 (by decide) ?_
            refine z_iald hx hb hK hP 9 0 (zM_9 cy ad S_21) rfl (vp_in_iff.mpr (by decide)) (k := 0) (by decide) dX12_aDay_297 ?_
            refine lv_bipush (v := 7) hx hb dX12_aDay_298 (by decide) ?_
            refine lv_iload_n hx hb dX12_aDay_300 rfl (lv_at hl 2 rfl) ?_
            obtain ⟨j_309, ej_309, hf⟩ := z_nm hf
            have J_309 : ∀ (x_23 : Int32) (S_24 : zSt) (H : Heap) (locs : List Loc) (ls : Array Slot), j_309 x_23 S_24 = some (ro, So) → va_P D vwCl (zM cy ad S_24) H → va_S A s.heap H locs → lv_has ls 8 [(0, .ref (ad 0)), (3, .int x_7)] → W p l e ({ frames := 4, cells := 0, slots := 0, locals := 95 }) s m ([.ref (ad 0)] : List Value).toArray below meth c H locs 0 0 Q (F0 m 309 ls [.int x_23, .int (7 : Int32), .int (S_21.1 9 0), .ref (ad 0)]) := by
              intro x_23 S_24 H locs ls hf hP hS hl
              have hf := z_e2 ej_309 hf
              obtain ⟨r_25, S_26, h_27, hf⟩ := z_bd hf
              refine z_cVV (As := [.int (S_21.1 9 0), .int (7 : Int32), .int x_23]) (rest := []) X hK hE hD hA hP hS (cm_adds l D K cy ad S_24 _ _ _ _ h_27) (cwV 3 hts (z_gV wt_6_100 wt_6_102 wp_65 wt_1_13 wt_6_103) rfl rfl rfl ⟨rfl, yd_yX12_adds⟩ ⟨Nat.le_of_ble_eq_true rfl, Nat.le_of_ble_eq_true rfl⟩) (va_recv hK hP (ci := 12) (q0 := 0) rfl (zM_0 cy ad S_24)) hl.1 rfl rfl (Nat.le_of_ble_eq_true rfl) dX12_aDay_309 (fun H locs hP hS => ?_)
              exact J_312  S_26 _ _ _ hf hP hS (lv_sub hl [0, 1] rfl)
            refine lv_if_eq (tgt := 308) hx hb dX12_aDay_301 (by decide) (fun c_28 => ?_) (fun c_28 => ?_)
            · have hf := z_it c_28 hf
              refine lv_iconst (v := 0) hx hb dX12_aDay_308 (by decide) ?_
              exact J_309 (0 : Int32) S_21 _ _ _ hf hP hS (lv_sub hl [0, 3] rfl)
            · have hf := z_if c_28 hf
              refine lv_iconst (v := 1) hx hb dX12_aDay_304 (by decide) ?_
              refine lv_goto (tgt := 309) hx hb dX12_aDay_305 (by decide) ?_
              exact J_309 (1 : Int32) S_21 _ _ _ hf hP hS (lv_sub hl [0, 3] rfl)
        have L_104 : ∀ (n_104 : Nat) (x_30 : Int32) (S_31 : zSt) (H : Heap) (locs : List Loc) (ls : Array Slot), fm_aDay_L104 x_1 x_2 x_7 j_274 n_104 x_30 S_31 = some (ro, So) → va_P D vwCl (zM cy ad S_31) H → va_S A s.heap H locs → lv_has ls 8 [(0, .ref (ad 0)), (1, .int x_1), (2, .int x_2), (3, .int x_7), (4, .int x_30)] → W p l e ({ frames := 4, cells := 0, slots := 0, locals := 95 }) s m ([.ref (ad 0)] : List Value).toArray below meth c H locs 0 0 Q (F0 m 104 ls []) := by
          intro n_104
          induction n_104 with
          | zero =>
            intro x_30 S_31 H locs ls hf hP hS hl
            exact z_no hf
          | succ n_104 ih_104 =>
            intro x_30 S_31 H locs ls hf hP hS hl
            rw [fm_aDay_L104] at hf
            refine lv_iload hx hb dX12_aDay_104 (lv_at hl 4 rfl) ?_
            refine lv_iload_n hx hb dX12_aDay_106 rfl (lv_at hl 1 rfl) ?_
            refine lv_icmp_ge (tgt := 274) hx hb dX12_aDay_107 (by decide) (fun c_71 => ?_) (fun c_71 => ?_)
            · have hf := z_it c_71 hf
              exact J_274  S_31 _ _ _ hf hP hS (lv_sub hl [0, 1, 2, 3] rfl)
            · have hf := z_if c_71 hf
              refine lv_aload_n hx hb dX12_aDay_110 rfl (lv_at hl 0 rfl) ?_
              refine va_get (D := D) (ci := 12) (v := .ref (ad 9)) (C := RX12) (T := TX12) (N := 36) hx hb hts k0 hown hK hP 0 (zM_0 cy ad S_31) rfl 22 (by decide) k3 (fun _ h9 => h9) rfl dX12_aDay_111 ?_
              refine lv_iload hx hb dX12_aDay_114 (lv_at hl 4 rfl) ?_
              obtain ⟨h_32, hf⟩ := z_ix hf
              refine z_iald hx hb hK hP 9 0 (zM_9 cy ad S_31) rfl h_32 (k := (x_30.toNatClampNeg)) rfl dX12_aDay_116 ?_
              refine lv_topi (fun x_33 ex_33 => ?_)
              have hf := z_nv ex_33 hf
              refine lv_istore (lv' := [(5, .int x_33), (0, .ref (ad 0)), (1, .int x_1), (2, .int x_2), (3, .int x_7), (4, .int x_30)]) hx hb dX12_aDay_117 hl (by decide) rfl (fun ls hl => ?_)
              refine lv_aload_n hx hb dX12_aDay_119 rfl (lv_at hl 1 rfl) ?_
              refine va_get (D := D) (ci := 12) (v := .ref (ad 1)) (C := RX12) (T := TX12) (N := 36) hx hb hts k0 hown hK hP 0 (zM_0 cy ad S_31) rfl 0 (by decide) k1 (fun _ h9 => h9) rfl dX12_aDay_120 ?_
              refine lv_sipush (v := 170) hx hb dX12_aDay_123 (by decide) ?_
              refine lv_iload hx hb dX12_aDay_126 (lv_at hl 5 rfl) ?_
              refine lv_iadd hx hb dX12_aDay_128 ?_
              refine lv_iload hx hb dX12_aDay_129 (lv_at hl 0 rfl) ?_
              obtain ⟨h_34, hf⟩ := z_ix hf
              refine z_iast hx hb hK hP (hD S_31) hS 1 0 (zM_1 cy ad S_31) rfl h_34 (k := (((170 : Int32) + x_30).toNatClampNeg)) rfl dX12_aDay_131 (fun H locs hP hS => ?_)
              obtain ⟨S_35, eS_35, hf⟩ := z_nm hf
              have hP := zW_putI hP eS_35 (by decide) rfl
              refine lv_aload_n hx hb dX12_aDay_132 rfl (lv_at hl 1 rfl) ?_
              refine lv_iload hx hb dX12_aDay_133 (lv_at hl 0 rfl) ?_
              obtain ⟨r_36, S_37, h_38, hf⟩ := z_bd hf
              refine z_cVI (As := [.int x_33]) (rest := []) X hK hE hD hA hP hS (cm_loaf l D K cy ad S_35 _ _ _ h_38) (cwV 1 hts (z_gV wt_6_149 wt_6_151 wp_73 wt_1_13 wt_6_152) rfl rfl rfl ⟨rfl, yd_yX12_loaf⟩ ⟨Nat.le_of_ble_eq_true rfl, Nat.le_of_ble_eq_true rfl⟩) (va_recv hK hP (ci := 12) (q0 := 0) rfl (zM_0 cy ad S_35)) hl.1 rfl rfl (Nat.le_of_ble_eq_true rfl) dX12_aDay_135 (fun H locs hP hS => ?_)
              refine lv_istore (lv' := [(6, .int r_36), (5, .int x_33), (0, .ref (ad 0)), (1, .int x_1), (2, .int x_2), (3, .int x_7), (4, .int x_30)]) hx hb dX12_aDay_138 hl (by decide) rfl (fun ls hl => ?_)
              refine lv_aload_n hx hb dX12_aDay_140 rfl (lv_at hl 2 rfl) ?_
              refine lv_iload hx hb dX12_aDay_141 (lv_at hl 1 rfl) ?_
              refine lv_iconst (v := 5) hx hb dX12_aDay_143 (by decide) ?_
              refine lv_aload_n hx hb dX12_aDay_144 rfl (lv_at hl 2 rfl) ?_
              refine lv_iload hx hb dX12_aDay_145 (lv_at hl 1 rfl) ?_
              obtain ⟨r_39, S_40, h_41, hf⟩ := z_bd hf
              refine z_cVI (As := [.int x_33]) (rest := [.int (5 : Int32), .int x_33, .ref (ad 0)]) X hK hE hD hA hP hS (cm_heats l D K cy ad S_37 _ _ _ h_41) (cwV 1 hts (z_gV wt_6_153 wt_6_155 wp_74 wt_1_13 wt_6_156) rfl rfl rfl ⟨rfl, yd_yX12_heats⟩ ⟨Nat.le_of_ble_eq_true rfl, Nat.le_of_ble_eq_true rfl⟩) (va_recv hK hP (ci := 12) (q0 := 0) rfl (zM_0 cy ad S_37)) hl.1 rfl rfl (Nat.le_of_ble_eq_true rfl) dX12_aDay_147 (fun H locs hP hS => ?_)
              obtain ⟨r_42, S_43, h_44, hf⟩ := z_bd hf
              refine z_cVV (As := [.int x_33, .int (5 : Int32), .int r_39]) (rest := []) X hK hE hD hA hP hS (cm_adds l D K cy ad S_40 _ _ _ _ h_44) (cwV 3 hts (z_gV wt_6_100 wt_6_102 wp_65 wt_1_13 wt_6_103) rfl rfl rfl ⟨rfl, yd_yX12_adds⟩ ⟨Nat.le_of_ble_eq_true rfl, Nat.le_of_ble_eq_true rfl⟩) (va_recv hK hP (ci := 12) (q0 := 0) rfl (zM_0 cy ad S_40)) hl.1 rfl rfl (Nat.le_of_ble_eq_true rfl) dX12_aDay_150 (fun H locs hP hS => ?_)
              refine lv_aload_n hx hb dX12_aDay_153 rfl (lv_at hl 2 rfl) ?_
              refine lv_iload hx hb dX12_aDay_154 (lv_at hl 1 rfl) ?_
              refine lv_iconst (v := 3) hx hb dX12_aDay_156 (by decide) ?_
              refine lv_iload hx hb dX12_aDay_157 (lv_at hl 0 rfl) ?_
              refine lv_ineg hx hb dX12_aDay_159 ?_
              obtain ⟨r_45, S_46, h_47, hf⟩ := z_bd hf
              refine z_cVV (As := [.int x_33, .int (3 : Int32), .int (-r_36)]) (rest := []) X hK hE hD hA hP hS (cm_adds l D K cy ad S_43 _ _ _ _ h_47) (cwV 3 hts (z_gV wt_6_100 wt_6_102 wp_65 wt_1_13 wt_6_103) rfl rfl rfl ⟨rfl, yd_yX12_adds⟩ ⟨Nat.le_of_ble_eq_true rfl, Nat.le_of_ble_eq_true rfl⟩) (va_recv hK hP (ci := 12) (q0 := 0) rfl (zM_0 cy ad S_43)) hl.1 rfl rfl (Nat.le_of_ble_eq_true rfl) dX12_aDay_160 (fun H locs hP hS => ?_)
              refine lv_aload_n hx hb dX12_aDay_163 rfl (lv_at hl 2 rfl) ?_
              refine va_get (D := D) (ci := 12) (v := .ref (ad 1)) (C := RX12) (T := TX12) (N := 36) hx hb hts k0 hown hK hP 0 (zM_0 cy ad S_46) rfl 0 (by decide) k1 (fun _ h9 => h9) rfl dX12_aDay_164 ?_
              refine lv_bipush (v := 20) hx hb dX12_aDay_167 (by decide) ?_
              refine lv_bipush (v := 16) hx hb dX12_aDay_169 (by decide) ?_
              refine lv_iload hx hb dX12_aDay_171 (lv_at hl 1 rfl) ?_
              refine lv_imul hx hb dX12_aDay_173 ?_
              refine lv_iadd hx hb dX12_aDay_174 ?_
              refine lv_bipush (v := 8) hx hb dX12_aDay_175 (by decide) ?_
              refine lv_iadd hx hb dX12_aDay_177 ?_
              refine lv_iload hx hb dX12_aDay_178 (lv_at hl 0 rfl) ?_
              obtain ⟨j_197, ej_197, hf⟩ := z_nm hf
              have J_197 : ∀ (x_48 : Int32) (S_49 : zSt) (H : Heap) (locs : List Loc) (ls : Array Slot), j_197 x_48 S_49 = some (ro, So) → va_P D vwCl (zM cy ad S_49) H → va_S A s.heap H locs → lv_has ls 8 [(0, .ref (ad 0)), (1, .int x_1), (2, .int x_2), (3, .int x_7), (4, .int x_30), (5, .int x_33), (6, .int r_36)] → W p l e ({ frames := 4, cells := 0, slots := 0, locals := 95 }) s m ([.ref (ad 0)] : List Value).toArray below meth c H locs 0 0 Q (F0 m 197 ls [.int x_48, .int (((20 : Int32) + ((16 : Int32) * x_33)) + (8 : Int32)), .ref (ad 1)]) := by
                intro x_48 S_49 H locs ls hf hP hS hl
                have hf := z_e2 ej_197 hf
                obtain ⟨h_50, hf⟩ := z_ix hf
                refine z_iast hx hb hK hP (hD S_49) hS 1 0 (zM_1 cy ad S_49) rfl h_50 (k := ((((20 : Int32) + ((16 : Int32) * x_33)) + (8 : Int32)).toNatClampNeg)) rfl dX12_aDay_197 (fun H locs hP hS => ?_)
                obtain ⟨S_51, eS_51, hf⟩ := z_nm hf
                have hP := zW_putI hP eS_51 (by decide) rfl
                refine lv_iload hx hb dX12_aDay_198 (lv_at hl 4 rfl) ?_
                refine lv_iload_n hx hb dX12_aDay_200 rfl (lv_at hl 3 rfl) ?_
                obtain ⟨j_268, ej_268, hf⟩ := z_nm hf
                have J_268 : ∀ (S_52 : zSt) (H : Heap) (locs : List Loc) (ls : Array Slot), j_268  S_52 = some (ro, So) → va_P D vwCl (zM cy ad S_52) H → va_S A s.heap H locs → lv_has ls 8 [(0, .ref (ad 0)), (1, .int x_1), (2, .int x_2), (3, .int x_7), (4, .int x_30)] → W p l e ({ frames := 4, cells := 0, slots := 0, locals := 95 }) s m ([.ref (ad 0)] : List Value).toArray below meth c H locs 0 0 Q (F0 m 268 ls []) := by
                  intro  S_52 H locs ls hf hP hS hl
                  have hf := z_e1 ej_268 hf
                  obtain ⟨x_53, ex_53, hf⟩ := z_nm hf
                  refine lv_iinc (v := x_53) (lv' := [(4, .int x_53), (0, .ref (ad 0)), (1, .int x_1), (2, .int x_2), (3, .int x_7)]) hx hb dX12_aDay_268 hl (k := 4) rfl (by rw [ex_53]; rfl) (by decide) rfl (fun ls hl => ?_)
                  refine lv_goto (tgt := 104) hx hb dX12_aDay_271 (by decide) ?_
                  exact ih_104 x_53 S_52 _ _ _ hf hP hS (lv_sub hl [1, 2, 3, 4, 0] rfl)
                refine lv_icmp_ne (tgt := 219) hx hb dX12_aDay_201 (by decide) (fun c_66 => ?_) (fun c_66 => ?_)
                · have hf := z_if c_66 hf
                  refine lv_iload hx hb dX12_aDay_219 (lv_at hl 4 rfl) ?_
                  obtain ⟨j_233, ej_233, hf⟩ := z_nm hf
                  have J_233 : ∀ (x_54 : Int32) (S_55 : zSt) (H : Heap) (locs : List Loc) (ls : Array Slot), j_233 x_54 S_55 = some (ro, So) → va_P D vwCl (zM cy ad S_55) H → va_S A s.heap H locs → lv_has ls 8 [(0, .ref (ad 0)), (1, .int x_1), (2, .int x_2), (3, .int x_7), (4, .int x_30), (5, .int x_33), (6, .int r_36)] → W p l e ({ frames := 4, cells := 0, slots := 0, locals := 95 }) s m ([.ref (ad 0)] : List Value).toArray below meth c H locs 0 0 Q (F0 m 233 ls [.int x_54]) := by
                    intro x_54 S_55 H locs ls hf hP hS hl
                    have hf := z_e2 ej_233 hf
                    refine lv_istore (lv' := [(7, .int x_54), (0, .ref (ad 0)), (1, .int x_1), (2, .int x_2), (3, .int x_7), (4, .int x_30), (5, .int x_33), (6, .int r_36)]) hx hb dX12_aDay_233 hl (by decide) rfl (fun ls hl => ?_)
                    refine lv_aload_n hx hb dX12_aDay_235 rfl (lv_at hl 1 rfl) ?_
                    refine lv_iload hx hb dX12_aDay_236 (lv_at hl 6 rfl) ?_
                    refine lv_iconst (v := 4) hx hb dX12_aDay_238 (by decide) ?_
                    refine lv_iload hx hb dX12_aDay_239 (lv_at hl 7 rfl) ?_
                    refine lv_iload hx hb dX12_aDay_241 (lv_at hl 0 rfl) ?_
                    refine lv_isub hx hb dX12_aDay_243 ?_
                    obtain ⟨r_56, S_57, h_58, hf⟩ := z_bd hf
                    refine z_cVV (As := [.int x_33, .int (4 : Int32), .int (r_36 - x_54)]) (rest := []) X hK hE hD hA hP hS (cm_adds l D K cy ad S_55 _ _ _ _ h_58) (cwV 3 hts (z_gV wt_6_100 wt_6_102 wp_65 wt_1_13 wt_6_103) rfl rfl rfl ⟨rfl, yd_yX12_adds⟩ ⟨Nat.le_of_ble_eq_true rfl, Nat.le_of_ble_eq_true rfl⟩) (va_recv hK hP (ci := 12) (q0 := 0) rfl (zM_0 cy ad S_55)) hl.1 rfl rfl (Nat.le_of_ble_eq_true rfl) dX12_aDay_244 (fun H locs hP hS => ?_)
                    refine lv_iload hx hb dX12_aDay_247 (lv_at hl 5 rfl) ?_
                    refine lv_if_le (tgt := 268) hx hb dX12_aDay_249 (by decide) (fun c_63 => ?_) (fun c_63 => ?_)
                    · have hf := z_it c_63 hf
                      exact J_268  S_57 _ _ _ hf hP hS (lv_sub hl [1, 2, 3, 4, 5] rfl)
                    · have hf := z_if c_63 hf
                      refine lv_aload_n hx hb dX12_aDay_252 rfl (lv_at hl 1 rfl) ?_
                      refine lv_aload_n hx hb dX12_aDay_253 rfl (lv_at hl 1 rfl) ?_
                      refine va_get (D := D) (ci := 12) (v := .ref (ad 9)) (C := RX12) (T := TX12) (N := 36) hx hb hts k0 hown hK hP 0 (zM_0 cy ad S_57) rfl 22 (by decide) k3 (fun _ h9 => h9) rfl dX12_aDay_254 ?_
                      refine lv_iload hx hb dX12_aDay_257 (lv_at hl 5 rfl) ?_
                      refine lv_iconst (v := 1) hx hb dX12_aDay_259 (by decide) ?_
                      refine lv_isub hx hb dX12_aDay_260 ?_
                      obtain ⟨h_59, hf⟩ := z_ix hf
                      refine z_iald hx hb hK hP 9 0 (zM_9 cy ad S_57) rfl h_59 (k := ((x_30 - (1 : Int32)).toNatClampNeg)) rfl dX12_aDay_261 ?_
                      refine lv_iconst (v := 4) hx hb dX12_aDay_262 (by decide) ?_
                      refine lv_iload hx hb dX12_aDay_263 (lv_at hl 0 rfl) ?_
                      obtain ⟨r_60, S_61, h_62, hf⟩ := z_bd hf
                      refine z_cVV (As := [.int (S_57.1 9 ((x_30 - (1 : Int32)).toNatClampNeg)), .int (4 : Int32), .int x_54]) (rest := []) X hK hE hD hA hP hS (cm_adds l D K cy ad S_57 _ _ _ _ h_62) (cwV 3 hts (z_gV wt_6_100 wt_6_102 wp_65 wt_1_13 wt_6_103) rfl rfl rfl ⟨rfl, yd_yX12_adds⟩ ⟨Nat.le_of_ble_eq_true rfl, Nat.le_of_ble_eq_true rfl⟩) (va_recv hK hP (ci := 12) (q0 := 0) rfl (zM_0 cy ad S_57)) hl.1 rfl rfl (Nat.le_of_ble_eq_true rfl) dX12_aDay_265 (fun H locs hP hS => ?_)
                      exact J_268  S_61 _ _ _ hf hP hS (lv_sub hl [1, 2, 3, 4, 5] rfl)
                  refine lv_if_ne (tgt := 228) hx hb dX12_aDay_221 (by decide) (fun c_64 => ?_) (fun c_64 => ?_)
                  · have hf := z_if c_64 hf
                    refine lv_iload hx hb dX12_aDay_228 (lv_at hl 6 rfl) ?_
                    refine lv_bipush (v := 9) hx hb dX12_aDay_230 (by decide) ?_
                    refine lv_idiv hx hb dX12_aDay_232 (by decide) ?_
                    exact J_233 (r_36 / (9 : Int32)) S_51 _ _ _ hf hP hS (lv_sub hl [0, 1, 2, 3, 4, 5, 6] rfl)
                  · have hf := z_it c_64 hf
                    refine lv_iconst (v := 0) hx hb dX12_aDay_224 (by decide) ?_
                    refine lv_goto (tgt := 233) hx hb dX12_aDay_225 (by decide) ?_
                    exact J_233 (0 : Int32) S_51 _ _ _ hf hP hS (lv_sub hl [0, 1, 2, 3, 4, 5, 6] rfl)
                · have hf := z_it c_66 hf
                  refine lv_aload_n hx hb dX12_aDay_204 rfl (lv_at hl 0 rfl) ?_
                  refine va_get (D := D) (ci := 12) (v := .ref (ad 1)) (C := RX12) (T := TX12) (N := 36) hx hb hts k0 hown hK hP 0 (zM_0 cy ad S_51) rfl 0 (by decide) k1 (fun _ h9 => h9) rfl dX12_aDay_205 ?_
                  refine lv_bipush (v := 8) hx hb dX12_aDay_208 (by decide) ?_
                  refine lv_dup2_11 hx hb dX12_aDay_210 rfl rfl ?_
                  refine z_iald hx hb hK hP 1 0 (zM_1 cy ad S_51) rfl (vp_in_iff.mpr (by decide)) (k := 8) (by decide) dX12_aDay_211 ?_
                  refine lv_iload hx hb dX12_aDay_212 (lv_at hl 6 rfl) ?_
                  refine lv_iadd hx hb dX12_aDay_214 ?_
                  refine z_iast hx hb hK hP (hD S_51) hS 1 0 (zM_1 cy ad S_51) rfl (vp_in_iff.mpr (by decide)) (k := 8) (by decide) dX12_aDay_215 (fun H locs hP hS => ?_)
                  obtain ⟨S_65, eS_65, hf⟩ := z_nm hf
                  have hP := zW_putI hP eS_65 (by decide) rfl
                  refine lv_goto (tgt := 268) hx hb dX12_aDay_216 (by decide) ?_
                  exact J_268  S_65 _ _ _ hf hP hS (lv_sub hl [0, 1, 2, 3, 4] rfl)
              refine lv_if_ne (tgt := 196) hx hb dX12_aDay_180 (by decide) (fun c_70 => ?_) (fun c_70 => ?_)
              · have hf := z_if c_70 hf
                refine lv_iconst (v := 0) hx hb dX12_aDay_196 (by decide) ?_
                exact J_197 (0 : Int32) S_46 _ _ _ hf hP hS (lv_sub hl [2, 3, 4, 5, 6, 1, 0] rfl)
              · have hf := z_it c_70 hf
                refine lv_aload_n hx hb dX12_aDay_183 rfl (lv_at hl 2 rfl) ?_
                refine lv_iload hx hb dX12_aDay_184 (lv_at hl 1 rfl) ?_
                refine lv_bipush (v := 8) hx hb dX12_aDay_186 (by decide) ?_
                obtain ⟨r_67, S_68, h_69, hf⟩ := z_bd hf
                refine z_cVI (As := [.int x_33, .int (8 : Int32)]) (rest := [.int (((20 : Int32) + ((16 : Int32) * x_33)) + (8 : Int32)), .ref (ad 1)]) X hK hE hD hA hP hS (cm_own l D K cy ad S_46 _ _ _ _ h_69) (cwV 2 hts (z_gV wt_6_95 wt_6_97 wp_64 wt_1_13 wt_6_98) rfl rfl rfl ⟨rfl, yd_yX12_own⟩ ⟨Nat.le_of_ble_eq_true rfl, Nat.le_of_ble_eq_true rfl⟩) (va_recv hK hP (ci := 12) (q0 := 0) rfl (zM_0 cy ad S_46)) hl.1 rfl rfl (Nat.le_of_ble_eq_true rfl) dX12_aDay_188 (fun H locs hP hS => ?_)
                refine lv_iconst (v := 1) hx hb dX12_aDay_191 (by decide) ?_
                refine lv_iadd hx hb dX12_aDay_192 ?_
                refine lv_goto (tgt := 197) hx hb dX12_aDay_193 (by decide) ?_
                exact J_197 (r_67 + (1 : Int32)) S_68 _ _ _ hf hP hS (lv_sub hl [2, 3, 4, 5, 6, 1, 0] rfl)
        exact L_104 zFU (0 : Int32) S_13 _ _ _ hf hP hS (lv_sub hl [1, 2, 3, 4, 0] rfl)
      refine lv_icmp_ne (tgt := 94) hx hb dX12_aDay_87 (by decide) (fun c_73 => ?_) (fun c_73 => ?_)
      · have hf := z_if c_73 hf
        refine lv_aload_n hx hb dX12_aDay_94 rfl (lv_at hl 0 rfl) ?_
        refine va_get (D := D) (ci := 12) (v := .ref (ad 9)) (C := RX12) (T := TX12) (N := 36) hx hb hts k0 hown hK hP 0 (zM_0 cy ad S_10) rfl 22 (by decide) k3 (fun _ h9 => h9) rfl dX12_aDay_95 ?_
        refine lv_iload_n hx hb dX12_aDay_98 rfl (lv_at hl 3 rfl) ?_
        obtain ⟨h_72, hf⟩ := z_ix hf
        refine z_iald hx hb hK hP 9 0 (zM_9 cy ad S_10) rfl h_72 (k := (x_7.toNatClampNeg)) rfl dX12_aDay_99 ?_
        exact J_100 (S_10.1 9 (x_7.toNatClampNeg)) S_10 _ _ _ hf hP hS (lv_sub hl [0, 1, 2, 3] rfl)
      · have hf := z_it c_73 hf
        refine lv_iconst (v := -1) hx hb dX12_aDay_90 (by decide) ?_
        refine lv_goto (tgt := 100) hx hb dX12_aDay_91 (by decide) ?_
        exact J_100 (-1 : Int32) S_10 _ _ _ hf hP hS (lv_sub hl [0, 1, 2, 3] rfl)
    refine lv_if_le (tgt := 66) hx hb dX12_aDay_38 (by decide) (fun c_82 => ?_) (fun c_82 => ?_)
    · have hf := z_it c_82 hf
      exact J_66 (-1 : Int32) S_5 _ _ _ hf hP hS (lv_sub hl [2, 3, 1, 0] rfl)
    · have hf := z_if c_82 hf
      refine lv_iload_n hx hb dX12_aDay_41 rfl (lv_at hl 3 rfl) ?_
      refine lv_if_le (tgt := 66) hx hb dX12_aDay_42 (by decide) (fun c_81 => ?_) (fun c_81 => ?_)
      · have hf := z_it c_81 hf
        exact J_66 (-1 : Int32) S_5 _ _ _ hf hP hS (lv_sub hl [2, 3, 1, 0] rfl)
      · have hf := z_if c_81 hf
        refine lv_aload_n hx hb dX12_aDay_45 rfl (lv_at hl 2 rfl) ?_
        refine lv_bipush (v := 100) hx hb dX12_aDay_46 (by decide) ?_
        obtain ⟨r_74, S_75, h_76, hf⟩ := z_bd hf
        refine z_cVI (As := [.int (100 : Int32)]) (rest := []) X hK hE hD hA hP hS (cm_draw l D K cy ad S_5 _ _ _ h_76) (cwV 1 hts (z_gV wt_6_143 wt_6_145 wp_72 wt_1_13 wt_6_146) rfl rfl rfl ⟨rfl, yd_yX12_draw⟩ ⟨Nat.le_of_ble_eq_true rfl, Nat.le_of_ble_eq_true rfl⟩) (va_recv hK hP (ci := 12) (q0 := 0) rfl (zM_0 cy ad S_5)) hl.1 rfl rfl (Nat.le_of_ble_eq_true rfl) dX12_aDay_48 (fun H locs hP hS => ?_)
        refine lv_aload_n hx hb dX12_aDay_51 rfl (lv_at hl 2 rfl) ?_
        refine va_get (D := D) (ci := 12) (v := .ref (ad 1)) (C := RX12) (T := TX12) (N := 36) hx hb hts k0 hown hK hP 0 (zM_0 cy ad S_75) rfl 0 (by decide) k1 (fun _ h9 => h9) rfl dX12_aDay_52 ?_
        refine lv_iconst (v := 3) hx hb dX12_aDay_55 (by decide) ?_
        refine z_iald hx hb hK hP 1 0 (zM_1 cy ad S_75) rfl (vp_in_iff.mpr (by decide)) (k := 3) (by decide) dX12_aDay_56 ?_
        refine lv_icmp_ge (tgt := 66) hx hb dX12_aDay_57 (by decide) (fun c_80 => ?_) (fun c_80 => ?_)
        · have hf := z_it c_80 hf
          exact J_66 (-1 : Int32) S_75 _ _ _ hf hP hS (lv_sub hl [2, 3, 1, 0] rfl)
        · have hf := z_if c_80 hf
          refine lv_aload_n hx hb dX12_aDay_60 rfl (lv_at hl 2 rfl) ?_
          refine lv_iload_n hx hb dX12_aDay_61 rfl (lv_at hl 3 rfl) ?_
          obtain ⟨r_77, S_78, h_79, hf⟩ := z_bd hf
          refine z_cVI (As := [.int x_1]) (rest := []) X hK hE hD hA hP hS (cm_draw l D K cy ad S_75 _ _ _ h_79) (cwV 1 hts (z_gV wt_6_143 wt_6_145 wp_72 wt_1_13 wt_6_146) rfl rfl rfl ⟨rfl, yd_yX12_draw⟩ ⟨Nat.le_of_ble_eq_true rfl, Nat.le_of_ble_eq_true rfl⟩) (va_recv hK hP (ci := 12) (q0 := 0) rfl (zM_0 cy ad S_75)) hl.1 rfl rfl (Nat.le_of_ble_eq_true rfl) dX12_aDay_62 (fun H locs hP hS => ?_)
          refine lv_istore_n (lv' := [(3, .int r_77), (2, .int x_2), (0, .ref (ad 0)), (1, .int x_1)]) hx hb dX12_aDay_65 rfl hl (by decide) rfl (fun ls hl => ?_)
          exact J_66 r_77 S_78 _ _ _ hf hP hS (lv_sub hl [2, 3, 1, 0] rfl)
  refine lv_if_ne (tgt := 23) hx hb dX12_aDay_16 (by decide) (fun c_83 => ?_) (fun c_83 => ?_)
  · have hf := z_if c_83 hf
    refine lv_iconst (v := 0) hx hb dX12_aDay_23 (by decide) ?_
    exact J_24 (0 : Int32) S_0 _ _ _ hf hP hS (lv_sub hl [1, 0] rfl)
  · have hf := z_it c_83 hf
    refine lv_iconst (v := 1) hx hb dX12_aDay_19 (by decide) ?_
    refine lv_goto (tgt := 24) hx hb dX12_aDay_20 (by decide) ?_
    exact J_24 (1 : Int32) S_0 _ _ _ hf hP hS (lv_sub hl [1, 0] rfl)
