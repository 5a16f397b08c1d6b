def fx_Lineup_gainOf_L26 (a_1 : Int32) (x_4 : Int32) (j_41 : Int32 → zSt → Option (Int32 × zSt)) : Nat → Int32 → zSt → Option (Int32 × zSt)
  | 0, _, _ => none
  | n_26 + 1, x_16, S_17 =>
    if x_4 < x_16 then (
    some ((-1000000000 : Int32), S_17)) else (
    zck (zix x_16 9) <|
    if (S_17.1 129 (x_16.toNatClampNeg)) = a_1 then (
    j_41 x_16 S_17) else (
    zck (zix x_16 9) <|
    zck (zix x_16 10) <|
    zbd (fx_Lineup_heatAfter S_17 (S_17.1 129 (x_16.toNatClampNeg)) (S_17.1 135 (x_16.toNatClampNeg))) fun r_21 S_22 =>
    zck (zix (x_16 + (1 : Int32)) 10) <|
    znm (zpI S_22 135 ((x_16 + (1 : Int32)).toNatClampNeg) r_21) fun S_25 =>
    znm (x_16 + (1 : Int32)) fun x_26 =>
    fx_Lineup_gainOf_L26 a_1 x_4 j_41 n_26 x_26 S_25))
def fx_Lineup_gainOf (S_0 : zSt) (a_1 : Int32) : Option (Int32 × zSt) :=
  zbd (fx_Lineup_weighLoaves S_0) fun _ S_2 =>
  znm ((S_2.1 4 0) - (1 : Int32)) fun x_4 =>
  znm (zpI S_2 135 0 (0 : Int32)) fun S_5 =>
  znm (fun (x_6 : Int32) (S_7 : zSt) =>
  zck (zix x_6 10) <|
  znm (fun (x_9 : Int32) (S_10 : zSt) =>
  zbd (fx_Lineup_gainAt S_10 x_6 a_1 (S_7.1 135 (x_6.toNatClampNeg)) x_9) fun r_11 S_12 =>
  some (r_11, S_12)) fun j_67 =>
  if x_4 ≤ x_6 then (
  j_67 (-1 : Int32) S_7) else (
  zck (zix (x_6 + (1 : Int32)) 9) <|
  j_67 (S_7.1 129 ((x_6 + (1 : Int32)).toNatClampNeg)) S_7)) fun j_41 =>
  fx_Lineup_gainOf_L26 a_1 x_4 j_41 zFU (0 : Int32) S_5
set_option maxHeartbeats 4000000 in
set_option maxRecDepth 100000 in
theorem cx_Lineup_gainOf (l : Launch) (D : va_G) (K : (Nat → Nat) × (Nat → Nat)) (cy : Nat → ClassId) (ad : Nat → Nat) (S_0 : zSt) (a_1 : Int32) (ro : Int32) (So : zSt) (hf : fx_Lineup_gainOf S_0 a_1 = some (ro, So)) : zMI l yX4_gainOf (zws yX4_gainOf cX4_gainOf 4 (Option.some .int)) ({ frames := 2, cells := 0, slots := 0, locals := 223 }) D (zTy cy) K (zX cy ad) [.ref (ad 128), .int a_1] S_0 ro So := by
  refine z_metI (own := RX4) (lv := [(0, .ref (ad 128)), (1, .int a_1)]) (by decide) rfl rfl (Nat.le_of_ble_eq_true rfl) rfl ?_
  intro p e s m below meth c A Q X hK hE hD hA hret hP hS ls hl
  obtain ⟨hx, hb, hml, hown, hts⟩ := id X
  have k0 := (fun w h => List.mem_cons_of_mem _ (zFX4 w h) : ∀ w ∈ u_ws RX4 TX4 14, w ∈ zws yX4_gainOf cX4_gainOf 4 (Option.some .int))
  have k1 := hts _ (List.mem_cons_of_mem _ wt_2_108)
  have k2 := (fun w h => List.mem_cons_of_mem _ (zFX0 w h) : ∀ w ∈ u_ws RX0 TX0 6, w ∈ zws yX4_gainOf cX4_gainOf 4 (Option.some .int))
  have k3 := hts _ (List.mem_cons_of_mem _ wt_1_234)
  have k4 := (fun w h => List.mem_cons_of_mem _ (zFX2 w h) : ∀ w ∈ u_ws RX2 TX2 7, w ∈ zws yX4_gainOf cX4_gainOf 4 (Option.some .int))
  have k5 := hts _ (List.mem_cons_of_mem _ wt_1_66)
  have k6 := hts _ (List.mem_cons_of_mem _ wt_2_125)
  have k7 := hts _ (List.mem_cons_of_mem _ wt_2_109)
  have k8 := hts _ (List.mem_cons_of_mem _ wt_4_116)
  refine lv_aload_n hx hb dX4_gainOf_0 rfl (lv_at hl 0 rfl) ?_
  obtain ⟨r_1, S_2, h_3, hf⟩ := z_bd hf
  refine z_cVV (As := []) (rest := []) X hK hE hD hA hP hS (cx_Lineup_weighLoaves l D K cy ad S_0 _ h_3) (cwV 0 hts (z_gV wt_4_53 wt_4_55 wp_26 wt_1_11 wt_4_56) rfl rfl rfl ⟨rfl, yd_yX4_weighLoaves⟩ ⟨Nat.le_of_ble_eq_true rfl, Nat.le_of_ble_eq_true rfl⟩) (va_recv hK hP (ci := 4) (q0 := 128) rfl (zX_128 cy ad S_0)) hl.1 rfl rfl (Nat.le_of_ble_eq_true rfl) dX4_gainOf_1 (fun H locs hP hS => ?_)
  refine lv_aload_n hx hb dX4_gainOf_4 rfl (lv_at hl 0 rfl) ?_
  refine va_get (D := D) (ci := 4) (v := .ref (ad 3)) (C := RX4) (T := TX4) (N := 14) hx hb hts k0 hown hK hP 128 (zX_128 cy ad S_2) rfl 0 (by decide) k1 (fun _ h9 => h9) rfl dX4_gainOf_5 ?_
  refine va_get (D := D) (ci := 0) (v := .ref (ad 4)) (C := RX0) (T := TX0) (N := 6) hx hb hts k2 hown hK hP 3 (zX_3 cy ad S_2) rfl 0 (by decide) k3 (fun _ h9 => h9) rfl dX4_gainOf_8 ?_
  refine va_get (D := D) (ci := 2) (v := .int (S_2.1 4 0)) (C := RX2) (T := TX2) (N := 7) hx hb hts k4 hown hK hP 4 (zX_4 cy ad S_2) rfl 0 (by decide) k5 (fun _ h9 => h9) rfl dX4_gainOf_11 ?_
  refine lv_iconst (v := 1) hx hb dX4_gainOf_14 (by decide) ?_
  refine lv_isub hx hb dX4_gainOf_15 ?_
  refine lv_topi (fun x_4 ex_4 => ?_)
  have hf := z_nv ex_4 hf
  refine lv_istore_n (lv' := [(2, .int x_4), (0, .ref (ad 128)), (1, .int a_1)]) hx hb dX4_gainOf_16 rfl hl (by decide) rfl (fun ls hl => ?_)
  refine lv_aload_n hx hb dX4_gainOf_17 rfl (lv_at hl 1 rfl) ?_
  refine va_get (D := D) (ci := 4) (v := .ref (ad 135)) (C := RX4) (T := TX4) (N := 14) hx hb hts k0 hown hK hP 128 (zX_128 cy ad S_2) rfl 11 (by decide) k6 (fun _ h9 => h9) rfl dX4_gainOf_18 ?_
  refine lv_iconst (v := 0) hx hb dX4_gainOf_21 (by decide) ?_
  refine lv_iconst (v := 0) hx hb dX4_gainOf_22 (by decide) ?_
  refine z_iast hx hb hK hP (hD S_2) hS 135 0 (zX_135 cy ad S_2) rfl (vp_in_iff.mpr (by decide)) (k := 0) (by decide) dX4_gainOf_23 (fun H locs hP hS => ?_)
  obtain ⟨S_5, eS_5, hf⟩ := z_nm hf
  have hP := zW_putI hP eS_5 (by decide) rfl
  refine lv_iconst (v := 0) hx hb dX4_gainOf_24 (by decide) ?_
  refine lv_istore_n (lv' := [(3, .int (0 : Int32)), (2, .int x_4), (0, .ref (ad 128)), (1, .int a_1)]) hx hb dX4_gainOf_25 rfl hl (by decide) rfl (fun ls hl => ?_)
  obtain ⟨j_41, ej_41, hf⟩ := z_nm hf
  have J_41 : ∀ (x_6 : Int32) (S_7 : zSt) (H : Heap) (locs : List Loc) (ls : Array Slot), j_41 x_6 S_7 = some (ro, So) → va_P D vwCl (zX cy ad S_7) H → va_S A s.heap H locs → lv_has ls 4 [(0, .ref (ad 128)), (1, .int a_1), (2, .int x_4), (3, .int x_6)] → W p l e ({ frames := 2, cells := 0, slots := 0, locals := 223 }) s m ([.ref (ad 128), .int a_1] : List Value).toArray below meth c H locs 0 0 Q (F0 m 41 ls []) := by
    intro x_6 S_7 H locs ls hf hP hS hl
    have hf := z_e2 ej_41 hf
    refine lv_aload_n hx hb dX4_gainOf_41 rfl (lv_at hl 0 rfl) ?_
    refine lv_iload_n hx hb dX4_gainOf_42 rfl (lv_at hl 3 rfl) ?_
    refine lv_iload_n hx hb dX4_gainOf_43 rfl (lv_at hl 1 rfl) ?_
    refine lv_aload_n hx hb dX4_gainOf_44 rfl (lv_at hl 0 rfl) ?_
    refine va_get (D := D) (ci := 4) (v := .ref (ad 135)) (C := RX4) (T := TX4) (N := 14) hx hb hts k0 hown hK hP 128 (zX_128 cy ad S_7) rfl 11 (by decide) k6 (fun _ h9 => h9) rfl dX4_gainOf_45 ?_
    refine lv_iload_n hx hb dX4_gainOf_48 rfl (lv_at hl 3 rfl) ?_
    obtain ⟨h_8, hf⟩ := z_ix hf
    refine z_iald hx hb hK hP 135 0 (zX_135 cy ad S_7) rfl h_8 (k := (x_6.toNatClampNeg)) rfl dX4_gainOf_49 ?_
    refine lv_iload_n hx hb dX4_gainOf_50 rfl (lv_at hl 3 rfl) ?_
    refine lv_iload_n hx hb dX4_gainOf_51 rfl (lv_at hl 2 rfl) ?_
    obtain ⟨j_67, ej_67, hf⟩ := z_nm hf
    have J_67 : ∀ (x_9 : Int32) (S_10 : zSt) (H : Heap) (locs : List Loc) (ls : Array Slot), j_67 x_9 S_10 = some (ro, So) → va_P D vwCl (zX cy ad S_10) H → va_S A s.heap H locs → lv_has ls 4 [] → W p l e ({ frames := 2, cells := 0, slots := 0, locals := 223 }) s m ([.ref (ad 128), .int a_1] : List Value).toArray below meth c H locs 0 0 Q (F0 m 67 ls [.int x_9, .int (S_7.1 135 (x_6.toNatClampNeg)), .int a_1, .int x_6, .ref (ad 128)]) := by
      intro x_9 S_10 H locs ls hf hP hS hl
      have hf := z_e2 ej_67 hf
      obtain ⟨r_11, S_12, h_13, hf⟩ := z_bd hf
      refine z_cVI (As := [.int x_6, .int a_1, .int (S_7.1 135 (x_6.toNatClampNeg)), .int x_9]) (rest := []) X hK hE hD hA hP hS (cx_Lineup_gainAt l D K cy ad S_10 _ _ _ _ _ _ h_13) (cwV 4 hts (z_gV wt_4_112 wt_4_114 wp_32 wt_1_11 wt_4_115) rfl rfl rfl ⟨rfl, yd_yX4_gainAt⟩ ⟨Nat.le_of_ble_eq_true rfl, Nat.le_of_ble_eq_true rfl⟩) (va_recv hK hP (ci := 4) (q0 := 128) rfl (zX_128 cy ad S_10)) hl.1 rfl rfl (Nat.le_of_ble_eq_true rfl) dX4_gainOf_67 (fun H locs hP hS => ?_)
      obtain ⟨h1, h2⟩ := z_s2 hf
      subst h1 h2
      exact hret _ _ _ _ hP hS dX4_gainOf_70
    refine lv_icmp_ge (tgt := 66) hx hb dX4_gainOf_52 (by decide) (fun c_15 => ?_) (fun c_15 => ?_)
    · have hf := z_it c_15 hf
      refine lv_iconst (v := -1) hx hb dX4_gainOf_66 (by decide) ?_
      exact J_67 (-1 : Int32) S_7 _ _ _ hf hP hS (lv_sub hl [] rfl)
    · have hf := z_if c_15 hf
      refine lv_aload_n hx hb dX4_gainOf_55 rfl (lv_at hl 0 rfl) ?_
      refine va_get (D := D) (ci := 4) (v := .ref (ad 129)) (C := RX4) (T := TX4) (N := 14) hx hb hts k0 hown hK hP 128 (zX_128 cy ad S_7) rfl 1 (by decide) k7 (fun _ h9 => h9) rfl dX4_gainOf_56 ?_
      refine lv_iload_n hx hb dX4_gainOf_59 rfl (lv_at hl 3 rfl) ?_
      refine lv_iconst (v := 1) hx hb dX4_gainOf_60 (by decide) ?_
      refine lv_iadd hx hb dX4_gainOf_61 ?_
      obtain ⟨h_14, hf⟩ := z_ix hf
      refine z_iald hx hb hK hP 129 0 (zX_129 cy ad S_7) rfl h_14 (k := ((x_6 + (1 : Int32)).toNatClampNeg)) rfl dX4_gainOf_62 ?_
      refine lv_goto (tgt := 67) hx hb dX4_gainOf_63 (by decide) ?_
      exact J_67 (S_7.1 129 ((x_6 + (1 : Int32)).toNatClampNeg)) S_7 _ _ _ hf hP hS (lv_sub hl [] rfl)
  have L_26 : ∀ (n_26 : Nat) (x_16 : Int32) (S_17 : zSt) (H : Heap) (locs : List Loc) (ls : Array Slot), fx_Lineup_gainOf_L26 a_1 x_4 j_41 n_26 x_16 S_17 = some (ro, So) → va_P D vwCl (zX cy ad S_17) H → va_S A s.heap H locs → lv_has ls 4 [(0, .ref (ad 128)), (1, .int a_1), (2, .int x_4), (3, .int x_16)] → W p l e ({ frames := 2, cells := 0, slots := 0, locals := 223 }) s m ([.ref (ad 128), .int a_1] : List Value).toArray below meth c H locs 0 0 Q (F0 m 26 ls []) := by
    intro n_26
    induction n_26 with
    | zero =>
      intro x_16 S_17 H locs ls hf hP hS hl
      exact z_no hf
    | succ n_26 ih_26 =>
      intro x_16 S_17 H locs ls hf hP hS hl
      rw [fx_Lineup_gainOf_L26] at hf
      refine lv_iload_n hx hb dX4_gainOf_26 rfl (lv_at hl 3 rfl) ?_
      refine lv_iload_n hx hb dX4_gainOf_27 rfl (lv_at hl 2 rfl) ?_
      refine lv_icmp_gt (tgt := 101) hx hb dX4_gainOf_28 (by decide) (fun c_28 => ?_) (fun c_28 => ?_)
      · have hf := z_it c_28 hf
        refine lv_ldc hx hb hown k8 dX4_gainOf_101 ?_
        obtain ⟨h1, h2⟩ := z_s2 hf
        subst h1 h2
        exact hret _ _ _ _ hP hS dX4_gainOf_103
      · have hf := z_if c_28 hf
        refine lv_aload_n hx hb dX4_gainOf_31 rfl (lv_at hl 0 rfl) ?_
        refine va_get (D := D) (ci := 4) (v := .ref (ad 129)) (C := RX4) (T := TX4) (N := 14) hx hb hts k0 hown hK hP 128 (zX_128 cy ad S_17) rfl 1 (by decide) k7 (fun _ h9 => h9) rfl dX4_gainOf_32 ?_
        refine lv_iload_n hx hb dX4_gainOf_35 rfl (lv_at hl 3 rfl) ?_
        obtain ⟨h_18, hf⟩ := z_ix hf
        refine z_iald hx hb hK hP 129 0 (zX_129 cy ad S_17) rfl h_18 (k := (x_16.toNatClampNeg)) rfl dX4_gainOf_36 ?_
        refine lv_iload_n hx hb dX4_gainOf_37 rfl (lv_at hl 1 rfl) ?_
        refine lv_icmp_ne (tgt := 71) hx hb dX4_gainOf_38 (by decide) (fun c_27 => ?_) (fun c_27 => ?_)
        · have hf := z_if c_27 hf
          refine lv_aload_n hx hb dX4_gainOf_71 rfl (lv_at hl 0 rfl) ?_
          refine va_get (D := D) (ci := 4) (v := .ref (ad 135)) (C := RX4) (T := TX4) (N := 14) hx hb hts k0 hown hK hP 128 (zX_128 cy ad S_17) rfl 11 (by decide) k6 (fun _ h9 => h9) rfl dX4_gainOf_72 ?_
          refine lv_iload_n hx hb dX4_gainOf_75 rfl (lv_at hl 3 rfl) ?_
          refine lv_iconst (v := 1) hx hb dX4_gainOf_76 (by decide) ?_
          refine lv_iadd hx hb dX4_gainOf_77 ?_
          refine lv_aload_n hx hb dX4_gainOf_78 rfl (lv_at hl 0 rfl) ?_
          refine lv_aload_n hx hb dX4_gainOf_79 rfl (lv_at hl 0 rfl) ?_
          refine va_get (D := D) (ci := 4) (v := .ref (ad 129)) (C := RX4) (T := TX4) (N := 14) hx hb hts k0 hown hK hP 128 (zX_128 cy ad S_17) rfl 1 (by decide) k7 (fun _ h9 => h9) rfl dX4_gainOf_80 ?_
          refine lv_iload_n hx hb dX4_gainOf_83 rfl (lv_at hl 3 rfl) ?_
          obtain ⟨h_19, hf⟩ := z_ix hf
          refine z_iald hx hb hK hP 129 0 (zX_129 cy ad S_17) rfl h_19 (k := (x_16.toNatClampNeg)) rfl dX4_gainOf_84 ?_
          refine lv_aload_n hx hb dX4_gainOf_85 rfl (lv_at hl 0 rfl) ?_
          refine va_get (D := D) (ci := 4) (v := .ref (ad 135)) (C := RX4) (T := TX4) (N := 14) hx hb hts k0 hown hK hP 128 (zX_128 cy ad S_17) rfl 11 (by decide) k6 (fun _ h9 => h9) rfl dX4_gainOf_86 ?_
          refine lv_iload_n hx hb dX4_gainOf_89 rfl (lv_at hl 3 rfl) ?_
          obtain ⟨h_20, hf⟩ := z_ix hf
          refine z_iald hx hb hK hP 135 0 (zX_135 cy ad S_17) rfl h_20 (k := (x_16.toNatClampNeg)) rfl dX4_gainOf_90 ?_
          obtain ⟨r_21, S_22, h_23, hf⟩ := z_bd hf
          refine z_cVI (As := [.int (S_17.1 129 (x_16.toNatClampNeg)), .int (S_17.1 135 (x_16.toNatClampNeg))]) (rest := [.int (x_16 + (1 : Int32)), .ref (ad 135)]) X hK hE hD hA hP hS (cx_Lineup_heatAfter l D K cy ad S_17 _ _ _ _ h_23) (cwV 2 hts (z_gV wt_4_76 wt_4_78 wp_30 wt_1_11 wt_4_79) rfl rfl rfl ⟨rfl, yd_yX4_heatAfter⟩ ⟨Nat.le_of_ble_eq_true rfl, Nat.le_of_ble_eq_true rfl⟩) (va_recv hK hP (ci := 4) (q0 := 128) rfl (zX_128 cy ad S_17)) hl.1 rfl rfl (Nat.le_of_ble_eq_true rfl) dX4_gainOf_91 (fun H locs hP hS => ?_)
          obtain ⟨h_24, hf⟩ := z_ix hf
          refine z_iast hx hb hK hP (hD S_22) hS 135 0 (zX_135 cy ad S_22) rfl h_24 (k := ((x_16 + (1 : Int32)).toNatClampNeg)) rfl dX4_gainOf_94 (fun H locs hP hS => ?_)
          obtain ⟨S_25, eS_25, hf⟩ := z_nm hf
          have hP := zW_putI hP eS_25 (by decide) rfl
          obtain ⟨x_26, ex_26, hf⟩ := z_nm hf
          refine lv_iinc (v := x_26) (lv' := [(3, .int x_26), (0, .ref (ad 128)), (1, .int a_1), (2, .int x_4)]) hx hb dX4_gainOf_95 hl (k := 3) rfl (by rw [ex_26]; rfl) (by decide) rfl (fun ls hl => ?_)
          refine lv_goto (tgt := 26) hx hb dX4_gainOf_98 (by decide) ?_
          exact ih_26 x_26 S_25 _ _ _ hf hP hS (lv_sub hl [1, 2, 3, 0] rfl)
        · have hf := z_it c_27 hf
          exact J_41 x_16 S_17 _ _ _ hf hP hS (lv_sub hl [0, 1, 2, 3] rfl)
  exact L_26 zFU (0 : Int32) S_5 _ _ _ hf hP hS (lv_sub hl [2, 3, 1, 0] rfl)
def fx_Lineup_wouldChange (S_0 : zSt) (a_1 : Int32) (a_2 : Int32) : Option (Int32 × zSt) :=
  zck (zix a_1 9) <|
  znm (S_0.1 129 (a_1.toNatClampNeg)) fun x_2 =>
  zck (zix (a_1 + (1 : Int32)) 9) <|
  znm (S_0.1 129 ((a_1 + (1 : Int32)).toNatClampNeg)) fun x_4 =>
  zck (zix a_1 10) <|
  znm (S_0.1 135 (a_1.toNatClampNeg)) fun x_6 =>
  zbd (fx_Lineup_gainAt S_0 a_1 x_4 x_6 x_2) fun r_7 S_8 =>
  zbd (fx_Lineup_heatAfter S_8 x_2 x_6) fun r_10 S_11 =>
  zbd (fx_Lineup_gainAt S_11 (a_1 + (1 : Int32)) x_4 r_10 a_2) fun r_13 S_14 =>
  znm (fun (x_16 : Int32) (S_17 : zSt) =>
  zck (zbo x_16) <|
  some (x_16, S_17)) fun j_90 =>
  znm (fun (S_19 : zSt) =>
  j_90 (0 : Int32) S_19) fun j_89 =>
  if r_7 ≤ r_13 then (
  j_89  S_14) else (
  zbd (fx_Lineup_heatAfter S_14 x_4 x_6) fun r_20 S_21 =>
  zbd (fx_Lineup_gainAt S_21 (a_1 + (1 : Int32)) x_2 r_20 a_2) fun r_23 S_24 =>
  zbd (fx_Lineup_gainAt S_24 a_1 x_2 x_6 x_4) fun r_26 S_27 =>
  if r_23 ≤ r_26 then (
  j_89  S_27) else (
  j_90 (1 : Int32) S_27))
set_option maxHeartbeats 4000000 in
set_option maxRecDepth 100000 in
theorem cx_Lineup_wouldChange (l : Launch) (D : va_G) (K : (Nat → Nat) × (Nat → Nat)) (cy : Nat → ClassId) (ad : Nat → Nat) (S_0 : zSt) (a_1 : Int32) (a_2 : Int32) (ro : Int32) (So : zSt) (hf : fx_Lineup_wouldChange S_0 a_1 a_2 = some (ro, So)) : zMI l yX4_wouldChange (zws yX4_wouldChange cX4_wouldChange 6 (Option.some .boolean)) ({ frames := 2, cells := 0, slots := 0, locals := 223 }) D (zTy cy) K (zX cy ad) [.ref (ad 128), .int a_1, .int a_2] S_0 ro So := by
  refine z_metZ (own := RX4) (lv := [(0, .ref (ad 128)), (1, .int a_1), (2, .int a_2)]) (by decide) rfl rfl (Nat.le_of_ble_eq_true rfl) rfl ?_
  intro p e s m below meth c A Q X hK hE hD hA hret hP hS ls hl
  obtain ⟨hx, hb, hml, hown, hts⟩ := id X
  have k0 := (fun w h => List.mem_cons_of_mem _ (zFX4 w h) : ∀ w ∈ u_ws RX4 TX4 14, w ∈ zws yX4_wouldChange cX4_wouldChange 6 (Option.some .boolean))
  have k1 := hts _ (List.mem_cons_of_mem _ wt_2_109)
  have k2 := hts _ (List.mem_cons_of_mem _ wt_2_125)
  refine lv_aload_n hx hb dX4_wouldChange_0 rfl (lv_at hl 0 rfl) ?_
  refine va_get (D := D) (ci := 4) (v := .ref (ad 129)) (C := RX4) (T := TX4) (N := 14) hx hb hts k0 hown hK hP 128 (zX_128 cy ad S_0) rfl 1 (by decide) k1 (fun _ h9 => h9) rfl dX4_wouldChange_1 ?_
  refine lv_iload_n hx hb dX4_wouldChange_4 rfl (lv_at hl 1 rfl) ?_
  obtain ⟨h_1, hf⟩ := z_ix hf
  refine z_iald hx hb hK hP 129 0 (zX_129 cy ad S_0) rfl h_1 (k := (a_1.toNatClampNeg)) rfl dX4_wouldChange_5 ?_
  refine lv_topi (fun x_2 ex_2 => ?_)
  have hf := z_nv ex_2 hf
  refine lv_istore_n (lv' := [(3, .int x_2), (0, .ref (ad 128)), (1, .int a_1), (2, .int a_2)]) hx hb dX4_wouldChange_6 rfl hl (by decide) rfl (fun ls hl => ?_)
  refine lv_aload_n hx hb dX4_wouldChange_7 rfl (lv_at hl 1 rfl) ?_
  refine va_get (D := D) (ci := 4) (v := .ref (ad 129)) (C := RX4) (T := TX4) (N := 14) hx hb hts k0 hown hK hP 128 (zX_128 cy ad S_0) rfl 1 (by decide) k1 (fun _ h9 => h9) rfl dX4_wouldChange_8 ?_
  refine lv_iload_n hx hb dX4_wouldChange_11 rfl (lv_at hl 2 rfl) ?_
  refine lv_iconst (v := 1) hx hb dX4_wouldChange_12 (by decide) ?_
  refine lv_iadd hx hb dX4_wouldChange_13 ?_
  obtain ⟨h_3, hf⟩ := z_ix hf
  refine z_iald hx hb hK hP 129 0 (zX_129 cy ad S_0) rfl h_3 (k := ((a_1 + (1 : Int32)).toNatClampNeg)) rfl dX4_wouldChange_14 ?_
  refine lv_topi (fun x_4 ex_4 => ?_)
  have hf := z_nv ex_4 hf
  refine lv_istore (lv' := [(4, .int x_4), (3, .int x_2), (0, .ref (ad 128)), (1, .int a_1), (2, .int a_2)]) hx hb dX4_wouldChange_15 hl (by decide) rfl (fun ls hl => ?_)
  refine lv_aload_n hx hb dX4_wouldChange_17 rfl (lv_at hl 2 rfl) ?_
  refine va_get (D := D) (ci := 4) (v := .ref (ad 135)) (C := RX4) (T := TX4) (N := 14) hx hb hts k0 hown hK hP 128 (zX_128 cy ad S_0) rfl 11 (by decide) k2 (fun _ h9 => h9) rfl dX4_wouldChange_18 ?_
  refine lv_iload_n hx hb dX4_wouldChange_21 rfl (lv_at hl 3 rfl) ?_
  obtain ⟨h_5, hf⟩ := z_ix hf
  refine z_iald hx hb hK hP 135 0 (zX_135 cy ad S_0) rfl h_5 (k := (a_1.toNatClampNeg)) rfl dX4_wouldChange_22 ?_
  refine lv_topi (fun x_6 ex_6 => ?_)
  have hf := z_nv ex_6 hf
  refine lv_istore (lv' := [(5, .int x_6), (4, .int x_4), (3, .int x_2), (0, .ref (ad 128)), (1, .int a_1), (2, .int a_2)]) hx hb dX4_wouldChange_23 hl (by decide) rfl (fun ls hl => ?_)
  refine lv_aload_n hx hb dX4_wouldChange_25 rfl (lv_at hl 3 rfl) ?_
  refine lv_iload_n hx hb dX4_wouldChange_26 rfl (lv_at hl 4 rfl) ?_
  refine lv_iload hx hb dX4_wouldChange_27 (lv_at hl 1 rfl) ?_
  refine lv_iload hx hb dX4_wouldChange_29 (lv_at hl 0 rfl) ?_
  refine lv_iload_n hx hb dX4_wouldChange_31 rfl (lv_at hl 2 rfl) ?_
  obtain ⟨r_7, S_8, h_9, hf⟩ := z_bd hf
  refine z_cVI (As := [.int a_1, .int x_4, .int x_6, .int x_2]) (rest := []) X hK hE hD hA hP hS (cx_Lineup_gainAt l D K cy ad S_0 _ _ _ _ _ _ h_9) (cwV 4 hts (z_gV wt_4_112 wt_4_114 wp_32 wt_1_11 wt_4_115) rfl rfl rfl ⟨rfl, yd_yX4_gainAt⟩ ⟨Nat.le_of_ble_eq_true rfl, Nat.le_of_ble_eq_true rfl⟩) (va_recv hK hP (ci := 4) (q0 := 128) rfl (zX_128 cy ad S_0)) hl.1 rfl rfl (Nat.le_of_ble_eq_true rfl) dX4_wouldChange_32 (fun H locs hP hS => ?_)
  refine lv_aload_n hx hb dX4_wouldChange_35 rfl (lv_at hl 3 rfl) ?_
  refine lv_iload_n hx hb dX4_wouldChange_36 rfl (lv_at hl 4 rfl) ?_
  refine lv_iconst (v := 1) hx hb dX4_wouldChange_37 (by decide) ?_
  refine lv_iadd hx hb dX4_wouldChange_38 ?_
  refine lv_iload hx hb dX4_wouldChange_39 (lv_at hl 1 rfl) ?_
  refine lv_aload_n hx hb dX4_wouldChange_41 rfl (lv_at hl 3 rfl) ?_
  refine lv_iload_n hx hb dX4_wouldChange_42 rfl (lv_at hl 2 rfl) ?_
  refine lv_iload hx hb dX4_wouldChange_43 (lv_at hl 0 rfl) ?_
  obtain ⟨r_10, S_11, h_12, hf⟩ := z_bd hf
  refine z_cVI (As := [.int x_2, .int x_6]) (rest := [.int x_4, .int (a_1 + (1 : Int32)), .ref (ad 128), .int r_7]) X hK hE hD hA hP hS (cx_Lineup_heatAfter l D K cy ad S_8 _ _ _ _ h_12) (cwV 2 hts (z_gV wt_4_76 wt_4_78 wp_30 wt_1_11 wt_4_79) rfl rfl rfl ⟨rfl, yd_yX4_heatAfter⟩ ⟨Nat.le_of_ble_eq_true rfl, Nat.le_of_ble_eq_true rfl⟩) (va_recv hK hP (ci := 4) (q0 := 128) rfl (zX_128 cy ad S_8)) hl.1 rfl rfl (Nat.le_of_ble_eq_true rfl) dX4_wouldChange_45 (fun H locs hP hS => ?_)
  refine lv_iload_n hx hb dX4_wouldChange_48 rfl (lv_at hl 5 rfl) ?_
  obtain ⟨r_13, S_14, h_15, hf⟩ := z_bd hf
  refine z_cVI (As := [.int (a_1 + (1 : Int32)), .int x_4, .int r_10, .int a_2]) (rest := [.int r_7]) X hK hE hD hA hP hS (cx_Lineup_gainAt l D K cy ad S_11 _ _ _ _ _ _ h_15) (cwV 4 hts (z_gV wt_4_112 wt_4_114 wp_32 wt_1_11 wt_4_115) rfl rfl rfl ⟨rfl, yd_yX4_gainAt⟩ ⟨Nat.le_of_ble_eq_true rfl, Nat.le_of_ble_eq_true rfl⟩) (va_recv hK hP (ci := 4) (q0 := 128) rfl (zX_128 cy ad S_11)) hl.1 rfl rfl (Nat.le_of_ble_eq_true rfl) dX4_wouldChange_49 (fun H locs hP hS => ?_)
  obtain ⟨j_90, ej_90, hf⟩ := z_nm hf
  have J_90 : ∀ (x_16 : Int32) (S_17 : zSt) (H : Heap) (locs : List Loc) (ls : Array Slot), j_90 x_16 S_17 = some (ro, So) → va_P D vwCl (zX cy ad S_17) H → va_S A s.heap H locs → lv_has ls 6 [] → W p l e ({ frames := 2, cells := 0, slots := 0, locals := 223 }) s m ([.ref (ad 128), .int a_1, .int a_2] : List Value).toArray below meth c H locs 0 0 Q (F0 m 90 ls [.int x_16]) := by
    intro x_16 S_17 H locs ls hf hP hS hl
    have hf := z_e2 ej_90 hf
    obtain ⟨h_18, hf⟩ := z_bo hf
    obtain ⟨h1, h2⟩ := z_s2 hf
    subst h1 h2
    exact hret _ _ _ _ h_18 hP hS dX4_wouldChange_90
  obtain ⟨j_89, ej_89, hf⟩ := z_nm hf
  have J_89 : ∀ (S_19 : zSt) (H : Heap) (locs : List Loc) (ls : Array Slot), j_89  S_19 = some (ro, So) → va_P D vwCl (zX cy ad S_19) H → va_S A s.heap H locs → lv_has ls 6 [] → W p l e ({ frames := 2, cells := 0, slots := 0, locals := 223 }) s m ([.ref (ad 128), .int a_1, .int a_2] : List Value).toArray below meth c H locs 0 0 Q (F0 m 89 ls []) := by
    intro  S_19 H locs ls hf hP hS hl
    have hf := z_e1 ej_89 hf
    refine lv_iconst (v := 0) hx hb dX4_wouldChange_89 (by decide) ?_
    exact J_90 (0 : Int32) S_19 _ _ _ hf hP hS (lv_sub hl [] rfl)
  refine lv_icmp_le (tgt := 89) hx hb dX4_wouldChange_52 (by decide) (fun c_30 => ?_) (fun c_30 => ?_)
  · have hf := z_it c_30 hf
    exact J_89  S_14 _ _ _ hf hP hS (lv_sub hl [] rfl)
  · have hf := z_if c_30 hf
    refine lv_aload_n hx hb dX4_wouldChange_55 rfl (lv_at hl 3 rfl) ?_
    refine lv_iload_n hx hb dX4_wouldChange_56 rfl (lv_at hl 4 rfl) ?_
    refine lv_iconst (v := 1) hx hb dX4_wouldChange_57 (by decide) ?_
    refine lv_iadd hx hb dX4_wouldChange_58 ?_
    refine lv_iload_n hx hb dX4_wouldChange_59 rfl (lv_at hl 2 rfl) ?_
    refine lv_aload_n hx hb dX4_wouldChange_60 rfl (lv_at hl 3 rfl) ?_
    refine lv_iload hx hb dX4_wouldChange_61 (lv_at hl 1 rfl) ?_
    refine lv_iload hx hb dX4_wouldChange_63 (lv_at hl 0 rfl) ?_
    obtain ⟨r_20, S_21, h_22, hf⟩ := z_bd hf
    refine z_cVI (As := [.int x_4, .int x_6]) (rest := [.int x_2, .int (a_1 + (1 : Int32)), .ref (ad 128)]) X hK hE hD hA hP hS (cx_Lineup_heatAfter l D K cy ad S_14 _ _ _ _ h_22) (cwV 2 hts (z_gV wt_4_76 wt_4_78 wp_30 wt_1_11 wt_4_79) rfl rfl rfl ⟨rfl, yd_yX4_heatAfter⟩ ⟨Nat.le_of_ble_eq_true rfl, Nat.le_of_ble_eq_true rfl⟩) (va_recv hK hP (ci := 4) (q0 := 128) rfl (zX_128 cy ad S_14)) hl.1 rfl rfl (Nat.le_of_ble_eq_true rfl) dX4_wouldChange_65 (fun H locs hP hS => ?_)
    refine lv_iload_n hx hb dX4_wouldChange_68 rfl (lv_at hl 5 rfl) ?_
    obtain ⟨r_23, S_24, h_25, hf⟩ := z_bd hf
    refine z_cVI (As := [.int (a_1 + (1 : Int32)), .int x_2, .int r_20, .int a_2]) (rest := []) X hK hE hD hA hP hS (cx_Lineup_gainAt l D K cy ad S_21 _ _ _ _ _ _ h_25) (cwV 4 hts (z_gV wt_4_112 wt_4_114 wp_32 wt_1_11 wt_4_115) rfl rfl rfl ⟨rfl, yd_yX4_gainAt⟩ ⟨Nat.le_of_ble_eq_true rfl, Nat.le_of_ble_eq_true rfl⟩) (va_recv hK hP (ci := 4) (q0 := 128) rfl (zX_128 cy ad S_21)) hl.1 rfl rfl (Nat.le_of_ble_eq_true rfl) dX4_wouldChange_69 (fun H locs hP hS => ?_)
    refine lv_aload_n hx hb dX4_wouldChange_72 rfl (lv_at hl 3 rfl) ?_
    refine lv_iload_n hx hb dX4_wouldChange_73 rfl (lv_at hl 4 rfl) ?_
    refine lv_iload_n hx hb dX4_wouldChange_74 rfl (lv_at hl 2 rfl) ?_
    refine lv_iload hx hb dX4_wouldChange_75 (lv_at hl 0 rfl) ?_
    refine lv_iload hx hb dX4_wouldChange_77 (lv_at hl 1 rfl) ?_
    obtain ⟨r_26, S_27, h_28, hf⟩ := z_bd hf
    refine z_cVI (As := [.int a_1, .int x_2, .int x_6, .int x_4]) (rest := [.int r_23]) X hK hE hD hA hP hS (cx_Lineup_gainAt l D K cy ad S_24 _ _ _ _ _ _ h_28) (cwV 4 hts (z_gV wt_4_112 wt_4_114 wp_32 wt_1_11 wt_4_115) rfl rfl rfl ⟨rfl, yd_yX4_gainAt⟩ ⟨Nat.le_of_ble_eq_true rfl, Nat.le_of_ble_eq_true rfl⟩) (va_recv hK hP (ci := 4) (q0 := 128) rfl (zX_128 cy ad S_24)) hl.1 rfl rfl (Nat.le_of_ble_eq_true rfl) dX4_wouldChange_79 (fun H locs hP hS => ?_)
    refine lv_icmp_le (tgt := 89) hx hb dX4_wouldChange_82 (by decide) (fun c_29 => ?_) (fun c_29 => ?_)
    · have hf := z_it c_29 hf
      exact J_89  S_27 _ _ _ hf hP hS (lv_sub hl [] rfl)
    · have hf := z_if c_29 hf
      refine lv_iconst (v := 1) hx hb dX4_wouldChange_85 (by decide) ?_
      refine lv_goto (tgt := 90) hx hb dX4_wouldChange_86 (by decide) ?_
      exact J_90 (1 : Int32) S_27 _ _ _ hf hP hS (lv_sub hl [] rfl)
def fx_Lineup_beginSearch (S_0 : zSt) : Option (Unit × zSt) :=
  zbd (fx_Lineup_weighLoaves S_0) fun _ S_2 =>
  zbd (fx_Lineup_clearPlaced S_2) fun _ S_5 =>
  znm (zpI S_5 135 0 (0 : Int32)) fun S_7 =>
  some ((), S_7)
set_option maxHeartbeats 4000000 in
set_option maxRecDepth 100000 in
theorem cx_Lineup_beginSearch (l : Launch) (D : va_G) (K : (Nat → Nat) × (Nat → Nat)) (cy : Nat → ClassId) (ad : Nat → Nat) (S_0 : zSt) (So : zSt) (hf : fx_Lineup_beginSearch S_0 = some ((), So)) : zMV l yX4_beginSearch (zws yX4_beginSearch cX4_beginSearch 1 none) ({ frames := 2, cells := 0, slots := 0, locals := 221 }) D (zTy cy) K (zX cy ad) [.ref (ad 128)] S_0 So := by
  refine z_metV (own := RX4) (lv := [(0, .ref (ad 128))]) (by decide) rfl rfl (Nat.le_of_ble_eq_true rfl) rfl ?_
  intro p e s m below meth c A Q X hK hE hD hA hret hP hS ls hl
  obtain ⟨hx, hb, hml, hown, hts⟩ := id X
  have k0 := (fun w h => List.mem_cons_of_mem _ (zFX4 w h) : ∀ w ∈ u_ws RX4 TX4 14, w ∈ zws yX4_beginSearch cX4_beginSearch 1 none)
  have k1 := hts _ (List.mem_cons_of_mem _ wt_2_125)
  refine lv_aload_n hx hb dX4_beginSearch_0 rfl (lv_at hl 0 rfl) ?_
  obtain ⟨r_1, S_2, h_3, hf⟩ := z_bd hf
  refine z_cVV (As := []) (rest := []) X hK hE hD hA hP hS (cx_Lineup_weighLoaves l D K cy ad S_0 _ h_3) (cwV 0 hts (z_gV wt_4_53 wt_4_55 wp_26 wt_1_11 wt_4_56) rfl rfl rfl ⟨rfl, yd_yX4_weighLoaves⟩ ⟨Nat.le_of_ble_eq_true rfl, Nat.le_of_ble_eq_true rfl⟩) (va_recv hK hP (ci := 4) (q0 := 128) rfl (zX_128 cy ad S_0)) hl.1 rfl rfl (Nat.le_of_ble_eq_true rfl) dX4_beginSearch_1 (fun H locs hP hS => ?_)
  refine lv_aload_n hx hb dX4_beginSearch_4 rfl (lv_at hl 0 rfl) ?_
  obtain ⟨r_4, S_5, h_6, hf⟩ := z_bd hf
  refine z_cVV (As := []) (rest := []) X hK hE hD hA hP hS (cx_Lineup_clearPlaced l D K cy ad S_2 _ h_6) (cwV 0 hts (z_gV wt_4_103 wt_4_105 wp_31 wt_1_11 wt_4_106) rfl rfl rfl ⟨rfl, yd_yX4_clearPlaced⟩ ⟨Nat.le_of_ble_eq_true rfl, Nat.le_of_ble_eq_true rfl⟩) (va_recv hK hP (ci := 4) (q0 := 128) rfl (zX_128 cy ad S_2)) hl.1 rfl rfl (Nat.le_of_ble_eq_true rfl) dX4_beginSearch_5 (fun H locs hP hS => ?_)
  refine lv_aload_n hx hb dX4_beginSearch_8 rfl (lv_at hl 0 rfl) ?_
  refine va_get (D := D) (ci := 4) (v := .ref (ad 135)) (C := RX4) (T := TX4) (N := 14) hx hb hts k0 hown hK hP 128 (zX_128 cy ad S_5) rfl 11 (by decide) k1 (fun _ h9 => h9) rfl dX4_beginSearch_9 ?_
  refine lv_iconst (v := 0) hx hb dX4_beginSearch_12 (by decide) ?_
  refine lv_iconst (v := 0) hx hb dX4_beginSearch_13 (by decide) ?_
  refine z_iast hx hb hK hP (hD S_5) hS 135 0 (zX_135 cy ad S_5) rfl (vp_in_iff.mpr (by decide)) (k := 0) (by decide) dX4_beginSearch_14 (fun H locs hP hS => ?_)
  obtain ⟨S_7, eS_7, hf⟩ := z_nm hf
  have hP := zW_putI hP eS_7 (by decide) rfl
  obtain ⟨h1, h2⟩ := z_s2 hf
  subst h2
  exact hret _ _ _ _ hP hS dX4_beginSearch_15
def fx_Lineup_noteIfSettled (S_0 : zSt) (a_1 : Int32) : Option (Unit × zSt) :=
  znm (fun (S_1 : zSt) =>
  znm (fun (S_2 : zSt) =>
  znm (zpI S_2 128 3 ((S_2.1 128 3) + (1 : Int32))) fun S_3 =>
  some ((), S_3)) fun j_39 =>
  if (S_1.1 128 3) = 0 then (
  znm (zcI S_1 130 (va_cpy (S_1.1 129) (S_1.1 130) 0 0 9)) fun S_4 =>
  j_39  S_4) else (
  j_39  S_1)) fun j_17 =>
  if a_1 < (2 : Int32) then (
  j_17  S_0) else (
  zbd (fx_Lineup_wouldChange S_0 (a_1 - (2 : Int32)) (-1 : Int32)) fun r_6 S_7 =>
  if r_6 = 0 then (
  j_17  S_7) else (
  some ((), S_7)))
set_option maxHeartbeats 4000000 in
set_option maxRecDepth 100000 in
theorem cx_Lineup_noteIfSettled (l : Launch) (D : va_G) (K : (Nat → Nat) × (Nat → Nat)) (cy : Nat → ClassId) (ad : Nat → Nat) (S_0 : zSt) (a_1 : Int32) (So : zSt) (hf : fx_Lineup_noteIfSettled S_0 a_1 = some ((), So)) : zMV l yX4_noteIfSettled (zws yX4_noteIfSettled cX4_noteIfSettled 2 none) ({ frames := 3, cells := 0, slots := 0, locals := 248 }) D (zTy cy) K (zX cy ad) [.ref (ad 128), .int a_1] S_0 So := by
  refine z_metV (own := RX4) (lv := [(0, .ref (ad 128)), (1, .int a_1)]) (by decide) rfl rfl (Nat.le_of_ble_eq_true rfl) rfl ?_
  intro p e s m below meth c A Q X hK hE hD hA hret hP hS ls hl
  obtain ⟨hx, hb, hml, hown, hts⟩ := id X
  have k0 := (fun w h => List.mem_cons_of_mem _ (zFX4 w h) : ∀ w ∈ u_ws RX4 TX4 14, w ∈ zws yX4_noteIfSettled cX4_noteIfSettled 2 none)
  have k1 := hts _ (List.mem_cons_of_mem _ wt_2_114)
  have k2 := hts _ (List.mem_cons_of_mem _ wt_2_109)
  have k3 := hts _ (List.mem_cons_of_mem _ wt_2_111)
  have k4 := hts _ (List.mem_cons_of_mem _ wt_4_81)
  have k5 := hts _ (List.mem_cons_of_mem _ wt_3_231)
  have k6 := hts _ (List.mem_cons_of_mem _ wt_3_230)
  have k7 := hts _ (List.mem_cons_of_mem _ wt_1_20)
  refine lv_iload_n hx hb dX4_noteIfSettled_0 rfl (lv_at hl 1 rfl) ?_
  refine lv_iconst (v := 2) hx hb dX4_noteIfSettled_1 (by decide) ?_
  obtain ⟨j_17, ej_17, hf⟩ := z_nm hf
  have J_17 : ∀ (S_1 : zSt) (H : Heap) (locs : List Loc) (ls : Array Slot), j_17  S_1 = some ((), So) → va_P D vwCl (zX cy ad S_1) H → va_S A s.heap H locs → lv_has ls 2 [(0, .ref (ad 128))] → W p l e ({ frames := 3, cells := 0, slots := 0, locals := 248 }) s m ([.ref (ad 128), .int a_1] : List Value).toArray below meth c H locs 0 0 Q (F0 m 17 ls []) := by
    intro  S_1 H locs ls hf hP hS hl
    have hf := z_e1 ej_17 hf
    refine lv_aload_n hx hb dX4_noteIfSettled_17 rfl (lv_at hl 0 rfl) ?_
    refine va_get (D := D) (ci := 4) (v := .int (S_1.1 128 3)) (C := RX4) (T := TX4) (N := 14) hx hb hts k0 hown hK hP 128 (zX_128 cy ad S_1) rfl 3 (by decide) k1 (fun _ h9 => h9) rfl dX4_noteIfSettled_18 ?_
    obtain ⟨j_39, ej_39, hf⟩ := z_nm hf
    have J_39 : ∀ (S_2 : zSt) (H : Heap) (locs : List Loc) (ls : Array Slot), j_39  S_2 = some ((), So) → va_P D vwCl (zX cy ad S_2) H → va_S A s.heap H locs → lv_has ls 2 [(0, .ref (ad 128))] → W p l e ({ frames := 3, cells := 0, slots := 0, locals := 248 }) s m ([.ref (ad 128), .int a_1] : List Value).toArray below meth c H locs 0 0 Q (F0 m 39 ls []) := by
      intro  S_2 H locs ls hf hP hS hl
      have hf := z_e1 ej_39 hf
      refine lv_aload_n hx hb dX4_noteIfSettled_39 rfl (lv_at hl 0 rfl) ?_
      refine lv_dup hx hb dX4_noteIfSettled_40 rfl ?_
      refine va_get (D := D) (ci := 4) (v := .int (S_2.1 128 3)) (C := RX4) (T := TX4) (N := 14) hx hb hts k0 hown hK hP 128 (zX_128 cy ad S_2) rfl 3 (by decide) k1 (fun _ h9 => h9) rfl dX4_noteIfSettled_41 ?_
      refine lv_iconst (v := 1) hx hb dX4_noteIfSettled_44 (by decide) ?_
      refine lv_iadd hx hb dX4_noteIfSettled_45 ?_
      refine va_put (D := D) (ci := 4) (v := .int ((S_2.1 128 3) + (1 : Int32))) (ty := .int) (C := RX4) (T := TX4) (N := 14) hx hb hts k0 tyX4 tyX4_ok nmX4 hown hK hP (hD S_2) hS 128 (zX_128 cy ad S_2) rfl 3 (by decide) k1 (fun _ h9 => h9) rfl (tyX4_ok 3 (by decide)) rfl rfl (Nat.le_of_ble_eq_true rfl) dX4_noteIfSettled_46 (fun H locs hP _ hS => ?_)
      obtain ⟨S_3, eS_3, hf⟩ := z_nm hf
      have hP := zW_putI hP eS_3 (by decide) rfl
      obtain ⟨h1, h2⟩ := z_s2 hf
      subst h2
      exact hret _ _ _ _ hP hS dX4_noteIfSettled_49
    refine lv_if_ne (tgt := 39) hx hb dX4_noteIfSettled_21 (by decide) (fun c_5 => ?_) (fun c_5 => ?_)
    · have hf := z_if c_5 hf
      exact J_39  S_1 _ _ _ hf hP hS (lv_sub hl [0] rfl)
    · have hf := z_it c_5 hf
      refine lv_aload_n hx hb dX4_noteIfSettled_24 rfl (lv_at hl 0 rfl) ?_
      refine va_get (D := D) (ci := 4) (v := .ref (ad 129)) (C := RX4) (T := TX4) (N := 14) hx hb hts k0 hown hK hP 128 (zX_128 cy ad S_1) rfl 1 (by decide) k2 (fun _ h9 => h9) rfl dX4_noteIfSettled_25 ?_
      refine lv_iconst (v := 0) hx hb dX4_noteIfSettled_28 (by decide) ?_
      refine lv_aload_n hx hb dX4_noteIfSettled_29 rfl (lv_at hl 0 rfl) ?_
      refine va_get (D := D) (ci := 4) (v := .ref (ad 130)) (C := RX4) (T := TX4) (N := 14) hx hb hts k0 hown hK hP 128 (zX_128 cy ad S_1) rfl 2 (by decide) k3 (fun _ h9 => h9) rfl dX4_noteIfSettled_30 ?_
      refine lv_iconst (v := 0) hx hb dX4_noteIfSettled_33 (by decide) ?_
      refine lv_bipush (v := 9) hx hb dX4_noteIfSettled_34 (by decide) ?_
      refine z_copyi hx hb (by rw [hml]; exact hl.1.symm) hown k4 k5 k6 k7 hK hP (hD S_1) hS 129 130 0 (zX_129 cy ad S_1) (zX_130 cy ad S_1) rfl (by decide) (k := 9) (by decide) (by decide) (by decide) (Nat.le_of_ble_eq_true rfl) (Nat.le_of_ble_eq_true rfl) dX4_noteIfSettled_36 (fun H locs hP hS => ?_)
      obtain ⟨S_4, eS_4, hf⟩ := z_nm hf
      have hP := zW_cpyI hP eS_4 (by decide) rfl
      exact J_39  S_4 _ _ _ hf hP hS (lv_sub hl [0] rfl)
  refine lv_icmp_lt (tgt := 17) hx hb dX4_noteIfSettled_2 (by decide) (fun c_10 => ?_) (fun c_10 => ?_)
  · have hf := z_it c_10 hf
    exact J_17  S_0 _ _ _ hf hP hS (lv_sub hl [0] rfl)
  · have hf := z_if c_10 hf
    refine lv_aload_n hx hb dX4_noteIfSettled_5 rfl (lv_at hl 0 rfl) ?_
    refine lv_iload_n hx hb dX4_noteIfSettled_6 rfl (lv_at hl 1 rfl) ?_
    refine lv_iconst (v := 2) hx hb dX4_noteIfSettled_7 (by decide) ?_
    refine lv_isub hx hb dX4_noteIfSettled_8 ?_
    refine lv_iconst (v := -1) hx hb dX4_noteIfSettled_9 (by decide) ?_
    obtain ⟨r_6, S_7, h_8, hf⟩ := z_bd hf
    refine z_cVI (As := [.int (a_1 - (2 : Int32)), .int (-1 : Int32)]) (rest := []) X hK hE hD hA hP hS (cx_Lineup_wouldChange l D K cy ad S_0 _ _ _ _ h_8) (cwV 2 hts (z_gV wt_4_141 wt_4_143 wp_37 wt_1_11 wt_4_144) rfl rfl rfl ⟨rfl, yd_yX4_wouldChange⟩ ⟨Nat.le_of_ble_eq_true rfl, Nat.le_of_ble_eq_true rfl⟩) (va_recv hK hP (ci := 4) (q0 := 128) rfl (zX_128 cy ad S_0)) hl.1 rfl rfl (Nat.le_of_ble_eq_true rfl) dX4_noteIfSettled_10 (fun H locs hP hS => ?_)
    refine lv_if_eq (tgt := 17) hx hb dX4_noteIfSettled_13 (by decide) (fun c_9 => ?_) (fun c_9 => ?_)
    · have hf := z_it c_9 hf
      exact J_17  S_7 _ _ _ hf hP hS (lv_sub hl [0] rfl)
    · have hf := z_if c_9 hf
      obtain ⟨h1, h2⟩ := z_s2 hf
      subst h2
      exact hret _ _ _ _ hP hS dX4_noteIfSettled_16
def fx_Lineup_step (S_0 : zSt) (a_1 : Int32) (a_2 : Int32) : Option (Unit × zSt) :=
  zck (zix a_2 9) <|
  znm (zpI S_0 136 (a_2.toNatClampNeg) (1 : Int32)) fun S_2 =>
  zck (zix a_1 9) <|
  znm (zpI S_2 129 (a_1.toNatClampNeg) a_2) fun S_4 =>
  zck (zix a_1 10) <|
  zbd (fx_Lineup_heatAfter S_4 a_2 (S_4.1 135 (a_1.toNatClampNeg))) fun r_6 S_7 =>
  zck (zix (a_1 + (1 : Int32)) 10) <|
  znm (zpI S_7 135 ((a_1 + (1 : Int32)).toNatClampNeg) r_6) fun S_10 =>
  some ((), S_10)
set_option maxHeartbeats 4000000 in
set_option maxRecDepth 100000 in
theorem cx_Lineup_step (l : Launch) (D : va_G) (K : (Nat → Nat) × (Nat → Nat)) (cy : Nat → ClassId) (ad : Nat → Nat) (S_0 : zSt) (a_1 : Int32) (a_2 : Int32) (So : zSt) (hf : fx_Lineup_step S_0 a_1 a_2 = some ((), So)) : zMV l yX4_step (zws yX4_step cX4_step 3 none) ({ frames := 2, cells := 0, slots := 0, locals := 223 }) D (zTy cy) K (zX cy ad) [.ref (ad 128), .int a_1, .int a_2] S_0 So := by
  refine z_metV (own := RX4) (lv := [(0, .ref (ad 128)), (1, .int a_1), (2, .int a_2)]) (by decide) rfl rfl (Nat.le_of_ble_eq_true rfl) rfl ?_
  intro p e s m below meth c A Q X hK hE hD hA hret hP hS ls hl
  obtain ⟨hx, hb, hml, hown, hts⟩ := id X
  have k0 := (fun w h => List.mem_cons_of_mem _ (zFX4 w h) : ∀ w ∈ u_ws RX4 TX4 14, w ∈ zws yX4_step cX4_step 3 none)
  have k1 := hts _ (List.mem_cons_of_mem _ wt_2_126)
  have k2 := hts _ (List.mem_cons_of_mem _ wt_2_109)
  have k3 := hts _ (List.mem_cons_of_mem _ wt_2_125)
  refine lv_aload_n hx hb dX4_step_0 rfl (lv_at hl 0 rfl) ?_
  refine va_get (D := D) (ci := 4) (v := .ref (ad 136)) (C := RX4) (T := TX4) (N := 14) hx hb hts k0 hown hK hP 128 (zX_128 cy ad S_0) rfl 12 (by decide) k1 (fun _ h9 => h9) rfl dX4_step_1 ?_
  refine lv_iload_n hx hb dX4_step_4 rfl (lv_at hl 2 rfl) ?_
  refine lv_iconst (v := 1) hx hb dX4_step_5 (by decide) ?_
  obtain ⟨h_1, hf⟩ := z_ix hf
  refine z_zast hx hb hK hP (hD S_0) hS 136 2 (zX_136 cy ad S_0) rfl h_1 (k := (a_2.toNatClampNeg)) rfl rfl dX4_step_6 (fun H locs hP hS => ?_)
  obtain ⟨S_2, eS_2, hf⟩ := z_nm hf
  have hP := zW_putI hP eS_2 (by decide) rfl
  refine lv_aload_n hx hb dX4_step_7 rfl (lv_at hl 0 rfl) ?_
  refine va_get (D := D) (ci := 4) (v := .ref (ad 129)) (C := RX4) (T := TX4) (N := 14) hx hb hts k0 hown hK hP 128 (zX_128 cy ad S_2) rfl 1 (by decide) k2 (fun _ h9 => h9) rfl dX4_step_8 ?_
  refine lv_iload_n hx hb dX4_step_11 rfl (lv_at hl 1 rfl) ?_
  refine lv_iload_n hx hb dX4_step_12 rfl (lv_at hl 2 rfl) ?_
  obtain ⟨h_3, hf⟩ := z_ix hf
  refine z_iast hx hb hK hP (hD S_2) hS 129 0 (zX_129 cy ad S_2) rfl h_3 (k := (a_1.toNatClampNeg)) rfl dX4_step_13 (fun H locs hP hS => ?_)
  obtain ⟨S_4, eS_4, hf⟩ := z_nm hf
  have hP := zW_putI hP eS_4 (by decide) rfl
  refine lv_aload_n hx hb dX4_step_14 rfl (lv_at hl 0 rfl) ?_
  refine va_get (D := D) (ci := 4) (v := .ref (ad 135)) (C := RX4) (T := TX4) (N := 14) hx hb hts k0 hown hK hP 128 (zX_128 cy ad S_4) rfl 11 (by decide) k3 (fun _ h9 => h9) rfl dX4_step_15 ?_
  refine lv_iload_n hx hb dX4_step_18 rfl (lv_at hl 1 rfl) ?_
  refine lv_iconst (v := 1) hx hb dX4_step_19 (by decide) ?_
  refine lv_iadd hx hb dX4_step_20 ?_
  refine lv_aload_n hx hb dX4_step_21 rfl (lv_at hl 0 rfl) ?_
  refine lv_iload_n hx hb dX4_step_22 rfl (lv_at hl 2 rfl) ?_
  refine lv_aload_n hx hb dX4_step_23 rfl (lv_at hl 0 rfl) ?_
  refine va_get (D := D) (ci := 4) (v := .ref (ad 135)) (C := RX4) (T := TX4) (N := 14) hx hb hts k0 hown hK hP 128 (zX_128 cy ad S_4) rfl 11 (by decide) k3 (fun _ h9 => h9) rfl dX4_step_24 ?_
  refine lv_iload_n hx hb dX4_step_27 rfl (lv_at hl 1 rfl) ?_
  obtain ⟨h_5, hf⟩ := z_ix hf
  refine z_iald hx hb hK hP 135 0 (zX_135 cy ad S_4) rfl h_5 (k := (a_1.toNatClampNeg)) rfl dX4_step_28 ?_
  obtain ⟨r_6, S_7, h_8, hf⟩ := z_bd hf
  refine z_cVI (As := [.int a_2, .int (S_4.1 135 (a_1.toNatClampNeg))]) (rest := [.int (a_1 + (1 : Int32)), .ref (ad 135)]) X hK hE hD hA hP hS (cx_Lineup_heatAfter l D K cy ad S_4 _ _ _ _ h_8) (cwV 2 hts (z_gV wt_4_76 wt_4_78 wp_30 wt_1_11 wt_4_79) rfl rfl rfl ⟨rfl, yd_yX4_heatAfter⟩ ⟨Nat.le_of_ble_eq_true rfl, Nat.le_of_ble_eq_true rfl⟩) (va_recv hK hP (ci := 4) (q0 := 128) rfl (zX_128 cy ad S_4)) hl.1 rfl rfl (Nat.le_of_ble_eq_true rfl) dX4_step_29 (fun H locs hP hS => ?_)
  obtain ⟨h_9, hf⟩ := z_ix hf
  refine z_iast hx hb hK hP (hD S_7) hS 135 0 (zX_135 cy ad S_7) rfl h_9 (k := ((a_1 + (1 : Int32)).toNatClampNeg)) rfl dX4_step_32 (fun H locs hP hS => ?_)
  obtain ⟨S_10, eS_10, hf⟩ := z_nm hf
  have hP := zW_putI hP eS_10 (by decide) rfl
  obtain ⟨h1, h2⟩ := z_s2 hf
  subst h2
  exact hret _ _ _ _ hP hS dX4_step_33
def fx_Lineup_searchSettled_L24 (rec : zSt → Int32 → Option (Unit × zSt)) (a_1 : Int32) (x_1 : Int32) : Nat → Int32 → zSt → Option (Unit × zSt)
  | 0, _, _ => none
  | n_24 + 1, x_2, S_3 =>
    if x_1 ≤ x_2 then (
    some ((), S_3)) else (
    zck (zix x_2 9) <|
    znm (fun (S_5 : zSt) =>
    znm (x_2 + (1 : Int32)) fun x_6 =>
    fx_Lineup_searchSettled_L24 rec a_1 x_1 n_24 x_6 S_5) fun j_74 =>
    if (S_3.1 136 (x_2.toNatClampNeg)) = 0 then (
    znm (fun (S_7 : zSt) =>
    zbd (fx_Lineup_step S_7 a_1 x_2) fun _ S_9 =>
    zbd (rec S_9 (a_1 + (1 : Int32))) fun _ S_12 =>
    zck (zix x_2 9) <|
    znm (zpI S_12 136 (x_2.toNatClampNeg) (0 : Int32)) fun S_15 =>
    j_74  S_15) fun j_54 =>
    if a_1 < (2 : Int32) then (
    j_54  S_3) else (
    zbd (fx_Lineup_wouldChange S_3 (a_1 - (2 : Int32)) x_2) fun r_16 S_17 =>
    if r_16 = 0 then (
    j_54  S_17) else (
    j_74  S_17))) else (
    j_74  S_3))
def fx_Lineup_searchSettled (rec : zSt → Int32 → Option (Unit × zSt)) (S_0 : zSt) (a_1 : Int32) : Option (Unit × zSt) :=
  znm (S_0.1 4 0) fun x_1 =>
  if a_1 < x_1 then (
  fx_Lineup_searchSettled_L24 rec a_1 x_1 zFU (0 : Int32) S_0) else (
  zbd (fx_Lineup_noteIfSettled S_0 x_1) fun _ S_24 =>
  some ((), S_24))
set_option maxHeartbeats 4000000 in
set_option maxRecDepth 100000 in
theorem cx_Lineup_searchSettled (l : Launch) (D : va_G) (K : (Nat → Nat) × (Nat → Nat)) (cy : Nat → ClassId) (ad : Nat → Nat) (rec : zSt → Int32 → Option (Unit × zSt)) (rf rl : Nat) (hrec : ∀ (S_r : zSt) (b_0 : Int32) (S_q : zSt), rec S_r b_0 = some ((), S_q) → zMV l yX4_searchSettled (zws yX4_searchSettled cX4_searchSettled 4 none) { frames := rf, cells := 0, slots := 0, locals := rl } D (zTy cy) K (zX cy ad) [.ref (ad 128), .int b_0] S_r S_q) (S_0 : zSt) (a_1 : Int32) (So : zSt) (hf : fx_Lineup_searchSettled rec S_0 a_1 = some ((), So)) : zMV l yX4_searchSettled (zws yX4_searchSettled cX4_searchSettled 4 none) ({ frames := rf + 4, cells := 0, slots := 0, locals := rl + 269 }) D (zTy cy) K (zX cy ad) [.ref (ad 128), .int a_1] S_0 So := by
  refine z_metV (own := RX4) (lv := [(0, .ref (ad 128)), (1, .int a_1)]) (by decide) rfl rfl (Nat.le_of_ble_eq_true rfl) rfl ?_
  intro p e s m below meth c A Q X hK hE hD hA hret hP hS ls hl
  obtain ⟨hx, hb, hml, hown, hts⟩ := id X
  have k0 := (fun w h => List.mem_cons_of_mem _ (zFX4 w h) : ∀ w ∈ u_ws RX4 TX4 14, w ∈ zws yX4_searchSettled cX4_searchSettled 4 none)
  have k1 := hts _ (List.mem_cons_of_mem _ wt_2_108)
  have k2 := (fun w h => List.mem_cons_of_mem _ (zFX0 w h) : ∀ w ∈ u_ws RX0 TX0 6, w ∈ zws yX4_searchSettled cX4_searchSettled 4 none)
  have k3 := hts _ (List.mem_cons_of_mem _ wt_1_234)
  have k4 := (fun w h => List.mem_cons_of_mem _ (zFX2 w h) : ∀ w ∈ u_ws RX2 TX2 7, w ∈ zws yX4_searchSettled cX4_searchSettled 4 none)
  have k5 := hts _ (List.mem_cons_of_mem _ wt_1_66)
  have k6 := hts _ (List.mem_cons_of_mem _ wt_2_126)
  refine lv_aload_n hx hb dX4_searchSettled_0 rfl (lv_at hl 0 rfl) ?_
  refine va_get (D := D) (ci := 4) (v := .ref (ad 3)) (C := RX4) (T := TX4) (N := 14) hx hb hts k0 hown hK hP 128 (zX_128 cy ad S_0) rfl 0 (by decide) k1 (fun _ h9 => h9) rfl dX4_searchSettled_1 ?_
  refine va_get (D := D) (ci := 0) (v := .ref (ad 4)) (C := RX0) (T := TX0) (N := 6) hx hb hts k2 hown hK hP 3 (zX_3 cy ad S_0) rfl 0 (by decide) k3 (fun _ h9 => h9) rfl dX4_searchSettled_4 ?_
  refine va_get (D := D) (ci := 2) (v := .int (S_0.1 4 0)) (C := RX2) (T := TX2) (N := 7) hx hb hts k4 hown hK hP 4 (zX_4 cy ad S_0) rfl 0 (by decide) k5 (fun _ h9 => h9) rfl dX4_searchSettled_7 ?_
  refine lv_topi (fun x_1 ex_1 => ?_)
  have hf := z_nv ex_1 hf
  refine lv_istore_n (lv' := [(2, .int x_1), (0, .ref (ad 128)), (1, .int a_1)]) hx hb dX4_searchSettled_10 rfl hl (by decide) rfl (fun ls hl => ?_)
  refine lv_iload_n hx hb dX4_searchSettled_11 rfl (lv_at hl 2 rfl) ?_
  refine lv_iload_n hx hb dX4_searchSettled_12 rfl (lv_at hl 0 rfl) ?_
  refine lv_icmp_lt (tgt := 22) hx hb dX4_searchSettled_13 (by decide) (fun c_26 => ?_) (fun c_26 => ?_)
  · have hf := z_it c_26 hf
    refine lv_iconst (v := 0) hx hb dX4_searchSettled_22 (by decide) ?_
    refine lv_istore_n (lv' := [(3, .int (0 : Int32)), (2, .int x_1), (0, .ref (ad 128)), (1, .int a_1)]) hx hb dX4_searchSettled_23 rfl hl (by decide) rfl (fun ls hl => ?_)
    have L_24 : ∀ (n_24 : Nat) (x_2 : Int32) (S_3 : zSt) (H : Heap) (locs : List Loc) (ls : Array Slot), fx_Lineup_searchSettled_L24 rec a_1 x_1 n_24 x_2 S_3 = some ((), So) → va_P D vwCl (zX cy ad S_3) H → va_S A s.heap H locs → lv_has ls 4 [(0, .ref (ad 128)), (1, .int a_1), (2, .int x_1), (3, .int x_2)] → W p l e ({ frames := rf + 4, cells := 0, slots := 0, locals := rl + 269 }) s m ([.ref (ad 128), .int a_1] : List Value).toArray below meth c H locs 0 0 Q (F0 m 24 ls []) := by
      intro n_24
      induction n_24 with
      | zero =>
        intro x_2 S_3 H locs ls hf hP hS hl
        exact z_no hf
      | succ n_24 ih_24 =>
        intro x_2 S_3 H locs ls hf hP hS hl
        rw [fx_Lineup_searchSettled_L24] at hf
        refine lv_iload_n hx hb dX4_searchSettled_24 rfl (lv_at hl 3 rfl) ?_
        refine lv_iload_n hx hb dX4_searchSettled_25 rfl (lv_at hl 2 rfl) ?_
        refine lv_icmp_ge (tgt := 80) hx hb dX4_searchSettled_26 (by decide) (fun c_22 => ?_) (fun c_22 => ?_)
        · have hf := z_it c_22 hf
          obtain ⟨h1, h2⟩ := z_s2 hf
          subst h2
          exact hret _ _ _ _ hP hS dX4_searchSettled_80
        · have hf := z_if c_22 hf
          refine lv_aload_n hx hb dX4_searchSettled_29 rfl (lv_at hl 0 rfl) ?_
          refine va_get (D := D) (ci := 4) (v := .ref (ad 136)) (C := RX4) (T := TX4) (N := 14) hx hb hts k0 hown hK hP 128 (zX_128 cy ad S_3) rfl 12 (by decide) k6 (fun _ h9 => h9) rfl dX4_searchSettled_30 ?_
          refine lv_iload_n hx hb dX4_searchSettled_33 rfl (lv_at hl 3 rfl) ?_
          obtain ⟨h_4, hf⟩ := z_ix hf
          refine z_zald hx hb hK hP 136 2 (zX_136 cy ad S_3) rfl h_4 (k := (x_2.toNatClampNeg)) rfl dX4_searchSettled_34 ?_
          obtain ⟨j_74, ej_74, hf⟩ := z_nm hf
          have J_74 : ∀ (S_5 : zSt) (H : Heap) (locs : List Loc) (ls : Array Slot), j_74  S_5 = some ((), So) → va_P D vwCl (zX cy ad S_5) H → va_S A s.heap H locs → lv_has ls 4 [(0, .ref (ad 128)), (1, .int a_1), (2, .int x_1), (3, .int x_2)] → W p l e ({ frames := rf + 4, cells := 0, slots := 0, locals := rl + 269 }) s m ([.ref (ad 128), .int a_1] : List Value).toArray below meth c H locs 0 0 Q (F0 m 74 ls []) := by
            intro  S_5 H locs ls hf hP hS hl
            have hf := z_e1 ej_74 hf
            obtain ⟨x_6, ex_6, hf⟩ := z_nm hf
            refine lv_iinc (v := x_6) (lv' := [(3, .int x_6), (0, .ref (ad 128)), (1, .int a_1), (2, .int x_1)]) hx hb dX4_searchSettled_74 hl (k := 3) rfl (by rw [ex_6]; rfl) (by decide) rfl (fun ls hl => ?_)
            refine lv_goto (tgt := 24) hx hb dX4_searchSettled_77 (by decide) ?_
            exact ih_24 x_6 S_5 _ _ _ hf hP hS (lv_sub hl [1, 2, 3, 0] rfl)
          refine lv_if_ne (tgt := 74) hx hb dX4_searchSettled_35 (by decide) (fun c_21 => ?_) (fun c_21 => ?_)
          · have hf := z_if c_21 hf
            exact J_74  S_3 _ _ _ hf hP hS (lv_sub hl [0, 1, 2, 3] rfl)
          · have hf := z_it c_21 hf
            refine lv_iload_n hx hb dX4_searchSettled_38 rfl (lv_at hl 1 rfl) ?_
            refine lv_iconst (v := 2) hx hb dX4_searchSettled_39 (by decide) ?_
            obtain ⟨j_54, ej_54, hf⟩ := z_nm hf
            have J_54 : ∀ (S_7 : zSt) (H : Heap) (locs : List Loc) (ls : Array Slot), j_54  S_7 = some ((), So) → va_P D vwCl (zX cy ad S_7) H → va_S A s.heap H locs → lv_has ls 4 [(0, .ref (ad 128)), (1, .int a_1), (2, .int x_1), (3, .int x_2)] → W p l e ({ frames := rf + 4, cells := 0, slots := 0, locals := rl + 269 }) s m ([.ref (ad 128), .int a_1] : List Value).toArray below meth c H locs 0 0 Q (F0 m 54 ls []) := by
              intro  S_7 H locs ls hf hP hS hl
              have hf := z_e1 ej_54 hf
              refine lv_aload_n hx hb dX4_searchSettled_54 rfl (lv_at hl 0 rfl) ?_
              refine lv_iload_n hx hb dX4_searchSettled_55 rfl (lv_at hl 1 rfl) ?_
              refine lv_iload_n hx hb dX4_searchSettled_56 rfl (lv_at hl 3 rfl) ?_
              obtain ⟨r_8, S_9, h_10, hf⟩ := z_bd hf
              refine z_cVV (As := [.int a_1, .int x_2]) (rest := []) X hK hE hD hA hP hS (cx_Lineup_step l D K cy ad S_7 _ _ _ h_10) (cwV 2 hts (z_gV wt_4_145 wt_4_147 wp_38 wt_1_11 wt_4_148) rfl rfl rfl ⟨rfl, yd_yX4_step⟩ ⟨by first | omega | (dsimp only; omega), by first | omega | (dsimp only; omega)⟩) (va_recv hK hP (ci := 4) (q0 := 128) rfl (zX_128 cy ad S_7)) hl.1 rfl rfl (Nat.le_of_ble_eq_true rfl) dX4_searchSettled_57 (fun H locs hP hS => ?_)
              refine lv_aload_n hx hb dX4_searchSettled_60 rfl (lv_at hl 0 rfl) ?_
              refine lv_iload_n hx hb dX4_searchSettled_61 rfl (lv_at hl 1 rfl) ?_
              refine lv_iconst (v := 1) hx hb dX4_searchSettled_62 (by decide) ?_
              refine lv_iadd hx hb dX4_searchSettled_63 ?_
              obtain ⟨r_11, S_12, h_13, hf⟩ := z_bd hf
              refine z_cVV (As := [.int (a_1 + (1 : Int32))]) (rest := []) X hK hE hD hA hP hS (hrec S_9 _ _ h_13) (cwV 1 hts (z_gV wt_4_133 wt_4_135 wp_35 wt_1_11 wt_4_136) rfl rfl rfl ⟨rfl, yd_yX4_searchSettled⟩ ⟨by first | omega | (dsimp only; omega), by first | omega | (dsimp only; omega)⟩) (va_recv hK hP (ci := 4) (q0 := 128) rfl (zX_128 cy ad S_9)) hl.1 rfl rfl (Nat.le_of_ble_eq_true rfl) dX4_searchSettled_64 (fun H locs hP hS => ?_)
              refine lv_aload_n hx hb dX4_searchSettled_67 rfl (lv_at hl 0 rfl) ?_
              refine va_get (D := D) (ci := 4) (v := .ref (ad 136)) (C := RX4) (T := TX4) (N := 14) hx hb hts k0 hown hK hP 128 (zX_128 cy ad S_12) rfl 12 (by decide) k6 (fun _ h9 => h9) rfl dX4_searchSettled_68 ?_
              refine lv_iload_n hx hb dX4_searchSettled_71 rfl (lv_at hl 3 rfl) ?_
              refine lv_iconst (v := 0) hx hb dX4_searchSettled_72 (by decide) ?_
              obtain ⟨h_14, hf⟩ := z_ix hf
              refine z_zast hx hb hK hP (hD S_12) hS 136 2 (zX_136 cy ad S_12) rfl h_14 (k := (x_2.toNatClampNeg)) rfl rfl dX4_searchSettled_73 (fun H locs hP hS => ?_)
              obtain ⟨S_15, eS_15, hf⟩ := z_nm hf
              have hP := zW_putI hP eS_15 (by decide) rfl
              exact J_74  S_15 _ _ _ hf hP hS (lv_sub hl [0, 1, 2, 3] rfl)
            refine lv_icmp_lt (tgt := 54) hx hb dX4_searchSettled_40 (by decide) (fun c_20 => ?_) (fun c_20 => ?_)
            · have hf := z_it c_20 hf
              exact J_54  S_3 _ _ _ hf hP hS (lv_sub hl [0, 1, 2, 3] rfl)
            · have hf := z_if c_20 hf
              refine lv_aload_n hx hb dX4_searchSettled_43 rfl (lv_at hl 0 rfl) ?_
              refine lv_iload_n hx hb dX4_searchSettled_44 rfl (lv_at hl 1 rfl) ?_
              refine lv_iconst (v := 2) hx hb dX4_searchSettled_45 (by decide) ?_
              refine lv_isub hx hb dX4_searchSettled_46 ?_
              refine lv_iload_n hx hb dX4_searchSettled_47 rfl (lv_at hl 3 rfl) ?_
              obtain ⟨r_16, S_17, h_18, hf⟩ := z_bd hf
              refine z_cVI (As := [.int (a_1 - (2 : Int32)), .int x_2]) (rest := []) X hK hE hD hA hP hS (cx_Lineup_wouldChange l D K cy ad S_3 _ _ _ _ h_18) (cwV 2 hts (z_gV wt_4_141 wt_4_143 wp_37 wt_1_11 wt_4_144) rfl rfl rfl ⟨rfl, yd_yX4_wouldChange⟩ ⟨by first | omega | (dsimp only; omega), by first | omega | (dsimp only; omega)⟩) (va_recv hK hP (ci := 4) (q0 := 128) rfl (zX_128 cy ad S_3)) hl.1 rfl rfl (Nat.le_of_ble_eq_true rfl) dX4_searchSettled_48 (fun H locs hP hS => ?_)
              refine lv_if_ne (tgt := 74) hx hb dX4_searchSettled_51 (by decide) (fun c_19 => ?_) (fun c_19 => ?_)
              · have hf := z_if c_19 hf
                exact J_74  S_17 _ _ _ hf hP hS (lv_sub hl [0, 1, 2, 3] rfl)
              · have hf := z_it c_19 hf
                exact J_54  S_17 _ _ _ hf hP hS (lv_sub hl [0, 1, 2, 3] rfl)
    exact L_24 zFU (0 : Int32) S_0 _ _ _ hf hP hS (lv_sub hl [2, 3, 1, 0] rfl)
  · have hf := z_if c_26 hf
    refine lv_aload_n hx hb dX4_searchSettled_16 rfl (lv_at hl 1 rfl) ?_
    refine lv_iload_n hx hb dX4_searchSettled_17 rfl (lv_at hl 0 rfl) ?_
    obtain ⟨r_23, S_24, h_25, hf⟩ := z_bd hf
    refine z_cVV (As := [.int x_1]) (rest := []) X hK hE hD hA hP hS (cx_Lineup_noteIfSettled l D K cy ad S_0 _ _ h_25) (cwV 1 hts (z_gV wt_4_137 wt_4_139 wp_36 wt_1_11 wt_4_140) rfl rfl rfl ⟨rfl, yd_yX4_noteIfSettled⟩ ⟨by first | omega | (dsimp only; omega), by first | omega | (dsimp only; omega)⟩) (va_recv hK hP (ci := 4) (q0 := 128) rfl (zX_128 cy ad S_0)) hl.1 rfl rfl (Nat.le_of_ble_eq_true rfl) dX4_searchSettled_18 (fun H locs hP hS => ?_)
    obtain ⟨h1, h2⟩ := z_s2 hf
    subst h2
    exact hret _ _ _ _ hP hS dX4_searchSettled_21
def fx_Lineup_searchSettled_c : Nat → zSt → Int32 → Option (Unit × zSt)
  | 0, _, _ => none
  | d + 1, S, b_0 => fx_Lineup_searchSettled (fx_Lineup_searchSettled_c d) S b_0
theorem cx_Lineup_searchSettled_c (l : Launch) (D : va_G) (K : (Nat → Nat) × (Nat → Nat)) (cy : Nat → ClassId) (ad : Nat → Nat) : ∀ (d : Nat) (S_0 : zSt) (b_0 : Int32) (So : zSt), fx_Lineup_searchSettled_c d S_0 b_0 = some ((), So) → zMV l yX4_searchSettled (zws yX4_searchSettled cX4_searchSettled 4 none) { frames := 4 * d, cells := 0, slots := 0, locals := 269 * d } D (zTy cy) K (zX cy ad) [.ref (ad 128), .int b_0] S_0 So := by
  intro d
  induction d with
  | zero =>
    intro S_0 b_0 So hf
    exact z_no hf
  | succ d ih =>
    intro S_0 b_0 So hf
    exact cx_Lineup_searchSettled l D K cy ad (fx_Lineup_searchSettled_c d) (4 * d) (269 * d) ih S_0 b_0 So hf
def fx_Lineup_findSettled (S_0 : zSt) : Option (Unit × zSt) :=
  znm (zpI S_0 128 3 (0 : Int32)) fun S_1 =>
  zbd (fx_Lineup_beginSearch S_1) fun _ S_3 =>
  zbd (fx_Lineup_searchSettled_c 16 S_3 (0 : Int32)) fun _ S_6 =>
  some ((), S_6)
set_option maxHeartbeats 4000000 in
set_option maxRecDepth 100000 in
theorem cx_Lineup_findSettled (l : Launch) (D : va_G) (K : (Nat → Nat) × (Nat → Nat)) (cy : Nat → ClassId) (ad : Nat → Nat) (S_0 : zSt) (So : zSt) (hf : fx_Lineup_findSettled S_0 = some ((), So)) : zMV l yX4_findSettled (zws yX4_findSettled cX4_findSettled 1 none) ({ frames := 65, cells := 0, slots := 0, locals := 4327 }) D (zTy cy) K (zX cy ad) [.ref (ad 128)] S_0 So := by
  refine z_metV (own := RX4) (lv := [(0, .ref (ad 128))]) (by decide) rfl rfl (Nat.le_of_ble_eq_true rfl) rfl ?_
  intro p e s m below meth c A Q X hK hE hD hA hret hP hS ls hl
  obtain ⟨hx, hb, hml, hown, hts⟩ := id X
  have k0 := (fun w h => List.mem_cons_of_mem _ (zFX4 w h) : ∀ w ∈ u_ws RX4 TX4 14, w ∈ zws yX4_findSettled cX4_findSettled 1 none)
  have k1 := hts _ (List.mem_cons_of_mem _ wt_2_114)
  refine lv_aload_n hx hb dX4_findSettled_0 rfl (lv_at hl 0 rfl) ?_
  refine lv_iconst (v := 0) hx hb dX4_findSettled_1 (by decide) ?_
  refine va_put (D := D) (ci := 4) (v := .int (0 : Int32)) (ty := .int) (C := RX4) (T := TX4) (N := 14) hx hb hts k0 tyX4 tyX4_ok nmX4 hown hK hP (hD S_0) hS 128 (zX_128 cy ad S_0) rfl 3 (by decide) k1 (fun _ h9 => h9) rfl (tyX4_ok 3 (by decide)) rfl rfl (Nat.le_of_ble_eq_true rfl) dX4_findSettled_2 (fun H locs hP _ hS => ?_)
  obtain ⟨S_1, eS_1, hf⟩ := z_nm hf
  have hP := zW_putI hP eS_1 (by decide) rfl
  refine lv_aload_n hx hb dX4_findSettled_5 rfl (lv_at hl 0 rfl) ?_
  obtain ⟨r_2, S_3, h_4, hf⟩ := z_bd hf
  refine z_cVV (As := []) (rest := []) X hK hE hD hA hP hS (cx_Lineup_beginSearch l D K cy ad S_1 _ h_4) (cwV 0 hts (z_gV wt_4_129 wt_4_131 wp_34 wt_1_11 wt_4_132) rfl rfl rfl ⟨rfl, yd_yX4_beginSearch⟩ ⟨Nat.le_of_ble_eq_true rfl, Nat.le_of_ble_eq_true rfl⟩) (va_recv hK hP (ci := 4) (q0 := 128) rfl (zX_128 cy ad S_1)) hl.1 rfl rfl (Nat.le_of_ble_eq_true rfl) dX4_findSettled_6 (fun H locs hP hS => ?_)
  refine lv_aload_n hx hb dX4_findSettled_9 rfl (lv_at hl 0 rfl) ?_
  refine lv_iconst (v := 0) hx hb dX4_findSettled_10 (by decide) ?_
  obtain ⟨r_5, S_6, h_7, hf⟩ := z_bd hf
  refine z_cVV (As := [.int (0 : Int32)]) (rest := []) X hK hE hD hA hP hS (cx_Lineup_searchSettled_c l D K cy ad 16 S_3 _ _ h_7) (cwV 1 hts (z_gV wt_4_133 wt_4_135 wp_35 wt_1_11 wt_4_136) rfl rfl rfl ⟨rfl, yd_yX4_searchSettled⟩ ⟨Nat.le_of_ble_eq_true rfl, Nat.le_of_ble_eq_true rfl⟩) (va_recv hK hP (ci := 4) (q0 := 128) rfl (zX_128 cy ad S_3)) hl.1 rfl rfl (Nat.le_of_ble_eq_true rfl) dX4_findSettled_11 (fun H locs hP hS => ?_)
  obtain ⟨h1, h2⟩ := z_s2 hf
  subst h2
  exact hret _ _ _ _ hP hS dX4_findSettled_14
def fx_Lineup_searchLeastWood_L49 (rec : zSt → Int32 → Int32 → Option (Unit × zSt)) (a_1 : Int32) (a_2 : Int32) (x_1 : Int32) : Nat → Int32 → zSt → Option (Unit × zSt)
  | 0, _, _ => none
  | n_49 + 1, x_2, S_3 =>
    if x_1 ≤ x_2 then (
    some ((), S_3)) else (
    zck (zix x_2 9) <|
    znm (fun (S_5 : zSt) =>
    znm (x_2 + (1 : Int32)) fun x_6 =>
    fx_Lineup_searchLeastWood_L49 rec a_1 a_2 x_1 n_49 x_6 S_5) fun j_101 =>
    if (S_3.1 136 (x_2.toNatClampNeg)) = 0 then (
    zbd (fx_Lineup_step S_3 a_1 x_2) fun _ S_8 =>
    zck (zix a_1 10) <|
    zbd (fx_Lineup_woodOf S_8 x_2 (S_8.1 135 (a_1.toNatClampNeg))) fun r_11 S_12 =>
    zbd (rec S_12 (a_1 + (1 : Int32)) (a_2 + r_11)) fun _ S_15 =>
    zck (zix x_2 9) <|
    znm (zpI S_15 136 (x_2.toNatClampNeg) (0 : Int32)) fun S_18 =>
    j_101  S_18) else (
    j_101  S_3))
def fx_Lineup_searchLeastWood (rec : zSt → Int32 → Int32 → Option (Unit × zSt)) (S_0 : zSt) (a_1 : Int32) (a_2 : Int32) : Option (Unit × zSt) :=
  if a_2 < (S_0.1 128 4) then (
  znm (S_0.1 4 0) fun x_1 =>
  if a_1 < x_1 then (
  fx_Lineup_searchLeastWood_L49 rec a_1 a_2 x_1 zFU (0 : Int32) S_0) else (
  znm (zpI S_0 128 4 a_2) fun S_21 =>
  znm (zcI S_21 130 (va_cpy (S_21.1 129) (S_21.1 130) 0 0 9)) fun S_22 =>
  some ((), S_22))) else (
  some ((), S_0))
set_option maxHeartbeats 4000000 in
set_option maxRecDepth 100000 in
theorem cx_Lineup_searchLeastWood (l : Launch) (D : va_G) (K : (Nat → Nat) × (Nat → Nat)) (cy : Nat → ClassId) (ad : Nat → Nat) (rec : zSt → Int32 → Int32 → Option (Unit × zSt)) (rf rl : Nat) (hrec : ∀ (S_r : zSt) (b_0 : Int32) (b_1 : Int32) (S_q : zSt), rec S_r b_0 b_1 = some ((), S_q) → zMV l yX4_searchLeastWood (zws yX4_searchLeastWood cX4_searchLeastWood 5 none) { frames := rf, cells := 0, slots := 0, locals := rl } D (zTy cy) K (zX cy ad) [.ref (ad 128), .int b_0, .int b_1] S_r S_q) (S_0 : zSt) (a_1 : Int32) (a_2 : Int32) (So : zSt) (hf : fx_Lineup_searchLeastWood rec S_0 a_1 a_2 = some ((), So)) : zMV l yX4_searchLeastWood (zws yX4_searchLeastWood cX4_searchLeastWood 5 none) ({ frames := rf + 3, cells := 0, slots := 0, locals := rl + 245 }) D (zTy cy) K (zX cy ad) [.ref (ad 128), .int a_1, .int a_2] S_0 So := by
  refine z_metV (own := RX4) (lv := [(0, .ref (ad 128)), (1, .int a_1), (2, .int a_2)]) (by decide) rfl rfl (Nat.le_of_ble_eq_true rfl) rfl ?_
  intro p e s m below meth c A Q X hK hE hD hA hret hP hS ls hl
  obtain ⟨hx, hb, hml, hown, hts⟩ := id X
  have k0 := (fun w h => List.mem_cons_of_mem _ (zFX4 w h) : ∀ w ∈ u_ws RX4 TX4 14, w ∈ zws yX4_searchLeastWood cX4_searchLeastWood 5 none)
  have k1 := hts _ (List.mem_cons_of_mem _ wt_2_116)
  have k2 := hts _ (List.mem_cons_of_mem _ wt_2_108)
  have k3 := (fun w h => List.mem_cons_of_mem _ (zFX0 w h) : ∀ w ∈ u_ws RX0 TX0 6, w ∈ zws yX4_searchLeastWood cX4_searchLeastWood 5 none)
  have k4 := hts _ (List.mem_cons_of_mem _ wt_1_234)
  have k5 := (fun w h => List.mem_cons_of_mem _ (zFX2 w h) : ∀ w ∈ u_ws RX2 TX2 7, w ∈ zws yX4_searchLeastWood cX4_searchLeastWood 5 none)
  have k6 := hts _ (List.mem_cons_of_mem _ wt_1_66)
  have k7 := hts _ (List.mem_cons_of_mem _ wt_2_126)
  have k8 := hts _ (List.mem_cons_of_mem _ wt_2_125)
  have k9 := hts _ (List.mem_cons_of_mem _ wt_2_109)
  have k10 := hts _ (List.mem_cons_of_mem _ wt_2_111)
  have k11 := hts _ (List.mem_cons_of_mem _ wt_4_81)
  have k12 := hts _ (List.mem_cons_of_mem _ wt_3_231)
  have k13 := hts _ (List.mem_cons_of_mem _ wt_3_230)
  have k14 := hts _ (List.mem_cons_of_mem _ wt_1_20)
  refine lv_iload_n hx hb dX4_searchLeastWood_0 rfl (lv_at hl 2 rfl) ?_
  refine lv_aload_n hx hb dX4_searchLeastWood_1 rfl (lv_at hl 0 rfl) ?_
  refine va_get (D := D) (ci := 4) (v := .int (S_0.1 128 4)) (C := RX4) (T := TX4) (N := 14) hx hb hts k0 hown hK hP 128 (zX_128 cy ad S_0) rfl 4 (by decide) k1 (fun _ h9 => h9) rfl dX4_searchLeastWood_2 ?_
  refine lv_icmp_lt (tgt := 9) hx hb dX4_searchLeastWood_5 (by decide) (fun c_24 => ?_) (fun c_24 => ?_)
  · have hf := z_it c_24 hf
    refine lv_aload_n hx hb dX4_searchLeastWood_9 rfl (lv_at hl 0 rfl) ?_
    refine va_get (D := D) (ci := 4) (v := .ref (ad 3)) (C := RX4) (T := TX4) (N := 14) hx hb hts k0 hown hK hP 128 (zX_128 cy ad S_0) rfl 0 (by decide) k2 (fun _ h9 => h9) rfl dX4_searchLeastWood_10 ?_
    refine va_get (D := D) (ci := 0) (v := .ref (ad 4)) (C := RX0) (T := TX0) (N := 6) hx hb hts k3 hown hK hP 3 (zX_3 cy ad S_0) rfl 0 (by decide) k4 (fun _ h9 => h9) rfl dX4_searchLeastWood_13 ?_
    refine va_get (D := D) (ci := 2) (v := .int (S_0.1 4 0)) (C := RX2) (T := TX2) (N := 7) hx hb hts k5 hown hK hP 4 (zX_4 cy ad S_0) rfl 0 (by decide) k6 (fun _ h9 => h9) rfl dX4_searchLeastWood_16 ?_
    refine lv_topi (fun x_1 ex_1 => ?_)
    have hf := z_nv ex_1 hf
    refine lv_istore_n (lv' := [(3, .int x_1), (0, .ref (ad 128)), (1, .int a_1), (2, .int a_2)]) hx hb dX4_searchLeastWood_19 rfl hl (by decide) rfl (fun ls hl => ?_)
    refine lv_iload_n hx hb dX4_searchLeastWood_20 rfl (lv_at hl 2 rfl) ?_
    refine lv_iload_n hx hb dX4_searchLeastWood_21 rfl (lv_at hl 0 rfl) ?_
    refine lv_icmp_lt (tgt := 46) hx hb dX4_searchLeastWood_22 (by decide) (fun c_23 => ?_) (fun c_23 => ?_)
    · have hf := z_it c_23 hf
      refine lv_iconst (v := 0) hx hb dX4_searchLeastWood_46 (by decide) ?_
      refine lv_istore (lv' := [(4, .int (0 : Int32)), (3, .int x_1), (0, .ref (ad 128)), (1, .int a_1), (2, .int a_2)]) hx hb dX4_searchLeastWood_47 hl (by decide) rfl (fun ls hl => ?_)
      have L_49 : ∀ (n_49 : Nat) (x_2 : Int32) (S_3 : zSt) (H : Heap) (locs : List Loc) (ls : Array Slot), fx_Lineup_searchLeastWood_L49 rec a_1 a_2 x_1 n_49 x_2 S_3 = some ((), So) → va_P D vwCl (zX cy ad S_3) H → va_S A s.heap H locs → lv_has ls 5 [(0, .ref (ad 128)), (1, .int a_1), (2, .int a_2), (3, .int x_1), (4, .int x_2)] → W p l e ({ frames := rf + 3, cells := 0, slots := 0, locals := rl + 245 }) s m ([.ref (ad 128), .int a_1, .int a_2] : List Value).toArray below meth c H locs 0 0 Q (F0 m 49 ls []) := by
        intro n_49
        induction n_49 with
        | zero =>
          intro x_2 S_3 H locs ls hf hP hS hl
          exact z_no hf
        | succ n_49 ih_49 =>
          intro x_2 S_3 H locs ls hf hP hS hl
          rw [fx_Lineup_searchLeastWood_L49] at hf
          refine lv_iload hx hb dX4_searchLeastWood_49 (lv_at hl 4 rfl) ?_
          refine lv_iload_n hx hb dX4_searchLeastWood_51 rfl (lv_at hl 3 rfl) ?_
          refine lv_icmp_ge (tgt := 107) hx hb dX4_searchLeastWood_52 (by decide) (fun c_20 => ?_) (fun c_20 => ?_)
          · have hf := z_it c_20 hf
            obtain ⟨h1, h2⟩ := z_s2 hf
            subst h2
            exact hret _ _ _ _ hP hS dX4_searchLeastWood_107
          · have hf := z_if c_20 hf
            refine lv_aload_n hx hb dX4_searchLeastWood_55 rfl (lv_at hl 0 rfl) ?_
            refine va_get (D := D) (ci := 4) (v := .ref (ad 136)) (C := RX4) (T := TX4) (N := 14) hx hb hts k0 hown hK hP 128 (zX_128 cy ad S_3) rfl 12 (by decide) k7 (fun _ h9 => h9) rfl dX4_searchLeastWood_56 ?_
            refine lv_iload hx hb dX4_searchLeastWood_59 (lv_at hl 4 rfl) ?_
            obtain ⟨h_4, hf⟩ := z_ix hf
            refine z_zald hx hb hK hP 136 2 (zX_136 cy ad S_3) rfl h_4 (k := (x_2.toNatClampNeg)) rfl dX4_searchLeastWood_61 ?_
            obtain ⟨j_101, ej_101, hf⟩ := z_nm hf
            have J_101 : ∀ (S_5 : zSt) (H : Heap) (locs : List Loc) (ls : Array Slot), j_101  S_5 = some ((), So) → va_P D vwCl (zX cy ad S_5) H → va_S A s.heap H locs → lv_has ls 5 [(0, .ref (ad 128)), (1, .int a_1), (2, .int a_2), (3, .int x_1), (4, .int x_2)] → W p l e ({ frames := rf + 3, cells := 0, slots := 0, locals := rl + 245 }) s m ([.ref (ad 128), .int a_1, .int a_2] : List Value).toArray below meth c H locs 0 0 Q (F0 m 101 ls []) := by
              intro  S_5 H locs ls hf hP hS hl
              have hf := z_e1 ej_101 hf
              obtain ⟨x_6, ex_6, hf⟩ := z_nm hf
              refine lv_iinc (v := x_6) (lv' := [(4, .int x_6), (0, .ref (ad 128)), (1, .int a_1), (2, .int a_2), (3, .int x_1)]) hx hb dX4_searchLeastWood_101 hl (k := 4) rfl (by rw [ex_6]; rfl) (by decide) rfl (fun ls hl => ?_)
              refine lv_goto (tgt := 49) hx hb dX4_searchLeastWood_104 (by decide) ?_
              exact ih_49 x_6 S_5 _ _ _ hf hP hS (lv_sub hl [1, 2, 3, 4, 0] rfl)
            refine lv_if_ne (tgt := 101) hx hb dX4_searchLeastWood_62 (by decide) (fun c_19 => ?_) (fun c_19 => ?_)
            · have hf := z_if c_19 hf
              exact J_101  S_3 _ _ _ hf hP hS (lv_sub hl [0, 1, 2, 3, 4] rfl)
            · have hf := z_it c_19 hf
              refine lv_aload_n hx hb dX4_searchLeastWood_65 rfl (lv_at hl 0 rfl) ?_
              refine lv_iload_n hx hb dX4_searchLeastWood_66 rfl (lv_at hl 1 rfl) ?_
              refine lv_iload hx hb dX4_searchLeastWood_67 (lv_at hl 4 rfl) ?_
              obtain ⟨r_7, S_8, h_9, hf⟩ := z_bd hf
              refine z_cVV (As := [.int a_1, .int x_2]) (rest := []) X hK hE hD hA hP hS (cx_Lineup_step l D K cy ad S_3 _ _ _ h_9) (cwV 2 hts (z_gV wt_4_145 wt_4_147 wp_38 wt_1_11 wt_4_148) rfl rfl rfl ⟨rfl, yd_yX4_step⟩ ⟨by first | omega | (dsimp only; omega), by first | omega | (dsimp only; omega)⟩) (va_recv hK hP (ci := 4) (q0 := 128) rfl (zX_128 cy ad S_3)) hl.1 rfl rfl (Nat.le_of_ble_eq_true rfl) dX4_searchLeastWood_69 (fun H locs hP hS => ?_)
              refine lv_aload_n hx hb dX4_searchLeastWood_72 rfl (lv_at hl 0 rfl) ?_
              refine lv_iload_n hx hb dX4_searchLeastWood_73 rfl (lv_at hl 1 rfl) ?_
              refine lv_iconst (v := 1) hx hb dX4_searchLeastWood_74 (by decide) ?_
              refine lv_iadd hx hb dX4_searchLeastWood_75 ?_
              refine lv_iload_n hx hb dX4_searchLeastWood_76 rfl (lv_at hl 2 rfl) ?_
              refine lv_aload_n hx hb dX4_searchLeastWood_77 rfl (lv_at hl 0 rfl) ?_
              refine lv_iload hx hb dX4_searchLeastWood_78 (lv_at hl 4 rfl) ?_
              refine lv_aload_n hx hb dX4_searchLeastWood_80 rfl (lv_at hl 0 rfl) ?_
              refine va_get (D := D) (ci := 4) (v := .ref (ad 135)) (C := RX4) (T := TX4) (N := 14) hx hb hts k0 hown hK hP 128 (zX_128 cy ad S_8) rfl 11 (by decide) k8 (fun _ h9 => h9) rfl dX4_searchLeastWood_81 ?_
              refine lv_iload_n hx hb dX4_searchLeastWood_84 rfl (lv_at hl 1 rfl) ?_
              obtain ⟨h_10, hf⟩ := z_ix hf
              refine z_iald hx hb hK hP 135 0 (zX_135 cy ad S_8) rfl h_10 (k := (a_1.toNatClampNeg)) rfl dX4_searchLeastWood_85 ?_
              obtain ⟨r_11, S_12, h_13, hf⟩ := z_bd hf
              refine z_cVI (As := [.int x_2, .int (S_8.1 135 (a_1.toNatClampNeg))]) (rest := [.int a_2, .int (a_1 + (1 : Int32)), .ref (ad 128)]) X hK hE hD hA hP hS (cx_Lineup_woodOf l D K cy ad S_8 _ _ _ _ h_13) (cwV 2 hts (z_gV wt_4_72 wt_4_74 wp_29 wt_1_11 wt_4_75) rfl rfl rfl ⟨rfl, yd_yX4_woodOf⟩ ⟨by first | omega | (dsimp only; omega), by first | omega | (dsimp only; omega)⟩) (va_recv hK hP (ci := 4) (q0 := 128) rfl (zX_128 cy ad S_8)) hl.1 rfl rfl (Nat.le_of_ble_eq_true rfl) dX4_searchLeastWood_86 (fun H locs hP hS => ?_)
              refine lv_iadd hx hb dX4_searchLeastWood_89 ?_
              obtain ⟨r_14, S_15, h_16, hf⟩ := z_bd hf
              refine z_cVV (As := [.int (a_1 + (1 : Int32)), .int (a_2 + r_11)]) (rest := []) X hK hE hD hA hP hS (hrec S_12 _ _ _ h_16) (cwV 2 hts (z_gV wt_4_179 wt_4_181 wp_42 wt_1_11 wt_4_182) rfl rfl rfl ⟨rfl, yd_yX4_searchLeastWood⟩ ⟨by first | omega | (dsimp only; omega), by first | omega | (dsimp only; omega)⟩) (va_recv hK hP (ci := 4) (q0 := 128) rfl (zX_128 cy ad S_12)) hl.1 rfl rfl (Nat.le_of_ble_eq_true rfl) dX4_searchLeastWood_90 (fun H locs hP hS => ?_)
              refine lv_aload_n hx hb dX4_searchLeastWood_93 rfl (lv_at hl 0 rfl) ?_
              refine va_get (D := D) (ci := 4) (v := .ref (ad 136)) (C := RX4) (T := TX4) (N := 14) hx hb hts k0 hown hK hP 128 (zX_128 cy ad S_15) rfl 12 (by decide) k7 (fun _ h9 => h9) rfl dX4_searchLeastWood_94 ?_
              refine lv_iload hx hb dX4_searchLeastWood_97 (lv_at hl 4 rfl) ?_
              refine lv_iconst (v := 0) hx hb dX4_searchLeastWood_99 (by decide) ?_
              obtain ⟨h_17, hf⟩ := z_ix hf
              refine z_zast hx hb hK hP (hD S_15) hS 136 2 (zX_136 cy ad S_15) rfl h_17 (k := (x_2.toNatClampNeg)) rfl rfl dX4_searchLeastWood_100 (fun H locs hP hS => ?_)
              obtain ⟨S_18, eS_18, hf⟩ := z_nm hf
              have hP := zW_putI hP eS_18 (by decide) rfl
              exact J_101  S_18 _ _ _ hf hP hS (lv_sub hl [0, 1, 2, 3, 4] rfl)
      exact L_49 zFU (0 : Int32) S_0 _ _ _ hf hP hS (lv_sub hl [2, 3, 4, 1, 0] rfl)
    · have hf := z_if c_23 hf
      refine lv_aload_n hx hb dX4_searchLeastWood_25 rfl (lv_at hl 1 rfl) ?_
      refine lv_iload_n hx hb dX4_searchLeastWood_26 rfl (lv_at hl 3 rfl) ?_
      refine va_put (D := D) (ci := 4) (v := .int a_2) (ty := .int) (C := RX4) (T := TX4) (N := 14) hx hb hts k0 tyX4 tyX4_ok nmX4 hown hK hP (hD S_0) hS 128 (zX_128 cy ad S_0) rfl 4 (by decide) k1 (fun _ h9 => h9) rfl (tyX4_ok 4 (by decide)) rfl rfl (Nat.le_of_ble_eq_true rfl) dX4_searchLeastWood_27 (fun H locs hP _ hS => ?_)
      obtain ⟨S_21, eS_21, hf⟩ := z_nm hf
      have hP := zW_putI hP eS_21 (by decide) rfl
      refine lv_aload_n hx hb dX4_searchLeastWood_30 rfl (lv_at hl 1 rfl) ?_
      refine va_get (D := D) (ci := 4) (v := .ref (ad 129)) (C := RX4) (T := TX4) (N := 14) hx hb hts k0 hown hK hP 128 (zX_128 cy ad S_21) rfl 1 (by decide) k9 (fun _ h9 => h9) rfl dX4_searchLeastWood_31 ?_
      refine lv_iconst (v := 0) hx hb dX4_searchLeastWood_34 (by decide) ?_
      refine lv_aload_n hx hb dX4_searchLeastWood_35 rfl (lv_at hl 1 rfl) ?_
      refine va_get (D := D) (ci := 4) (v := .ref (ad 130)) (C := RX4) (T := TX4) (N := 14) hx hb hts k0 hown hK hP 128 (zX_128 cy ad S_21) rfl 2 (by decide) k10 (fun _ h9 => h9) rfl dX4_searchLeastWood_36 ?_
      refine lv_iconst (v := 0) hx hb dX4_searchLeastWood_39 (by decide) ?_
      refine lv_bipush (v := 9) hx hb dX4_searchLeastWood_40 (by decide) ?_
      refine z_copyi hx hb (by rw [hml]; exact hl.1.symm) hown k11 k12 k13 k14 hK hP (hD S_21) hS 129 130 0 (zX_129 cy ad S_21) (zX_130 cy ad S_21) rfl (by decide) (k := 9) (by decide) (by decide) (by decide) (by first | omega | (dsimp only; omega)) (Nat.le_trans (m := 200) (Nat.le_of_ble_eq_true rfl) (by first | omega | (dsimp only; omega))) dX4_searchLeastWood_42 (fun H locs hP hS => ?_)
      obtain ⟨S_22, eS_22, hf⟩ := z_nm hf
      have hP := zW_cpyI hP eS_22 (by decide) rfl
      obtain ⟨h1, h2⟩ := z_s2 hf
      subst h2
      exact hret _ _ _ _ hP hS dX4_searchLeastWood_45
  · have hf := z_if c_24 hf
    obtain ⟨h1, h2⟩ := z_s2 hf
    subst h2
    exact hret _ _ _ _ hP hS dX4_searchLeastWood_8
def fx_Lineup_searchLeastWood_c : Nat → zSt → Int32 → Int32 → Option (Unit × zSt)
  | 0, _, _, _ => none
  | d + 1, S, b_0, b_1 => fx_Lineup_searchLeastWood (fx_Lineup_searchLeastWood_c d) S b_0 b_1
theorem cx_Lineup_searchLeastWood_c (l : Launch) (D : va_G) (K : (Nat → Nat) × (Nat → Nat)) (cy : Nat → ClassId) (ad : Nat → Nat) : ∀ (d : Nat) (S_0 : zSt) (b_0 : Int32) (b_1 : Int32) (So : zSt), fx_Lineup_searchLeastWood_c d S_0 b_0 b_1 = some ((), So) → zMV l yX4_searchLeastWood (zws yX4_searchLeastWood cX4_searchLeastWood 5 none) { frames := 3 * d, cells := 0, slots := 0, locals := 245 * d } D (zTy cy) K (zX cy ad) [.ref (ad 128), .int b_0, .int b_1] S_0 So := by
  intro d
  induction d with
  | zero =>
    intro S_0 b_0 b_1 So hf
    exact z_no hf
  | succ d ih =>
    intro S_0 b_0 b_1 So hf
    exact cx_Lineup_searchLeastWood l D K cy ad (fx_Lineup_searchLeastWood_c d) (3 * d) (245 * d) ih S_0 b_0 b_1 So hf
def fx_Lineup_findLeastWood (S_0 : zSt) : Option (Unit × zSt) :=
  znm (zpI S_0 128 4 (2147483647 : Int32)) fun S_1 =>
  zbd (fx_Lineup_beginSearch S_1) fun _ S_3 =>
  zbd (fx_Lineup_searchLeastWood_c 16 S_3 (0 : Int32) (0 : Int32)) fun _ S_6 =>
  some ((), S_6)
set_option maxHeartbeats 4000000 in
set_option maxRecDepth 100000 in
theorem cx_Lineup_findLeastWood (l : Launch) (D : va_G) (K : (Nat → Nat) × (Nat → Nat)) (cy : Nat → ClassId) (ad : Nat → Nat) (S_0 : zSt) (So : zSt) (hf : fx_Lineup_findLeastWood S_0 = some ((), So)) : zMV l yX4_findLeastWood (zws yX4_findLeastWood cX4_findLeastWood 1 none) ({ frames := 49, cells := 0, slots := 0, locals := 3944 }) D (zTy cy) K (zX cy ad) [.ref (ad 128)] S_0 So := by
  refine z_metV (own := RX4) (lv := [(0, .ref (ad 128))]) (by decide) rfl rfl (Nat.le_of_ble_eq_true rfl) rfl ?_
  intro p e s m below meth c A Q X hK hE hD hA hret hP hS ls hl
  obtain ⟨hx, hb, hml, hown, hts⟩ := id X
  have k0 := hts _ (List.mem_cons_of_mem _ wt_4_178)
  have k1 := (fun w h => List.mem_cons_of_mem _ (zFX4 w h) : ∀ w ∈ u_ws RX4 TX4 14, w ∈ zws yX4_findLeastWood cX4_findLeastWood 1 none)
  have k2 := hts _ (List.mem_cons_of_mem _ wt_2_116)
  refine lv_aload_n hx hb dX4_findLeastWood_0 rfl (lv_at hl 0 rfl) ?_
  refine lv_ldc hx hb hown k0 dX4_findLeastWood_1 ?_
  refine va_put (D := D) (ci := 4) (v := .int (2147483647 : Int32)) (ty := .int) (C := RX4) (T := TX4) (N := 14) hx hb hts k1 tyX4 tyX4_ok nmX4 hown hK hP (hD S_0) hS 128 (zX_128 cy ad S_0) rfl 4 (by decide) k2 (fun _ h9 => h9) rfl (tyX4_ok 4 (by decide)) rfl rfl (Nat.le_of_ble_eq_true rfl) dX4_findLeastWood_3 (fun H locs hP _ hS => ?_)
  obtain ⟨S_1, eS_1, hf⟩ := z_nm hf
  have hP := zW_putI hP eS_1 (by decide) rfl
  refine lv_aload_n hx hb dX4_findLeastWood_6 rfl (lv_at hl 0 rfl) ?_
  obtain ⟨r_2, S_3, h_4, hf⟩ := z_bd hf
  refine z_cVV (As := []) (rest := []) X hK hE hD hA hP hS (cx_Lineup_beginSearch l D K cy ad S_1 _ h_4) (cwV 0 hts (z_gV wt_4_129 wt_4_131 wp_34 wt_1_11 wt_4_132) rfl rfl rfl ⟨rfl, yd_yX4_beginSearch⟩ ⟨Nat.le_of_ble_eq_true rfl, Nat.le_of_ble_eq_true rfl⟩) (va_recv hK hP (ci := 4) (q0 := 128) rfl (zX_128 cy ad S_1)) hl.1 rfl rfl (Nat.le_of_ble_eq_true rfl) dX4_findLeastWood_7 (fun H locs hP hS => ?_)
  refine lv_aload_n hx hb dX4_findLeastWood_10 rfl (lv_at hl 0 rfl) ?_
  refine lv_iconst (v := 0) hx hb dX4_findLeastWood_11 (by decide) ?_
  refine lv_iconst (v := 0) hx hb dX4_findLeastWood_12 (by decide) ?_
  obtain ⟨r_5, S_6, h_7, hf⟩ := z_bd hf
  refine z_cVV (As := [.int (0 : Int32), .int (0 : Int32)]) (rest := []) X hK hE hD hA hP hS (cx_Lineup_searchLeastWood_c l D K cy ad 16 S_3 _ _ _ h_7) (cwV 2 hts (z_gV wt_4_179 wt_4_181 wp_42 wt_1_11 wt_4_182) rfl rfl rfl ⟨rfl, yd_yX4_searchLeastWood⟩ ⟨Nat.le_of_ble_eq_true rfl, Nat.le_of_ble_eq_true rfl⟩) (va_recv hK hP (ci := 4) (q0 := 128) rfl (zX_128 cy ad S_3)) hl.1 rfl rfl (Nat.le_of_ble_eq_true rfl) dX4_findLeastWood_13 (fun H locs hP hS => ?_)
  obtain ⟨h1, h2⟩ := z_s2 hf
  subst h2
  exact hret _ _ _ _ hP hS dX4_findLeastWood_16
def fx_Lineup_changePlaces (S_0 : zSt) (a_1 : Int32) : Option (Unit × zSt) :=
  zck (zix a_1 9) <|
  znm (S_0.1 129 (a_1.toNatClampNeg)) fun x_2 =>
  zck (zix (a_1 + (1 : Int32)) 9) <|
  zck (zix a_1 9) <|
  znm (zpI S_0 129 (a_1.toNatClampNeg) (S_0.1 129 ((a_1 + (1 : Int32)).toNatClampNeg))) fun S_5 =>
  zck (zix (a_1 + (1 : Int32)) 9) <|
  znm (zpI S_5 129 ((a_1 + (1 : Int32)).toNatClampNeg) x_2) fun S_7 =>
  some ((), S_7)
set_option maxHeartbeats 4000000 in
set_option maxRecDepth 100000 in
theorem cx_Lineup_changePlaces (l : Launch) (D : va_G) (K : (Nat → Nat) × (Nat → Nat)) (cy : Nat → ClassId) (ad : Nat → Nat) (S_0 : zSt) (a_1 : Int32) (So : zSt) (hf : fx_Lineup_changePlaces S_0 a_1 = some ((), So)) : zMV l yX4_changePlaces (zws yX4_changePlaces cX4_changePlaces 3 none) ({ frames := 0, cells := 0, slots := 0, locals := 0 }) D (zTy cy) K (zX cy ad) [.ref (ad 128), .int a_1] S_0 So := by
  refine z_metV (own := RX4) (lv := [(0, .ref (ad 128)), (1, .int a_1)]) (by decide) rfl rfl (Nat.le_of_ble_eq_true rfl) rfl ?_
  intro p e s m below meth c A Q X hK hE hD hA hret hP hS ls hl
  obtain ⟨hx, hb, hml, hown, hts⟩ := id X
  have k0 := (fun w h => List.mem_cons_of_mem _ (zFX4 w h) : ∀ w ∈ u_ws RX4 TX4 14, w ∈ zws yX4_changePlaces cX4_changePlaces 3 none)
  have k1 := hts _ (List.mem_cons_of_mem _ wt_2_109)
  refine lv_aload_n hx hb dX4_changePlaces_0 rfl (lv_at hl 0 rfl) ?_
  refine va_get (D := D) (ci := 4) (v := .ref (ad 129)) (C := RX4) (T := TX4) (N := 14) hx hb hts k0 hown hK hP 128 (zX_128 cy ad S_0) rfl 1 (by decide) k1 (fun _ h9 => h9) rfl dX4_changePlaces_1 ?_
  refine lv_iload_n hx hb dX4_changePlaces_4 rfl (lv_at hl 1 rfl) ?_
  obtain ⟨h_1, hf⟩ := z_ix hf
  refine z_iald hx hb hK hP 129 0 (zX_129 cy ad S_0) rfl h_1 (k := (a_1.toNatClampNeg)) rfl dX4_changePlaces_5 ?_
  refine lv_topi (fun x_2 ex_2 => ?_)
  have hf := z_nv ex_2 hf
  refine lv_istore_n (lv' := [(2, .int x_2), (0, .ref (ad 128)), (1, .int a_1)]) hx hb dX4_changePlaces_6 rfl hl (by decide) rfl (fun ls hl => ?_)
  refine lv_aload_n hx hb dX4_changePlaces_7 rfl (lv_at hl 1 rfl) ?_
  refine va_get (D := D) (ci := 4) (v := .ref (ad 129)) (C := RX4) (T := TX4) (N := 14) hx hb hts k0 hown hK hP 128 (zX_128 cy ad S_0) rfl 1 (by decide) k1 (fun _ h9 => h9) rfl dX4_changePlaces_8 ?_
  refine lv_iload_n hx hb dX4_changePlaces_11 rfl (lv_at hl 2 rfl) ?_
  refine lv_aload_n hx hb dX4_changePlaces_12 rfl (lv_at hl 1 rfl) ?_
  refine va_get (D := D) (ci := 4) (v := .ref (ad 129)) (C := RX4) (T := TX4) (N := 14) hx hb hts k0 hown hK hP 128 (zX_128 cy ad S_0) rfl 1 (by decide) k1 (fun _ h9 => h9) rfl dX4_changePlaces_13 ?_
  refine lv_iload_n hx hb dX4_changePlaces_16 rfl (lv_at hl 2 rfl) ?_
  refine lv_iconst (v := 1) hx hb dX4_changePlaces_17 (by decide) ?_
  refine lv_iadd hx hb dX4_changePlaces_18 ?_
  obtain ⟨h_3, hf⟩ := z_ix hf
  refine z_iald hx hb hK hP 129 0 (zX_129 cy ad S_0) rfl h_3 (k := ((a_1 + (1 : Int32)).toNatClampNeg)) rfl dX4_changePlaces_19 ?_
  obtain ⟨h_4, hf⟩ := z_ix hf
  refine z_iast hx hb hK hP (hD S_0) hS 129 0 (zX_129 cy ad S_0) rfl h_4 (k := (a_1.toNatClampNeg)) rfl dX4_changePlaces_20 (fun H locs hP hS => ?_)
  obtain ⟨S_5, eS_5, hf⟩ := z_nm hf
  have hP := zW_putI hP eS_5 (by decide) rfl
  refine lv_aload_n hx hb dX4_changePlaces_21 rfl (lv_at hl 1 rfl) ?_
  refine va_get (D := D) (ci := 4) (v := .ref (ad 129)) (C := RX4) (T := TX4) (N := 14) hx hb hts k0 hown hK hP 128 (zX_128 cy ad S_5) rfl 1 (by decide) k1 (fun _ h9 => h9) rfl dX4_changePlaces_22 ?_
  refine lv_iload_n hx hb dX4_changePlaces_25 rfl (lv_at hl 2 rfl) ?_
  refine lv_iconst (v := 1) hx hb dX4_changePlaces_26 (by decide) ?_
  refine lv_iadd hx hb dX4_changePlaces_27 ?_
  refine lv_iload_n hx hb dX4_changePlaces_28 rfl (lv_at hl 0 rfl) ?_
  obtain ⟨h_6, hf⟩ := z_ix hf
  refine z_iast hx hb hK hP (hD S_5) hS 129 0 (zX_129 cy ad S_5) rfl h_6 (k := ((a_1 + (1 : Int32)).toNatClampNeg)) rfl dX4_changePlaces_29 (fun H locs hP hS => ?_)
  obtain ⟨S_7, eS_7, hf⟩ := z_nm hf
  have hP := zW_putI hP eS_7 (by decide) rfl
  obtain ⟨h1, h2⟩ := z_s2 hf
  subst h2
  exact hret _ _ _ _ hP hS dX4_changePlaces_30
def fx_Lineup_firstToChange_L20 (x_1 : Int32) : Nat → Int32 → zSt → Option (Int32 × zSt)
  | 0, _, _ => none
  | n_20 + 1, x_3, S_4 =>
    if (x_1 - (1 : Int32)) ≤ x_3 then (
    some ((-1 : Int32), S_4)) else (
    znm (fun (x_5 : Int32) (S_6 : zSt) =>
    zbd (fx_Lineup_wouldChange S_6 x_3 x_5) fun r_7 S_8 =>
    if r_7 = 0 then (
    zck (zix x_3 9) <|
    zck (zix x_3 10) <|
    zbd (fx_Lineup_heatAfter S_8 (S_8.1 129 (x_3.toNatClampNeg)) (S_8.1 135 (x_3.toNatClampNeg))) fun r_12 S_13 =>
    zck (zix (x_3 + (1 : Int32)) 10) <|
    znm (zpI S_13 135 ((x_3 + (1 : Int32)).toNatClampNeg) r_12) fun S_16 =>
    znm (x_3 + (1 : Int32)) fun x_17 =>
    fx_Lineup_firstToChange_L20 x_1 n_20 x_17 S_16) else (
    some (x_3, S_8))) fun j_48 =>
    if x_1 ≤ (x_3 + (2 : Int32)) then (
    j_48 (-1 : Int32) S_4) else (
    zck (zix (x_3 + (2 : Int32)) 9) <|
    j_48 (S_4.1 129 ((x_3 + (2 : Int32)).toNatClampNeg)) S_4))
def fx_Lineup_firstToChange (S_0 : zSt) : Option (Int32 × zSt) :=
  znm (S_0.1 4 0) fun x_1 =>
  znm (zpI S_0 135 0 (0 : Int32)) fun S_2 =>
  fx_Lineup_firstToChange_L20 x_1 zFU (0 : Int32) S_2
set_option maxHeartbeats 4000000 in
set_option maxRecDepth 100000 in
theorem cx_Lineup_firstToChange (l : Launch) (D : va_G) (K : (Nat → Nat) × (Nat → Nat)) (cy : Nat → ClassId) (ad : Nat → Nat) (S_0 : zSt) (ro : Int32) (So : zSt) (hf : fx_Lineup_firstToChange S_0 = some (ro, So)) : zMI l yX4_firstToChange (zws yX4_firstToChange cX4_firstToChange 3 (Option.some .int)) ({ frames := 3, cells := 0, slots := 0, locals := 248 }) D (zTy cy) K (zX cy ad) [.ref (ad 128)] S_0 ro So := by
  refine z_metI (own := RX4) (lv := [(0, .ref (ad 128))]) (by decide) rfl rfl (Nat.le_of_ble_eq_true rfl) rfl ?_
  intro p e s m below meth c A Q X hK hE hD hA hret hP hS ls hl
  obtain ⟨hx, hb, hml, hown, hts⟩ := id X
  have k0 := (fun w h => List.mem_cons_of_mem _ (zFX4 w h) : ∀ w ∈ u_ws RX4 TX4 14, w ∈ zws yX4_firstToChange cX4_firstToChange 3 (Option.some .int))
  have k1 := hts _ (List.mem_cons_of_mem _ wt_2_108)
  have k2 := (fun w h => List.mem_cons_of_mem _ (zFX0 w h) : ∀ w ∈ u_ws RX0 TX0 6, w ∈ zws yX4_firstToChange cX4_firstToChange 3 (Option.some .int))
  have k3 := hts _ (List.mem_cons_of_mem _ wt_1_234)
  have k4 := (fun w h => List.mem_cons_of_mem _ (zFX2 w h) : ∀ w ∈ u_ws RX2 TX2 7, w ∈ zws yX4_firstToChange cX4_firstToChange 3 (Option.some .int))
  have k5 := hts _ (List.mem_cons_of_mem _ wt_1_66)
  have k6 := hts _ (List.mem_cons_of_mem _ wt_2_125)
  have k7 := hts _ (List.mem_cons_of_mem _ wt_2_109)
  refine lv_aload_n hx hb dX4_firstToChange_0 rfl (lv_at hl 0 rfl) ?_
  refine va_get (D := D) (ci := 4) (v := .ref (ad 3)) (C := RX4) (T := TX4) (N := 14) hx hb hts k0 hown hK hP 128 (zX_128 cy ad S_0) rfl 0 (by decide) k1 (fun _ h9 => h9) rfl dX4_firstToChange_1 ?_
  refine va_get (D := D) (ci := 0) (v := .ref (ad 4)) (C := RX0) (T := TX0) (N := 6) hx hb hts k2 hown hK hP 3 (zX_3 cy ad S_0) rfl 0 (by decide) k3 (fun _ h9 => h9) rfl dX4_firstToChange_4 ?_
  refine va_get (D := D) (ci := 2) (v := .int (S_0.1 4 0)) (C := RX2) (T := TX2) (N := 7) hx hb hts k4 hown hK hP 4 (zX_4 cy ad S_0) rfl 0 (by decide) k5 (fun _ h9 => h9) rfl dX4_firstToChange_7 ?_
  refine lv_topi (fun x_1 ex_1 => ?_)
  have hf := z_nv ex_1 hf
  refine lv_istore_n (lv' := [(1, .int x_1), (0, .ref (ad 128))]) hx hb dX4_firstToChange_10 rfl hl (by decide) rfl (fun ls hl => ?_)
  refine lv_aload_n hx hb dX4_firstToChange_11 rfl (lv_at hl 1 rfl) ?_
  refine va_get (D := D) (ci := 4) (v := .ref (ad 135)) (C := RX4) (T := TX4) (N := 14) hx hb hts k0 hown hK hP 128 (zX_128 cy ad S_0) rfl 11 (by decide) k6 (fun _ h9 => h9) rfl dX4_firstToChange_12 ?_
  refine lv_iconst (v := 0) hx hb dX4_firstToChange_15 (by decide) ?_
  refine lv_iconst (v := 0) hx hb dX4_firstToChange_16 (by decide) ?_
  refine z_iast hx hb hK hP (hD S_0) hS 135 0 (zX_135 cy ad S_0) rfl (vp_in_iff.mpr (by decide)) (k := 0) (by decide) dX4_firstToChange_17 (fun H locs hP hS => ?_)
  obtain ⟨S_2, eS_2, hf⟩ := z_nm hf
  have hP := zW_putI hP eS_2 (by decide) rfl
  refine lv_iconst (v := 0) hx hb dX4_firstToChange_18 (by decide) ?_
  refine lv_istore_n (lv' := [(2, .int (0 : Int32)), (1, .int x_1), (0, .ref (ad 128))]) hx hb dX4_firstToChange_19 rfl hl (by decide) rfl (fun ls hl => ?_)
  have L_20 : ∀ (n_20 : Nat) (x_3 : Int32) (S_4 : zSt) (H : Heap) (locs : List Loc) (ls : Array Slot), fx_Lineup_firstToChange_L20 x_1 n_20 x_3 S_4 = some (ro, So) → va_P D vwCl (zX cy ad S_4) H → va_S A s.heap H locs → lv_has ls 3 [(0, .ref (ad 128)), (1, .int x_1), (2, .int x_3)] → W p l e ({ frames := 3, cells := 0, slots := 0, locals := 248 }) s m ([.ref (ad 128)] : List Value).toArray below meth c H locs 0 0 Q (F0 m 20 ls []) := by
    intro n_20
    induction n_20 with
    | zero =>
      intro x_3 S_4 H locs ls hf hP hS hl
      exact z_no hf
    | succ n_20 ih_20 =>
      intro x_3 S_4 H locs ls hf hP hS hl
      rw [fx_Lineup_firstToChange_L20] at hf
      refine lv_iload_n hx hb dX4_firstToChange_20 rfl (lv_at hl 2 rfl) ?_
      refine lv_iload_n hx hb dX4_firstToChange_21 rfl (lv_at hl 1 rfl) ?_
      refine lv_iconst (v := 1) hx hb dX4_firstToChange_22 (by decide) ?_
      refine lv_isub hx hb dX4_firstToChange_23 ?_
      refine lv_icmp_ge (tgt := 86) hx hb dX4_firstToChange_24 (by decide) (fun c_21 => ?_) (fun c_21 => ?_)
      · have hf := z_it c_21 hf
        refine lv_iconst (v := -1) hx hb dX4_firstToChange_86 (by decide) ?_
        obtain ⟨h1, h2⟩ := z_s2 hf
        subst h1 h2
        exact hret _ _ _ _ hP hS dX4_firstToChange_87
      · have hf := z_if c_21 hf
        refine lv_aload_n hx hb dX4_firstToChange_27 rfl (lv_at hl 0 rfl) ?_
        refine lv_iload_n hx hb dX4_firstToChange_28 rfl (lv_at hl 2 rfl) ?_
        refine lv_iload_n hx hb dX4_firstToChange_29 rfl (lv_at hl 2 rfl) ?_
        refine lv_iconst (v := 2) hx hb dX4_firstToChange_30 (by decide) ?_
        refine lv_iadd hx hb dX4_firstToChange_31 ?_
        refine lv_iload_n hx hb dX4_firstToChange_32 rfl (lv_at hl 1 rfl) ?_
        obtain ⟨j_48, ej_48, hf⟩ := z_nm hf
        have J_48 : ∀ (x_5 : Int32) (S_6 : zSt) (H : Heap) (locs : List Loc) (ls : Array Slot), j_48 x_5 S_6 = some (ro, So) → va_P D vwCl (zX cy ad S_6) H → va_S A s.heap H locs → lv_has ls 3 [(0, .ref (ad 128)), (1, .int x_1), (2, .int x_3)] → W p l e ({ frames := 3, cells := 0, slots := 0, locals := 248 }) s m ([.ref (ad 128)] : List Value).toArray below meth c H locs 0 0 Q (F0 m 48 ls [.int x_5, .int x_3, .ref (ad 128)]) := by
          intro x_5 S_6 H locs ls hf hP hS hl
          have hf := z_e2 ej_48 hf
          obtain ⟨r_7, S_8, h_9, hf⟩ := z_bd hf
          refine z_cVI (As := [.int x_3, .int x_5]) (rest := []) X hK hE hD hA hP hS (cx_Lineup_wouldChange l D K cy ad S_6 _ _ _ _ h_9) (cwV 2 hts (z_gV wt_4_141 wt_4_143 wp_37 wt_1_11 wt_4_144) rfl rfl rfl ⟨rfl, yd_yX4_wouldChange⟩ ⟨Nat.le_of_ble_eq_true rfl, Nat.le_of_ble_eq_true rfl⟩) (va_recv hK hP (ci := 4) (q0 := 128) rfl (zX_128 cy ad S_6)) hl.1 rfl rfl (Nat.le_of_ble_eq_true rfl) dX4_firstToChange_48 (fun H locs hP hS => ?_)
          refine lv_if_eq (tgt := 56) hx hb dX4_firstToChange_51 (by decide) (fun c_18 => ?_) (fun c_18 => ?_)
          · have hf := z_it c_18 hf
            refine lv_aload_n hx hb dX4_firstToChange_56 rfl (lv_at hl 0 rfl) ?_
            refine va_get (D := D) (ci := 4) (v := .ref (ad 135)) (C := RX4) (T := TX4) (N := 14) hx hb hts k0 hown hK hP 128 (zX_128 cy ad S_8) rfl 11 (by decide) k6 (fun _ h9 => h9) rfl dX4_firstToChange_57 ?_
            refine lv_iload_n hx hb dX4_firstToChange_60 rfl (lv_at hl 2 rfl) ?_
            refine lv_iconst (v := 1) hx hb dX4_firstToChange_61 (by decide) ?_
            refine lv_iadd hx hb dX4_firstToChange_62 ?_
            refine lv_aload_n hx hb dX4_firstToChange_63 rfl (lv_at hl 0 rfl) ?_
            refine lv_aload_n hx hb dX4_firstToChange_64 rfl (lv_at hl 0 rfl) ?_
            refine va_get (D := D) (ci := 4) (v := .ref (ad 129)) (C := RX4) (T := TX4) (N := 14) hx hb hts k0 hown hK hP 128 (zX_128 cy ad S_8) rfl 1 (by decide) k7 (fun _ h9 => h9) rfl dX4_firstToChange_65 ?_
            refine lv_iload_n hx hb dX4_firstToChange_68 rfl (lv_at hl 2 rfl) ?_
            obtain ⟨h_10, hf⟩ := z_ix hf
            refine z_iald hx hb hK hP 129 0 (zX_129 cy ad S_8) rfl h_10 (k := (x_3.toNatClampNeg)) rfl dX4_firstToChange_69 ?_
            refine lv_aload_n hx hb dX4_firstToChange_70 rfl (lv_at hl 0 rfl) ?_
            refine va_get (D := D) (ci := 4) (v := .ref (ad 135)) (C := RX4) (T := TX4) (N := 14) hx hb hts k0 hown hK hP 128 (zX_128 cy ad S_8) rfl 11 (by decide) k6 (fun _ h9 => h9) rfl dX4_firstToChange_71 ?_
            refine lv_iload_n hx hb dX4_firstToChange_74 rfl (lv_at hl 2 rfl) ?_
            obtain ⟨h_11, hf⟩ := z_ix hf
            refine z_iald hx hb hK hP 135 0 (zX_135 cy ad S_8) rfl h_11 (k := (x_3.toNatClampNeg)) rfl dX4_firstToChange_75 ?_
            obtain ⟨r_12, S_13, h_14, hf⟩ := z_bd hf
            refine z_cVI (As := [.int (S_8.1 129 (x_3.toNatClampNeg)), .int (S_8.1 135 (x_3.toNatClampNeg))]) (rest := [.int (x_3 + (1 : Int32)), .ref (ad 135)]) X hK hE hD hA hP hS (cx_Lineup_heatAfter l D K cy ad S_8 _ _ _ _ h_14) (cwV 2 hts (z_gV wt_4_76 wt_4_78 wp_30 wt_1_11 wt_4_79) rfl rfl rfl ⟨rfl, yd_yX4_heatAfter⟩ ⟨Nat.le_of_ble_eq_true rfl, Nat.le_of_ble_eq_true rfl⟩) (va_recv hK hP (ci := 4) (q0 := 128) rfl (zX_128 cy ad S_8)) hl.1 rfl rfl (Nat.le_of_ble_eq_true rfl) dX4_firstToChange_76 (fun H locs hP hS => ?_)
            obtain ⟨h_15, hf⟩ := z_ix hf
            refine z_iast hx hb hK hP (hD S_13) hS 135 0 (zX_135 cy ad S_13) rfl h_15 (k := ((x_3 + (1 : Int32)).toNatClampNeg)) rfl dX4_firstToChange_79 (fun H locs hP hS => ?_)
            obtain ⟨S_16, eS_16, hf⟩ := z_nm hf
            have hP := zW_putI hP eS_16 (by decide) rfl
            obtain ⟨x_17, ex_17, hf⟩ := z_nm hf
            refine lv_iinc (v := x_17) (lv' := [(2, .int x_17), (0, .ref (ad 128)), (1, .int x_1)]) hx hb dX4_firstToChange_80 hl (k := 2) rfl (by rw [ex_17]; rfl) (by decide) rfl (fun ls hl => ?_)
            refine lv_goto (tgt := 20) hx hb dX4_firstToChange_83 (by decide) ?_
            exact ih_20 x_17 S_16 _ _ _ hf hP hS (lv_sub hl [1, 2, 0] rfl)
          · have hf := z_if c_18 hf
            refine lv_iload_n hx hb dX4_firstToChange_54 rfl (lv_at hl 2 rfl) ?_
            obtain ⟨h1, h2⟩ := z_s2 hf
            subst h1 h2
            exact hret _ _ _ _ hP hS dX4_firstToChange_55
        refine lv_icmp_ge (tgt := 47) hx hb dX4_firstToChange_33 (by decide) (fun c_20 => ?_) (fun c_20 => ?_)
        · have hf := z_it c_20 hf
          refine lv_iconst (v := -1) hx hb dX4_firstToChange_47 (by decide) ?_
          exact J_48 (-1 : Int32) S_4 _ _ _ hf hP hS (lv_sub hl [0, 1, 2] rfl)
        · have hf := z_if c_20 hf
          refine lv_aload_n hx hb dX4_firstToChange_36 rfl (lv_at hl 0 rfl) ?_
          refine va_get (D := D) (ci := 4) (v := .ref (ad 129)) (C := RX4) (T := TX4) (N := 14) hx hb hts k0 hown hK hP 128 (zX_128 cy ad S_4) rfl 1 (by decide) k7 (fun _ h9 => h9) rfl dX4_firstToChange_37 ?_
          refine lv_iload_n hx hb dX4_firstToChange_40 rfl (lv_at hl 2 rfl) ?_
          refine lv_iconst (v := 2) hx hb dX4_firstToChange_41 (by decide) ?_
          refine lv_iadd hx hb dX4_firstToChange_42 ?_
          obtain ⟨h_19, hf⟩ := z_ix hf
          refine z_iald hx hb hK hP 129 0 (zX_129 cy ad S_4) rfl h_19 (k := ((x_3 + (2 : Int32)).toNatClampNeg)) rfl dX4_firstToChange_43 ?_
          refine lv_goto (tgt := 48) hx hb dX4_firstToChange_44 (by decide) ?_
          exact J_48 (S_4.1 129 ((x_3 + (2 : Int32)).toNatClampNeg)) S_4 _ _ _ hf hP hS (lv_sub hl [0, 1, 2] rfl)
  exact L_20 zFU (0 : Int32) S_2 _ _ _ hf hP hS (lv_sub hl [2, 1, 0] rfl)
def fx_Lineup_orderAsNumber_L4 : Nat → Int64 → Int32 → zSt → Option (Int64 × zSt)
  | 0, _, _, _ => none
  | n_4 + 1, x_1, x_2, S_3 =>
    if (S_3.1 4 0) ≤ x_2 then (
    some (x_1, S_3)) else (
    zck (zix x_2 9) <|
    znm ((x_1 * (10 : Int64)) + ((S_3.1 129 (x_2.toNatClampNeg)).toInt64)) fun x_5 =>
    znm (x_2 + (1 : Int32)) fun x_6 =>
    fx_Lineup_orderAsNumber_L4 n_4 x_5 x_6 S_3)
def fx_Lineup_orderAsNumber (S_0 : zSt) : Option (Int64 × zSt) :=
  fx_Lineup_orderAsNumber_L4 zFU (0 : Int64) (0 : Int32) S_0
set_option maxHeartbeats 4000000 in
set_option maxRecDepth 100000 in
theorem cx_Lineup_orderAsNumber (l : Launch) (D : va_G) (K : (Nat → Nat) × (Nat → Nat)) (cy : Nat → ClassId) (ad : Nat → Nat) (S_0 : zSt) (ro : Int64) (So : zSt) (hf : fx_Lineup_orderAsNumber S_0 = some (ro, So)) : zML l yX4_orderAsNumber (zws yX4_orderAsNumber cX4_orderAsNumber 4 (Option.some .long)) ({ frames := 0, cells := 0, slots := 0, locals := 0 }) D (zTy cy) K (zX cy ad) [.ref (ad 128)] S_0 ro So := by
  refine z_metL (own := RX4) (lv := [(0, .ref (ad 128))]) (by decide) rfl rfl (Nat.le_of_ble_eq_true rfl) rfl ?_
  intro p e s m below meth c A Q X hK hE hD hA hret hP hS ls hl
  obtain ⟨hx, hb, hml, hown, hts⟩ := id X
  have k0 := (fun w h => List.mem_cons_of_mem _ (zFX4 w h) : ∀ w ∈ u_ws RX4 TX4 14, w ∈ zws yX4_orderAsNumber cX4_orderAsNumber 4 (Option.some .long))
  have k1 := hts _ (List.mem_cons_of_mem _ wt_2_108)
  have k2 := (fun w h => List.mem_cons_of_mem _ (zFX0 w h) : ∀ w ∈ u_ws RX0 TX0 6, w ∈ zws yX4_orderAsNumber cX4_orderAsNumber 4 (Option.some .long))
  have k3 := hts _ (List.mem_cons_of_mem _ wt_1_234)
  have k4 := (fun w h => List.mem_cons_of_mem _ (zFX2 w h) : ∀ w ∈ u_ws RX2 TX2 7, w ∈ zws yX4_orderAsNumber cX4_orderAsNumber 4 (Option.some .long))
  have k5 := hts _ (List.mem_cons_of_mem _ wt_1_66)
  have k6 := hts _ (List.mem_cons_of_mem _ wt_4_161)
  have k7 := hts _ (List.mem_cons_of_mem _ wt_2_109)
  refine lv_lconst (v := 0) hx hb dX4_orderAsNumber_0 (by decide) ?_
  refine lv_lstore_n (lv' := [(1, .long (0 : Int64)), (0, .ref (ad 128))]) hx hb dX4_orderAsNumber_1 rfl hl (by decide) rfl (fun ls hl => ?_)
  refine lv_iconst (v := 0) hx hb dX4_orderAsNumber_2 (by decide) ?_
  refine lv_istore_n (lv' := [(3, .int (0 : Int32)), (1, .long (0 : Int64)), (0, .ref (ad 128))]) hx hb dX4_orderAsNumber_3 rfl hl (by decide) rfl (fun ls hl => ?_)
  have L_4 : ∀ (n_4 : Nat) (x_1 : Int64) (x_2 : Int32) (S_3 : zSt) (H : Heap) (locs : List Loc) (ls : Array Slot), fx_Lineup_orderAsNumber_L4 n_4 x_1 x_2 S_3 = some (ro, So) → va_P D vwCl (zX cy ad S_3) H → va_S A s.heap H locs → lv_has ls 4 [(0, .ref (ad 128)), (1, .long x_1), (3, .int x_2)] → W p l e ({ frames := 0, cells := 0, slots := 0, locals := 0 }) s m ([.ref (ad 128)] : List Value).toArray below meth c H locs 0 0 Q (F0 m 4 ls []) := by
    intro n_4
    induction n_4 with
    | zero =>
      intro x_1 x_2 S_3 H locs ls hf hP hS hl
      exact z_no hf
    | succ n_4 ih_4 =>
      intro x_1 x_2 S_3 H locs ls hf hP hS hl
      rw [fx_Lineup_orderAsNumber_L4] at hf
      refine lv_iload_n hx hb dX4_orderAsNumber_4 rfl (lv_at hl 2 rfl) ?_
      refine lv_aload_n hx hb dX4_orderAsNumber_5 rfl (lv_at hl 0 rfl) ?_
      refine va_get (D := D) (ci := 4) (v := .ref (ad 3)) (C := RX4) (T := TX4) (N := 14) hx hb hts k0 hown hK hP 128 (zX_128 cy ad S_3) rfl 0 (by decide) k1 (fun _ h9 => h9) rfl dX4_orderAsNumber_6 ?_
      refine va_get (D := D) (ci := 0) (v := .ref (ad 4)) (C := RX0) (T := TX0) (N := 6) hx hb hts k2 hown hK hP 3 (zX_3 cy ad S_3) rfl 0 (by decide) k3 (fun _ h9 => h9) rfl dX4_orderAsNumber_9 ?_
      refine va_get (D := D) (ci := 2) (v := .int (S_3.1 4 0)) (C := RX2) (T := TX2) (N := 7) hx hb hts k4 hown hK hP 4 (zX_4 cy ad S_3) rfl 0 (by decide) k5 (fun _ h9 => h9) rfl dX4_orderAsNumber_12 ?_
      refine lv_icmp_ge (tgt := 38) hx hb dX4_orderAsNumber_15 (by decide) (fun c_7 => ?_) (fun c_7 => ?_)
      · have hf := z_it c_7 hf
        refine lv_lload_n hx hb dX4_orderAsNumber_38 rfl (lv_at hl 1 rfl) ?_
        obtain ⟨h1, h2⟩ := z_s2 hf
        subst h1 h2
        exact hret _ _ _ _ hP hS dX4_orderAsNumber_39
      · have hf := z_if c_7 hf
        refine lv_lload_n hx hb dX4_orderAsNumber_18 rfl (lv_at hl 1 rfl) ?_
        refine lv_ldc2 hx hb hown k6 dX4_orderAsNumber_19 ?_
        refine lv_lmul hx hb dX4_orderAsNumber_22 ?_
        refine lv_aload_n hx hb dX4_orderAsNumber_23 rfl (lv_at hl 0 rfl) ?_
        refine va_get (D := D) (ci := 4) (v := .ref (ad 129)) (C := RX4) (T := TX4) (N := 14) hx hb hts k0 hown hK hP 128 (zX_128 cy ad S_3) rfl 1 (by decide) k7 (fun _ h9 => h9) rfl dX4_orderAsNumber_24 ?_
        refine lv_iload_n hx hb dX4_orderAsNumber_27 rfl (lv_at hl 2 rfl) ?_
        obtain ⟨h_4, hf⟩ := z_ix hf
        refine z_iald hx hb hK hP 129 0 (zX_129 cy ad S_3) rfl h_4 (k := (x_2.toNatClampNeg)) rfl dX4_orderAsNumber_28 ?_
        refine lv_i2l hx hb dX4_orderAsNumber_29 rfl ?_
        refine lv_ladd hx hb dX4_orderAsNumber_30 ?_
        refine lv_topl (fun x_5 ex_5 => ?_)
        have hf := z_nv ex_5 hf
        refine lv_lstore_n (lv' := [(1, .long x_5), (0, .ref (ad 128)), (3, .int x_2)]) hx hb dX4_orderAsNumber_31 rfl hl (by decide) rfl (fun ls hl => ?_)
        obtain ⟨x_6, ex_6, hf⟩ := z_nm hf
        refine lv_iinc (v := x_6) (lv' := [(3, .int x_6), (1, .long x_5), (0, .ref (ad 128))]) hx hb dX4_orderAsNumber_32 hl (k := 2) rfl (by rw [ex_6]; rfl) (by decide) rfl (fun ls hl => ?_)
        refine lv_goto (tgt := 4) hx hb dX4_orderAsNumber_35 (by decide) ?_
        exact ih_4 x_5 x_6 S_3 _ _ _ hf hP hS (lv_sub hl [2, 1, 0] rfl)
  exact L_4 zFU (0 : Int64) (0 : Int32) S_0 _ _ _ hf hP hS (lv_sub hl [2, 1, 0] rfl)
def fx_Lineup_goRound_L39 (x_9 : Int32) (j_74 : zSt → Option (Unit × zSt)) : Nat → Int32 → zSt → Option (Unit × zSt)
  | 0, _, _ => none
  | n_39 + 1, x_26, S_27 =>
    if x_9 ≤ x_26 then (
    j_74  S_27) else (
    zck (zix x_26 201) <|
    zck (zix x_9 201) <|
    if (lg_cmp (S_27.2 137 (x_26.toNatClampNeg)) (S_27.2 137 (x_9.toNatClampNeg))) = 0 then (
    znm (zpI S_27 128 6 (x_9 - x_26)) fun S_31 =>
    some ((), S_31)) else (
    znm (x_26 + (1 : Int32)) fun x_30 =>
    fx_Lineup_goRound_L39 x_9 j_74 n_39 x_30 S_27))
def fx_Lineup_goRound_L20 : Nat → Int32 → zSt → Option (Unit × zSt)
  | 0, _, _ => none
  | n_20 + 1, x_9, S_10 =>
    if (200 : Int32) < x_9 then (
    some ((), S_10)) else (
    zbd (fx_Lineup_orderAsNumber S_10) fun r_11 S_12 =>
    zck (zix x_9 201) <|
    znm (zpL S_12 137 (x_9.toNatClampNeg) r_11) fun S_15 =>
    znm (fun (S_16 : zSt) =>
    zbd (fx_Lineup_firstToChange S_16) fun r_17 S_18 =>
    if r_17 = (-1 : Int32) then (
    znm (zpI S_18 128 5 x_9) fun S_24 =>
    some ((), S_24)) else (
    zbd (fx_Lineup_changePlaces S_18 r_17) fun _ S_21 =>
    znm (x_9 + (1 : Int32)) fun x_23 =>
    fx_Lineup_goRound_L20 n_20 x_23 S_21)) fun j_74 =>
    fx_Lineup_goRound_L39 x_9 j_74 zFU (0 : Int32) S_15)
def fx_Lineup_goRound (S_0 : zSt) : Option (Unit × zSt) :=
  znm (zpI S_0 128 5 (-1 : Int32)) fun S_1 =>
  znm (zpI S_1 128 6 (0 : Int32)) fun S_2 =>
  zbd (fx_Lineup_standByRule S_2) fun _ S_4 =>
  zbd (fx_Lineup_weighLoaves S_4) fun _ S_7 =>
  fx_Lineup_goRound_L20 zFU (0 : Int32) S_7
set_option maxHeartbeats 4000000 in
set_option maxRecDepth 100000 in
theorem cx_Lineup_goRound (l : Launch) (D : va_G) (K : (Nat → Nat) × (Nat → Nat)) (cy : Nat → ClassId) (ad : Nat → Nat) (S_0 : zSt) (So : zSt) (hf : fx_Lineup_goRound S_0 = some ((), So)) : zMV l yX4_goRound (zws yX4_goRound cX4_goRound 3 none) ({ frames := 4, cells := 0, slots := 0, locals := 270 }) D (zTy cy) K (zX cy ad) [.ref (ad 128)] S_0 So := by
  refine z_metV (own := RX4) (lv := [(0, .ref (ad 128))]) (by decide) rfl rfl (Nat.le_of_ble_eq_true rfl) rfl ?_
  intro p e s m below meth c A Q X hK hE hD hA hret hP hS ls hl
  obtain ⟨hx, hb, hml, hown, hts⟩ := id X
  have k0 := (fun w h => List.mem_cons_of_mem _ (zFX4 w h) : ∀ w ∈ u_ws RX4 TX4 14, w ∈ zws yX4_goRound cX4_goRound 3 none)
  have k1 := hts _ (List.mem_cons_of_mem _ wt_2_118)
  have k2 := hts _ (List.mem_cons_of_mem _ wt_2_120)
  have k3 := hts _ (List.mem_cons_of_mem _ wt_2_127)
  refine lv_aload_n hx hb dX4_goRound_0 rfl (lv_at hl 0 rfl) ?_
  refine lv_iconst (v := -1) hx hb dX4_goRound_1 (by decide) ?_
  refine va_put (D := D) (ci := 4) (v := .int (-1 : Int32)) (ty := .int) (C := RX4) (T := TX4) (N := 14) hx hb hts k0 tyX4 tyX4_ok nmX4 hown hK hP (hD S_0) hS 128 (zX_128 cy ad S_0) rfl 5 (by decide) k1 (fun _ h9 => h9) rfl (tyX4_ok 5 (by decide)) rfl rfl (Nat.le_of_ble_eq_true rfl) dX4_goRound_2 (fun H locs hP _ hS => ?_)
  obtain ⟨S_1, eS_1, hf⟩ := z_nm hf
  have hP := zW_putI hP eS_1 (by decide) rfl
  refine lv_aload_n hx hb dX4_goRound_5 rfl (lv_at hl 0 rfl) ?_
  refine lv_iconst (v := 0) hx hb dX4_goRound_6 (by decide) ?_
  refine va_put (D := D) (ci := 4) (v := .int (0 : Int32)) (ty := .int) (C := RX4) (T := TX4) (N := 14) hx hb hts k0 tyX4 tyX4_ok nmX4 hown hK hP (hD S_1) hS 128 (zX_128 cy ad S_1) rfl 6 (by decide) k2 (fun _ h9 => h9) rfl (tyX4_ok 6 (by decide)) rfl rfl (Nat.le_of_ble_eq_true rfl) dX4_goRound_7 (fun H locs hP _ hS => ?_)
  obtain ⟨S_2, eS_2, hf⟩ := z_nm hf
  have hP := zW_putI hP eS_2 (by decide) rfl
  refine lv_aload_n hx hb dX4_goRound_10 rfl (lv_at hl 0 rfl) ?_
  obtain ⟨r_3, S_4, h_5, hf⟩ := z_bd hf
  refine z_cVV (As := []) (rest := []) X hK hE hD hA hP hS (cx_Lineup_standByRule l D K cy ad S_2 _ h_5) (cwV 0 hts (z_gV wt_4_5 wt_4_7 wp_22 wt_1_11 wt_4_8) rfl rfl rfl ⟨rfl, yd_yX4_standByRule⟩ ⟨Nat.le_of_ble_eq_true rfl, Nat.le_of_ble_eq_true rfl⟩) (va_recv hK hP (ci := 4) (q0 := 128) rfl (zX_128 cy ad S_2)) hl.1 rfl rfl (Nat.le_of_ble_eq_true rfl) dX4_goRound_11 (fun H locs hP hS => ?_)
  refine lv_aload_n hx hb dX4_goRound_14 rfl (lv_at hl 0 rfl) ?_
  obtain ⟨r_6, S_7, h_8, hf⟩ := z_bd hf
  refine z_cVV (As := []) (rest := []) X hK hE hD hA hP hS (cx_Lineup_weighLoaves l D K cy ad S_4 _ h_8) (cwV 0 hts (z_gV wt_4_53 wt_4_55 wp_26 wt_1_11 wt_4_56) rfl rfl rfl ⟨rfl, yd_yX4_weighLoaves⟩ ⟨Nat.le_of_ble_eq_true rfl, Nat.le_of_ble_eq_true rfl⟩) (va_recv hK hP (ci := 4) (q0 := 128) rfl (zX_128 cy ad S_4)) hl.1 rfl rfl (Nat.le_of_ble_eq_true rfl) dX4_goRound_15 (fun H locs hP hS => ?_)
  refine lv_iconst (v := 0) hx hb dX4_goRound_18 (by decide) ?_
  refine lv_istore_n (lv' := [(1, .int (0 : Int32)), (0, .ref (ad 128))]) hx hb dX4_goRound_19 rfl hl (by decide) rfl (fun ls hl => ?_)
  have L_20 : ∀ (n_20 : Nat) (x_9 : Int32) (S_10 : zSt) (H : Heap) (locs : List Loc) (ls : Array Slot), fx_Lineup_goRound_L20 n_20 x_9 S_10 = some ((), So) → va_P D vwCl (zX cy ad S_10) H → va_S A s.heap H locs → lv_has ls 3 [(0, .ref (ad 128)), (1, .int x_9)] → W p l e ({ frames := 4, cells := 0, slots := 0, locals := 270 }) s m ([.ref (ad 128)] : List Value).toArray below meth c H locs 0 0 Q (F0 m 20 ls []) := by
    intro n_20
    induction n_20 with
    | zero =>
      intro x_9 S_10 H locs ls hf hP hS hl
      exact z_no hf
    | succ n_20 ih_20 =>
      intro x_9 S_10 H locs ls hf hP hS hl
      rw [fx_Lineup_goRound_L20] at hf
      refine lv_iload_n hx hb dX4_goRound_20 rfl (lv_at hl 1 rfl) ?_
      refine lv_sipush (v := 200) hx hb dX4_goRound_21 (by decide) ?_
      refine lv_icmp_gt (tgt := 101) hx hb dX4_goRound_24 (by decide) (fun c_34 => ?_) (fun c_34 => ?_)
      · have hf := z_it c_34 hf
        obtain ⟨h1, h2⟩ := z_s2 hf
        subst h2
        exact hret _ _ _ _ hP hS dX4_goRound_101
      · have hf := z_if c_34 hf
        refine lv_aload_n hx hb dX4_goRound_27 rfl (lv_at hl 0 rfl) ?_
        refine va_get (D := D) (ci := 4) (v := .ref (ad 137)) (C := RX4) (T := TX4) (N := 14) hx hb hts k0 hown hK hP 128 (zX_128 cy ad S_10) rfl 13 (by decide) k3 (fun _ h9 => h9) rfl dX4_goRound_28 ?_
        refine lv_iload_n hx hb dX4_goRound_31 rfl (lv_at hl 1 rfl) ?_
        refine lv_aload_n hx hb dX4_goRound_32 rfl (lv_at hl 0 rfl) ?_
        obtain ⟨r_11, S_12, h_13, hf⟩ := z_bd hf
        refine z_cVL (As := []) (rest := [.int x_9, .ref (ad 137)]) X hK hE hD hA hP hS (cx_Lineup_orderAsNumber l D K cy ad S_10 _ _ h_13) (cwV 0 hts (z_gV wt_4_157 wt_4_159 wp_39 wt_1_11 wt_4_160) rfl rfl rfl ⟨rfl, yd_yX4_orderAsNumber⟩ ⟨Nat.le_of_ble_eq_true rfl, Nat.le_of_ble_eq_true rfl⟩) (va_recv hK hP (ci := 4) (q0 := 128) rfl (zX_128 cy ad S_10)) hl.1 rfl rfl (Nat.le_of_ble_eq_true rfl) dX4_goRound_33 (fun H locs hP hS => ?_)
        obtain ⟨h_14, hf⟩ := z_ix hf
        refine z_last hx hb hK hP (hD S_12) hS 137 1 (zX_137 cy ad S_12) rfl h_14 (k := (x_9.toNatClampNeg)) rfl dX4_goRound_36 (fun H locs hP hS => ?_)
        obtain ⟨S_15, eS_15, hf⟩ := z_nm hf
        have hP := zW_putL hP eS_15 (by decide) rfl
        refine lv_iconst (v := 0) hx hb dX4_goRound_37 (by decide) ?_
        refine lv_istore_n (lv' := [(2, .int (0 : Int32)), (0, .ref (ad 128)), (1, .int x_9)]) hx hb dX4_goRound_38 rfl hl (by decide) rfl (fun ls hl => ?_)
        obtain ⟨j_74, ej_74, hf⟩ := z_nm hf
        have J_74 : ∀ (S_16 : zSt) (H : Heap) (locs : List Loc) (ls : Array Slot), j_74  S_16 = some ((), So) → va_P D vwCl (zX cy ad S_16) H → va_S A s.heap H locs → lv_has ls 3 [(0, .ref (ad 128)), (1, .int x_9)] → W p l e ({ frames := 4, cells := 0, slots := 0, locals := 270 }) s m ([.ref (ad 128)] : List Value).toArray below meth c H locs 0 0 Q (F0 m 74 ls []) := by
          intro  S_16 H locs ls hf hP hS hl
          have hf := z_e1 ej_74 hf
          refine lv_aload_n hx hb dX4_goRound_74 rfl (lv_at hl 0 rfl) ?_
          obtain ⟨r_17, S_18, h_19, hf⟩ := z_bd hf
          refine z_cVI (As := []) (rest := []) X hK hE hD hA hP hS (cx_Lineup_firstToChange l D K cy ad S_16 _ _ h_19) (cwV 0 hts (z_gV wt_4_162 wt_4_164 wp_40 wt_1_11 wt_4_165) rfl rfl rfl ⟨rfl, yd_yX4_firstToChange⟩ ⟨Nat.le_of_ble_eq_true rfl, Nat.le_of_ble_eq_true rfl⟩) (va_recv hK hP (ci := 4) (q0 := 128) rfl (zX_128 cy ad S_16)) hl.1 rfl rfl (Nat.le_of_ble_eq_true rfl) dX4_goRound_75 (fun H locs hP hS => ?_)
          refine lv_istore_n (lv' := [(2, .int r_17), (0, .ref (ad 128)), (1, .int x_9)]) hx hb dX4_goRound_78 rfl hl (by decide) rfl (fun ls hl => ?_)
          refine lv_iload_n hx hb dX4_goRound_79 rfl (lv_at hl 0 rfl) ?_
          refine lv_iconst (v := -1) hx hb dX4_goRound_80 (by decide) ?_
          refine lv_icmp_ne (tgt := 90) hx hb dX4_goRound_81 (by decide) (fun c_25 => ?_) (fun c_25 => ?_)
          · have hf := z_if c_25 hf
            refine lv_aload_n hx hb dX4_goRound_90 rfl (lv_at hl 1 rfl) ?_
            refine lv_iload_n hx hb dX4_goRound_91 rfl (lv_at hl 0 rfl) ?_
            obtain ⟨r_20, S_21, h_22, hf⟩ := z_bd hf
            refine z_cVV (As := [.int r_17]) (rest := []) X hK hE hD hA hP hS (cx_Lineup_changePlaces l D K cy ad S_18 _ _ h_22) (cwV 1 hts (z_gV wt_4_166 wt_4_168 wp_41 wt_1_11 wt_4_169) rfl rfl rfl ⟨rfl, yd_yX4_changePlaces⟩ ⟨Nat.le_of_ble_eq_true rfl, Nat.le_of_ble_eq_true rfl⟩) (va_recv hK hP (ci := 4) (q0 := 128) rfl (zX_128 cy ad S_18)) hl.1 rfl rfl (Nat.le_of_ble_eq_true rfl) dX4_goRound_92 (fun H locs hP hS => ?_)
            obtain ⟨x_23, ex_23, hf⟩ := z_nm hf
            refine lv_iinc (v := x_23) (lv' := [(1, .int x_23), (2, .int r_17), (0, .ref (ad 128))]) hx hb dX4_goRound_95 hl (k := 2) rfl (by rw [ex_23]; rfl) (by decide) rfl (fun ls hl => ?_)
            refine lv_goto (tgt := 20) hx hb dX4_goRound_98 (by decide) ?_
            exact ih_20 x_23 S_21 _ _ _ hf hP hS (lv_sub hl [2, 0] rfl)
          · have hf := z_it c_25 hf
            refine lv_aload_n hx hb dX4_goRound_84 rfl (lv_at hl 1 rfl) ?_
            refine lv_iload_n hx hb dX4_goRound_85 rfl (lv_at hl 2 rfl) ?_
            refine va_put (D := D) (ci := 4) (v := .int x_9) (ty := .int) (C := RX4) (T := TX4) (N := 14) hx hb hts k0 tyX4 tyX4_ok nmX4 hown hK hP (hD S_18) hS 128 (zX_128 cy ad S_18) rfl 5 (by decide) k1 (fun _ h9 => h9) rfl (tyX4_ok 5 (by decide)) rfl rfl (Nat.le_of_ble_eq_true rfl) dX4_goRound_86 (fun H locs hP _ hS => ?_)
            obtain ⟨S_24, eS_24, hf⟩ := z_nm hf
            have hP := zW_putI hP eS_24 (by decide) rfl
            obtain ⟨h1, h2⟩ := z_s2 hf
            subst h2
            exact hret _ _ _ _ hP hS dX4_goRound_89
        have L_39 : ∀ (n_39 : Nat) (x_26 : Int32) (S_27 : zSt) (H : Heap) (locs : List Loc) (ls : Array Slot), fx_Lineup_goRound_L39 x_9 j_74 n_39 x_26 S_27 = some ((), So) → va_P D vwCl (zX cy ad S_27) H → va_S A s.heap H locs → lv_has ls 3 [(0, .ref (ad 128)), (1, .int x_9), (2, .int x_26)] → W p l e ({ frames := 4, cells := 0, slots := 0, locals := 270 }) s m ([.ref (ad 128)] : List Value).toArray below meth c H locs 0 0 Q (F0 m 39 ls []) := by
          intro n_39
          induction n_39 with
          | zero =>
            intro x_26 S_27 H locs ls hf hP hS hl
            exact z_no hf
          | succ n_39 ih_39 =>
            intro x_26 S_27 H locs ls hf hP hS hl
            rw [fx_Lineup_goRound_L39] at hf
            refine lv_iload_n hx hb dX4_goRound_39 rfl (lv_at hl 2 rfl) ?_
            refine lv_iload_n hx hb dX4_goRound_40 rfl (lv_at hl 1 rfl) ?_
            refine lv_icmp_ge (tgt := 74) hx hb dX4_goRound_41 (by decide) (fun c_33 => ?_) (fun c_33 => ?_)
            · have hf := z_it c_33 hf
              exact J_74  S_27 _ _ _ hf hP hS (lv_sub hl [0, 1] rfl)
            · have hf := z_if c_33 hf
              refine lv_aload_n hx hb dX4_goRound_44 rfl (lv_at hl 0 rfl) ?_
              refine va_get (D := D) (ci := 4) (v := .ref (ad 137)) (C := RX4) (T := TX4) (N := 14) hx hb hts k0 hown hK hP 128 (zX_128 cy ad S_27) rfl 13 (by decide) k3 (fun _ h9 => h9) rfl dX4_goRound_45 ?_
              refine lv_iload_n hx hb dX4_goRound_48 rfl (lv_at hl 2 rfl) ?_
              obtain ⟨h_28, hf⟩ := z_ix hf
              refine z_lald hx hb hK hP 137 1 (zX_137 cy ad S_27) rfl h_28 (k := (x_26.toNatClampNeg)) rfl dX4_goRound_49 ?_
              refine lv_aload_n hx hb dX4_goRound_50 rfl (lv_at hl 0 rfl) ?_
              refine va_get (D := D) (ci := 4) (v := .ref (ad 137)) (C := RX4) (T := TX4) (N := 14) hx hb hts k0 hown hK hP 128 (zX_128 cy ad S_27) rfl 13 (by decide) k3 (fun _ h9 => h9) rfl dX4_goRound_51 ?_
              refine lv_iload_n hx hb dX4_goRound_54 rfl (lv_at hl 1 rfl) ?_
              obtain ⟨h_29, hf⟩ := z_ix hf
              refine z_lald hx hb hK hP 137 1 (zX_137 cy ad S_27) rfl h_29 (k := (x_9.toNatClampNeg)) rfl dX4_goRound_55 ?_
              refine W.lcmp hx hb dX4_goRound_56 ?_
              refine lv_if_ne (tgt := 68) hx hb dX4_goRound_57 (by decide) (fun c_32 => ?_) (fun c_32 => ?_)
              · have hf := z_if c_32 hf
                obtain ⟨x_30, ex_30, hf⟩ := z_nm hf
                refine lv_iinc (v := x_30) (lv' := [(2, .int x_30), (0, .ref (ad 128)), (1, .int x_9)]) hx hb dX4_goRound_68 hl (k := 2) rfl (by rw [ex_30]; rfl) (by decide) rfl (fun ls hl => ?_)
                refine lv_goto (tgt := 39) hx hb dX4_goRound_71 (by decide) ?_
                exact ih_39 x_30 S_27 _ _ _ hf hP hS (lv_sub hl [1, 2, 0] rfl)
              · have hf := z_it c_32 hf
                refine lv_aload_n hx hb dX4_goRound_60 rfl (lv_at hl 0 rfl) ?_
                refine lv_iload_n hx hb dX4_goRound_61 rfl (lv_at hl 1 rfl) ?_
                refine lv_iload_n hx hb dX4_goRound_62 rfl (lv_at hl 2 rfl) ?_
                refine lv_isub hx hb dX4_goRound_63 ?_
                refine va_put (D := D) (ci := 4) (v := .int (x_9 - x_26)) (ty := .int) (C := RX4) (T := TX4) (N := 14) hx hb hts k0 tyX4 tyX4_ok nmX4 hown hK hP (hD S_27) hS 128 (zX_128 cy ad S_27) rfl 6 (by decide) k2 (fun _ h9 => h9) rfl (tyX4_ok 6 (by decide)) rfl rfl (Nat.le_of_ble_eq_true rfl) dX4_goRound_64 (fun H locs hP _ hS => ?_)
                obtain ⟨S_31, eS_31, hf⟩ := z_nm hf
                have hP := zW_putI hP eS_31 (by decide) rfl
                obtain ⟨h1, h2⟩ := z_s2 hf
                subst h2
                exact hret _ _ _ _ hP hS dX4_goRound_67
        exact L_39 zFU (0 : Int32) S_15 _ _ _ hf hP hS (lv_sub hl [1, 2, 0] rfl)
  exact L_20 zFU (0 : Int32) S_7 _ _ _ hf hP hS (lv_sub hl [1, 0] rfl)
def fx_Rises_above_L21 (a_1 : Int32) : Nat → Int64 → Int32 → zSt → Option (Int64 × zSt)
  | 0, _, _, _ => none
  | n_21 + 1, x_2, x_3, S_4 =>
    if (S_4.1 1 1) ≤ x_3 then (
    some (x_2, S_4)) else (
    zbd (fx_Houses_letterOf S_4 a_1 x_3) fun r_5 S_6 =>
    zbd (fx_Tape_letterAt S_6 x_3) fun r_8 S_9 =>
    zck (zix ((r_5 * (8 : Int32)) + r_8) 64) <|
    znm (x_2 * ((S_9.1 30 (((r_5 * (8 : Int32)) + r_8).toNatClampNeg)).toInt64)) fun x_12 =>
    znm (x_3 + (1 : Int32)) fun x_13 =>
    fx_Rises_above_L21 a_1 n_21 x_12 x_13 S_9)
def fx_Rises_above (S_0 : zSt) (a_1 : Int32) : Option (Int64 × zSt) :=
  zck (zix a_1 9) <|
  if (S_0.1 9 (a_1.toNatClampNeg)) = (S_0.1 1 1) then (
  fx_Rises_above_L21 a_1 zFU (1 : Int64) (0 : Int32) S_0) else (
  some ((0 : Int64), S_0))
set_option maxHeartbeats 4000000 in
set_option maxRecDepth 100000 in
theorem cx_Rises_above (l : Launch) (D : va_G) (K : (Nat → Nat) × (Nat → Nat)) (cy : Nat → ClassId) (ad : Nat → Nat) (S_0 : zSt) (a_1 : Int32) (ro : Int64) (So : zSt) (hf : fx_Rises_above S_0 a_1 = some (ro, So)) : zML l yX5_above (zws yX5_above cX5_above 7 (Option.some .long)) ({ frames := 1, cells := 0, slots := 0, locals := 22 }) D (zTy cy) K (zX cy ad) [.ref (ad 29), .ref (ad 4), .int a_1, .ref (ad 1)] S_0 ro So := by
  refine z_metL (own := RX5) (lv := [(0, .ref (ad 29)), (1, .ref (ad 4)), (2, .int a_1), (3, .ref (ad 1))]) (by decide) rfl rfl (Nat.le_of_ble_eq_true rfl) rfl ?_
  intro p e s m below meth c A Q X hK hE hD hA hret hP hS ls hl
  obtain ⟨hx, hb, hml, hown, hts⟩ := id X
  have k0 := (fun w h => List.mem_cons_of_mem _ (zFX2 w h) : ∀ w ∈ u_ws RX2 TX2 7, w ∈ zws yX5_above cX5_above 7 (Option.some .long))
  have k1 := hts _ (List.mem_cons_of_mem _ wt_1_80)
  have k2 := (fun w h => List.mem_cons_of_mem _ (zFX9 w h) : ∀ w ∈ u_ws RX9 TX9 2, w ∈ zws yX5_above cX5_above 7 (Option.some .long))
  have k3 := hts _ (List.mem_cons_of_mem _ wt_1_40)
  have k4 := (fun w h => List.mem_cons_of_mem _ (zFX5 w h) : ∀ w ∈ u_ws RX5 TX5 1, w ∈ zws yX5_above cX5_above 7 (Option.some .long))
  have k5 := hts _ (List.mem_cons_of_mem _ wt_1_227)
  refine lv_aload_n hx hb dX5_above_0 rfl (lv_at hl 1 rfl) ?_
  refine va_get (D := D) (ci := 2) (v := .ref (ad 9)) (C := RX2) (T := TX2) (N := 7) hx hb hts k0 hown hK hP 4 (zX_4 cy ad S_0) rfl 5 (by decide) k1 (fun _ h9 => h9) rfl dX5_above_1 ?_
  refine lv_iload_n hx hb dX5_above_4 rfl (lv_at hl 2 rfl) ?_
  obtain ⟨h_1, hf⟩ := z_ix hf
  refine z_iald hx hb hK hP 9 0 (zX_9 cy ad S_0) rfl h_1 (k := (a_1.toNatClampNeg)) rfl dX5_above_5 ?_
  refine lv_aload_n hx hb dX5_above_6 rfl (lv_at hl 3 rfl) ?_
  refine va_get (D := D) (ci := 9) (v := .int (S_0.1 1 1)) (C := RX9) (T := TX9) (N := 2) hx hb hts k2 hown hK hP 1 (zX_1 cy ad S_0) rfl 1 (by decide) k3 (fun _ h9 => h9) rfl dX5_above_7 ?_
  refine lv_icmp_eq (tgt := 15) hx hb dX5_above_10 (by decide) (fun c_15 => ?_) (fun c_15 => ?_)
  · have hf := z_it c_15 hf
    refine lv_lconst (v := 1) hx hb dX5_above_15 (by decide) ?_
    refine lv_lstore (lv' := [(4, .long (1 : Int64)), (0, .ref (ad 29)), (1, .ref (ad 4)), (2, .int a_1), (3, .ref (ad 1))]) hx hb dX5_above_16 hl (by decide) rfl (fun ls hl => ?_)
    refine lv_iconst (v := 0) hx hb dX5_above_18 (by decide) ?_
    refine lv_istore (lv' := [(6, .int (0 : Int32)), (4, .long (1 : Int64)), (0, .ref (ad 29)), (1, .ref (ad 4)), (2, .int a_1), (3, .ref (ad 1))]) hx hb dX5_above_19 hl (by decide) rfl (fun ls hl => ?_)
    have L_21 : ∀ (n_21 : Nat) (x_2 : Int64) (x_3 : Int32) (S_4 : zSt) (H : Heap) (locs : List Loc) (ls : Array Slot), fx_Rises_above_L21 a_1 n_21 x_2 x_3 S_4 = some (ro, So) → va_P D vwCl (zX cy ad S_4) H → va_S A s.heap H locs → lv_has ls 7 [(0, .ref (ad 29)), (1, .ref (ad 4)), (2, .int a_1), (3, .ref (ad 1)), (4, .long x_2), (6, .int x_3)] → W p l e ({ frames := 1, cells := 0, slots := 0, locals := 22 }) s m ([.ref (ad 29), .ref (ad 4), .int a_1, .ref (ad 1)] : List Value).toArray below meth c H locs 0 0 Q (F0 m 21 ls []) := by
      intro n_21
      induction n_21 with
      | zero =>
        intro x_2 x_3 S_4 H locs ls hf hP hS hl
        exact z_no hf
      | succ n_21 ih_21 =>
        intro x_2 x_3 S_4 H locs ls hf hP hS hl
        rw [fx_Rises_above_L21] at hf
        refine lv_iload hx hb dX5_above_21 (lv_at hl 5 rfl) ?_
        refine lv_aload_n hx hb dX5_above_23 rfl (lv_at hl 3 rfl) ?_
        refine va_get (D := D) (ci := 9) (v := .int (S_4.1 1 1)) (C := RX9) (T := TX9) (N := 2) hx hb hts k2 hown hK hP 1 (zX_1 cy ad S_4) rfl 1 (by decide) k3 (fun _ h9 => h9) rfl dX5_above_24 ?_
        refine lv_icmp_ge (tgt := 64) hx hb dX5_above_27 (by decide) (fun c_14 => ?_) (fun c_14 => ?_)
        · have hf := z_it c_14 hf
          refine lv_lload hx hb dX5_above_64 (lv_at hl 4 rfl) ?_
          obtain ⟨h1, h2⟩ := z_s2 hf
          subst h1 h2
          exact hret _ _ _ _ hP hS dX5_above_66
        · have hf := z_if c_14 hf
          refine lv_lload hx hb dX5_above_30 (lv_at hl 4 rfl) ?_
          refine lv_aload_n hx hb dX5_above_32 rfl (lv_at hl 0 rfl) ?_
          refine va_get (D := D) (ci := 5) (v := .ref (ad 30)) (C := RX5) (T := TX5) (N := 1) hx hb hts k4 hown hK hP 29 (zX_29 cy ad S_4) rfl 0 (by decide) k5 (fun _ h9 => h9) rfl dX5_above_33 ?_
          refine lv_aload_n hx hb dX5_above_36 rfl (lv_at hl 1 rfl) ?_
          refine lv_iload_n hx hb dX5_above_37 rfl (lv_at hl 2 rfl) ?_
          refine lv_iload hx hb dX5_above_38 (lv_at hl 5 rfl) ?_
          obtain ⟨r_5, S_6, h_7, hf⟩ := z_bd hf
          refine z_cVI (As := [.int a_1, .int x_3]) (rest := [.ref (ad 30), .long x_2]) X hK hE hD hA hP hS (cx_Houses_letterOf l D K cy ad S_4 _ _ _ _ h_7) (cwV 2 hts (z_gV wt_5_19 wt_4_88 wt_4_89 wt_1_4 wt_4_90) rfl rfl rfl ⟨rfl, yd_yX2_letterOf⟩ ⟨Nat.le_of_ble_eq_true rfl, Nat.le_of_ble_eq_true rfl⟩) (va_recv hK hP (ci := 2) (q0 := 4) rfl (zX_4 cy ad S_4)) hl.1 rfl rfl (Nat.le_of_ble_eq_true rfl) dX5_above_40 (fun H locs hP hS => ?_)
          refine lv_bipush (v := 8) hx hb dX5_above_43 (by decide) ?_
          refine lv_imul hx hb dX5_above_45 ?_
          refine lv_aload_n hx hb dX5_above_46 rfl (lv_at hl 3 rfl) ?_
          refine lv_iload hx hb dX5_above_47 (lv_at hl 5 rfl) ?_
          obtain ⟨r_8, S_9, h_10, hf⟩ := z_bd hf
          refine z_cVI (As := [.int x_3]) (rest := [.int (r_5 * (8 : Int32)), .ref (ad 30), .long x_2]) X hK hE hD hA hP hS (cx_Tape_letterAt l D K cy ad S_6 _ _ _ h_10) (cwV 1 hts (z_gV wt_5_20 wt_2_227 wt_2_228 wt_1_2 wt_2_229) rfl rfl rfl ⟨rfl, yd_yX9_letterAt⟩ ⟨Nat.le_of_ble_eq_true rfl, Nat.le_of_ble_eq_true rfl⟩) (va_recv hK hP (ci := 9) (q0 := 1) rfl (zX_1 cy ad S_6)) hl.1 rfl rfl (Nat.le_of_ble_eq_true rfl) dX5_above_49 (fun H locs hP hS => ?_)
          refine lv_iadd hx hb dX5_above_52 ?_
          obtain ⟨h_11, hf⟩ := z_ix hf
          refine z_iald hx hb hK hP 30 0 (zX_30 cy ad S_9) rfl h_11 (k := (((r_5 * (8 : Int32)) + r_8).toNatClampNeg)) rfl dX5_above_53 ?_
          refine lv_i2l hx hb dX5_above_54 rfl ?_
          refine lv_lmul hx hb dX5_above_55 ?_
          refine lv_topl (fun x_12 ex_12 => ?_)
          have hf := z_nv ex_12 hf
          refine lv_lstore (lv' := [(4, .long x_12), (0, .ref (ad 29)), (1, .ref (ad 4)), (2, .int a_1), (3, .ref (ad 1)), (6, .int x_3)]) hx hb dX5_above_56 hl (by decide) rfl (fun ls hl => ?_)
          obtain ⟨x_13, ex_13, hf⟩ := z_nm hf
          refine lv_iinc (v := x_13) (lv' := [(6, .int x_13), (4, .long x_12), (0, .ref (ad 29)), (1, .ref (ad 4)), (2, .int a_1), (3, .ref (ad 1))]) hx hb dX5_above_58 hl (k := 5) rfl (by rw [ex_13]; rfl) (by decide) rfl (fun ls hl => ?_)
          refine lv_goto (tgt := 21) hx hb dX5_above_61 (by decide) ?_
          exact ih_21 x_12 x_13 S_9 _ _ _ hf hP hS (lv_sub hl [2, 3, 4, 5, 1, 0] rfl)
    exact L_21 zFU (1 : Int64) (0 : Int32) S_0 _ _ _ hf hP hS (lv_sub hl [2, 3, 4, 5, 1, 0] rfl)
  · have hf := z_if c_15 hf
    refine lv_lconst (v := 0) hx hb dX5_above_13 (by decide) ?_
    obtain ⟨h1, h2⟩ := z_s2 hf
    subst h1 h2
    exact hret _ _ _ _ hP hS dX5_above_14
def fx_Rises_allOf_L4 (a_1 : Int32) : Nat → Int32 → Int32 → zSt → Option (Int32 × zSt)
  | 0, _, _, _ => none
  | n_4 + 1, x_1, x_2, S_3 =>
    if (8 : Int32) ≤ x_2 then (
    some (x_1, S_3)) else (
    zck (zix ((a_1 * (8 : Int32)) + x_2) 64) <|
    znm (x_1 + (S_3.1 30 (((a_1 * (8 : Int32)) + x_2).toNatClampNeg))) fun x_5 =>
    znm (x_2 + (1 : Int32)) fun x_6 =>
    fx_Rises_allOf_L4 a_1 n_4 x_5 x_6 S_3)
def fx_Rises_allOf (S_0 : zSt) (a_1 : Int32) : Option (Int32 × zSt) :=
  fx_Rises_allOf_L4 a_1 zFU (0 : Int32) (0 : Int32) S_0
set_option maxHeartbeats 4000000 in
set_option maxRecDepth 100000 in
theorem cx_Rises_allOf (l : Launch) (D : va_G) (K : (Nat → Nat) × (Nat → Nat)) (cy : Nat → ClassId) (ad : Nat → Nat) (S_0 : zSt) (a_1 : Int32) (ro : Int32) (So : zSt) (hf : fx_Rises_allOf S_0 a_1 = some (ro, So)) : zMI l yX5_allOf (zws yX5_allOf cX5_allOf 4 (Option.some .int)) ({ frames := 0, cells := 0, slots := 0, locals := 0 }) D (zTy cy) K (zX cy ad) [.ref (ad 29), .int a_1] S_0 ro So := by
  refine z_metI (own := RX5) (lv := [(0, .ref (ad 29)), (1, .int a_1)]) (by decide) rfl rfl (Nat.le_of_ble_eq_true rfl) rfl ?_
  intro p e s m below meth c A Q X hK hE hD hA hret hP hS ls hl
  obtain ⟨hx, hb, hml, hown, hts⟩ := id X
  have k0 := (fun w h => List.mem_cons_of_mem _ (zFX5 w h) : ∀ w ∈ u_ws RX5 TX5 1, w ∈ zws yX5_allOf cX5_allOf 4 (Option.some .int))
  have k1 := hts _ (List.mem_cons_of_mem _ wt_1_227)
  refine lv_iconst (v := 0) hx hb dX5_allOf_0 (by decide) ?_
  refine lv_istore_n (lv' := [(2, .int (0 : Int32)), (0, .ref (ad 29)), (1, .int a_1)]) hx hb dX5_allOf_1 rfl hl (by decide) rfl (fun ls hl => ?_)
  refine lv_iconst (v := 0) hx hb dX5_allOf_2 (by decide) ?_
  refine lv_istore_n (lv' := [(3, .int (0 : Int32)), (2, .int (0 : Int32)), (0, .ref (ad 29)), (1, .int a_1)]) hx hb dX5_allOf_3 rfl hl (by decide) rfl (fun ls hl => ?_)
  have L_4 : ∀ (n_4 : Nat) (x_1 : Int32) (x_2 : Int32) (S_3 : zSt) (H : Heap) (locs : List Loc) (ls : Array Slot), fx_Rises_allOf_L4 a_1 n_4 x_1 x_2 S_3 = some (ro, So) → va_P D vwCl (zX cy ad S_3) H → va_S A s.heap H locs → lv_has ls 4 [(0, .ref (ad 29)), (1, .int a_1), (2, .int x_1), (3, .int x_2)] → W p l e ({ frames := 0, cells := 0, slots := 0, locals := 0 }) s m ([.ref (ad 29), .int a_1] : List Value).toArray below meth c H locs 0 0 Q (F0 m 4 ls []) := by
    intro n_4
    induction n_4 with
    | zero =>
      intro x_1 x_2 S_3 H locs ls hf hP hS hl
      exact z_no hf
    | succ n_4 ih_4 =>
      intro x_1 x_2 S_3 H locs ls hf hP hS hl
      rw [fx_Rises_allOf_L4] at hf
      refine lv_iload_n hx hb dX5_allOf_4 rfl (lv_at hl 3 rfl) ?_
      refine lv_bipush (v := 8) hx hb dX5_allOf_5 (by decide) ?_
      refine lv_icmp_ge (tgt := 30) hx hb dX5_allOf_7 (by decide) (fun c_7 => ?_) (fun c_7 => ?_)
      · have hf := z_it c_7 hf
        refine lv_iload_n hx hb dX5_allOf_30 rfl (lv_at hl 2 rfl) ?_
        obtain ⟨h1, h2⟩ := z_s2 hf
        subst h1 h2
        exact hret _ _ _ _ hP hS dX5_allOf_31
      · have hf := z_if c_7 hf
        refine lv_iload_n hx hb dX5_allOf_10 rfl (lv_at hl 2 rfl) ?_
        refine lv_aload_n hx hb dX5_allOf_11 rfl (lv_at hl 0 rfl) ?_
        refine va_get (D := D) (ci := 5) (v := .ref (ad 30)) (C := RX5) (T := TX5) (N := 1) hx hb hts k0 hown hK hP 29 (zX_29 cy ad S_3) rfl 0 (by decide) k1 (fun _ h9 => h9) rfl dX5_allOf_12 ?_
        refine lv_iload_n hx hb dX5_allOf_15 rfl (lv_at hl 1 rfl) ?_
        refine lv_bipush (v := 8) hx hb dX5_allOf_16 (by decide) ?_
        refine lv_imul hx hb dX5_allOf_18 ?_
        refine lv_iload_n hx hb dX5_allOf_19 rfl (lv_at hl 3 rfl) ?_
        refine lv_iadd hx hb dX5_allOf_20 ?_
        obtain ⟨h_4, hf⟩ := z_ix hf
        refine z_iald hx hb hK hP 30 0 (zX_30 cy ad S_3) rfl h_4 (k := (((a_1 * (8 : Int32)) + x_2).toNatClampNeg)) rfl dX5_allOf_21 ?_
        refine lv_iadd hx hb dX5_allOf_22 ?_
        refine lv_topi (fun x_5 ex_5 => ?_)
        have hf := z_nv ex_5 hf
        refine lv_istore_n (lv' := [(2, .int x_5), (0, .ref (ad 29)), (1, .int a_1), (3, .int x_2)]) hx hb dX5_allOf_23 rfl hl (by decide) rfl (fun ls hl => ?_)
        obtain ⟨x_6, ex_6, hf⟩ := z_nm hf
        refine lv_iinc (v := x_6) (lv' := [(3, .int x_6), (2, .int x_5), (0, .ref (ad 29)), (1, .int a_1)]) hx hb dX5_allOf_24 hl (k := 3) rfl (by rw [ex_6]; rfl) (by decide) rfl (fun ls hl => ?_)
        refine lv_goto (tgt := 4) hx hb dX5_allOf_27 (by decide) ?_
        exact ih_4 x_5 x_6 S_3 _ _ _ hf hP hS (lv_sub hl [2, 3, 1, 0] rfl)
  exact L_4 zFU (0 : Int32) (0 : Int32) S_0 _ _ _ hf hP hS (lv_sub hl [2, 3, 1, 0] rfl)
def fx_Rises_below_L14 (a_1 : Int32) : Nat → Int64 → Int32 → zSt → Option (Int64 × zSt)
  | 0, _, _, _ => none
  | n_14 + 1, x_1, x_2, S_3 =>
    zck (zix a_1 9) <|
    if (S_3.1 9 (a_1.toNatClampNeg)) ≤ x_2 then (
    some (x_1, S_3)) else (
    zbd (fx_Houses_letterOf S_3 a_1 x_2) fun r_5 S_6 =>
    zbd (fx_Rises_allOf S_6 r_5) fun r_8 S_9 =>
    znm (x_1 * r_8.toInt64) fun x_11 =>
    znm (x_2 + (1 : Int32)) fun x_12 =>
    fx_Rises_below_L14 a_1 n_14 x_11 x_12 S_9)
def fx_Rises_below (S_0 : zSt) (a_1 : Int32) (a_2 : Int64) : Option (Int64 × zSt) :=
  if (lg_cmp a_2 (0 : Int64)) = 0 then (
  some ((1 : Int64), S_0)) else (
  fx_Rises_below_L14 a_1 zFU (1 : Int64) (0 : Int32) S_0)
set_option maxHeartbeats 4000000 in
set_option maxRecDepth 100000 in
theorem cx_Rises_below (l : Launch) (D : va_G) (K : (Nat → Nat) × (Nat → Nat)) (cy : Nat → ClassId) (ad : Nat → Nat) (S_0 : zSt) (a_1 : Int32) (a_2 : Int64) (ro : Int64) (So : zSt) (hf : fx_Rises_below S_0 a_1 a_2 = some (ro, So)) : zML l yX5_below (zws yX5_below cX5_below 8 (Option.some .long)) ({ frames := 1, cells := 0, slots := 0, locals := 23 }) D (zTy cy) K (zX cy ad) [.ref (ad 29), .ref (ad 4), .int a_1, .long a_2] S_0 ro So := by
  refine z_metL (own := RX5) (lv := [(0, .ref (ad 29)), (1, .ref (ad 4)), (2, .int a_1), (3, .long a_2)]) (by decide) rfl rfl (Nat.le_of_ble_eq_true rfl) rfl ?_
  intro p e s m below meth c A Q X hK hE hD hA hret hP hS ls hl
  obtain ⟨hx, hb, hml, hown, hts⟩ := id X
  have k0 := (fun w h => List.mem_cons_of_mem _ (zFX2 w h) : ∀ w ∈ u_ws RX2 TX2 7, w ∈ zws yX5_below cX5_below 8 (Option.some .long))
  have k1 := hts _ (List.mem_cons_of_mem _ wt_1_80)
  refine lv_lload_n hx hb dX5_below_0 rfl (lv_at hl 3 rfl) ?_
  refine lv_lconst (v := 0) hx hb dX5_below_1 (by decide) ?_
  refine W.lcmp hx hb dX5_below_2 ?_
  refine lv_if_ne (tgt := 8) hx hb dX5_below_3 (by decide) (fun c_14 => ?_) (fun c_14 => ?_)
  · have hf := z_if c_14 hf
    refine lv_lconst (v := 1) hx hb dX5_below_8 (by decide) ?_
    refine lv_lstore (lv' := [(5, .long (1 : Int64)), (0, .ref (ad 29)), (1, .ref (ad 4)), (2, .int a_1), (3, .long a_2)]) hx hb dX5_below_9 hl (by decide) rfl (fun ls hl => ?_)
    refine lv_iconst (v := 0) hx hb dX5_below_11 (by decide) ?_
    refine lv_istore (lv' := [(7, .int (0 : Int32)), (5, .long (1 : Int64)), (0, .ref (ad 29)), (1, .ref (ad 4)), (2, .int a_1), (3, .long a_2)]) hx hb dX5_below_12 hl (by decide) rfl (fun ls hl => ?_)
    have L_14 : ∀ (n_14 : Nat) (x_1 : Int64) (x_2 : Int32) (S_3 : zSt) (H : Heap) (locs : List Loc) (ls : Array Slot), fx_Rises_below_L14 a_1 n_14 x_1 x_2 S_3 = some (ro, So) → va_P D vwCl (zX cy ad S_3) H → va_S A s.heap H locs → lv_has ls 8 [(0, .ref (ad 29)), (1, .ref (ad 4)), (2, .int a_1), (5, .long x_1), (7, .int x_2)] → W p l e ({ frames := 1, cells := 0, slots := 0, locals := 23 }) s m ([.ref (ad 29), .ref (ad 4), .int a_1, .long a_2] : List Value).toArray below meth c H locs 0 0 Q (F0 m 14 ls []) := by
      intro n_14
      induction n_14 with
      | zero =>
        intro x_1 x_2 S_3 H locs ls hf hP hS hl
        exact z_no hf
      | succ n_14 ih_14 =>
        intro x_1 x_2 S_3 H locs ls hf hP hS hl
        rw [fx_Rises_below_L14] at hf
        refine lv_iload hx hb dX5_below_14 (lv_at hl 4 rfl) ?_
        refine lv_aload_n hx hb dX5_below_16 rfl (lv_at hl 1 rfl) ?_
        refine va_get (D := D) (ci := 2) (v := .ref (ad 9)) (C := RX2) (T := TX2) (N := 7) hx hb hts k0 hown hK hP 4 (zX_4 cy ad S_3) rfl 5 (by decide) k1 (fun _ h9 => h9) rfl dX5_below_17 ?_
        refine lv_iload_n hx hb dX5_below_20 rfl (lv_at hl 2 rfl) ?_
        obtain ⟨h_4, hf⟩ := z_ix hf
        refine z_iald hx hb hK hP 9 0 (zX_9 cy ad S_3) rfl h_4 (k := (a_1.toNatClampNeg)) rfl dX5_below_21 ?_
        refine lv_icmp_ge (tgt := 48) hx hb dX5_below_22 (by decide) (fun c_13 => ?_) (fun c_13 => ?_)
        · have hf := z_it c_13 hf
          refine lv_lload hx hb dX5_below_48 (lv_at hl 3 rfl) ?_
          obtain ⟨h1, h2⟩ := z_s2 hf
          subst h1 h2
          exact hret _ _ _ _ hP hS dX5_below_50
        · have hf := z_if c_13 hf
          refine lv_lload hx hb dX5_below_25 (lv_at hl 3 rfl) ?_
          refine lv_aload_n hx hb dX5_below_27 rfl (lv_at hl 0 rfl) ?_
          refine lv_aload_n hx hb dX5_below_28 rfl (lv_at hl 1 rfl) ?_
          refine lv_iload_n hx hb dX5_below_29 rfl (lv_at hl 2 rfl) ?_
          refine lv_iload hx hb dX5_below_30 (lv_at hl 4 rfl) ?_
          obtain ⟨r_5, S_6, h_7, hf⟩ := z_bd hf
          refine z_cVI (As := [.int a_1, .int x_2]) (rest := [.ref (ad 29), .long x_1]) X hK hE hD hA hP hS (cx_Houses_letterOf l D K cy ad S_3 _ _ _ _ h_7) (cwV 2 hts (z_gV wt_5_19 wt_4_88 wt_4_89 wt_1_4 wt_4_90) rfl rfl rfl ⟨rfl, yd_yX2_letterOf⟩ ⟨Nat.le_of_ble_eq_true rfl, Nat.le_of_ble_eq_true rfl⟩) (va_recv hK hP (ci := 2) (q0 := 4) rfl (zX_4 cy ad S_3)) hl.1 rfl rfl (Nat.le_of_ble_eq_true rfl) dX5_below_32 (fun H locs hP hS => ?_)
          obtain ⟨r_8, S_9, h_10, hf⟩ := z_bd hf
          refine z_cVI (As := [.int r_5]) (rest := [.long x_1]) X hK hE hD hA hP hS (cx_Rises_allOf l D K cy ad S_6 _ _ _ h_10) (cwV 1 hts (z_gV wt_5_25 wt_5_27 wp_44 wt_1_8 wt_5_28) rfl rfl rfl ⟨rfl, yd_yX5_allOf⟩ ⟨Nat.le_of_ble_eq_true rfl, Nat.le_of_ble_eq_true rfl⟩) (va_recv hK hP (ci := 5) (q0 := 29) rfl (zX_29 cy ad S_6)) hl.1 rfl rfl (Nat.le_of_ble_eq_true rfl) dX5_below_35 (fun H locs hP hS => ?_)
          refine lv_i2l hx hb dX5_below_38 rfl ?_
          refine lv_lmul hx hb dX5_below_39 ?_
          refine lv_topl (fun x_11 ex_11 => ?_)
          have hf := z_nv ex_11 hf
          refine lv_lstore (lv' := [(5, .long x_11), (0, .ref (ad 29)), (1, .ref (ad 4)), (2, .int a_1), (7, .int x_2)]) hx hb dX5_below_40 hl (by decide) rfl (fun ls hl => ?_)
          obtain ⟨x_12, ex_12, hf⟩ := z_nm hf
          refine lv_iinc (v := x_12) (lv' := [(7, .int x_12), (5, .long x_11), (0, .ref (ad 29)), (1, .ref (ad 4)), (2, .int a_1)]) hx hb dX5_below_42 hl (k := 4) rfl (by rw [ex_12]; rfl) (by decide) rfl (fun ls hl => ?_)
          refine lv_goto (tgt := 14) hx hb dX5_below_45 (by decide) ?_
          exact ih_14 x_11 x_12 S_9 _ _ _ hf hP hS (lv_sub hl [2, 3, 4, 1, 0] rfl)
    exact L_14 zFU (1 : Int64) (0 : Int32) S_0 _ _ _ hf hP hS (lv_sub hl [2, 3, 4, 1, 0] rfl)
  · have hf := z_it c_14 hf
    refine lv_lconst (v := 1) hx hb dX5_below_6 (by decide) ?_
    obtain ⟨h1, h2⟩ := z_s2 hf
    subst h1 h2
    exact hret _ _ _ _ hP hS dX5_below_7
def fj13_compare (S_0 : zSt) (a_1 : Int64) (a_2 : Int64) : Option (Int32 × zSt) :=
  znm (fun (x_1 : Int32) (S_2 : zSt) =>
  some (x_1, S_2)) fun j_21 =>
  if 0 ≤ (lg_cmp a_1 a_2) then (
  if (lg_cmp a_1 a_2) = 0 then (
  j_21 (0 : Int32) S_0) else (
  j_21 (1 : Int32) S_0)) else (
  j_21 (-1 : Int32) S_0)
set_option maxHeartbeats 4000000 in
set_option maxRecDepth 100000 in
theorem cj13_compare (l : Launch) (D : va_G) (K : (Nat → Nat) × (Nat → Nat)) (tys : List (ClassId × FieldType)) (N : Nat) (ad : Nat → Nat) (C : Nat → (Nat → Int32) → (Nat → Int64) → va_E) (S_0 : zSt) (a_1 : Int64) (a_2 : Int64) (ro : Int32) (So : zSt) (hf : fj13_compare S_0 a_1 a_2 = some (ro, So)) : zMI l yJ13_compare_74951 (zws yJ13_compare_74951 cJ13_compare_74951 4 (Option.some .int)) ({ frames := 0, cells := 0, slots := 0, locals := 0 }) D tys K (zW N ad C) [.long a_1, .long a_2] S_0 ro So := by
  refine z_metI (own := RJ13) (lv := [(0, .long a_1), (2, .long a_2)]) (by decide) rfl rfl (Nat.le_of_ble_eq_true rfl) rfl ?_
  intro p e s m below meth c A Q X hK hE hD hA hret hP hS ls hl
  obtain ⟨hx, hb, hml, hown, hts⟩ := id X
  refine lv_lload_n hx hb dJ13_compare_74951_0 rfl (lv_at hl 0 rfl) ?_
  refine lv_lload_n hx hb dJ13_compare_74951_1 rfl (lv_at hl 1 rfl) ?_
  refine W.lcmp hx hb dJ13_compare_74951_2 ?_
  obtain ⟨j_21, ej_21, hf⟩ := z_nm hf
  have J_21 : ∀ (x_1 : Int32) (S_2 : zSt) (H : Heap) (locs : List Loc) (ls : Array Slot), j_21 x_1 S_2 = some (ro, So) → va_P D vwCl (zW N ad C S_2) H → va_S A s.heap H locs → lv_has ls 4 [] → W p l e ({ frames := 0, cells := 0, slots := 0, locals := 0 }) s m ([.long a_1, .long a_2] : List Value).toArray below meth c H locs 0 0 Q (F0 m 21 ls [.int x_1]) := by
    intro x_1 S_2 H locs ls hf hP hS hl
    have hf := z_e2 ej_21 hf
    obtain ⟨h1, h2⟩ := z_s2 hf
    subst h1 h2
    exact hret _ _ _ _ hP hS dJ13_compare_74951_21
  refine lv_if_ge (tgt := 10) hx hb dJ13_compare_74951_3 (by decide) (fun c_4 => ?_) (fun c_4 => ?_)
  · have hf := z_it c_4 hf
    refine lv_lload_n hx hb dJ13_compare_74951_10 rfl (lv_at hl 0 rfl) ?_
    refine lv_lload_n hx hb dJ13_compare_74951_11 rfl (lv_at hl 1 rfl) ?_
    refine W.lcmp hx hb dJ13_compare_74951_12 ?_
    refine lv_if_ne (tgt := 20) hx hb dJ13_compare_74951_13 (by decide) (fun c_3 => ?_) (fun c_3 => ?_)
    · have hf := z_if c_3 hf
      refine lv_iconst (v := 1) hx hb dJ13_compare_74951_20 (by decide) ?_
      exact J_21 (1 : Int32) S_0 _ _ _ hf hP hS (lv_sub hl [] rfl)
    · have hf := z_it c_3 hf
      refine lv_iconst (v := 0) hx hb dJ13_compare_74951_16 (by decide) ?_
      refine lv_goto (tgt := 21) hx hb dJ13_compare_74951_17 (by decide) ?_
      exact J_21 (0 : Int32) S_0 _ _ _ hf hP hS (lv_sub hl [] rfl)
  · have hf := z_if c_4 hf
    refine lv_iconst (v := -1) hx hb dJ13_compare_74951_6 (by decide) ?_
    refine lv_goto (tgt := 21) hx hb dJ13_compare_74951_7 (by decide) ?_
    exact J_21 (-1 : Int32) S_0 _ _ _ hf hP hS (lv_sub hl [] rfl)
