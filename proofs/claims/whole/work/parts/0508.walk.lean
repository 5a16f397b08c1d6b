def fm_nameWord (S_0 : zSt) : Option (Int32 × zSt) :=
  zbd (fm_is 7 S_0) fun r_1 S_2 =>
  if r_1 = 0 then (
  zbd (fm_is 8 S_2) fun r_4 S_5 =>
  if r_4 = 0 then (
  zbd (fm_is 9 S_5) fun r_7 S_8 =>
  if r_7 = 0 then (
  zbd (fm_is 10 S_8) fun r_10 S_11 =>
  if r_10 = 0 then (
  zbd (fm_is 11 S_11) fun r_13 S_14 =>
  if r_13 = 0 then (
  zbd (fm_is 12 S_14) fun r_16 S_17 =>
  if r_16 = 0 then (
  zbd (fm_is 13 S_17) fun r_19 S_20 =>
  if r_19 = 0 then (
  zbd (fm_is 14 S_20) fun r_22 S_23 =>
  if r_22 = 0 then (
  zbd (fm_is 15 S_23) fun r_25 S_26 =>
  if r_25 = 0 then (
  zbd (fm_is 16 S_26) fun r_28 S_29 =>
  znm (fun (x_31 : Int32) (S_32 : zSt) =>
  some (x_31, S_32)) fun j_123 =>
  if r_28 = 0 then (
  j_123 (1 : Int32) S_29) else (
  j_123 (50 : Int32) S_29)) else (
  some ((49 : Int32), S_26))) else (
  some ((48 : Int32), S_23))) else (
  some ((47 : Int32), S_20))) else (
  some ((46 : Int32), S_17))) else (
  some ((45 : Int32), S_14))) else (
  some ((44 : Int32), S_11))) else (
  some ((43 : Int32), S_8))) else (
  some ((42 : Int32), S_5))) else (
  some ((41 : Int32), S_2))
set_option maxHeartbeats 4000000 in
set_option maxRecDepth 100000 in
theorem cm_nameWord (l : Launch) (D : va_G) (K : (Nat → Nat) × (Nat → Nat)) (cy : Nat → ClassId) (ad : Nat → Nat) (S_0 : zSt) (ro : Int32) (So : zSt) (hf : fm_nameWord S_0 = some (ro, So)) : zMI l yX12_nameWord (zws yX12_nameWord cX12_nameWord 1 (Option.some .int)) ({ frames := 5, cells := 0, slots := 0, locals := 108 }) D (zTy cy) K (zM cy ad) [.ref (ad 0)] S_0 ro So := by
  refine z_metI (own := RX12) (lv := [(0, .ref (ad 0))]) (by decide) rfl rfl (Nat.le_of_ble_eq_true rfl) rfl ?_
  intro p e s m below meth c A Q X hK hE hD hA hret hP hS ls hl
  obtain ⟨hx, hb, hml, hown, hts⟩ := id X
  refine lv_aload_n hx hb dX12_nameWord_0 rfl (lv_at hl 0 rfl) ?_
  refine va_ldcS hx hb hown (zR_7 hE) dX12_nameWord_1 ?_
  obtain ⟨r_1, S_2, h_3, hf⟩ := z_bd hf
  refine z_cVI (As := [.ref (K.1 7)]) (rest := []) X hK hE hD hA hP hS (cm_is l D K cy ad 7 (by decide) S_0 _ _ h_3) (cwV 1 hts (z_gV wt_5_239 wt_6_1 wp_48 wt_1_13 wt_6_2) rfl rfl rfl ⟨rfl, yd_yX12_is⟩ ⟨Nat.le_of_ble_eq_true rfl, Nat.le_of_ble_eq_true rfl⟩) (va_recv hK hP (ci := 12) (q0 := 0) rfl (zM_0 cy ad S_0)) hl.1 rfl rfl (Nat.le_of_ble_eq_true rfl) dX12_nameWord_3 (fun H locs hP hS => ?_)
  refine lv_if_eq (tgt := 12) hx hb dX12_nameWord_6 (by decide) (fun c_42 => ?_) (fun c_42 => ?_)
  · have hf := z_it c_42 hf
    refine lv_aload_n hx hb dX12_nameWord_12 rfl (lv_at hl 0 rfl) ?_
    refine va_ldcS hx hb hown (zR_8 hE) dX12_nameWord_13 ?_
    obtain ⟨r_4, S_5, h_6, hf⟩ := z_bd hf
    refine z_cVI (As := [.ref (K.1 8)]) (rest := []) X hK hE hD hA hP hS (cm_is l D K cy ad 8 (by decide) S_2 _ _ h_6) (cwV 1 hts (z_gV wt_5_239 wt_6_1 wp_48 wt_1_13 wt_6_2) rfl rfl rfl ⟨rfl, yd_yX12_is⟩ ⟨Nat.le_of_ble_eq_true rfl, Nat.le_of_ble_eq_true rfl⟩) (va_recv hK hP (ci := 12) (q0 := 0) rfl (zM_0 cy ad S_2)) hl.1 rfl rfl (Nat.le_of_ble_eq_true rfl) dX12_nameWord_15 (fun H locs hP hS => ?_)
    refine lv_if_eq (tgt := 24) hx hb dX12_nameWord_18 (by decide) (fun c_41 => ?_) (fun c_41 => ?_)
    · have hf := z_it c_41 hf
      refine lv_aload_n hx hb dX12_nameWord_24 rfl (lv_at hl 0 rfl) ?_
      refine va_ldcS hx hb hown (zR_9 hE) dX12_nameWord_25 ?_
      obtain ⟨r_7, S_8, h_9, hf⟩ := z_bd hf
      refine z_cVI (As := [.ref (K.1 9)]) (rest := []) X hK hE hD hA hP hS (cm_is l D K cy ad 9 (by decide) S_5 _ _ h_9) (cwV 1 hts (z_gV wt_5_239 wt_6_1 wp_48 wt_1_13 wt_6_2) rfl rfl rfl ⟨rfl, yd_yX12_is⟩ ⟨Nat.le_of_ble_eq_true rfl, Nat.le_of_ble_eq_true rfl⟩) (va_recv hK hP (ci := 12) (q0 := 0) rfl (zM_0 cy ad S_5)) hl.1 rfl rfl (Nat.le_of_ble_eq_true rfl) dX12_nameWord_27 (fun H locs hP hS => ?_)
      refine lv_if_eq (tgt := 36) hx hb dX12_nameWord_30 (by decide) (fun c_40 => ?_) (fun c_40 => ?_)
      · have hf := z_it c_40 hf
        refine lv_aload_n hx hb dX12_nameWord_36 rfl (lv_at hl 0 rfl) ?_
        refine va_ldcS hx hb hown (zR_10 hE) dX12_nameWord_37 ?_
        obtain ⟨r_10, S_11, h_12, hf⟩ := z_bd hf
        refine z_cVI (As := [.ref (K.1 10)]) (rest := []) X hK hE hD hA hP hS (cm_is l D K cy ad 10 (by decide) S_8 _ _ h_12) (cwV 1 hts (z_gV wt_5_239 wt_6_1 wp_48 wt_1_13 wt_6_2) rfl rfl rfl ⟨rfl, yd_yX12_is⟩ ⟨Nat.le_of_ble_eq_true rfl, Nat.le_of_ble_eq_true rfl⟩) (va_recv hK hP (ci := 12) (q0 := 0) rfl (zM_0 cy ad S_8)) hl.1 rfl rfl (Nat.le_of_ble_eq_true rfl) dX12_nameWord_39 (fun H locs hP hS => ?_)
        refine lv_if_eq (tgt := 48) hx hb dX12_nameWord_42 (by decide) (fun c_39 => ?_) (fun c_39 => ?_)
        · have hf := z_it c_39 hf
          refine lv_aload_n hx hb dX12_nameWord_48 rfl (lv_at hl 0 rfl) ?_
          refine va_ldcS hx hb hown (zR_11 hE) dX12_nameWord_49 ?_
          obtain ⟨r_13, S_14, h_15, hf⟩ := z_bd hf
          refine z_cVI (As := [.ref (K.1 11)]) (rest := []) X hK hE hD hA hP hS (cm_is l D K cy ad 11 (by decide) S_11 _ _ h_15) (cwV 1 hts (z_gV wt_5_239 wt_6_1 wp_48 wt_1_13 wt_6_2) rfl rfl rfl ⟨rfl, yd_yX12_is⟩ ⟨Nat.le_of_ble_eq_true rfl, Nat.le_of_ble_eq_true rfl⟩) (va_recv hK hP (ci := 12) (q0 := 0) rfl (zM_0 cy ad S_11)) hl.1 rfl rfl (Nat.le_of_ble_eq_true rfl) dX12_nameWord_51 (fun H locs hP hS => ?_)
          refine lv_if_eq (tgt := 60) hx hb dX12_nameWord_54 (by decide) (fun c_38 => ?_) (fun c_38 => ?_)
          · have hf := z_it c_38 hf
            refine lv_aload_n hx hb dX12_nameWord_60 rfl (lv_at hl 0 rfl) ?_
            refine va_ldcS hx hb hown (zR_12 hE) dX12_nameWord_61 ?_
            obtain ⟨r_16, S_17, h_18, hf⟩ := z_bd hf
            refine z_cVI (As := [.ref (K.1 12)]) (rest := []) X hK hE hD hA hP hS (cm_is l D K cy ad 12 (by decide) S_14 _ _ h_18) (cwV 1 hts (z_gV wt_5_239 wt_6_1 wp_48 wt_1_13 wt_6_2) rfl rfl rfl ⟨rfl, yd_yX12_is⟩ ⟨Nat.le_of_ble_eq_true rfl, Nat.le_of_ble_eq_true rfl⟩) (va_recv hK hP (ci := 12) (q0 := 0) rfl (zM_0 cy ad S_14)) hl.1 rfl rfl (Nat.le_of_ble_eq_true rfl) dX12_nameWord_63 (fun H locs hP hS => ?_)
            refine lv_if_eq (tgt := 72) hx hb dX12_nameWord_66 (by decide) (fun c_37 => ?_) (fun c_37 => ?_)
            · have hf := z_it c_37 hf
              refine lv_aload_n hx hb dX12_nameWord_72 rfl (lv_at hl 0 rfl) ?_
              refine va_ldcS hx hb hown (zR_13 hE) dX12_nameWord_73 ?_
              obtain ⟨r_19, S_20, h_21, hf⟩ := z_bd hf
              refine z_cVI (As := [.ref (K.1 13)]) (rest := []) X hK hE hD hA hP hS (cm_is l D K cy ad 13 (by decide) S_17 _ _ h_21) (cwV 1 hts (z_gV wt_5_239 wt_6_1 wp_48 wt_1_13 wt_6_2) rfl rfl rfl ⟨rfl, yd_yX12_is⟩ ⟨Nat.le_of_ble_eq_true rfl, Nat.le_of_ble_eq_true rfl⟩) (va_recv hK hP (ci := 12) (q0 := 0) rfl (zM_0 cy ad S_17)) hl.1 rfl rfl (Nat.le_of_ble_eq_true rfl) dX12_nameWord_75 (fun H locs hP hS => ?_)
              refine lv_if_eq (tgt := 84) hx hb dX12_nameWord_78 (by decide) (fun c_36 => ?_) (fun c_36 => ?_)
              · have hf := z_it c_36 hf
                refine lv_aload_n hx hb dX12_nameWord_84 rfl (lv_at hl 0 rfl) ?_
                refine va_ldcS hx hb hown (zR_14 hE) dX12_nameWord_85 ?_
                obtain ⟨r_22, S_23, h_24, hf⟩ := z_bd hf
                refine z_cVI (As := [.ref (K.1 14)]) (rest := []) X hK hE hD hA hP hS (cm_is l D K cy ad 14 (by decide) S_20 _ _ h_24) (cwV 1 hts (z_gV wt_5_239 wt_6_1 wp_48 wt_1_13 wt_6_2) rfl rfl rfl ⟨rfl, yd_yX12_is⟩ ⟨Nat.le_of_ble_eq_true rfl, Nat.le_of_ble_eq_true rfl⟩) (va_recv hK hP (ci := 12) (q0 := 0) rfl (zM_0 cy ad S_20)) hl.1 rfl rfl (Nat.le_of_ble_eq_true rfl) dX12_nameWord_87 (fun H locs hP hS => ?_)
                refine lv_if_eq (tgt := 96) hx hb dX12_nameWord_90 (by decide) (fun c_35 => ?_) (fun c_35 => ?_)
                · have hf := z_it c_35 hf
                  refine lv_aload_n hx hb dX12_nameWord_96 rfl (lv_at hl 0 rfl) ?_
                  refine va_ldcS hx hb hown (zR_15 hE) dX12_nameWord_97 ?_
                  obtain ⟨r_25, S_26, h_27, hf⟩ := z_bd hf
                  refine z_cVI (As := [.ref (K.1 15)]) (rest := []) X hK hE hD hA hP hS (cm_is l D K cy ad 15 (by decide) S_23 _ _ h_27) (cwV 1 hts (z_gV wt_5_239 wt_6_1 wp_48 wt_1_13 wt_6_2) rfl rfl rfl ⟨rfl, yd_yX12_is⟩ ⟨Nat.le_of_ble_eq_true rfl, Nat.le_of_ble_eq_true rfl⟩) (va_recv hK hP (ci := 12) (q0 := 0) rfl (zM_0 cy ad S_23)) hl.1 rfl rfl (Nat.le_of_ble_eq_true rfl) dX12_nameWord_99 (fun H locs hP hS => ?_)
                  refine lv_if_eq (tgt := 108) hx hb dX12_nameWord_102 (by decide) (fun c_34 => ?_) (fun c_34 => ?_)
                  · have hf := z_it c_34 hf
                    refine lv_aload_n hx hb dX12_nameWord_108 rfl (lv_at hl 0 rfl) ?_
                    refine va_ldcS hx hb hown (zR_16 hE) dX12_nameWord_109 ?_
                    obtain ⟨r_28, S_29, h_30, hf⟩ := z_bd hf
                    refine z_cVI (As := [.ref (K.1 16)]) (rest := []) X hK hE hD hA hP hS (cm_is l D K cy ad 16 (by decide) S_26 _ _ h_30) (cwV 1 hts (z_gV wt_5_239 wt_6_1 wp_48 wt_1_13 wt_6_2) rfl rfl rfl ⟨rfl, yd_yX12_is⟩ ⟨Nat.le_of_ble_eq_true rfl, Nat.le_of_ble_eq_true rfl⟩) (va_recv hK hP (ci := 12) (q0 := 0) rfl (zM_0 cy ad S_26)) hl.1 rfl rfl (Nat.le_of_ble_eq_true rfl) dX12_nameWord_111 (fun H locs hP hS => ?_)
                    obtain ⟨j_123, ej_123, hf⟩ := z_nm hf
                    have J_123 : ∀ (x_31 : Int32) (S_32 : zSt) (H : Heap) (locs : List Loc) (ls : Array Slot), j_123 x_31 S_32 = some (ro, So) → va_P D vwCl (zM cy ad S_32) H → va_S A s.heap H locs → lv_has ls 1 [] → W p l e ({ frames := 5, cells := 0, slots := 0, locals := 108 }) s m ([.ref (ad 0)] : List Value).toArray below meth c H locs 0 0 Q (F0 m 123 ls [.int x_31]) := by
                      intro x_31 S_32 H locs ls hf hP hS hl
                      have hf := z_e2 ej_123 hf
                      obtain ⟨h1, h2⟩ := z_s2 hf
                      subst h1 h2
                      exact hret _ _ _ _ hP hS dX12_nameWord_123
                    refine lv_if_eq (tgt := 122) hx hb dX12_nameWord_114 (by decide) (fun c_33 => ?_) (fun c_33 => ?_)
                    · have hf := z_it c_33 hf
                      refine lv_iconst (v := 1) hx hb dX12_nameWord_122 (by decide) ?_
                      exact J_123 (1 : Int32) S_29 _ _ _ hf hP hS (lv_sub hl [] rfl)
                    · have hf := z_if c_33 hf
                      refine lv_bipush (v := 50) hx hb dX12_nameWord_117 (by decide) ?_
                      refine lv_goto (tgt := 123) hx hb dX12_nameWord_119 (by decide) ?_
                      exact J_123 (50 : Int32) S_29 _ _ _ hf hP hS (lv_sub hl [] rfl)
                  · have hf := z_if c_34 hf
                    refine lv_bipush (v := 49) hx hb dX12_nameWord_105 (by decide) ?_
                    obtain ⟨h1, h2⟩ := z_s2 hf
                    subst h1 h2
                    exact hret _ _ _ _ hP hS dX12_nameWord_107
                · have hf := z_if c_35 hf
                  refine lv_bipush (v := 48) hx hb dX12_nameWord_93 (by decide) ?_
                  obtain ⟨h1, h2⟩ := z_s2 hf
                  subst h1 h2
                  exact hret _ _ _ _ hP hS dX12_nameWord_95
              · have hf := z_if c_36 hf
                refine lv_bipush (v := 47) hx hb dX12_nameWord_81 (by decide) ?_
                obtain ⟨h1, h2⟩ := z_s2 hf
                subst h1 h2
                exact hret _ _ _ _ hP hS dX12_nameWord_83
            · have hf := z_if c_37 hf
              refine lv_bipush (v := 46) hx hb dX12_nameWord_69 (by decide) ?_
              obtain ⟨h1, h2⟩ := z_s2 hf
              subst h1 h2
              exact hret _ _ _ _ hP hS dX12_nameWord_71
          · have hf := z_if c_38 hf
            refine lv_bipush (v := 45) hx hb dX12_nameWord_57 (by decide) ?_
            obtain ⟨h1, h2⟩ := z_s2 hf
            subst h1 h2
            exact hret _ _ _ _ hP hS dX12_nameWord_59
        · have hf := z_if c_39 hf
          refine lv_bipush (v := 44) hx hb dX12_nameWord_45 (by decide) ?_
          obtain ⟨h1, h2⟩ := z_s2 hf
          subst h1 h2
          exact hret _ _ _ _ hP hS dX12_nameWord_47
      · have hf := z_if c_40 hf
        refine lv_bipush (v := 43) hx hb dX12_nameWord_33 (by decide) ?_
        obtain ⟨h1, h2⟩ := z_s2 hf
        subst h1 h2
        exact hret _ _ _ _ hP hS dX12_nameWord_35
    · have hf := z_if c_41 hf
      refine lv_bipush (v := 42) hx hb dX12_nameWord_21 (by decide) ?_
      obtain ⟨h1, h2⟩ := z_s2 hf
      subst h1 h2
      exact hret _ _ _ _ hP hS dX12_nameWord_23
  · have hf := z_if c_42 hf
    refine lv_bipush (v := 41) hx hb dX12_nameWord_9 (by decide) ?_
    obtain ⟨h1, h2⟩ := z_s2 hf
    subst h1 h2
    exact hret _ _ _ _ hP hS dX12_nameWord_11
def fm_word (S_0 : zSt) : Option (Int32 × zSt) :=
  zbd (fm_is 2 S_0) fun r_1 S_2 =>
  if r_1 = 0 then (
  zbd (fm_is 3 S_2) fun r_4 S_5 =>
  if r_4 = 0 then (
  zbd (fm_is 4 S_5) fun r_7 S_8 =>
  if r_7 = 0 then (
  zbd (fm_is 5 S_8) fun r_10 S_11 =>
  if r_10 = 0 then (
  zbd (fm_is 6 S_11) fun r_13 S_14 =>
  znm (fun (x_16 : Int32) (S_17 : zSt) =>
  some (x_16, S_17)) fun j_63 =>
  if r_13 = 0 then (
  zbd (fm_nameWord S_14) fun r_18 S_19 =>
  j_63 r_18 S_19) else (
  j_63 (20 : Int32) S_14)) else (
  some ((6 : Int32), S_11))) else (
  some ((5 : Int32), S_8))) else (
  some ((4 : Int32), S_5))) else (
  some ((3 : Int32), S_2))
set_option maxHeartbeats 4000000 in
set_option maxRecDepth 100000 in
theorem cm_word (l : Launch) (D : va_G) (K : (Nat → Nat) × (Nat → Nat)) (cy : Nat → ClassId) (ad : Nat → Nat) (S_0 : zSt) (ro : Int32) (So : zSt) (hf : fm_word S_0 = some (ro, So)) : zMI l yX12_word (zws yX12_word cX12_word 1 (Option.some .int)) ({ frames := 6, cells := 0, slots := 0, locals := 128 }) D (zTy cy) K (zM cy ad) [.ref (ad 0)] S_0 ro So := by
  refine z_metI (own := RX12) (lv := [(0, .ref (ad 0))]) (by decide) rfl rfl (Nat.le_of_ble_eq_true rfl) rfl ?_
  intro p e s m below meth c A Q X hK hE hD hA hret hP hS ls hl
  obtain ⟨hx, hb, hml, hown, hts⟩ := id X
  refine lv_aload_n hx hb dX12_word_0 rfl (lv_at hl 0 rfl) ?_
  refine va_ldcS hx hb hown (zR_2 hE) dX12_word_1 ?_
  obtain ⟨r_1, S_2, h_3, hf⟩ := z_bd hf
  refine z_cVI (As := [.ref (K.1 2)]) (rest := []) X hK hE hD hA hP hS (cm_is l D K cy ad 2 (by decide) S_0 _ _ h_3) (cwV 1 hts (z_gV wt_5_239 wt_6_1 wp_48 wt_1_13 wt_6_2) rfl rfl rfl ⟨rfl, yd_yX12_is⟩ ⟨Nat.le_of_ble_eq_true rfl, Nat.le_of_ble_eq_true rfl⟩) (va_recv hK hP (ci := 12) (q0 := 0) rfl (zM_0 cy ad S_0)) hl.1 rfl rfl (Nat.le_of_ble_eq_true rfl) dX12_word_3 (fun H locs hP hS => ?_)
  refine lv_if_eq (tgt := 11) hx hb dX12_word_6 (by decide) (fun c_25 => ?_) (fun c_25 => ?_)
  · have hf := z_it c_25 hf
    refine lv_aload_n hx hb dX12_word_11 rfl (lv_at hl 0 rfl) ?_
    refine va_ldcS hx hb hown (zR_3 hE) dX12_word_12 ?_
    obtain ⟨r_4, S_5, h_6, hf⟩ := z_bd hf
    refine z_cVI (As := [.ref (K.1 3)]) (rest := []) X hK hE hD hA hP hS (cm_is l D K cy ad 3 (by decide) S_2 _ _ h_6) (cwV 1 hts (z_gV wt_5_239 wt_6_1 wp_48 wt_1_13 wt_6_2) rfl rfl rfl ⟨rfl, yd_yX12_is⟩ ⟨Nat.le_of_ble_eq_true rfl, Nat.le_of_ble_eq_true rfl⟩) (va_recv hK hP (ci := 12) (q0 := 0) rfl (zM_0 cy ad S_2)) hl.1 rfl rfl (Nat.le_of_ble_eq_true rfl) dX12_word_14 (fun H locs hP hS => ?_)
    refine lv_if_eq (tgt := 22) hx hb dX12_word_17 (by decide) (fun c_24 => ?_) (fun c_24 => ?_)
    · have hf := z_it c_24 hf
      refine lv_aload_n hx hb dX12_word_22 rfl (lv_at hl 0 rfl) ?_
      refine va_ldcS hx hb hown (zR_4 hE) dX12_word_23 ?_
      obtain ⟨r_7, S_8, h_9, hf⟩ := z_bd hf
      refine z_cVI (As := [.ref (K.1 4)]) (rest := []) X hK hE hD hA hP hS (cm_is l D K cy ad 4 (by decide) S_5 _ _ h_9) (cwV 1 hts (z_gV wt_5_239 wt_6_1 wp_48 wt_1_13 wt_6_2) rfl rfl rfl ⟨rfl, yd_yX12_is⟩ ⟨Nat.le_of_ble_eq_true rfl, Nat.le_of_ble_eq_true rfl⟩) (va_recv hK hP (ci := 12) (q0 := 0) rfl (zM_0 cy ad S_5)) hl.1 rfl rfl (Nat.le_of_ble_eq_true rfl) dX12_word_25 (fun H locs hP hS => ?_)
      refine lv_if_eq (tgt := 33) hx hb dX12_word_28 (by decide) (fun c_23 => ?_) (fun c_23 => ?_)
      · have hf := z_it c_23 hf
        refine lv_aload_n hx hb dX12_word_33 rfl (lv_at hl 0 rfl) ?_
        refine va_ldcS hx hb hown (zR_5 hE) dX12_word_34 ?_
        obtain ⟨r_10, S_11, h_12, hf⟩ := z_bd hf
        refine z_cVI (As := [.ref (K.1 5)]) (rest := []) X hK hE hD hA hP hS (cm_is l D K cy ad 5 (by decide) S_8 _ _ h_12) (cwV 1 hts (z_gV wt_5_239 wt_6_1 wp_48 wt_1_13 wt_6_2) rfl rfl rfl ⟨rfl, yd_yX12_is⟩ ⟨Nat.le_of_ble_eq_true rfl, Nat.le_of_ble_eq_true rfl⟩) (va_recv hK hP (ci := 12) (q0 := 0) rfl (zM_0 cy ad S_8)) hl.1 rfl rfl (Nat.le_of_ble_eq_true rfl) dX12_word_36 (fun H locs hP hS => ?_)
        refine lv_if_eq (tgt := 45) hx hb dX12_word_39 (by decide) (fun c_22 => ?_) (fun c_22 => ?_)
        · have hf := z_it c_22 hf
          refine lv_aload_n hx hb dX12_word_45 rfl (lv_at hl 0 rfl) ?_
          refine va_ldcS hx hb hown (zR_6 hE) dX12_word_46 ?_
          obtain ⟨r_13, S_14, h_15, hf⟩ := z_bd hf
          refine z_cVI (As := [.ref (K.1 6)]) (rest := []) X hK hE hD hA hP hS (cm_is l D K cy ad 6 (by decide) S_11 _ _ h_15) (cwV 1 hts (z_gV wt_5_239 wt_6_1 wp_48 wt_1_13 wt_6_2) rfl rfl rfl ⟨rfl, yd_yX12_is⟩ ⟨Nat.le_of_ble_eq_true rfl, Nat.le_of_ble_eq_true rfl⟩) (va_recv hK hP (ci := 12) (q0 := 0) rfl (zM_0 cy ad S_11)) hl.1 rfl rfl (Nat.le_of_ble_eq_true rfl) dX12_word_48 (fun H locs hP hS => ?_)
          obtain ⟨j_63, ej_63, hf⟩ := z_nm hf
          have J_63 : ∀ (x_16 : Int32) (S_17 : zSt) (H : Heap) (locs : List Loc) (ls : Array Slot), j_63 x_16 S_17 = some (ro, So) → va_P D vwCl (zM cy ad S_17) H → va_S A s.heap H locs → lv_has ls 1 [] → W p l e ({ frames := 6, cells := 0, slots := 0, locals := 128 }) s m ([.ref (ad 0)] : List Value).toArray below meth c H locs 0 0 Q (F0 m 63 ls [.int x_16]) := by
            intro x_16 S_17 H locs ls hf hP hS hl
            have hf := z_e2 ej_63 hf
            obtain ⟨h1, h2⟩ := z_s2 hf
            subst h1 h2
            exact hret _ _ _ _ hP hS dX12_word_63
          refine lv_if_eq (tgt := 59) hx hb dX12_word_51 (by decide) (fun c_21 => ?_) (fun c_21 => ?_)
          · have hf := z_it c_21 hf
            refine lv_aload_n hx hb dX12_word_59 rfl (lv_at hl 0 rfl) ?_
            obtain ⟨r_18, S_19, h_20, hf⟩ := z_bd hf
            refine z_cVI (As := []) (rest := []) X hK hE hD hA hP hS (cm_nameWord l D K cy ad S_14 _ _ h_20) (cwV 0 hts (z_gV wt_6_9 wt_6_11 wp_49 wt_1_13 wt_6_12) rfl rfl rfl ⟨rfl, yd_yX12_nameWord⟩ ⟨Nat.le_of_ble_eq_true rfl, Nat.le_of_ble_eq_true rfl⟩) (va_recv hK hP (ci := 12) (q0 := 0) rfl (zM_0 cy ad S_14)) hl.1 rfl rfl (Nat.le_of_ble_eq_true rfl) dX12_word_60 (fun H locs hP hS => ?_)
            exact J_63 r_18 S_19 _ _ _ hf hP hS (lv_sub hl [] rfl)
          · have hf := z_if c_21 hf
            refine lv_bipush (v := 20) hx hb dX12_word_54 (by decide) ?_
            refine lv_goto (tgt := 63) hx hb dX12_word_56 (by decide) ?_
            exact J_63 (20 : Int32) S_14 _ _ _ hf hP hS (lv_sub hl [] rfl)
        · have hf := z_if c_22 hf
          refine lv_bipush (v := 6) hx hb dX12_word_42 (by decide) ?_
          obtain ⟨h1, h2⟩ := z_s2 hf
          subst h1 h2
          exact hret _ _ _ _ hP hS dX12_word_44
      · have hf := z_if c_23 hf
        refine lv_iconst (v := 5) hx hb dX12_word_31 (by decide) ?_
        obtain ⟨h1, h2⟩ := z_s2 hf
        subst h1 h2
        exact hret _ _ _ _ hP hS dX12_word_32
    · have hf := z_if c_24 hf
      refine lv_iconst (v := 4) hx hb dX12_word_20 (by decide) ?_
      obtain ⟨h1, h2⟩ := z_s2 hf
      subst h1 h2
      exact hret _ _ _ _ hP hS dX12_word_21
  · have hf := z_if c_25 hf
    refine lv_iconst (v := 3) hx hb dX12_word_9 (by decide) ?_
    obtain ⟨h1, h2⟩ := z_s2 hf
    subst h1 h2
    exact hret _ _ _ _ hP hS dX12_word_10
def fm_next0_L126 (j_189 : zSt → Option (Unit × zSt)) : Nat → zSt → Option (Unit × zSt)
  | 0, _ => none
  | n_126 + 1, S_37 =>
    zbd (fm_see S_37 (S_37.1 0 13)) fun r_38 S_39 =>
    zbd (fm_isDigit S_39 r_38) fun r_41 S_42 =>
    if r_41 = 0 then (
    j_189  S_42) else (
    znm (fun (S_44 : zSt) =>
    znm (zpI S_44 0 13 ((S_44.1 0 13) + (1 : Int32))) fun S_45 =>
    fm_next0_L126 j_189 n_126  S_45) fun j_176 =>
    if ((S_42.1 0 15) + (4 : Int32)) ≤ (S_42.1 0 13) then (
    j_176  S_42) else (
    zbd (fm_see S_42 (S_42.1 0 13)) fun r_46 S_47 =>
    znm (zpI S_47 0 16 ((((10 : Int32) * (S_42.1 0 16)) + r_46) - (48 : Int32))) fun S_49 =>
    j_176  S_49))
def fm_next0_L76 (j_103 : zSt → Option (Unit × zSt)) : Nat → zSt → Option (Unit × zSt)
  | 0, _ => none
  | n_76 + 1, S_58 =>
    zbd (fm_see S_58 (S_58.1 0 13)) fun r_59 S_60 =>
    zbd (fm_isLetter S_60 r_59) fun r_62 S_63 =>
    if r_62 = 0 then (
    j_103  S_63) else (
    znm (zpI S_63 0 13 ((S_63.1 0 13) + (1 : Int32))) fun S_65 =>
    fm_next0_L76 j_103 n_76  S_65)
def fm_next0_L0 (j_39 : zSt → Option (Unit × zSt)) : Nat → zSt → Option (Unit × zSt)
  | 0, _ => none
  | n_0 + 1, S_70 =>
    zbd (fm_see S_70 (S_70.1 0 13)) fun r_71 S_72 =>
    znm (fun (S_74 : zSt) =>
    znm (zpI S_74 0 13 ((S_74.1 0 13) + (1 : Int32))) fun S_75 =>
    fm_next0_L0 j_39 n_0  S_75) fun j_26 =>
    if r_71 = (32 : Int32) then (
    j_26  S_72) else (
    zbd (fm_see S_72 (S_72.1 0 13)) fun r_76 S_77 =>
    if r_76 = (10 : Int32) then (
    j_26  S_77) else (
    j_39  S_77))
def fm_next0 (S_0 : zSt) : Option (Unit × zSt) :=
  znm (fun (S_1 : zSt) =>
  znm (zpI S_1 0 15 (S_1.1 0 13)) fun S_2 =>
  zbd (fm_see S_2 (S_2.1 0 13)) fun r_3 S_4 =>
  znm (fun (S_6 : zSt) =>
  some ((), S_6)) fun j_306 =>
  if r_3 = (-1 : Int32) then (
  znm (zpI S_4 0 14 (0 : Int32)) fun S_68 =>
  j_306  S_68) else (
  zbd (fm_isLetter S_4 r_3) fun r_7 S_8 =>
  if r_7 = 0 then (
  zbd (fm_isDigit S_8 r_3) fun r_10 S_11 =>
  if r_10 = 0 then (
  znm (zpI S_11 0 13 ((S_11.1 0 13) + (1 : Int32))) fun S_13 =>
  znm (fun (x_14 : Int32) (S_15 : zSt) =>
  znm (fun (x_16 : Int32) (S_17 : zSt) =>
  znm (zpI S_17 0 14 x_16) fun S_18 =>
  j_306  S_18) fun j_303 =>
  if x_14 = 0 then (
  j_303 (1 : Int32) S_15) else (
  j_303 ((100 : Int32) + r_3) S_15)) fun j_289 =>
  znm (fun (S_20 : zSt) =>
  j_289 (1 : Int32) S_20) fun j_284 =>
  if r_3 = (59 : Int32) then (
  j_284  S_13) else (
  if r_3 = (43 : Int32) then (
  j_284  S_13) else (
  if r_3 = (45 : Int32) then (
  j_284  S_13) else (
  if r_3 = (42 : Int32) then (
  j_284  S_13) else (
  if r_3 = (47 : Int32) then (
  j_284  S_13) else (
  if r_3 = (40 : Int32) then (
  j_284  S_13) else (
  if r_3 = (41 : Int32) then (
  j_284  S_13) else (
  if r_3 = (60 : Int32) then (
  j_284  S_13) else (
  if r_3 = (61 : Int32) then (
  j_284  S_13) else (
  if r_3 = (62 : Int32) then (
  j_284  S_13) else (
  j_289 (0 : Int32) S_13))))))))))) else (
  znm (zpI S_11 0 16 (0 : Int32)) fun S_31 =>
  znm (fun (S_32 : zSt) =>
  znm (fun (x_33 : Int32) (S_34 : zSt) =>
  znm (zpI S_34 0 14 x_33) fun S_35 =>
  j_306  S_35) fun j_208 =>
  if (5 : Int32) ≤ ((S_32.1 0 13) - (S_32.1 0 15)) then (
  j_208 (1 : Int32) S_32) else (
  j_208 (2 : Int32) S_32)) fun j_189 =>
  fm_next0_L126 j_189 zFU  S_31)) else (
  znm (fun (S_53 : zSt) =>
  zbd (fm_word S_53) fun r_54 S_55 =>
  znm (zpI S_55 0 14 r_54) fun S_57 =>
  j_306  S_57) fun j_103 =>
  fm_next0_L76 j_103 zFU  S_8))) fun j_39 =>
  fm_next0_L0 j_39 zFU  S_0
set_option maxHeartbeats 4000000 in
set_option maxRecDepth 100000 in
theorem cm_next0 (l : Launch) (D : va_G) (K : (Nat → Nat) × (Nat → Nat)) (cy : Nat → ClassId) (ad : Nat → Nat) (S_0 : zSt) (So : zSt) (hf : fm_next0 S_0 = some ((), So)) : zMV l yX12_next0 (zws yX12_next0 cX12_next0 3 none) ({ frames := 7, cells := 0, slots := 0, locals := 148 }) D (zTy cy) K (zM cy ad) [.ref (ad 0)] S_0 So := by
  refine z_metV (own := RX12) (lv := [(0, .ref (ad 0))]) (by decide) rfl rfl (Nat.le_of_ble_eq_true rfl) rfl ?_
  intro p e s m below meth c A Q X hK hE hD hA hret hP hS ls hl
  obtain ⟨hx, hb, hml, hown, hts⟩ := id X
  have k0 := (fun w h => List.mem_cons_of_mem _ (zFX12 w h) : ∀ w ∈ u_ws RX12 TX12 36, w ∈ zws yX12_next0 cX12_next0 3 none)
  have k1 := hts _ (List.mem_cons_of_mem _ wt_5_108)
  have k2 := hts _ (List.mem_cons_of_mem _ wt_5_110)
  have k3 := hts _ (List.mem_cons_of_mem _ wt_5_109)
  have k4 := hts _ (List.mem_cons_of_mem _ wt_5_111)
  obtain ⟨j_39, ej_39, hf⟩ := z_nm hf
  have J_39 : ∀ (S_1 : zSt) (H : Heap) (locs : List Loc) (ls : Array Slot), j_39  S_1 = some ((), So) → va_P D vwCl (zM cy ad S_1) H → va_S A s.heap H locs → lv_has ls 3 [(0, .ref (ad 0))] → W p l e ({ frames := 7, cells := 0, slots := 0, locals := 148 }) s m ([.ref (ad 0)] : List Value).toArray below meth c H locs 0 0 Q (F0 m 39 ls []) := by
    intro  S_1 H locs ls hf hP hS hl
    have hf := z_e1 ej_39 hf
    refine lv_aload_n hx hb dX12_next0_39 rfl (lv_at hl 0 rfl) ?_
    refine lv_aload_n hx hb dX12_next0_40 rfl (lv_at hl 0 rfl) ?_
    refine va_get (D := D) (ci := 12) (v := .int (S_1.1 0 13)) (C := RX12) (T := TX12) (N := 36) hx hb hts k0 hown hK hP 0 (zM_0 cy ad S_1) rfl 13 (by decide) k1 (fun _ h9 => h9) rfl dX12_next0_41 ?_
    refine va_put (D := D) (ci := 12) (v := .int (S_1.1 0 13)) (ty := .int) (C := RX12) (T := TX12) (N := 36) hx hb hts k0 tyX12 tyX12_ok nmX12 hown hK hP (hD S_1) hS 0 (zM_0 cy ad S_1) rfl 15 (by decide) k2 (fun _ h9 => h9) rfl (tyX12_ok 15 (by decide)) rfl rfl (Nat.le_of_ble_eq_true rfl) dX12_next0_44 (fun H locs hP _ hS => ?_)
    obtain ⟨S_2, eS_2, hf⟩ := z_nm hf
    have hP := zW_putI hP eS_2 (by decide) rfl
    refine lv_aload_n hx hb dX12_next0_47 rfl (lv_at hl 0 rfl) ?_
    refine lv_aload_n hx hb dX12_next0_48 rfl (lv_at hl 0 rfl) ?_
    refine va_get (D := D) (ci := 12) (v := .int (S_2.1 0 13)) (C := RX12) (T := TX12) (N := 36) hx hb hts k0 hown hK hP 0 (zM_0 cy ad S_2) rfl 13 (by decide) k1 (fun _ h9 => h9) rfl dX12_next0_49 ?_
    obtain ⟨r_3, S_4, h_5, hf⟩ := z_bd hf
    refine z_cVI (As := [.int (S_2.1 0 13)]) (rest := []) X hK hE hD hA hP hS (cm_see l D K cy ad S_2 _ _ _ h_5) (cwV 1 hts (z_gV wt_5_227 wt_5_229 wp_46 wt_1_13 wt_5_230) rfl rfl rfl ⟨rfl, yd_yX12_see⟩ ⟨Nat.le_of_ble_eq_true rfl, Nat.le_of_ble_eq_true rfl⟩) (va_recv hK hP (ci := 12) (q0 := 0) rfl (zM_0 cy ad S_2)) hl.1 rfl rfl (Nat.le_of_ble_eq_true rfl) dX12_next0_52 (fun H locs hP hS => ?_)
    refine lv_istore_n (lv' := [(1, .int r_3), (0, .ref (ad 0))]) hx hb dX12_next0_55 rfl hl (by decide) rfl (fun ls hl => ?_)
    refine lv_iload_n hx hb dX12_next0_56 rfl (lv_at hl 0 rfl) ?_
    refine lv_iconst (v := -1) hx hb dX12_next0_57 (by decide) ?_
    obtain ⟨j_306, ej_306, hf⟩ := z_nm hf
    have J_306 : ∀ (S_6 : zSt) (H : Heap) (locs : List Loc) (ls : Array Slot), j_306  S_6 = some ((), So) → va_P D vwCl (zM cy ad S_6) H → va_S A s.heap H locs → lv_has ls 3 [] → W p l e ({ frames := 7, cells := 0, slots := 0, locals := 148 }) s m ([.ref (ad 0)] : List Value).toArray below meth c H locs 0 0 Q (F0 m 306 ls []) := by
      intro  S_6 H locs ls hf hP hS hl
      have hf := z_e1 ej_306 hf
      obtain ⟨h1, h2⟩ := z_s2 hf
      subst h2
      exact hret _ _ _ _ hP hS dX12_next0_306
    refine lv_icmp_ne (tgt := 69) hx hb dX12_next0_58 (by decide) (fun c_69 => ?_) (fun c_69 => ?_)
    · have hf := z_if c_69 hf
      refine lv_iload_n hx hb dX12_next0_69 rfl (lv_at hl 0 rfl) ?_
      obtain ⟨r_7, S_8, h_9, hf⟩ := z_bd hf
      refine z_cSI (As := [.int r_3]) (rest := []) X hK hE hD hA hP hS (cm_isLetter l D K cy ad S_4 _ _ _ h_9) (va_cwS 1 hts (z_gS wt_5_231 wt_5_232 wt_1_13 wt_5_233) rfl rfl rfl yd_yX12_isLetter ⟨Nat.le_of_ble_eq_true rfl, Nat.le_of_ble_eq_true rfl⟩) hl.1 rfl rfl (Nat.le_of_ble_eq_true rfl) dX12_next0_70 (fun H locs hP hS => ?_)
      refine lv_if_eq (tgt := 114) hx hb dX12_next0_73 (by decide) (fun c_67 => ?_) (fun c_67 => ?_)
      · have hf := z_it c_67 hf
        refine lv_iload_n hx hb dX12_next0_114 rfl (lv_at hl 0 rfl) ?_
        obtain ⟨r_10, S_11, h_12, hf⟩ := z_bd hf
        refine z_cSI (As := [.int r_3]) (rest := []) X hK hE hD hA hP hS (cm_isDigit l D K cy ad S_8 _ _ _ h_12) (va_cwS 1 hts (z_gS wt_6_23 wt_6_24 wt_1_13 wt_6_25) rfl rfl rfl yd_yX12_isDigit ⟨Nat.le_of_ble_eq_true rfl, Nat.le_of_ble_eq_true rfl⟩) hl.1 rfl rfl (Nat.le_of_ble_eq_true rfl) dX12_next0_115 (fun H locs hP hS => ?_)
        refine lv_if_eq (tgt := 214) hx hb dX12_next0_118 (by decide) (fun c_52 => ?_) (fun c_52 => ?_)
        · have hf := z_it c_52 hf
          refine lv_aload_n hx hb dX12_next0_214 rfl (lv_at hl 1 rfl) ?_
          refine lv_dup hx hb dX12_next0_215 rfl ?_
          refine va_get (D := D) (ci := 12) (v := .int (S_11.1 0 13)) (C := RX12) (T := TX12) (N := 36) hx hb hts k0 hown hK hP 0 (zM_0 cy ad S_11) rfl 13 (by decide) k1 (fun _ h9 => h9) rfl dX12_next0_216 ?_
          refine lv_iconst (v := 1) hx hb dX12_next0_219 (by decide) ?_
          refine lv_iadd hx hb dX12_next0_220 ?_
          refine va_put (D := D) (ci := 12) (v := .int ((S_11.1 0 13) + (1 : Int32))) (ty := .int) (C := RX12) (T := TX12) (N := 36) hx hb hts k0 tyX12 tyX12_ok nmX12 hown hK hP (hD S_11) hS 0 (zM_0 cy ad S_11) rfl 13 (by decide) k1 (fun _ h9 => h9) rfl (tyX12_ok 13 (by decide)) rfl rfl (Nat.le_of_ble_eq_true rfl) dX12_next0_221 (fun H locs hP _ hS => ?_)
          obtain ⟨S_13, eS_13, hf⟩ := z_nm hf
          have hP := zW_putI hP eS_13 (by decide) rfl
          refine lv_iload_n hx hb dX12_next0_224 rfl (lv_at hl 0 rfl) ?_
          refine lv_bipush (v := 59) hx hb dX12_next0_225 (by decide) ?_
          obtain ⟨j_289, ej_289, hf⟩ := z_nm hf
          have J_289 : ∀ (x_14 : Int32) (S_15 : zSt) (H : Heap) (locs : List Loc) (ls : Array Slot), j_289 x_14 S_15 = some ((), So) → va_P D vwCl (zM cy ad S_15) H → va_S A s.heap H locs → lv_has ls 3 [(0, .ref (ad 0)), (1, .int r_3)] → W p l e ({ frames := 7, cells := 0, slots := 0, locals := 148 }) s m ([.ref (ad 0)] : List Value).toArray below meth c H locs 0 0 Q (F0 m 289 ls [.int x_14]) := by
            intro x_14 S_15 H locs ls hf hP hS hl
            have hf := z_e2 ej_289 hf
            refine lv_istore_n (lv' := [(2, .int x_14), (0, .ref (ad 0)), (1, .int r_3)]) hx hb dX12_next0_289 rfl hl (by decide) rfl (fun ls hl => ?_)
            refine lv_aload_n hx hb dX12_next0_290 rfl (lv_at hl 1 rfl) ?_
            refine lv_iload_n hx hb dX12_next0_291 rfl (lv_at hl 0 rfl) ?_
            obtain ⟨j_303, ej_303, hf⟩ := z_nm hf
            have J_303 : ∀ (x_16 : Int32) (S_17 : zSt) (H : Heap) (locs : List Loc) (ls : Array Slot), j_303 x_16 S_17 = some ((), So) → va_P D vwCl (zM cy ad S_17) H → va_S A s.heap H locs → lv_has ls 3 [] → W p l e ({ frames := 7, cells := 0, slots := 0, locals := 148 }) s m ([.ref (ad 0)] : List Value).toArray below meth c H locs 0 0 Q (F0 m 303 ls [.int x_16, .ref (ad 0)]) := by
              intro x_16 S_17 H locs ls hf hP hS hl
              have hf := z_e2 ej_303 hf
              refine va_put (D := D) (ci := 12) (v := .int x_16) (ty := .int) (C := RX12) (T := TX12) (N := 36) hx hb hts k0 tyX12 tyX12_ok nmX12 hown hK hP (hD S_17) hS 0 (zM_0 cy ad S_17) rfl 14 (by decide) k3 (fun _ h9 => h9) rfl (tyX12_ok 14 (by decide)) rfl rfl (Nat.le_of_ble_eq_true rfl) dX12_next0_303 (fun H locs hP _ hS => ?_)
              obtain ⟨S_18, eS_18, hf⟩ := z_nm hf
              have hP := zW_putI hP eS_18 (by decide) rfl
              exact J_306  S_18 _ _ _ hf hP hS (lv_sub hl [] rfl)
            refine lv_if_eq (tgt := 302) hx hb dX12_next0_292 (by decide) (fun c_19 => ?_) (fun c_19 => ?_)
            · have hf := z_it c_19 hf
              refine lv_iconst (v := 1) hx hb dX12_next0_302 (by decide) ?_
              exact J_303 (1 : Int32) S_15 _ _ _ hf hP hS (lv_sub hl [] rfl)
            · have hf := z_if c_19 hf
              refine lv_bipush (v := 100) hx hb dX12_next0_295 (by decide) ?_
              refine lv_iload_n hx hb dX12_next0_297 rfl (lv_at hl 2 rfl) ?_
              refine lv_iadd hx hb dX12_next0_298 ?_
              refine lv_goto (tgt := 303) hx hb dX12_next0_299 (by decide) ?_
              exact J_303 ((100 : Int32) + r_3) S_15 _ _ _ hf hP hS (lv_sub hl [] rfl)
          obtain ⟨j_284, ej_284, hf⟩ := z_nm hf
          have J_284 : ∀ (S_20 : zSt) (H : Heap) (locs : List Loc) (ls : Array Slot), j_284  S_20 = some ((), So) → va_P D vwCl (zM cy ad S_20) H → va_S A s.heap H locs → lv_has ls 3 [(0, .ref (ad 0)), (1, .int r_3)] → W p l e ({ frames := 7, cells := 0, slots := 0, locals := 148 }) s m ([.ref (ad 0)] : List Value).toArray below meth c H locs 0 0 Q (F0 m 284 ls []) := by
            intro  S_20 H locs ls hf hP hS hl
            have hf := z_e1 ej_284 hf
            refine lv_iconst (v := 1) hx hb dX12_next0_284 (by decide) ?_
            refine lv_goto (tgt := 289) hx hb dX12_next0_285 (by decide) ?_
            exact J_289 (1 : Int32) S_20 _ _ _ hf hP hS (lv_sub hl [0, 1] rfl)
          refine lv_icmp_eq (tgt := 284) hx hb dX12_next0_227 (by decide) (fun c_30 => ?_) (fun c_30 => ?_)
          · have hf := z_it c_30 hf
            exact J_284  S_13 _ _ _ hf hP hS (lv_sub hl [1, 0] rfl)
          · have hf := z_if c_30 hf
            refine lv_iload_n hx hb dX12_next0_230 rfl (lv_at hl 0 rfl) ?_
            refine lv_bipush (v := 43) hx hb dX12_next0_231 (by decide) ?_
            refine lv_icmp_eq (tgt := 284) hx hb dX12_next0_233 (by decide) (fun c_29 => ?_) (fun c_29 => ?_)
            · have hf := z_it c_29 hf
              exact J_284  S_13 _ _ _ hf hP hS (lv_sub hl [1, 0] rfl)
            · have hf := z_if c_29 hf
              refine lv_iload_n hx hb dX12_next0_236 rfl (lv_at hl 0 rfl) ?_
              refine lv_bipush (v := 45) hx hb dX12_next0_237 (by decide) ?_
              refine lv_icmp_eq (tgt := 284) hx hb dX12_next0_239 (by decide) (fun c_28 => ?_) (fun c_28 => ?_)
              · have hf := z_it c_28 hf
                exact J_284  S_13 _ _ _ hf hP hS (lv_sub hl [1, 0] rfl)
              · have hf := z_if c_28 hf
                refine lv_iload_n hx hb dX12_next0_242 rfl (lv_at hl 0 rfl) ?_
                refine lv_bipush (v := 42) hx hb dX12_next0_243 (by decide) ?_
                refine lv_icmp_eq (tgt := 284) hx hb dX12_next0_245 (by decide) (fun c_27 => ?_) (fun c_27 => ?_)
                · have hf := z_it c_27 hf
                  exact J_284  S_13 _ _ _ hf hP hS (lv_sub hl [1, 0] rfl)
                · have hf := z_if c_27 hf
                  refine lv_iload_n hx hb dX12_next0_248 rfl (lv_at hl 0 rfl) ?_
                  refine lv_bipush (v := 47) hx hb dX12_next0_249 (by decide) ?_
                  refine lv_icmp_eq (tgt := 284) hx hb dX12_next0_251 (by decide) (fun c_26 => ?_) (fun c_26 => ?_)
                  · have hf := z_it c_26 hf
                    exact J_284  S_13 _ _ _ hf hP hS (lv_sub hl [1, 0] rfl)
                  · have hf := z_if c_26 hf
                    refine lv_iload_n hx hb dX12_next0_254 rfl (lv_at hl 0 rfl) ?_
                    refine lv_bipush (v := 40) hx hb dX12_next0_255 (by decide) ?_
                    refine lv_icmp_eq (tgt := 284) hx hb dX12_next0_257 (by decide) (fun c_25 => ?_) (fun c_25 => ?_)
                    · have hf := z_it c_25 hf
                      exact J_284  S_13 _ _ _ hf hP hS (lv_sub hl [1, 0] rfl)
                    · have hf := z_if c_25 hf
                      refine lv_iload_n hx hb dX12_next0_260 rfl (lv_at hl 0 rfl) ?_
                      refine lv_bipush (v := 41) hx hb dX12_next0_261 (by decide) ?_
                      refine lv_icmp_eq (tgt := 284) hx hb dX12_next0_263 (by decide) (fun c_24 => ?_) (fun c_24 => ?_)
                      · have hf := z_it c_24 hf
                        exact J_284  S_13 _ _ _ hf hP hS (lv_sub hl [1, 0] rfl)
                      · have hf := z_if c_24 hf
                        refine lv_iload_n hx hb dX12_next0_266 rfl (lv_at hl 0 rfl) ?_
                        refine lv_bipush (v := 60) hx hb dX12_next0_267 (by decide) ?_
                        refine lv_icmp_eq (tgt := 284) hx hb dX12_next0_269 (by decide) (fun c_23 => ?_) (fun c_23 => ?_)
                        · have hf := z_it c_23 hf
                          exact J_284  S_13 _ _ _ hf hP hS (lv_sub hl [1, 0] rfl)
                        · have hf := z_if c_23 hf
                          refine lv_iload_n hx hb dX12_next0_272 rfl (lv_at hl 0 rfl) ?_
                          refine lv_bipush (v := 61) hx hb dX12_next0_273 (by decide) ?_
                          refine lv_icmp_eq (tgt := 284) hx hb dX12_next0_275 (by decide) (fun c_22 => ?_) (fun c_22 => ?_)
                          · have hf := z_it c_22 hf
                            exact J_284  S_13 _ _ _ hf hP hS (lv_sub hl [1, 0] rfl)
                          · have hf := z_if c_22 hf
                            refine lv_iload_n hx hb dX12_next0_278 rfl (lv_at hl 0 rfl) ?_
                            refine lv_bipush (v := 62) hx hb dX12_next0_279 (by decide) ?_
                            refine lv_icmp_ne (tgt := 288) hx hb dX12_next0_281 (by decide) (fun c_21 => ?_) (fun c_21 => ?_)
                            · have hf := z_if c_21 hf
                              refine lv_iconst (v := 0) hx hb dX12_next0_288 (by decide) ?_
                              exact J_289 (0 : Int32) S_13 _ _ _ hf hP hS (lv_sub hl [1, 0] rfl)
                            · have hf := z_it c_21 hf
                              exact J_284  S_13 _ _ _ hf hP hS (lv_sub hl [1, 0] rfl)
        · have hf := z_if c_52 hf
          refine lv_aload_n hx hb dX12_next0_121 rfl (lv_at hl 1 rfl) ?_
          refine lv_iconst (v := 0) hx hb dX12_next0_122 (by decide) ?_
          refine va_put (D := D) (ci := 12) (v := .int (0 : Int32)) (ty := .int) (C := RX12) (T := TX12) (N := 36) hx hb hts k0 tyX12 tyX12_ok nmX12 hown hK hP (hD S_11) hS 0 (zM_0 cy ad S_11) rfl 16 (by decide) k4 (fun _ h9 => h9) rfl (tyX12_ok 16 (by decide)) rfl rfl (Nat.le_of_ble_eq_true rfl) dX12_next0_123 (fun H locs hP _ hS => ?_)
          obtain ⟨S_31, eS_31, hf⟩ := z_nm hf
          have hP := zW_putI hP eS_31 (by decide) rfl
          obtain ⟨j_189, ej_189, hf⟩ := z_nm hf
          have J_189 : ∀ (S_32 : zSt) (H : Heap) (locs : List Loc) (ls : Array Slot), j_189  S_32 = some ((), So) → va_P D vwCl (zM cy ad S_32) H → va_S A s.heap H locs → lv_has ls 3 [(0, .ref (ad 0))] → W p l e ({ frames := 7, cells := 0, slots := 0, locals := 148 }) s m ([.ref (ad 0)] : List Value).toArray below meth c H locs 0 0 Q (F0 m 189 ls []) := by
            intro  S_32 H locs ls hf hP hS hl
            have hf := z_e1 ej_189 hf
            refine lv_aload_n hx hb dX12_next0_189 rfl (lv_at hl 0 rfl) ?_
            refine lv_aload_n hx hb dX12_next0_190 rfl (lv_at hl 0 rfl) ?_
            refine va_get (D := D) (ci := 12) (v := .int (S_32.1 0 13)) (C := RX12) (T := TX12) (N := 36) hx hb hts k0 hown hK hP 0 (zM_0 cy ad S_32) rfl 13 (by decide) k1 (fun _ h9 => h9) rfl dX12_next0_191 ?_
            refine lv_aload_n hx hb dX12_next0_194 rfl (lv_at hl 0 rfl) ?_
            refine va_get (D := D) (ci := 12) (v := .int (S_32.1 0 15)) (C := RX12) (T := TX12) (N := 36) hx hb hts k0 hown hK hP 0 (zM_0 cy ad S_32) rfl 15 (by decide) k2 (fun _ h9 => h9) rfl dX12_next0_195 ?_
            refine lv_isub hx hb dX12_next0_198 ?_
            refine lv_iconst (v := 5) hx hb dX12_next0_199 (by decide) ?_
            obtain ⟨j_208, ej_208, hf⟩ := z_nm hf
            have J_208 : ∀ (x_33 : Int32) (S_34 : zSt) (H : Heap) (locs : List Loc) (ls : Array Slot), j_208 x_33 S_34 = some ((), So) → va_P D vwCl (zM cy ad S_34) H → va_S A s.heap H locs → lv_has ls 3 [] → W p l e ({ frames := 7, cells := 0, slots := 0, locals := 148 }) s m ([.ref (ad 0)] : List Value).toArray below meth c H locs 0 0 Q (F0 m 208 ls [.int x_33, .ref (ad 0)]) := by
              intro x_33 S_34 H locs ls hf hP hS hl
              have hf := z_e2 ej_208 hf
              refine va_put (D := D) (ci := 12) (v := .int x_33) (ty := .int) (C := RX12) (T := TX12) (N := 36) hx hb hts k0 tyX12 tyX12_ok nmX12 hown hK hP (hD S_34) hS 0 (zM_0 cy ad S_34) rfl 14 (by decide) k3 (fun _ h9 => h9) rfl (tyX12_ok 14 (by decide)) rfl rfl (Nat.le_of_ble_eq_true rfl) dX12_next0_208 (fun H locs hP _ hS => ?_)
              obtain ⟨S_35, eS_35, hf⟩ := z_nm hf
              have hP := zW_putI hP eS_35 (by decide) rfl
              refine lv_goto (tgt := 306) hx hb dX12_next0_211 (by decide) ?_
              exact J_306  S_35 _ _ _ hf hP hS (lv_sub hl [] rfl)
            refine lv_icmp_ge (tgt := 207) hx hb dX12_next0_200 (by decide) (fun c_36 => ?_) (fun c_36 => ?_)
            · have hf := z_it c_36 hf
              refine lv_iconst (v := 1) hx hb dX12_next0_207 (by decide) ?_
              exact J_208 (1 : Int32) S_32 _ _ _ hf hP hS (lv_sub hl [] rfl)
            · have hf := z_if c_36 hf
              refine lv_iconst (v := 2) hx hb dX12_next0_203 (by decide) ?_
              refine lv_goto (tgt := 208) hx hb dX12_next0_204 (by decide) ?_
              exact J_208 (2 : Int32) S_32 _ _ _ hf hP hS (lv_sub hl [] rfl)
          have L_126 : ∀ (n_126 : Nat) (S_37 : zSt) (H : Heap) (locs : List Loc) (ls : Array Slot), fm_next0_L126 j_189 n_126  S_37 = some ((), So) → va_P D vwCl (zM cy ad S_37) H → va_S A s.heap H locs → lv_has ls 3 [(0, .ref (ad 0))] → W p l e ({ frames := 7, cells := 0, slots := 0, locals := 148 }) s m ([.ref (ad 0)] : List Value).toArray below meth c H locs 0 0 Q (F0 m 126 ls []) := by
            intro n_126
            induction n_126 with
            | zero =>
              intro  S_37 H locs ls hf hP hS hl
              exact z_no hf
            | succ n_126 ih_126 =>
              intro  S_37 H locs ls hf hP hS hl
              rw [fm_next0_L126] at hf
              refine lv_aload_n hx hb dX12_next0_126 rfl (lv_at hl 0 rfl) ?_
              refine lv_aload_n hx hb dX12_next0_127 rfl (lv_at hl 0 rfl) ?_
              refine va_get (D := D) (ci := 12) (v := .int (S_37.1 0 13)) (C := RX12) (T := TX12) (N := 36) hx hb hts k0 hown hK hP 0 (zM_0 cy ad S_37) rfl 13 (by decide) k1 (fun _ h9 => h9) rfl dX12_next0_128 ?_
              obtain ⟨r_38, S_39, h_40, hf⟩ := z_bd hf
              refine z_cVI (As := [.int (S_37.1 0 13)]) (rest := []) X hK hE hD hA hP hS (cm_see l D K cy ad S_37 _ _ _ h_40) (cwV 1 hts (z_gV wt_5_227 wt_5_229 wp_46 wt_1_13 wt_5_230) rfl rfl rfl ⟨rfl, yd_yX12_see⟩ ⟨Nat.le_of_ble_eq_true rfl, Nat.le_of_ble_eq_true rfl⟩) (va_recv hK hP (ci := 12) (q0 := 0) rfl (zM_0 cy ad S_37)) hl.1 rfl rfl (Nat.le_of_ble_eq_true rfl) dX12_next0_131 (fun H locs hP hS => ?_)
              obtain ⟨r_41, S_42, h_43, hf⟩ := z_bd hf
              refine z_cSI (As := [.int r_38]) (rest := []) X hK hE hD hA hP hS (cm_isDigit l D K cy ad S_39 _ _ _ h_43) (va_cwS 1 hts (z_gS wt_6_23 wt_6_24 wt_1_13 wt_6_25) rfl rfl rfl yd_yX12_isDigit ⟨Nat.le_of_ble_eq_true rfl, Nat.le_of_ble_eq_true rfl⟩) hl.1 rfl rfl (Nat.le_of_ble_eq_true rfl) dX12_next0_134 (fun H locs hP hS => ?_)
              refine lv_if_eq (tgt := 189) hx hb dX12_next0_137 (by decide) (fun c_51 => ?_) (fun c_51 => ?_)
              · have hf := z_it c_51 hf
                exact J_189  S_42 _ _ _ hf hP hS (lv_sub hl [0] rfl)
              · have hf := z_if c_51 hf
                refine lv_aload_n hx hb dX12_next0_140 rfl (lv_at hl 0 rfl) ?_
                refine va_get (D := D) (ci := 12) (v := .int (S_42.1 0 13)) (C := RX12) (T := TX12) (N := 36) hx hb hts k0 hown hK hP 0 (zM_0 cy ad S_42) rfl 13 (by decide) k1 (fun _ h9 => h9) rfl dX12_next0_141 ?_
                refine lv_aload_n hx hb dX12_next0_144 rfl (lv_at hl 0 rfl) ?_
                refine va_get (D := D) (ci := 12) (v := .int (S_42.1 0 15)) (C := RX12) (T := TX12) (N := 36) hx hb hts k0 hown hK hP 0 (zM_0 cy ad S_42) rfl 15 (by decide) k2 (fun _ h9 => h9) rfl dX12_next0_145 ?_
                refine lv_iconst (v := 4) hx hb dX12_next0_148 (by decide) ?_
                refine lv_iadd hx hb dX12_next0_149 ?_
                obtain ⟨j_176, ej_176, hf⟩ := z_nm hf
                have J_176 : ∀ (S_44 : zSt) (H : Heap) (locs : List Loc) (ls : Array Slot), j_176  S_44 = some ((), So) → va_P D vwCl (zM cy ad S_44) H → va_S A s.heap H locs → lv_has ls 3 [(0, .ref (ad 0))] → W p l e ({ frames := 7, cells := 0, slots := 0, locals := 148 }) s m ([.ref (ad 0)] : List Value).toArray below meth c H locs 0 0 Q (F0 m 176 ls []) := by
                  intro  S_44 H locs ls hf hP hS hl
                  have hf := z_e1 ej_176 hf
                  refine lv_aload_n hx hb dX12_next0_176 rfl (lv_at hl 0 rfl) ?_
                  refine lv_dup hx hb dX12_next0_177 rfl ?_
                  refine va_get (D := D) (ci := 12) (v := .int (S_44.1 0 13)) (C := RX12) (T := TX12) (N := 36) hx hb hts k0 hown hK hP 0 (zM_0 cy ad S_44) rfl 13 (by decide) k1 (fun _ h9 => h9) rfl dX12_next0_178 ?_
                  refine lv_iconst (v := 1) hx hb dX12_next0_181 (by decide) ?_
                  refine lv_iadd hx hb dX12_next0_182 ?_
                  refine va_put (D := D) (ci := 12) (v := .int ((S_44.1 0 13) + (1 : Int32))) (ty := .int) (C := RX12) (T := TX12) (N := 36) hx hb hts k0 tyX12 tyX12_ok nmX12 hown hK hP (hD S_44) hS 0 (zM_0 cy ad S_44) rfl 13 (by decide) k1 (fun _ h9 => h9) rfl (tyX12_ok 13 (by decide)) rfl rfl (Nat.le_of_ble_eq_true rfl) dX12_next0_183 (fun H locs hP _ hS => ?_)
                  obtain ⟨S_45, eS_45, hf⟩ := z_nm hf
                  have hP := zW_putI hP eS_45 (by decide) rfl
                  refine lv_goto (tgt := 126) hx hb dX12_next0_186 (by decide) ?_
                  exact ih_126  S_45 _ _ _ hf hP hS (lv_sub hl [0] rfl)
                refine lv_icmp_ge (tgt := 176) hx hb dX12_next0_150 (by decide) (fun c_50 => ?_) (fun c_50 => ?_)
                · have hf := z_it c_50 hf
                  exact J_176  S_42 _ _ _ hf hP hS (lv_sub hl [0] rfl)
                · have hf := z_if c_50 hf
                  refine lv_aload_n hx hb dX12_next0_153 rfl (lv_at hl 0 rfl) ?_
                  refine lv_bipush (v := 10) hx hb dX12_next0_154 (by decide) ?_
                  refine lv_aload_n hx hb dX12_next0_156 rfl (lv_at hl 0 rfl) ?_
                  refine va_get (D := D) (ci := 12) (v := .int (S_42.1 0 16)) (C := RX12) (T := TX12) (N := 36) hx hb hts k0 hown hK hP 0 (zM_0 cy ad S_42) rfl 16 (by decide) k4 (fun _ h9 => h9) rfl dX12_next0_157 ?_
                  refine lv_imul hx hb dX12_next0_160 ?_
                  refine lv_aload_n hx hb dX12_next0_161 rfl (lv_at hl 0 rfl) ?_
                  refine lv_aload_n hx hb dX12_next0_162 rfl (lv_at hl 0 rfl) ?_
                  refine va_get (D := D) (ci := 12) (v := .int (S_42.1 0 13)) (C := RX12) (T := TX12) (N := 36) hx hb hts k0 hown hK hP 0 (zM_0 cy ad S_42) rfl 13 (by decide) k1 (fun _ h9 => h9) rfl dX12_next0_163 ?_
                  obtain ⟨r_46, S_47, h_48, hf⟩ := z_bd hf
                  refine z_cVI (As := [.int (S_42.1 0 13)]) (rest := [.int ((10 : Int32) * (S_42.1 0 16)), .ref (ad 0)]) X hK hE hD hA hP hS (cm_see l D K cy ad S_42 _ _ _ h_48) (cwV 1 hts (z_gV wt_5_227 wt_5_229 wp_46 wt_1_13 wt_5_230) rfl rfl rfl ⟨rfl, yd_yX12_see⟩ ⟨Nat.le_of_ble_eq_true rfl, Nat.le_of_ble_eq_true rfl⟩) (va_recv hK hP (ci := 12) (q0 := 0) rfl (zM_0 cy ad S_42)) hl.1 rfl rfl (Nat.le_of_ble_eq_true rfl) dX12_next0_166 (fun H locs hP hS => ?_)
                  refine lv_iadd hx hb dX12_next0_169 ?_
                  refine lv_bipush (v := 48) hx hb dX12_next0_170 (by decide) ?_
                  refine lv_isub hx hb dX12_next0_172 ?_
                  refine va_put (D := D) (ci := 12) (v := .int ((((10 : Int32) * (S_42.1 0 16)) + r_46) - (48 : Int32))) (ty := .int) (C := RX12) (T := TX12) (N := 36) hx hb hts k0 tyX12 tyX12_ok nmX12 hown hK hP (hD S_47) hS 0 (zM_0 cy ad S_47) rfl 16 (by decide) k4 (fun _ h9 => h9) rfl (tyX12_ok 16 (by decide)) rfl rfl (Nat.le_of_ble_eq_true rfl) dX12_next0_173 (fun H locs hP _ hS => ?_)
                  obtain ⟨S_49, eS_49, hf⟩ := z_nm hf
                  have hP := zW_putI hP eS_49 (by decide) rfl
                  exact J_176  S_49 _ _ _ hf hP hS (lv_sub hl [0] rfl)
          exact L_126 zFU  S_31 _ _ _ hf hP hS (lv_sub hl [1] rfl)
      · have hf := z_if c_67 hf
        obtain ⟨j_103, ej_103, hf⟩ := z_nm hf
        have J_103 : ∀ (S_53 : zSt) (H : Heap) (locs : List Loc) (ls : Array Slot), j_103  S_53 = some ((), So) → va_P D vwCl (zM cy ad S_53) H → va_S A s.heap H locs → lv_has ls 3 [(0, .ref (ad 0))] → W p l e ({ frames := 7, cells := 0, slots := 0, locals := 148 }) s m ([.ref (ad 0)] : List Value).toArray below meth c H locs 0 0 Q (F0 m 103 ls []) := by
          intro  S_53 H locs ls hf hP hS hl
          have hf := z_e1 ej_103 hf
          refine lv_aload_n hx hb dX12_next0_103 rfl (lv_at hl 0 rfl) ?_
          refine lv_aload_n hx hb dX12_next0_104 rfl (lv_at hl 0 rfl) ?_
          obtain ⟨r_54, S_55, h_56, hf⟩ := z_bd hf
          refine z_cVI (As := []) (rest := [.ref (ad 0)]) X hK hE hD hA hP hS (cm_word l D K cy ad S_53 _ _ h_56) (cwV 0 hts (z_gV wt_5_234 wt_5_236 wp_47 wt_1_13 wt_5_237) rfl rfl rfl ⟨rfl, yd_yX12_word⟩ ⟨Nat.le_of_ble_eq_true rfl, Nat.le_of_ble_eq_true rfl⟩) (va_recv hK hP (ci := 12) (q0 := 0) rfl (zM_0 cy ad S_53)) hl.1 rfl rfl (Nat.le_of_ble_eq_true rfl) dX12_next0_105 (fun H locs hP hS => ?_)
          refine va_put (D := D) (ci := 12) (v := .int r_54) (ty := .int) (C := RX12) (T := TX12) (N := 36) hx hb hts k0 tyX12 tyX12_ok nmX12 hown hK hP (hD S_55) hS 0 (zM_0 cy ad S_55) rfl 14 (by decide) k3 (fun _ h9 => h9) rfl (tyX12_ok 14 (by decide)) rfl rfl (Nat.le_of_ble_eq_true rfl) dX12_next0_108 (fun H locs hP _ hS => ?_)
          obtain ⟨S_57, eS_57, hf⟩ := z_nm hf
          have hP := zW_putI hP eS_57 (by decide) rfl
          refine lv_goto (tgt := 306) hx hb dX12_next0_111 (by decide) ?_
          exact J_306  S_57 _ _ _ hf hP hS (lv_sub hl [] rfl)
        have L_76 : ∀ (n_76 : Nat) (S_58 : zSt) (H : Heap) (locs : List Loc) (ls : Array Slot), fm_next0_L76 j_103 n_76  S_58 = some ((), So) → va_P D vwCl (zM cy ad S_58) H → va_S A s.heap H locs → lv_has ls 3 [(0, .ref (ad 0))] → W p l e ({ frames := 7, cells := 0, slots := 0, locals := 148 }) s m ([.ref (ad 0)] : List Value).toArray below meth c H locs 0 0 Q (F0 m 76 ls []) := by
          intro n_76
          induction n_76 with
          | zero =>
            intro  S_58 H locs ls hf hP hS hl
            exact z_no hf
          | succ n_76 ih_76 =>
            intro  S_58 H locs ls hf hP hS hl
            rw [fm_next0_L76] at hf
            refine lv_aload_n hx hb dX12_next0_76 rfl (lv_at hl 0 rfl) ?_
            refine lv_aload_n hx hb dX12_next0_77 rfl (lv_at hl 0 rfl) ?_
            refine va_get (D := D) (ci := 12) (v := .int (S_58.1 0 13)) (C := RX12) (T := TX12) (N := 36) hx hb hts k0 hown hK hP 0 (zM_0 cy ad S_58) rfl 13 (by decide) k1 (fun _ h9 => h9) rfl dX12_next0_78 ?_
            obtain ⟨r_59, S_60, h_61, hf⟩ := z_bd hf
            refine z_cVI (As := [.int (S_58.1 0 13)]) (rest := []) X hK hE hD hA hP hS (cm_see l D K cy ad S_58 _ _ _ h_61) (cwV 1 hts (z_gV wt_5_227 wt_5_229 wp_46 wt_1_13 wt_5_230) rfl rfl rfl ⟨rfl, yd_yX12_see⟩ ⟨Nat.le_of_ble_eq_true rfl, Nat.le_of_ble_eq_true rfl⟩) (va_recv hK hP (ci := 12) (q0 := 0) rfl (zM_0 cy ad S_58)) hl.1 rfl rfl (Nat.le_of_ble_eq_true rfl) dX12_next0_81 (fun H locs hP hS => ?_)
            obtain ⟨r_62, S_63, h_64, hf⟩ := z_bd hf
            refine z_cSI (As := [.int r_59]) (rest := []) X hK hE hD hA hP hS (cm_isLetter l D K cy ad S_60 _ _ _ h_64) (va_cwS 1 hts (z_gS wt_5_231 wt_5_232 wt_1_13 wt_5_233) rfl rfl rfl yd_yX12_isLetter ⟨Nat.le_of_ble_eq_true rfl, Nat.le_of_ble_eq_true rfl⟩) hl.1 rfl rfl (Nat.le_of_ble_eq_true rfl) dX12_next0_84 (fun H locs hP hS => ?_)
            refine lv_if_eq (tgt := 103) hx hb dX12_next0_87 (by decide) (fun c_66 => ?_) (fun c_66 => ?_)
            · have hf := z_it c_66 hf
              exact J_103  S_63 _ _ _ hf hP hS (lv_sub hl [0] rfl)
            · have hf := z_if c_66 hf
              refine lv_aload_n hx hb dX12_next0_90 rfl (lv_at hl 0 rfl) ?_
              refine lv_dup hx hb dX12_next0_91 rfl ?_
              refine va_get (D := D) (ci := 12) (v := .int (S_63.1 0 13)) (C := RX12) (T := TX12) (N := 36) hx hb hts k0 hown hK hP 0 (zM_0 cy ad S_63) rfl 13 (by decide) k1 (fun _ h9 => h9) rfl dX12_next0_92 ?_
              refine lv_iconst (v := 1) hx hb dX12_next0_95 (by decide) ?_
              refine lv_iadd hx hb dX12_next0_96 ?_
              refine va_put (D := D) (ci := 12) (v := .int ((S_63.1 0 13) + (1 : Int32))) (ty := .int) (C := RX12) (T := TX12) (N := 36) hx hb hts k0 tyX12 tyX12_ok nmX12 hown hK hP (hD S_63) hS 0 (zM_0 cy ad S_63) rfl 13 (by decide) k1 (fun _ h9 => h9) rfl (tyX12_ok 13 (by decide)) rfl rfl (Nat.le_of_ble_eq_true rfl) dX12_next0_97 (fun H locs hP _ hS => ?_)
              obtain ⟨S_65, eS_65, hf⟩ := z_nm hf
              have hP := zW_putI hP eS_65 (by decide) rfl
              refine lv_goto (tgt := 76) hx hb dX12_next0_100 (by decide) ?_
              exact ih_76  S_65 _ _ _ hf hP hS (lv_sub hl [0] rfl)
        exact L_76 zFU  S_8 _ _ _ hf hP hS (lv_sub hl [1] rfl)
    · have hf := z_it c_69 hf
      refine lv_aload_n hx hb dX12_next0_61 rfl (lv_at hl 1 rfl) ?_
      refine lv_iconst (v := 0) hx hb dX12_next0_62 (by decide) ?_
      refine va_put (D := D) (ci := 12) (v := .int (0 : Int32)) (ty := .int) (C := RX12) (T := TX12) (N := 36) hx hb hts k0 tyX12 tyX12_ok nmX12 hown hK hP (hD S_4) hS 0 (zM_0 cy ad S_4) rfl 14 (by decide) k3 (fun _ h9 => h9) rfl (tyX12_ok 14 (by decide)) rfl rfl (Nat.le_of_ble_eq_true rfl) dX12_next0_63 (fun H locs hP _ hS => ?_)
      obtain ⟨S_68, eS_68, hf⟩ := z_nm hf
      have hP := zW_putI hP eS_68 (by decide) rfl
      refine lv_goto (tgt := 306) hx hb dX12_next0_66 (by decide) ?_
      exact J_306  S_68 _ _ _ hf hP hS (lv_sub hl [] rfl)
  have L_0 : ∀ (n_0 : Nat) (S_70 : zSt) (H : Heap) (locs : List Loc) (ls : Array Slot), fm_next0_L0 j_39 n_0  S_70 = some ((), So) → va_P D vwCl (zM cy ad S_70) H → va_S A s.heap H locs → lv_has ls 3 [(0, .ref (ad 0))] → W p l e ({ frames := 7, cells := 0, slots := 0, locals := 148 }) s m ([.ref (ad 0)] : List Value).toArray below meth c H locs 0 0 Q (F0 m 0 ls []) := by
    intro n_0
    induction n_0 with
    | zero =>
      intro  S_70 H locs ls hf hP hS hl
      exact z_no hf
    | succ n_0 ih_0 =>
      intro  S_70 H locs ls hf hP hS hl
      rw [fm_next0_L0] at hf
      refine lv_aload_n hx hb dX12_next0_0 rfl (lv_at hl 0 rfl) ?_
      refine lv_aload_n hx hb dX12_next0_1 rfl (lv_at hl 0 rfl) ?_
      refine va_get (D := D) (ci := 12) (v := .int (S_70.1 0 13)) (C := RX12) (T := TX12) (N := 36) hx hb hts k0 hown hK hP 0 (zM_0 cy ad S_70) rfl 13 (by decide) k1 (fun _ h9 => h9) rfl dX12_next0_2 ?_
      obtain ⟨r_71, S_72, h_73, hf⟩ := z_bd hf
      refine z_cVI (As := [.int (S_70.1 0 13)]) (rest := []) X hK hE hD hA hP hS (cm_see l D K cy ad S_70 _ _ _ h_73) (cwV 1 hts (z_gV wt_5_227 wt_5_229 wp_46 wt_1_13 wt_5_230) rfl rfl rfl ⟨rfl, yd_yX12_see⟩ ⟨Nat.le_of_ble_eq_true rfl, Nat.le_of_ble_eq_true rfl⟩) (va_recv hK hP (ci := 12) (q0 := 0) rfl (zM_0 cy ad S_70)) hl.1 rfl rfl (Nat.le_of_ble_eq_true rfl) dX12_next0_5 (fun H locs hP hS => ?_)
      refine lv_bipush (v := 32) hx hb dX12_next0_8 (by decide) ?_
      obtain ⟨j_26, ej_26, hf⟩ := z_nm hf
      have J_26 : ∀ (S_74 : zSt) (H : Heap) (locs : List Loc) (ls : Array Slot), j_26  S_74 = some ((), So) → va_P D vwCl (zM cy ad S_74) H → va_S A s.heap H locs → lv_has ls 3 [(0, .ref (ad 0))] → W p l e ({ frames := 7, cells := 0, slots := 0, locals := 148 }) s m ([.ref (ad 0)] : List Value).toArray below meth c H locs 0 0 Q (F0 m 26 ls []) := by
        intro  S_74 H locs ls hf hP hS hl
        have hf := z_e1 ej_26 hf
        refine lv_aload_n hx hb dX12_next0_26 rfl (lv_at hl 0 rfl) ?_
        refine lv_dup hx hb dX12_next0_27 rfl ?_
        refine va_get (D := D) (ci := 12) (v := .int (S_74.1 0 13)) (C := RX12) (T := TX12) (N := 36) hx hb hts k0 hown hK hP 0 (zM_0 cy ad S_74) rfl 13 (by decide) k1 (fun _ h9 => h9) rfl dX12_next0_28 ?_
        refine lv_iconst (v := 1) hx hb dX12_next0_31 (by decide) ?_
        refine lv_iadd hx hb dX12_next0_32 ?_
        refine va_put (D := D) (ci := 12) (v := .int ((S_74.1 0 13) + (1 : Int32))) (ty := .int) (C := RX12) (T := TX12) (N := 36) hx hb hts k0 tyX12 tyX12_ok nmX12 hown hK hP (hD S_74) hS 0 (zM_0 cy ad S_74) rfl 13 (by decide) k1 (fun _ h9 => h9) rfl (tyX12_ok 13 (by decide)) rfl rfl (Nat.le_of_ble_eq_true rfl) dX12_next0_33 (fun H locs hP _ hS => ?_)
        obtain ⟨S_75, eS_75, hf⟩ := z_nm hf
        have hP := zW_putI hP eS_75 (by decide) rfl
        refine lv_goto (tgt := 0) hx hb dX12_next0_36 (by decide) ?_
        exact ih_0  S_75 _ _ _ hf hP hS (lv_sub hl [0] rfl)
      refine lv_icmp_eq (tgt := 26) hx hb dX12_next0_10 (by decide) (fun c_80 => ?_) (fun c_80 => ?_)
      · have hf := z_it c_80 hf
        exact J_26  S_72 _ _ _ hf hP hS (lv_sub hl [0] rfl)
      · have hf := z_if c_80 hf
        refine lv_aload_n hx hb dX12_next0_13 rfl (lv_at hl 0 rfl) ?_
        refine lv_aload_n hx hb dX12_next0_14 rfl (lv_at hl 0 rfl) ?_
        refine va_get (D := D) (ci := 12) (v := .int (S_72.1 0 13)) (C := RX12) (T := TX12) (N := 36) hx hb hts k0 hown hK hP 0 (zM_0 cy ad S_72) rfl 13 (by decide) k1 (fun _ h9 => h9) rfl dX12_next0_15 ?_
        obtain ⟨r_76, S_77, h_78, hf⟩ := z_bd hf
        refine z_cVI (As := [.int (S_72.1 0 13)]) (rest := []) X hK hE hD hA hP hS (cm_see l D K cy ad S_72 _ _ _ h_78) (cwV 1 hts (z_gV wt_5_227 wt_5_229 wp_46 wt_1_13 wt_5_230) rfl rfl rfl ⟨rfl, yd_yX12_see⟩ ⟨Nat.le_of_ble_eq_true rfl, Nat.le_of_ble_eq_true rfl⟩) (va_recv hK hP (ci := 12) (q0 := 0) rfl (zM_0 cy ad S_72)) hl.1 rfl rfl (Nat.le_of_ble_eq_true rfl) dX12_next0_18 (fun H locs hP hS => ?_)
        refine lv_bipush (v := 10) hx hb dX12_next0_21 (by decide) ?_
        refine lv_icmp_ne (tgt := 39) hx hb dX12_next0_23 (by decide) (fun c_79 => ?_) (fun c_79 => ?_)
        · have hf := z_if c_79 hf
          exact J_39  S_77 _ _ _ hf hP hS (lv_sub hl [0] rfl)
        · have hf := z_it c_79 hf
          exact J_26  S_77 _ _ _ hf hP hS (lv_sub hl [0] rfl)
  exact L_0 zFU  S_0 _ _ _ hf hP hS (lv_sub hl [0] rfl)
def fm_bad (S_0 : zSt) (a_1 : Int32) : Option (Int32 × zSt) :=
  znm (zpI S_0 0 17 a_1) fun S_1 =>
  znm (zpI S_1 0 18 (S_1.1 0 15)) fun S_2 =>
  some ((0 : Int32), S_2)
set_option maxHeartbeats 4000000 in
set_option maxRecDepth 100000 in
theorem cm_bad (l : Launch) (D : va_G) (K : (Nat → Nat) × (Nat → Nat)) (cy : Nat → ClassId) (ad : Nat → Nat) (S_0 : zSt) (a_1 : Int32) (ro : Int32) (So : zSt) (hf : fm_bad S_0 a_1 = some (ro, So)) : zMI l yX12_bad (zws yX12_bad cX12_bad 2 (Option.some .boolean)) ({ frames := 0, cells := 0, slots := 0, locals := 0 }) D (zTy cy) K (zM cy ad) [.ref (ad 0), .int a_1] S_0 ro So := by
  refine z_metZ (own := RX12) (lv := [(0, .ref (ad 0)), (1, .int a_1)]) (by decide) rfl rfl (Nat.le_of_ble_eq_true rfl) rfl ?_
  intro p e s m below meth c A Q X hK hE hD hA hret hP hS ls hl
  obtain ⟨hx, hb, hml, hown, hts⟩ := id X
  have k0 := (fun w h => List.mem_cons_of_mem _ (zFX12 w h) : ∀ w ∈ u_ws RX12 TX12 36, w ∈ zws yX12_bad cX12_bad 2 (Option.some .boolean))
  have k1 := hts _ (List.mem_cons_of_mem _ wt_5_112)
  have k2 := hts _ (List.mem_cons_of_mem _ wt_5_110)
  have k3 := hts _ (List.mem_cons_of_mem _ wt_5_113)
  refine lv_aload_n hx hb dX12_bad_0 rfl (lv_at hl 0 rfl) ?_
  refine lv_iload_n hx hb dX12_bad_1 rfl (lv_at hl 1 rfl) ?_
  refine va_put (D := D) (ci := 12) (v := .int a_1) (ty := .int) (C := RX12) (T := TX12) (N := 36) hx hb hts k0 tyX12 tyX12_ok nmX12 hown hK hP (hD S_0) hS 0 (zM_0 cy ad S_0) rfl 17 (by decide) k1 (fun _ h9 => h9) rfl (tyX12_ok 17 (by decide)) rfl rfl (Nat.le_of_ble_eq_true rfl) dX12_bad_2 (fun H locs hP _ hS => ?_)
  obtain ⟨S_1, eS_1, hf⟩ := z_nm hf
  have hP := zW_putI hP eS_1 (by decide) rfl
  refine lv_aload_n hx hb dX12_bad_5 rfl (lv_at hl 0 rfl) ?_
  refine lv_aload_n hx hb dX12_bad_6 rfl (lv_at hl 0 rfl) ?_
  refine va_get (D := D) (ci := 12) (v := .int (S_1.1 0 15)) (C := RX12) (T := TX12) (N := 36) hx hb hts k0 hown hK hP 0 (zM_0 cy ad S_1) rfl 15 (by decide) k2 (fun _ h9 => h9) rfl dX12_bad_7 ?_
  refine va_put (D := D) (ci := 12) (v := .int (S_1.1 0 15)) (ty := .int) (C := RX12) (T := TX12) (N := 36) hx hb hts k0 tyX12 tyX12_ok nmX12 hown hK hP (hD S_1) hS 0 (zM_0 cy ad S_1) rfl 18 (by decide) k3 (fun _ h9 => h9) rfl (tyX12_ok 18 (by decide)) rfl rfl (Nat.le_of_ble_eq_true rfl) dX12_bad_10 (fun H locs hP _ hS => ?_)
  obtain ⟨S_2, eS_2, hf⟩ := z_nm hf
  have hP := zW_putI hP eS_2 (by decide) rfl
  refine lv_iconst (v := 0) hx hb dX12_bad_13 (by decide) ?_
  obtain ⟨h1, h2⟩ := z_s2 hf
  subst h1 h2
  exact hret _ _ _ _ rfl hP hS dX12_bad_14
def fm_need (S_0 : zSt) (a_1 : Int32) : Option (Int32 × zSt) :=
  if (S_0.1 0 14) = a_1 then (
  zbd (fm_next0 S_0) fun _ S_2 =>
  some ((1 : Int32), S_2)) else (
  zbd (fm_bad S_0 (1 : Int32)) fun r_4 S_5 =>
  zck (zbo r_4) <|
  some (r_4, S_5))
set_option maxHeartbeats 4000000 in
set_option maxRecDepth 100000 in
theorem cm_need (l : Launch) (D : va_G) (K : (Nat → Nat) × (Nat → Nat)) (cy : Nat → ClassId) (ad : Nat → Nat) (S_0 : zSt) (a_1 : Int32) (ro : Int32) (So : zSt) (hf : fm_need S_0 a_1 = some (ro, So)) : zMI l yX12_need (zws yX12_need cX12_need 2 (Option.some .boolean)) ({ frames := 8, cells := 0, slots := 0, locals := 170 }) D (zTy cy) K (zM cy ad) [.ref (ad 0), .int a_1] S_0 ro So := by
  refine z_metZ (own := RX12) (lv := [(0, .ref (ad 0)), (1, .int a_1)]) (by decide) rfl rfl (Nat.le_of_ble_eq_true rfl) rfl ?_
  intro p e s m below meth c A Q X hK hE hD hA hret hP hS ls hl
  obtain ⟨hx, hb, hml, hown, hts⟩ := id X
  have k0 := (fun w h => List.mem_cons_of_mem _ (zFX12 w h) : ∀ w ∈ u_ws RX12 TX12 36, w ∈ zws yX12_need cX12_need 2 (Option.some .boolean))
  have k1 := hts _ (List.mem_cons_of_mem _ wt_5_109)
  refine lv_aload_n hx hb dX12_need_0 rfl (lv_at hl 0 rfl) ?_
  refine va_get (D := D) (ci := 12) (v := .int (S_0.1 0 14)) (C := RX12) (T := TX12) (N := 36) hx hb hts k0 hown hK hP 0 (zM_0 cy ad S_0) rfl 14 (by decide) k1 (fun _ h9 => h9) rfl dX12_need_1 ?_
  refine lv_iload_n hx hb dX12_need_4 rfl (lv_at hl 1 rfl) ?_
  refine lv_icmp_eq (tgt := 14) hx hb dX12_need_5 (by decide) (fun c_8 => ?_) (fun c_8 => ?_)
  · have hf := z_it c_8 hf
    refine lv_aload_n hx hb dX12_need_14 rfl (lv_at hl 0 rfl) ?_
    obtain ⟨r_1, S_2, h_3, hf⟩ := z_bd hf
    refine z_cVV (As := []) (rest := []) X hK hE hD hA hP hS (cm_next0 l D K cy ad S_0 _ h_3) (cwV 0 hts (z_gV wt_5_223 wt_5_225 wp_45 wt_1_13 wt_5_226) rfl rfl rfl ⟨rfl, yd_yX12_next0⟩ ⟨Nat.le_of_ble_eq_true rfl, Nat.le_of_ble_eq_true rfl⟩) (va_recv hK hP (ci := 12) (q0 := 0) rfl (zM_0 cy ad S_0)) hl.1 rfl rfl (Nat.le_of_ble_eq_true rfl) dX12_need_15 (fun H locs hP hS => ?_)
    refine lv_iconst (v := 1) hx hb dX12_need_18 (by decide) ?_
    obtain ⟨h1, h2⟩ := z_s2 hf
    subst h1 h2
    exact hret _ _ _ _ rfl hP hS dX12_need_19
  · have hf := z_if c_8 hf
    refine lv_aload_n hx hb dX12_need_8 rfl (lv_at hl 0 rfl) ?_
    refine lv_iconst (v := 1) hx hb dX12_need_9 (by decide) ?_
    obtain ⟨r_4, S_5, h_6, hf⟩ := z_bd hf
    refine z_cVI (As := [.int (1 : Int32)]) (rest := []) X hK hE hD hA hP hS (cm_bad l D K cy ad S_0 _ _ _ h_6) (cwV 1 hts (z_gV wt_6_30 wt_6_32 wp_51 wt_1_13 wt_6_33) rfl rfl rfl ⟨rfl, yd_yX12_bad⟩ ⟨Nat.le_of_ble_eq_true rfl, Nat.le_of_ble_eq_true rfl⟩) (va_recv hK hP (ci := 12) (q0 := 0) rfl (zM_0 cy ad S_0)) hl.1 rfl rfl (Nat.le_of_ble_eq_true rfl) dX12_need_10 (fun H locs hP hS => ?_)
    obtain ⟨h_7, hf⟩ := z_bo hf
    obtain ⟨h1, h2⟩ := z_s2 hf
    subst h1 h2
    exact hret _ _ _ _ h_7 hP hS dX12_need_13
def fm_lay (S_0 : zSt) (a_1 : Int32) (a_2 : Int32) : Option (Unit × zSt) :=
  zck (zix ((2 : Int32) * (S_0.1 0 11)) 820) <|
  znm (zpI S_0 5 (((2 : Int32) * (S_0.1 0 11)).toNatClampNeg) a_1) fun S_2 =>
  zck (zix (((2 : Int32) * (S_2.1 0 11)) + (1 : Int32)) 820) <|
  znm (zpI S_2 5 ((((2 : Int32) * (S_2.1 0 11)) + (1 : Int32)).toNatClampNeg) a_2) fun S_4 =>
  znm (zpI S_4 0 11 ((S_4.1 0 11) + (1 : Int32))) fun S_5 =>
  some ((), S_5)
set_option maxHeartbeats 4000000 in
set_option maxRecDepth 100000 in
theorem cm_lay (l : Launch) (D : va_G) (K : (Nat → Nat) × (Nat → Nat)) (cy : Nat → ClassId) (ad : Nat → Nat) (S_0 : zSt) (a_1 : Int32) (a_2 : Int32) (So : zSt) (hf : fm_lay S_0 a_1 a_2 = some ((), So)) : zMV l yX12_lay (zws yX12_lay cX12_lay 3 none) ({ frames := 0, cells := 0, slots := 0, locals := 0 }) D (zTy cy) K (zM cy ad) [.ref (ad 0), .int a_1, .int a_2] S_0 So := by
  refine z_metV (own := RX12) (lv := [(0, .ref (ad 0)), (1, .int a_1), (2, .int a_2)]) (by decide) rfl rfl (Nat.le_of_ble_eq_true rfl) rfl ?_
  intro p e s m below meth c A Q X hK hE hD hA hret hP hS ls hl
  obtain ⟨hx, hb, hml, hown, hts⟩ := id X
  have k0 := (fun w h => List.mem_cons_of_mem _ (zFX12 w h) : ∀ w ∈ u_ws RX12 TX12 36, w ∈ zws yX12_lay cX12_lay 3 none)
  have k1 := hts _ (List.mem_cons_of_mem _ wt_5_101)
  have k2 := hts _ (List.mem_cons_of_mem _ wt_5_106)
  refine lv_aload_n hx hb dX12_lay_0 rfl (lv_at hl 0 rfl) ?_
  refine va_get (D := D) (ci := 12) (v := .ref (ad 5)) (C := RX12) (T := TX12) (N := 36) hx hb hts k0 hown hK hP 0 (zM_0 cy ad S_0) rfl 6 (by decide) k1 (fun _ h9 => h9) rfl dX12_lay_1 ?_
  refine lv_iconst (v := 2) hx hb dX12_lay_4 (by decide) ?_
  refine lv_aload_n hx hb dX12_lay_5 rfl (lv_at hl 0 rfl) ?_
  refine va_get (D := D) (ci := 12) (v := .int (S_0.1 0 11)) (C := RX12) (T := TX12) (N := 36) hx hb hts k0 hown hK hP 0 (zM_0 cy ad S_0) rfl 11 (by decide) k2 (fun _ h9 => h9) rfl dX12_lay_6 ?_
  refine lv_imul hx hb dX12_lay_9 ?_
  refine lv_iload_n hx hb dX12_lay_10 rfl (lv_at hl 1 rfl) ?_
  obtain ⟨h_1, hf⟩ := z_ix hf
  refine z_iast hx hb hK hP (hD S_0) hS 5 0 (zM_5 cy ad S_0) rfl h_1 (k := (((2 : Int32) * (S_0.1 0 11)).toNatClampNeg)) rfl dX12_lay_11 (fun H locs hP hS => ?_)
  obtain ⟨S_2, eS_2, hf⟩ := z_nm hf
  have hP := zW_putI hP eS_2 (by decide) rfl
  refine lv_aload_n hx hb dX12_lay_12 rfl (lv_at hl 0 rfl) ?_
  refine va_get (D := D) (ci := 12) (v := .ref (ad 5)) (C := RX12) (T := TX12) (N := 36) hx hb hts k0 hown hK hP 0 (zM_0 cy ad S_2) rfl 6 (by decide) k1 (fun _ h9 => h9) rfl dX12_lay_13 ?_
  refine lv_iconst (v := 2) hx hb dX12_lay_16 (by decide) ?_
  refine lv_aload_n hx hb dX12_lay_17 rfl (lv_at hl 0 rfl) ?_
  refine va_get (D := D) (ci := 12) (v := .int (S_2.1 0 11)) (C := RX12) (T := TX12) (N := 36) hx hb hts k0 hown hK hP 0 (zM_0 cy ad S_2) rfl 11 (by decide) k2 (fun _ h9 => h9) rfl dX12_lay_18 ?_
  refine lv_imul hx hb dX12_lay_21 ?_
  refine lv_iconst (v := 1) hx hb dX12_lay_22 (by decide) ?_
  refine lv_iadd hx hb dX12_lay_23 ?_
  refine lv_iload_n hx hb dX12_lay_24 rfl (lv_at hl 2 rfl) ?_
  obtain ⟨h_3, hf⟩ := z_ix hf
  refine z_iast hx hb hK hP (hD S_2) hS 5 0 (zM_5 cy ad S_2) rfl h_3 (k := ((((2 : Int32) * (S_2.1 0 11)) + (1 : Int32)).toNatClampNeg)) rfl dX12_lay_25 (fun H locs hP hS => ?_)
  obtain ⟨S_4, eS_4, hf⟩ := z_nm hf
  have hP := zW_putI hP eS_4 (by decide) rfl
  refine lv_aload_n hx hb dX12_lay_26 rfl (lv_at hl 0 rfl) ?_
  refine lv_dup hx hb dX12_lay_27 rfl ?_
  refine va_get (D := D) (ci := 12) (v := .int (S_4.1 0 11)) (C := RX12) (T := TX12) (N := 36) hx hb hts k0 hown hK hP 0 (zM_0 cy ad S_4) rfl 11 (by decide) k2 (fun _ h9 => h9) rfl dX12_lay_28 ?_
  refine lv_iconst (v := 1) hx hb dX12_lay_31 (by decide) ?_
  refine lv_iadd hx hb dX12_lay_32 ?_
  refine va_put (D := D) (ci := 12) (v := .int ((S_4.1 0 11) + (1 : Int32))) (ty := .int) (C := RX12) (T := TX12) (N := 36) hx hb hts k0 tyX12 tyX12_ok nmX12 hown hK hP (hD S_4) hS 0 (zM_0 cy ad S_4) rfl 11 (by decide) k2 (fun _ h9 => h9) rfl (tyX12_ok 11 (by decide)) rfl rfl (Nat.le_of_ble_eq_true rfl) dX12_lay_33 (fun H locs hP _ hS => ?_)
  obtain ⟨S_5, eS_5, hf⟩ := z_nm hf
  have hP := zW_putI hP eS_5 (by decide) rfl
  obtain ⟨h1, h2⟩ := z_s2 hf
  subst h2
  exact hret _ _ _ _ hP hS dX12_lay_36
def fm_opens (S_0 : zSt) : Option (Int32 × zSt) :=
  if (S_0.1 0 20) = (8 : Int32) then (
  zbd (fm_bad S_0 (3 : Int32)) fun r_5 S_6 =>
  zck (zbo r_5) <|
  some (r_5, S_6)) else (
  znm (zpI S_0 0 20 ((S_0.1 0 20) + (1 : Int32))) fun S_1 =>
  zbd (fm_next0 S_1) fun _ S_3 =>
  some ((1 : Int32), S_3))
set_option maxHeartbeats 4000000 in
set_option maxRecDepth 100000 in
theorem cm_opens (l : Launch) (D : va_G) (K : (Nat → Nat) × (Nat → Nat)) (cy : Nat → ClassId) (ad : Nat → Nat) (S_0 : zSt) (ro : Int32) (So : zSt) (hf : fm_opens S_0 = some (ro, So)) : zMI l yX12_opens (zws yX12_opens cX12_opens 1 (Option.some .boolean)) ({ frames := 8, cells := 0, slots := 0, locals := 170 }) D (zTy cy) K (zM cy ad) [.ref (ad 0)] S_0 ro So := by
  refine z_metZ (own := RX12) (lv := [(0, .ref (ad 0))]) (by decide) rfl rfl (Nat.le_of_ble_eq_true rfl) rfl ?_
  intro p e s m below meth c A Q X hK hE hD hA hret hP hS ls hl
  obtain ⟨hx, hb, hml, hown, hts⟩ := id X
  have k0 := (fun w h => List.mem_cons_of_mem _ (zFX12 w h) : ∀ w ∈ u_ws RX12 TX12 36, w ∈ zws yX12_opens cX12_opens 1 (Option.some .boolean))
  have k1 := hts _ (List.mem_cons_of_mem _ wt_5_115)
  refine lv_aload_n hx hb dX12_opens_0 rfl (lv_at hl 0 rfl) ?_
  refine va_get (D := D) (ci := 12) (v := .int (S_0.1 0 20)) (C := RX12) (T := TX12) (N := 36) hx hb hts k0 hown hK hP 0 (zM_0 cy ad S_0) rfl 20 (by decide) k1 (fun _ h9 => h9) rfl dX12_opens_1 ?_
  refine lv_bipush (v := 8) hx hb dX12_opens_4 (by decide) ?_
  refine lv_icmp_ne (tgt := 15) hx hb dX12_opens_6 (by decide) (fun c_9 => ?_) (fun c_9 => ?_)
  · have hf := z_if c_9 hf
    refine lv_aload_n hx hb dX12_opens_15 rfl (lv_at hl 0 rfl) ?_
    refine lv_dup hx hb dX12_opens_16 rfl ?_
    refine va_get (D := D) (ci := 12) (v := .int (S_0.1 0 20)) (C := RX12) (T := TX12) (N := 36) hx hb hts k0 hown hK hP 0 (zM_0 cy ad S_0) rfl 20 (by decide) k1 (fun _ h9 => h9) rfl dX12_opens_17 ?_
    refine lv_iconst (v := 1) hx hb dX12_opens_20 (by decide) ?_
    refine lv_iadd hx hb dX12_opens_21 ?_
    refine va_put (D := D) (ci := 12) (v := .int ((S_0.1 0 20) + (1 : Int32))) (ty := .int) (C := RX12) (T := TX12) (N := 36) hx hb hts k0 tyX12 tyX12_ok nmX12 hown hK hP (hD S_0) hS 0 (zM_0 cy ad S_0) rfl 20 (by decide) k1 (fun _ h9 => h9) rfl (tyX12_ok 20 (by decide)) rfl rfl (Nat.le_of_ble_eq_true rfl) dX12_opens_22 (fun H locs hP _ hS => ?_)
    obtain ⟨S_1, eS_1, hf⟩ := z_nm hf
    have hP := zW_putI hP eS_1 (by decide) rfl
    refine lv_aload_n hx hb dX12_opens_25 rfl (lv_at hl 0 rfl) ?_
    obtain ⟨r_2, S_3, h_4, hf⟩ := z_bd hf
    refine z_cVV (As := []) (rest := []) X hK hE hD hA hP hS (cm_next0 l D K cy ad S_1 _ h_4) (cwV 0 hts (z_gV wt_5_223 wt_5_225 wp_45 wt_1_13 wt_5_226) rfl rfl rfl ⟨rfl, yd_yX12_next0⟩ ⟨Nat.le_of_ble_eq_true rfl, Nat.le_of_ble_eq_true rfl⟩) (va_recv hK hP (ci := 12) (q0 := 0) rfl (zM_0 cy ad S_1)) hl.1 rfl rfl (Nat.le_of_ble_eq_true rfl) dX12_opens_26 (fun H locs hP hS => ?_)
    refine lv_iconst (v := 1) hx hb dX12_opens_29 (by decide) ?_
    obtain ⟨h1, h2⟩ := z_s2 hf
    subst h1 h2
    exact hret _ _ _ _ rfl hP hS dX12_opens_30
  · have hf := z_it c_9 hf
    refine lv_aload_n hx hb dX12_opens_9 rfl (lv_at hl 0 rfl) ?_
    refine lv_iconst (v := 3) hx hb dX12_opens_10 (by decide) ?_
    obtain ⟨r_5, S_6, h_7, hf⟩ := z_bd hf
    refine z_cVI (As := [.int (3 : Int32)]) (rest := []) X hK hE hD hA hP hS (cm_bad l D K cy ad S_0 _ _ _ h_7) (cwV 1 hts (z_gV wt_6_30 wt_6_32 wp_51 wt_1_13 wt_6_33) rfl rfl rfl ⟨rfl, yd_yX12_bad⟩ ⟨Nat.le_of_ble_eq_true rfl, Nat.le_of_ble_eq_true rfl⟩) (va_recv hK hP (ci := 12) (q0 := 0) rfl (zM_0 cy ad S_0)) hl.1 rfl rfl (Nat.le_of_ble_eq_true rfl) dX12_opens_11 (fun H locs hP hS => ?_)
    obtain ⟨h_8, hf⟩ := z_bo hf
    obtain ⟨h1, h2⟩ := z_s2 hf
    subst h1 h2
    exact hret _ _ _ _ h_8 hP hS dX12_opens_14
def fm_unit (S_0 : zSt) : Option (Int32 × zSt) :=
  zbd (fm_isIn S_0 (S_0.1 0 14) (41 : Int32) (50 : Int32)) fun r_1 S_2 =>
  znm (fun (S_4 : zSt) =>
  znm (fun (x_5 : Int32) (S_6 : zSt) =>
  zbd (fm_lay S_6 x_5 (S_6.1 0 16)) fun _ S_8 =>
  zbd (fm_next0 S_8) fun _ S_11 =>
  some ((1 : Int32), S_11)) fun j_46 =>
  if r_1 = 0 then (
  j_46 (0 : Int32) S_4) else (
  j_46 ((S_4.1 0 14) - (40 : Int32)) S_4)) fun j_30 =>
  if (S_2.1 0 14) = (2 : Int32) then (
  j_30  S_2) else (
  if r_1 = 0 then (
  zbd (fm_bad S_2 (1 : Int32)) fun r_14 S_15 =>
  zck (zbo r_14) <|
  some (r_14, S_15)) else (
  j_30  S_2))
set_option maxHeartbeats 4000000 in
set_option maxRecDepth 100000 in
theorem cm_unit (l : Launch) (D : va_G) (K : (Nat → Nat) × (Nat → Nat)) (cy : Nat → ClassId) (ad : Nat → Nat) (S_0 : zSt) (ro : Int32) (So : zSt) (hf : fm_unit S_0 = some (ro, So)) : zMI l yX12_unit (zws yX12_unit cX12_unit 2 (Option.some .boolean)) ({ frames := 8, cells := 0, slots := 0, locals := 170 }) D (zTy cy) K (zM cy ad) [.ref (ad 0)] S_0 ro So := by
  refine z_metZ (own := RX12) (lv := [(0, .ref (ad 0))]) (by decide) rfl rfl (Nat.le_of_ble_eq_true rfl) rfl ?_
  intro p e s m below meth c A Q X hK hE hD hA hret hP hS ls hl
  obtain ⟨hx, hb, hml, hown, hts⟩ := id X
  have k0 := (fun w h => List.mem_cons_of_mem _ (zFX12 w h) : ∀ w ∈ u_ws RX12 TX12 36, w ∈ zws yX12_unit cX12_unit 2 (Option.some .boolean))
  have k1 := hts _ (List.mem_cons_of_mem _ wt_5_109)
  have k2 := hts _ (List.mem_cons_of_mem _ wt_5_111)
  refine lv_aload_n hx hb dX12_unit_0 rfl (lv_at hl 0 rfl) ?_
  refine va_get (D := D) (ci := 12) (v := .int (S_0.1 0 14)) (C := RX12) (T := TX12) (N := 36) hx hb hts k0 hown hK hP 0 (zM_0 cy ad S_0) rfl 14 (by decide) k1 (fun _ h9 => h9) rfl dX12_unit_1 ?_
  refine lv_bipush (v := 41) hx hb dX12_unit_4 (by decide) ?_
  refine lv_bipush (v := 50) hx hb dX12_unit_6 (by decide) ?_
  obtain ⟨r_1, S_2, h_3, hf⟩ := z_bd hf
  refine z_cSI (As := [.int (S_0.1 0 14), .int (41 : Int32), .int (50 : Int32)]) (rest := []) X hK hE hD hA hP hS (cm_isIn l D K cy ad S_0 _ _ _ _ _ h_3) (va_cwS 3 hts (z_gS wt_5_216 wt_5_217 wt_1_13 wt_5_218) rfl rfl rfl yd_yX12_isIn ⟨Nat.le_of_ble_eq_true rfl, Nat.le_of_ble_eq_true rfl⟩) hl.1 rfl rfl (Nat.le_of_ble_eq_true rfl) dX12_unit_8 (fun H locs hP hS => ?_)
  refine lv_istore_n (lv' := [(1, .int r_1), (0, .ref (ad 0))]) hx hb dX12_unit_11 rfl hl (by decide) rfl (fun ls hl => ?_)
  refine lv_aload_n hx hb dX12_unit_12 rfl (lv_at hl 1 rfl) ?_
  refine va_get (D := D) (ci := 12) (v := .int (S_2.1 0 14)) (C := RX12) (T := TX12) (N := 36) hx hb hts k0 hown hK hP 0 (zM_0 cy ad S_2) rfl 14 (by decide) k1 (fun _ h9 => h9) rfl dX12_unit_13 ?_
  refine lv_iconst (v := 2) hx hb dX12_unit_16 (by decide) ?_
  obtain ⟨j_30, ej_30, hf⟩ := z_nm hf
  have J_30 : ∀ (S_4 : zSt) (H : Heap) (locs : List Loc) (ls : Array Slot), j_30  S_4 = some (ro, So) → va_P D vwCl (zM cy ad S_4) H → va_S A s.heap H locs → lv_has ls 2 [(0, .ref (ad 0)), (1, .int r_1)] → W p l e ({ frames := 8, cells := 0, slots := 0, locals := 170 }) s m ([.ref (ad 0)] : List Value).toArray below meth c H locs 0 0 Q (F0 m 30 ls []) := by
    intro  S_4 H locs ls hf hP hS hl
    have hf := z_e1 ej_30 hf
    refine lv_aload_n hx hb dX12_unit_30 rfl (lv_at hl 0 rfl) ?_
    refine lv_iload_n hx hb dX12_unit_31 rfl (lv_at hl 1 rfl) ?_
    obtain ⟨j_46, ej_46, hf⟩ := z_nm hf
    have J_46 : ∀ (x_5 : Int32) (S_6 : zSt) (H : Heap) (locs : List Loc) (ls : Array Slot), j_46 x_5 S_6 = some (ro, So) → va_P D vwCl (zM cy ad S_6) H → va_S A s.heap H locs → lv_has ls 2 [(0, .ref (ad 0))] → W p l e ({ frames := 8, cells := 0, slots := 0, locals := 170 }) s m ([.ref (ad 0)] : List Value).toArray below meth c H locs 0 0 Q (F0 m 46 ls [.int x_5, .ref (ad 0)]) := by
      intro x_5 S_6 H locs ls hf hP hS hl
      have hf := z_e2 ej_46 hf
      refine lv_aload_n hx hb dX12_unit_46 rfl (lv_at hl 0 rfl) ?_
      refine va_get (D := D) (ci := 12) (v := .int (S_6.1 0 16)) (C := RX12) (T := TX12) (N := 36) hx hb hts k0 hown hK hP 0 (zM_0 cy ad S_6) rfl 16 (by decide) k2 (fun _ h9 => h9) rfl dX12_unit_47 ?_
      obtain ⟨r_7, S_8, h_9, hf⟩ := z_bd hf
      refine z_cVV (As := [.int x_5, .int (S_6.1 0 16)]) (rest := []) X hK hE hD hA hP hS (cm_lay l D K cy ad S_6 _ _ _ h_9) (cwV 2 hts (z_gV wt_6_46 wt_6_48 wp_55 wt_1_13 wt_6_49) rfl rfl rfl ⟨rfl, yd_yX12_lay⟩ ⟨Nat.le_of_ble_eq_true rfl, Nat.le_of_ble_eq_true rfl⟩) (va_recv hK hP (ci := 12) (q0 := 0) rfl (zM_0 cy ad S_6)) hl.1 rfl rfl (Nat.le_of_ble_eq_true rfl) dX12_unit_50 (fun H locs hP hS => ?_)
      refine lv_aload_n hx hb dX12_unit_53 rfl (lv_at hl 0 rfl) ?_
      obtain ⟨r_10, S_11, h_12, hf⟩ := z_bd hf
      refine z_cVV (As := []) (rest := []) X hK hE hD hA hP hS (cm_next0 l D K cy ad S_8 _ h_12) (cwV 0 hts (z_gV wt_5_223 wt_5_225 wp_45 wt_1_13 wt_5_226) rfl rfl rfl ⟨rfl, yd_yX12_next0⟩ ⟨Nat.le_of_ble_eq_true rfl, Nat.le_of_ble_eq_true rfl⟩) (va_recv hK hP (ci := 12) (q0 := 0) rfl (zM_0 cy ad S_8)) hl.1 rfl rfl (Nat.le_of_ble_eq_true rfl) dX12_unit_54 (fun H locs hP hS => ?_)
      refine lv_iconst (v := 1) hx hb dX12_unit_57 (by decide) ?_
      obtain ⟨h1, h2⟩ := z_s2 hf
      subst h1 h2
      exact hret _ _ _ _ rfl hP hS dX12_unit_58
    refine lv_if_eq (tgt := 45) hx hb dX12_unit_32 (by decide) (fun c_13 => ?_) (fun c_13 => ?_)
    · have hf := z_it c_13 hf
      refine lv_iconst (v := 0) hx hb dX12_unit_45 (by decide) ?_
      exact J_46 (0 : Int32) S_4 _ _ _ hf hP hS (lv_sub hl [0] rfl)
    · have hf := z_if c_13 hf
      refine lv_aload_n hx hb dX12_unit_35 rfl (lv_at hl 0 rfl) ?_
      refine va_get (D := D) (ci := 12) (v := .int (S_4.1 0 14)) (C := RX12) (T := TX12) (N := 36) hx hb hts k0 hown hK hP 0 (zM_0 cy ad S_4) rfl 14 (by decide) k1 (fun _ h9 => h9) rfl dX12_unit_36 ?_
      refine lv_bipush (v := 40) hx hb dX12_unit_39 (by decide) ?_
      refine lv_isub hx hb dX12_unit_41 ?_
      refine lv_goto (tgt := 46) hx hb dX12_unit_42 (by decide) ?_
      exact J_46 ((S_4.1 0 14) - (40 : Int32)) S_4 _ _ _ hf hP hS (lv_sub hl [0] rfl)
  refine lv_icmp_eq (tgt := 30) hx hb dX12_unit_17 (by decide) (fun c_19 => ?_) (fun c_19 => ?_)
  · have hf := z_it c_19 hf
    exact J_30  S_2 _ _ _ hf hP hS (lv_sub hl [1, 0] rfl)
  · have hf := z_if c_19 hf
    refine lv_iload_n hx hb dX12_unit_20 rfl (lv_at hl 0 rfl) ?_
    refine lv_if_ne (tgt := 30) hx hb dX12_unit_21 (by decide) (fun c_18 => ?_) (fun c_18 => ?_)
    · have hf := z_if c_18 hf
      exact J_30  S_2 _ _ _ hf hP hS (lv_sub hl [1, 0] rfl)
    · have hf := z_it c_18 hf
      refine lv_aload_n hx hb dX12_unit_24 rfl (lv_at hl 1 rfl) ?_
      refine lv_iconst (v := 1) hx hb dX12_unit_25 (by decide) ?_
      obtain ⟨r_14, S_15, h_16, hf⟩ := z_bd hf
      refine z_cVI (As := [.int (1 : Int32)]) (rest := []) X hK hE hD hA hP hS (cm_bad l D K cy ad S_2 _ _ _ h_16) (cwV 1 hts (z_gV wt_6_30 wt_6_32 wp_51 wt_1_13 wt_6_33) rfl rfl rfl ⟨rfl, yd_yX12_bad⟩ ⟨Nat.le_of_ble_eq_true rfl, Nat.le_of_ble_eq_true rfl⟩) (va_recv hK hP (ci := 12) (q0 := 0) rfl (zM_0 cy ad S_2)) hl.1 rfl rfl (Nat.le_of_ble_eq_true rfl) dX12_unit_26 (fun H locs hP hS => ?_)
      obtain ⟨h_17, hf⟩ := z_bo hf
      obtain ⟨h1, h2⟩ := z_s2 hf
      subst h1 h2
      exact hret _ _ _ _ h_17 hP hS dX12_unit_29
def fm_product_L9 : Nat → zSt → Option (Int32 × zSt)
  | 0, _ => none
  | n_9 + 1, S_4 =>
    znm (fun (S_5 : zSt) =>
    znm (fun (x_6 : Int32) (S_7 : zSt) =>
    zbd (fm_next0 S_7) fun _ S_9 =>
    znm (fun (S_11 : zSt) =>
    fm_product_L9 n_9  S_11) fun j_112 =>
    if x_6 = 0 then (
    zbd (fm_unit S_9) fun r_12 S_13 =>
    if r_12 = 0 then (
    some ((0 : Int32), S_13)) else (
    zbd (fm_lay S_13 (15 : Int32) (0 : Int32)) fun _ S_16 =>
    j_112  S_16)) else (
    znm (S_9.1 0 16) fun x_19 =>
    if (S_9.1 0 14) = (2 : Int32) then (
    if x_19 = 0 then (
    zbd (fm_bad S_9 (2 : Int32)) fun r_26 S_27 =>
    zck (zbo r_26) <|
    some (r_26, S_27)) else (
    zbd (fm_next0 S_9) fun _ S_21 =>
    zbd (fm_lay S_21 (16 : Int32) x_19) fun _ S_24 =>
    j_112  S_24)) else (
    zbd (fm_bad S_9 (1 : Int32)) fun r_31 S_32 =>
    zck (zbo r_31) <|
    some (r_31, S_32)))) fun j_44 =>
    if (S_5.1 0 14) = (147 : Int32) then (
    j_44 (1 : Int32) S_5) else (
    j_44 (0 : Int32) S_5)) fun j_29 =>
    if (S_4.1 0 14) = (142 : Int32) then (
    j_29  S_4) else (
    if (S_4.1 0 14) = (147 : Int32) then (
    j_29  S_4) else (
    some ((1 : Int32), S_4)))
def fm_product (S_0 : zSt) : Option (Int32 × zSt) :=
  zbd (fm_unit S_0) fun r_1 S_2 =>
  if r_1 = 0 then (
  some ((0 : Int32), S_2)) else (
  fm_product_L9 zFU  S_2)
set_option maxHeartbeats 4000000 in
set_option maxRecDepth 100000 in
theorem cm_product (l : Launch) (D : va_G) (K : (Nat → Nat) × (Nat → Nat)) (cy : Nat → ClassId) (ad : Nat → Nat) (S_0 : zSt) (ro : Int32) (So : zSt) (hf : fm_product S_0 = some (ro, So)) : zMI l yX12_product (zws yX12_product cX12_product 3 (Option.some .boolean)) ({ frames := 9, cells := 0, slots := 0, locals := 191 }) D (zTy cy) K (zM cy ad) [.ref (ad 0)] S_0 ro So := by
  refine z_metZ (own := RX12) (lv := [(0, .ref (ad 0))]) (by decide) rfl rfl (Nat.le_of_ble_eq_true rfl) rfl ?_
  intro p e s m below meth c A Q X hK hE hD hA hret hP hS ls hl
  obtain ⟨hx, hb, hml, hown, hts⟩ := id X
  have k0 := (fun w h => List.mem_cons_of_mem _ (zFX12 w h) : ∀ w ∈ u_ws RX12 TX12 36, w ∈ zws yX12_product cX12_product 3 (Option.some .boolean))
  have k1 := hts _ (List.mem_cons_of_mem _ wt_5_109)
  have k2 := hts _ (List.mem_cons_of_mem _ wt_5_111)
  refine lv_aload_n hx hb dX12_product_0 rfl (lv_at hl 0 rfl) ?_
  obtain ⟨r_1, S_2, h_3, hf⟩ := z_bd hf
  refine z_cVI (As := []) (rest := []) X hK hE hD hA hP hS (cm_unit l D K cy ad S_0 _ _ h_3) (cwV 0 hts (z_gV wt_6_42 wt_6_44 wp_54 wt_1_13 wt_6_45) rfl rfl rfl ⟨rfl, yd_yX12_unit⟩ ⟨Nat.le_of_ble_eq_true rfl, Nat.le_of_ble_eq_true rfl⟩) (va_recv hK hP (ci := 12) (q0 := 0) rfl (zM_0 cy ad S_0)) hl.1 rfl rfl (Nat.le_of_ble_eq_true rfl) dX12_product_1 (fun H locs hP hS => ?_)
  refine lv_if_ne (tgt := 9) hx hb dX12_product_4 (by decide) (fun c_40 => ?_) (fun c_40 => ?_)
  · have hf := z_if c_40 hf
    have L_9 : ∀ (n_9 : Nat) (S_4 : zSt) (H : Heap) (locs : List Loc) (ls : Array Slot), fm_product_L9 n_9  S_4 = some (ro, So) → va_P D vwCl (zM cy ad S_4) H → va_S A s.heap H locs → lv_has ls 3 [(0, .ref (ad 0))] → W p l e ({ frames := 9, cells := 0, slots := 0, locals := 191 }) s m ([.ref (ad 0)] : List Value).toArray below meth c H locs 0 0 Q (F0 m 9 ls []) := by
      intro n_9
      induction n_9 with
      | zero =>
        intro  S_4 H locs ls hf hP hS hl
        exact z_no hf
      | succ n_9 ih_9 =>
        intro  S_4 H locs ls hf hP hS hl
        rw [fm_product_L9] at hf
        refine lv_aload_n hx hb dX12_product_9 rfl (lv_at hl 0 rfl) ?_
        refine va_get (D := D) (ci := 12) (v := .int (S_4.1 0 14)) (C := RX12) (T := TX12) (N := 36) hx hb hts k0 hown hK hP 0 (zM_0 cy ad S_4) rfl 14 (by decide) k1 (fun _ h9 => h9) rfl dX12_product_10 ?_
        refine lv_sipush (v := 142) hx hb dX12_product_13 (by decide) ?_
        obtain ⟨j_29, ej_29, hf⟩ := z_nm hf
        have J_29 : ∀ (S_5 : zSt) (H : Heap) (locs : List Loc) (ls : Array Slot), j_29  S_5 = some (ro, So) → va_P D vwCl (zM cy ad S_5) H → va_S A s.heap H locs → lv_has ls 3 [(0, .ref (ad 0))] → W p l e ({ frames := 9, cells := 0, slots := 0, locals := 191 }) s m ([.ref (ad 0)] : List Value).toArray below meth c H locs 0 0 Q (F0 m 29 ls []) := by
          intro  S_5 H locs ls hf hP hS hl
          have hf := z_e1 ej_29 hf
          refine lv_aload_n hx hb dX12_product_29 rfl (lv_at hl 0 rfl) ?_
          refine va_get (D := D) (ci := 12) (v := .int (S_5.1 0 14)) (C := RX12) (T := TX12) (N := 36) hx hb hts k0 hown hK hP 0 (zM_0 cy ad S_5) rfl 14 (by decide) k1 (fun _ h9 => h9) rfl dX12_product_30 ?_
          refine lv_sipush (v := 147) hx hb dX12_product_33 (by decide) ?_
          obtain ⟨j_44, ej_44, hf⟩ := z_nm hf
          have J_44 : ∀ (x_6 : Int32) (S_7 : zSt) (H : Heap) (locs : List Loc) (ls : Array Slot), j_44 x_6 S_7 = some (ro, So) → va_P D vwCl (zM cy ad S_7) H → va_S A s.heap H locs → lv_has ls 3 [(0, .ref (ad 0))] → W p l e ({ frames := 9, cells := 0, slots := 0, locals := 191 }) s m ([.ref (ad 0)] : List Value).toArray below meth c H locs 0 0 Q (F0 m 44 ls [.int x_6]) := by
            intro x_6 S_7 H locs ls hf hP hS hl
            have hf := z_e2 ej_44 hf
            refine lv_istore_n (lv' := [(1, .int x_6), (0, .ref (ad 0))]) hx hb dX12_product_44 rfl hl (by decide) rfl (fun ls hl => ?_)
            refine lv_aload_n hx hb dX12_product_45 rfl (lv_at hl 1 rfl) ?_
            obtain ⟨r_8, S_9, h_10, hf⟩ := z_bd hf
            refine z_cVV (As := []) (rest := []) X hK hE hD hA hP hS (cm_next0 l D K cy ad S_7 _ h_10) (cwV 0 hts (z_gV wt_5_223 wt_5_225 wp_45 wt_1_13 wt_5_226) rfl rfl rfl ⟨rfl, yd_yX12_next0⟩ ⟨Nat.le_of_ble_eq_true rfl, Nat.le_of_ble_eq_true rfl⟩) (va_recv hK hP (ci := 12) (q0 := 0) rfl (zM_0 cy ad S_7)) hl.1 rfl rfl (Nat.le_of_ble_eq_true rfl) dX12_product_46 (fun H locs hP hS => ?_)
            refine lv_iload_n hx hb dX12_product_49 rfl (lv_at hl 0 rfl) ?_
            obtain ⟨j_112, ej_112, hf⟩ := z_nm hf
            have J_112 : ∀ (S_11 : zSt) (H : Heap) (locs : List Loc) (ls : Array Slot), j_112  S_11 = some (ro, So) → va_P D vwCl (zM cy ad S_11) H → va_S A s.heap H locs → lv_has ls 3 [(0, .ref (ad 0))] → W p l e ({ frames := 9, cells := 0, slots := 0, locals := 191 }) s m ([.ref (ad 0)] : List Value).toArray below meth c H locs 0 0 Q (F0 m 112 ls []) := by
              intro  S_11 H locs ls hf hP hS hl
              have hf := z_e1 ej_112 hf
              refine lv_goto (tgt := 9) hx hb dX12_product_112 (by decide) ?_
              exact ih_9  S_11 _ _ _ hf hP hS (lv_sub hl [0] rfl)
            refine lv_if_eq (tgt := 96) hx hb dX12_product_50 (by decide) (fun c_36 => ?_) (fun c_36 => ?_)
            · have hf := z_it c_36 hf
              refine lv_aload_n hx hb dX12_product_96 rfl (lv_at hl 1 rfl) ?_
              obtain ⟨r_12, S_13, h_14, hf⟩ := z_bd hf
              refine z_cVI (As := []) (rest := []) X hK hE hD hA hP hS (cm_unit l D K cy ad S_9 _ _ h_14) (cwV 0 hts (z_gV wt_6_42 wt_6_44 wp_54 wt_1_13 wt_6_45) rfl rfl rfl ⟨rfl, yd_yX12_unit⟩ ⟨Nat.le_of_ble_eq_true rfl, Nat.le_of_ble_eq_true rfl⟩) (va_recv hK hP (ci := 12) (q0 := 0) rfl (zM_0 cy ad S_9)) hl.1 rfl rfl (Nat.le_of_ble_eq_true rfl) dX12_product_97 (fun H locs hP hS => ?_)
              refine lv_if_ne (tgt := 105) hx hb dX12_product_100 (by decide) (fun c_18 => ?_) (fun c_18 => ?_)
              · have hf := z_if c_18 hf
                refine lv_aload_n hx hb dX12_product_105 rfl (lv_at hl 1 rfl) ?_
                refine lv_bipush (v := 15) hx hb dX12_product_106 (by decide) ?_
                refine lv_iconst (v := 0) hx hb dX12_product_108 (by decide) ?_
                obtain ⟨r_15, S_16, h_17, hf⟩ := z_bd hf
                refine z_cVV (As := [.int (15 : Int32), .int (0 : Int32)]) (rest := []) X hK hE hD hA hP hS (cm_lay l D K cy ad S_13 _ _ _ h_17) (cwV 2 hts (z_gV wt_6_46 wt_6_48 wp_55 wt_1_13 wt_6_49) rfl rfl rfl ⟨rfl, yd_yX12_lay⟩ ⟨Nat.le_of_ble_eq_true rfl, Nat.le_of_ble_eq_true rfl⟩) (va_recv hK hP (ci := 12) (q0 := 0) rfl (zM_0 cy ad S_13)) hl.1 rfl rfl (Nat.le_of_ble_eq_true rfl) dX12_product_109 (fun H locs hP hS => ?_)
                exact J_112  S_16 _ _ _ hf hP hS (lv_sub hl [1] rfl)
              · have hf := z_it c_18 hf
                refine lv_iconst (v := 0) hx hb dX12_product_103 (by decide) ?_
                obtain ⟨h1, h2⟩ := z_s2 hf
                subst h1 h2
                exact hret _ _ _ _ rfl hP hS dX12_product_104
            · have hf := z_if c_36 hf
              refine lv_aload_n hx hb dX12_product_53 rfl (lv_at hl 1 rfl) ?_
              refine va_get (D := D) (ci := 12) (v := .int (S_9.1 0 16)) (C := RX12) (T := TX12) (N := 36) hx hb hts k0 hown hK hP 0 (zM_0 cy ad S_9) rfl 16 (by decide) k2 (fun _ h9 => h9) rfl dX12_product_54 ?_
              refine lv_topi (fun x_19 ex_19 => ?_)
              have hf := z_nv ex_19 hf
              refine lv_istore_n (lv' := [(2, .int x_19), (1, .int x_6), (0, .ref (ad 0))]) hx hb dX12_product_57 rfl hl (by decide) rfl (fun ls hl => ?_)
              refine lv_aload_n hx hb dX12_product_58 rfl (lv_at hl 2 rfl) ?_
              refine va_get (D := D) (ci := 12) (v := .int (S_9.1 0 14)) (C := RX12) (T := TX12) (N := 36) hx hb hts k0 hown hK hP 0 (zM_0 cy ad S_9) rfl 14 (by decide) k1 (fun _ h9 => h9) rfl dX12_product_59 ?_
              refine lv_iconst (v := 2) hx hb dX12_product_62 (by decide) ?_
              refine lv_icmp_eq (tgt := 72) hx hb dX12_product_63 (by decide) (fun c_35 => ?_) (fun c_35 => ?_)
              · have hf := z_it c_35 hf
                refine lv_iload_n hx hb dX12_product_72 rfl (lv_at hl 0 rfl) ?_
                refine lv_if_ne (tgt := 82) hx hb dX12_product_73 (by decide) (fun c_30 => ?_) (fun c_30 => ?_)
                · have hf := z_if c_30 hf
                  refine lv_aload_n hx hb dX12_product_82 rfl (lv_at hl 2 rfl) ?_
                  obtain ⟨r_20, S_21, h_22, hf⟩ := z_bd hf
                  refine z_cVV (As := []) (rest := []) X hK hE hD hA hP hS (cm_next0 l D K cy ad S_9 _ h_22) (cwV 0 hts (z_gV wt_5_223 wt_5_225 wp_45 wt_1_13 wt_5_226) rfl rfl rfl ⟨rfl, yd_yX12_next0⟩ ⟨Nat.le_of_ble_eq_true rfl, Nat.le_of_ble_eq_true rfl⟩) (va_recv hK hP (ci := 12) (q0 := 0) rfl (zM_0 cy ad S_9)) hl.1 rfl rfl (Nat.le_of_ble_eq_true rfl) dX12_product_83 (fun H locs hP hS => ?_)
                  refine lv_aload_n hx hb dX12_product_86 rfl (lv_at hl 2 rfl) ?_
                  refine lv_bipush (v := 16) hx hb dX12_product_87 (by decide) ?_
                  refine lv_iload_n hx hb dX12_product_89 rfl (lv_at hl 0 rfl) ?_
                  obtain ⟨r_23, S_24, h_25, hf⟩ := z_bd hf
                  refine z_cVV (As := [.int (16 : Int32), .int x_19]) (rest := []) X hK hE hD hA hP hS (cm_lay l D K cy ad S_21 _ _ _ h_25) (cwV 2 hts (z_gV wt_6_46 wt_6_48 wp_55 wt_1_13 wt_6_49) rfl rfl rfl ⟨rfl, yd_yX12_lay⟩ ⟨Nat.le_of_ble_eq_true rfl, Nat.le_of_ble_eq_true rfl⟩) (va_recv hK hP (ci := 12) (q0 := 0) rfl (zM_0 cy ad S_21)) hl.1 rfl rfl (Nat.le_of_ble_eq_true rfl) dX12_product_90 (fun H locs hP hS => ?_)
                  refine lv_goto (tgt := 112) hx hb dX12_product_93 (by decide) ?_
                  exact J_112  S_24 _ _ _ hf hP hS (lv_sub hl [2] rfl)
                · have hf := z_it c_30 hf
                  refine lv_aload_n hx hb dX12_product_76 rfl (lv_at hl 2 rfl) ?_
                  refine lv_iconst (v := 2) hx hb dX12_product_77 (by decide) ?_
                  obtain ⟨r_26, S_27, h_28, hf⟩ := z_bd hf
                  refine z_cVI (As := [.int (2 : Int32)]) (rest := []) X hK hE hD hA hP hS (cm_bad l D K cy ad S_9 _ _ _ h_28) (cwV 1 hts (z_gV wt_6_30 wt_6_32 wp_51 wt_1_13 wt_6_33) rfl rfl rfl ⟨rfl, yd_yX12_bad⟩ ⟨Nat.le_of_ble_eq_true rfl, Nat.le_of_ble_eq_true rfl⟩) (va_recv hK hP (ci := 12) (q0 := 0) rfl (zM_0 cy ad S_9)) hl.1 rfl rfl (Nat.le_of_ble_eq_true rfl) dX12_product_78 (fun H locs hP hS => ?_)
                  obtain ⟨h_29, hf⟩ := z_bo hf
                  obtain ⟨h1, h2⟩ := z_s2 hf
                  subst h1 h2
                  exact hret _ _ _ _ h_29 hP hS dX12_product_81
              · have hf := z_if c_35 hf
                refine lv_aload_n hx hb dX12_product_66 rfl (lv_at hl 2 rfl) ?_
                refine lv_iconst (v := 1) hx hb dX12_product_67 (by decide) ?_
                obtain ⟨r_31, S_32, h_33, hf⟩ := z_bd hf
                refine z_cVI (As := [.int (1 : Int32)]) (rest := []) X hK hE hD hA hP hS (cm_bad l D K cy ad S_9 _ _ _ h_33) (cwV 1 hts (z_gV wt_6_30 wt_6_32 wp_51 wt_1_13 wt_6_33) rfl rfl rfl ⟨rfl, yd_yX12_bad⟩ ⟨Nat.le_of_ble_eq_true rfl, Nat.le_of_ble_eq_true rfl⟩) (va_recv hK hP (ci := 12) (q0 := 0) rfl (zM_0 cy ad S_9)) hl.1 rfl rfl (Nat.le_of_ble_eq_true rfl) dX12_product_68 (fun H locs hP hS => ?_)
                obtain ⟨h_34, hf⟩ := z_bo hf
                obtain ⟨h1, h2⟩ := z_s2 hf
                subst h1 h2
                exact hret _ _ _ _ h_34 hP hS dX12_product_71
          refine lv_icmp_ne (tgt := 43) hx hb dX12_product_36 (by decide) (fun c_37 => ?_) (fun c_37 => ?_)
          · have hf := z_if c_37 hf
            refine lv_iconst (v := 0) hx hb dX12_product_43 (by decide) ?_
            exact J_44 (0 : Int32) S_5 _ _ _ hf hP hS (lv_sub hl [0] rfl)
          · have hf := z_it c_37 hf
            refine lv_iconst (v := 1) hx hb dX12_product_39 (by decide) ?_
            refine lv_goto (tgt := 44) hx hb dX12_product_40 (by decide) ?_
            exact J_44 (1 : Int32) S_5 _ _ _ hf hP hS (lv_sub hl [0] rfl)
        refine lv_icmp_eq (tgt := 29) hx hb dX12_product_16 (by decide) (fun c_39 => ?_) (fun c_39 => ?_)
        · have hf := z_it c_39 hf
          exact J_29  S_4 _ _ _ hf hP hS (lv_sub hl [0] rfl)
        · have hf := z_if c_39 hf
          refine lv_aload_n hx hb dX12_product_19 rfl (lv_at hl 0 rfl) ?_
          refine va_get (D := D) (ci := 12) (v := .int (S_4.1 0 14)) (C := RX12) (T := TX12) (N := 36) hx hb hts k0 hown hK hP 0 (zM_0 cy ad S_4) rfl 14 (by decide) k1 (fun _ h9 => h9) rfl dX12_product_20 ?_
          refine lv_sipush (v := 147) hx hb dX12_product_23 (by decide) ?_
          refine lv_icmp_ne (tgt := 115) hx hb dX12_product_26 (by decide) (fun c_38 => ?_) (fun c_38 => ?_)
          · have hf := z_if c_38 hf
            refine lv_iconst (v := 1) hx hb dX12_product_115 (by decide) ?_
            obtain ⟨h1, h2⟩ := z_s2 hf
            subst h1 h2
            exact hret _ _ _ _ rfl hP hS dX12_product_116
          · have hf := z_it c_38 hf
            exact J_29  S_4 _ _ _ hf hP hS (lv_sub hl [0] rfl)
    exact L_9 zFU  S_2 _ _ _ hf hP hS (lv_sub hl [0] rfl)
  · have hf := z_it c_40 hf
    refine lv_iconst (v := 0) hx hb dX12_product_7 (by decide) ?_
    obtain ⟨h1, h2⟩ := z_s2 hf
    subst h1 h2
    exact hret _ _ _ _ rfl hP hS dX12_product_8
def fm_sumUp_L9 : Nat → zSt → Option (Int32 × zSt)
  | 0, _ => none
  | n_9 + 1, S_4 =>
    znm (fun (S_5 : zSt) =>
    znm (fun (x_6 : Int32) (S_7 : zSt) =>
    zbd (fm_next0 S_7) fun _ S_9 =>
    zbd (fm_product S_9) fun r_11 S_12 =>
    if r_11 = 0 then (
    some ((0 : Int32), S_12)) else (
    zbd (fm_lay S_12 x_6 (0 : Int32)) fun _ S_15 =>
    fm_sumUp_L9 n_9  S_15)) fun j_46 =>
    if (S_5.1 0 14) = (143 : Int32) then (
    j_46 (13 : Int32) S_5) else (
    j_46 (14 : Int32) S_5)) fun j_29 =>
    if (S_4.1 0 14) = (143 : Int32) then (
    j_29  S_4) else (
    if (S_4.1 0 14) = (145 : Int32) then (
    j_29  S_4) else (
    some ((1 : Int32), S_4)))
def fm_sumUp (S_0 : zSt) : Option (Int32 × zSt) :=
  zbd (fm_product S_0) fun r_1 S_2 =>
  if r_1 = 0 then (
  some ((0 : Int32), S_2)) else (
  fm_sumUp_L9 zFU  S_2)
set_option maxHeartbeats 4000000 in
set_option maxRecDepth 100000 in
theorem cm_sumUp (l : Launch) (D : va_G) (K : (Nat → Nat) × (Nat → Nat)) (cy : Nat → ClassId) (ad : Nat → Nat) (S_0 : zSt) (ro : Int32) (So : zSt) (hf : fm_sumUp S_0 = some (ro, So)) : zMI l yX12_sumUp (zws yX12_sumUp cX12_sumUp 2 (Option.some .boolean)) ({ frames := 10, cells := 0, slots := 0, locals := 213 }) D (zTy cy) K (zM cy ad) [.ref (ad 0)] S_0 ro So := by
  refine z_metZ (own := RX12) (lv := [(0, .ref (ad 0))]) (by decide) rfl rfl (Nat.le_of_ble_eq_true rfl) rfl ?_
  intro p e s m below meth c A Q X hK hE hD hA hret hP hS ls hl
  obtain ⟨hx, hb, hml, hown, hts⟩ := id X
  have k0 := (fun w h => List.mem_cons_of_mem _ (zFX12 w h) : ∀ w ∈ u_ws RX12 TX12 36, w ∈ zws yX12_sumUp cX12_sumUp 2 (Option.some .boolean))
  have k1 := hts _ (List.mem_cons_of_mem _ wt_5_109)
  refine lv_aload_n hx hb dX12_sumUp_0 rfl (lv_at hl 0 rfl) ?_
  obtain ⟨r_1, S_2, h_3, hf⟩ := z_bd hf
  refine z_cVI (As := []) (rest := []) X hK hE hD hA hP hS (cm_product l D K cy ad S_0 _ _ h_3) (cwV 0 hts (z_gV wt_6_38 wt_6_40 wp_53 wt_1_13 wt_6_41) rfl rfl rfl ⟨rfl, yd_yX12_product⟩ ⟨Nat.le_of_ble_eq_true rfl, Nat.le_of_ble_eq_true rfl⟩) (va_recv hK hP (ci := 12) (q0 := 0) rfl (zM_0 cy ad S_0)) hl.1 rfl rfl (Nat.le_of_ble_eq_true rfl) dX12_sumUp_1 (fun H locs hP hS => ?_)
  refine lv_if_ne (tgt := 9) hx hb dX12_sumUp_4 (by decide) (fun c_21 => ?_) (fun c_21 => ?_)
  · have hf := z_if c_21 hf
    have L_9 : ∀ (n_9 : Nat) (S_4 : zSt) (H : Heap) (locs : List Loc) (ls : Array Slot), fm_sumUp_L9 n_9  S_4 = some (ro, So) → va_P D vwCl (zM cy ad S_4) H → va_S A s.heap H locs → lv_has ls 2 [(0, .ref (ad 0))] → W p l e ({ frames := 10, cells := 0, slots := 0, locals := 213 }) s m ([.ref (ad 0)] : List Value).toArray below meth c H locs 0 0 Q (F0 m 9 ls []) := by
      intro n_9
      induction n_9 with
      | zero =>
        intro  S_4 H locs ls hf hP hS hl
        exact z_no hf
      | succ n_9 ih_9 =>
        intro  S_4 H locs ls hf hP hS hl
        rw [fm_sumUp_L9] at hf
        refine lv_aload_n hx hb dX12_sumUp_9 rfl (lv_at hl 0 rfl) ?_
        refine va_get (D := D) (ci := 12) (v := .int (S_4.1 0 14)) (C := RX12) (T := TX12) (N := 36) hx hb hts k0 hown hK hP 0 (zM_0 cy ad S_4) rfl 14 (by decide) k1 (fun _ h9 => h9) rfl dX12_sumUp_10 ?_
        refine lv_sipush (v := 143) hx hb dX12_sumUp_13 (by decide) ?_
        obtain ⟨j_29, ej_29, hf⟩ := z_nm hf
        have J_29 : ∀ (S_5 : zSt) (H : Heap) (locs : List Loc) (ls : Array Slot), j_29  S_5 = some (ro, So) → va_P D vwCl (zM cy ad S_5) H → va_S A s.heap H locs → lv_has ls 2 [(0, .ref (ad 0))] → W p l e ({ frames := 10, cells := 0, slots := 0, locals := 213 }) s m ([.ref (ad 0)] : List Value).toArray below meth c H locs 0 0 Q (F0 m 29 ls []) := by
          intro  S_5 H locs ls hf hP hS hl
          have hf := z_e1 ej_29 hf
          refine lv_aload_n hx hb dX12_sumUp_29 rfl (lv_at hl 0 rfl) ?_
          refine va_get (D := D) (ci := 12) (v := .int (S_5.1 0 14)) (C := RX12) (T := TX12) (N := 36) hx hb hts k0 hown hK hP 0 (zM_0 cy ad S_5) rfl 14 (by decide) k1 (fun _ h9 => h9) rfl dX12_sumUp_30 ?_
          refine lv_sipush (v := 143) hx hb dX12_sumUp_33 (by decide) ?_
          obtain ⟨j_46, ej_46, hf⟩ := z_nm hf
          have J_46 : ∀ (x_6 : Int32) (S_7 : zSt) (H : Heap) (locs : List Loc) (ls : Array Slot), j_46 x_6 S_7 = some (ro, So) → va_P D vwCl (zM cy ad S_7) H → va_S A s.heap H locs → lv_has ls 2 [(0, .ref (ad 0))] → W p l e ({ frames := 10, cells := 0, slots := 0, locals := 213 }) s m ([.ref (ad 0)] : List Value).toArray below meth c H locs 0 0 Q (F0 m 46 ls [.int x_6]) := by
            intro x_6 S_7 H locs ls hf hP hS hl
            have hf := z_e2 ej_46 hf
            refine lv_istore_n (lv' := [(1, .int x_6), (0, .ref (ad 0))]) hx hb dX12_sumUp_46 rfl hl (by decide) rfl (fun ls hl => ?_)
            refine lv_aload_n hx hb dX12_sumUp_47 rfl (lv_at hl 1 rfl) ?_
            obtain ⟨r_8, S_9, h_10, hf⟩ := z_bd hf
            refine z_cVV (As := []) (rest := []) X hK hE hD hA hP hS (cm_next0 l D K cy ad S_7 _ h_10) (cwV 0 hts (z_gV wt_5_223 wt_5_225 wp_45 wt_1_13 wt_5_226) rfl rfl rfl ⟨rfl, yd_yX12_next0⟩ ⟨Nat.le_of_ble_eq_true rfl, Nat.le_of_ble_eq_true rfl⟩) (va_recv hK hP (ci := 12) (q0 := 0) rfl (zM_0 cy ad S_7)) hl.1 rfl rfl (Nat.le_of_ble_eq_true rfl) dX12_sumUp_48 (fun H locs hP hS => ?_)
            refine lv_aload_n hx hb dX12_sumUp_51 rfl (lv_at hl 1 rfl) ?_
            obtain ⟨r_11, S_12, h_13, hf⟩ := z_bd hf
            refine z_cVI (As := []) (rest := []) X hK hE hD hA hP hS (cm_product l D K cy ad S_9 _ _ h_13) (cwV 0 hts (z_gV wt_6_38 wt_6_40 wp_53 wt_1_13 wt_6_41) rfl rfl rfl ⟨rfl, yd_yX12_product⟩ ⟨Nat.le_of_ble_eq_true rfl, Nat.le_of_ble_eq_true rfl⟩) (va_recv hK hP (ci := 12) (q0 := 0) rfl (zM_0 cy ad S_9)) hl.1 rfl rfl (Nat.le_of_ble_eq_true rfl) dX12_sumUp_52 (fun H locs hP hS => ?_)
            refine lv_if_ne (tgt := 60) hx hb dX12_sumUp_55 (by decide) (fun c_17 => ?_) (fun c_17 => ?_)
            · have hf := z_if c_17 hf
              refine lv_aload_n hx hb dX12_sumUp_60 rfl (lv_at hl 1 rfl) ?_
              refine lv_iload_n hx hb dX12_sumUp_61 rfl (lv_at hl 0 rfl) ?_
              refine lv_iconst (v := 0) hx hb dX12_sumUp_62 (by decide) ?_
              obtain ⟨r_14, S_15, h_16, hf⟩ := z_bd hf
              refine z_cVV (As := [.int x_6, .int (0 : Int32)]) (rest := []) X hK hE hD hA hP hS (cm_lay l D K cy ad S_12 _ _ _ h_16) (cwV 2 hts (z_gV wt_6_46 wt_6_48 wp_55 wt_1_13 wt_6_49) rfl rfl rfl ⟨rfl, yd_yX12_lay⟩ ⟨Nat.le_of_ble_eq_true rfl, Nat.le_of_ble_eq_true rfl⟩) (va_recv hK hP (ci := 12) (q0 := 0) rfl (zM_0 cy ad S_12)) hl.1 rfl rfl (Nat.le_of_ble_eq_true rfl) dX12_sumUp_63 (fun H locs hP hS => ?_)
              refine lv_goto (tgt := 9) hx hb dX12_sumUp_66 (by decide) ?_
              exact ih_9  S_15 _ _ _ hf hP hS (lv_sub hl [1] rfl)
            · have hf := z_it c_17 hf
              refine lv_iconst (v := 0) hx hb dX12_sumUp_58 (by decide) ?_
              obtain ⟨h1, h2⟩ := z_s2 hf
              subst h1 h2
              exact hret _ _ _ _ rfl hP hS dX12_sumUp_59
          refine lv_icmp_ne (tgt := 44) hx hb dX12_sumUp_36 (by decide) (fun c_18 => ?_) (fun c_18 => ?_)
          · have hf := z_if c_18 hf
            refine lv_bipush (v := 14) hx hb dX12_sumUp_44 (by decide) ?_
            exact J_46 (14 : Int32) S_5 _ _ _ hf hP hS (lv_sub hl [0] rfl)
          · have hf := z_it c_18 hf
            refine lv_bipush (v := 13) hx hb dX12_sumUp_39 (by decide) ?_
            refine lv_goto (tgt := 46) hx hb dX12_sumUp_41 (by decide) ?_
            exact J_46 (13 : Int32) S_5 _ _ _ hf hP hS (lv_sub hl [0] rfl)
        refine lv_icmp_eq (tgt := 29) hx hb dX12_sumUp_16 (by decide) (fun c_20 => ?_) (fun c_20 => ?_)
        · have hf := z_it c_20 hf
          exact J_29  S_4 _ _ _ hf hP hS (lv_sub hl [0] rfl)
        · have hf := z_if c_20 hf
          refine lv_aload_n hx hb dX12_sumUp_19 rfl (lv_at hl 0 rfl) ?_
          refine va_get (D := D) (ci := 12) (v := .int (S_4.1 0 14)) (C := RX12) (T := TX12) (N := 36) hx hb hts k0 hown hK hP 0 (zM_0 cy ad S_4) rfl 14 (by decide) k1 (fun _ h9 => h9) rfl dX12_sumUp_20 ?_
          refine lv_sipush (v := 145) hx hb dX12_sumUp_23 (by decide) ?_
          refine lv_icmp_ne (tgt := 69) hx hb dX12_sumUp_26 (by decide) (fun c_19 => ?_) (fun c_19 => ?_)
          · have hf := z_if c_19 hf
            refine lv_iconst (v := 1) hx hb dX12_sumUp_69 (by decide) ?_
            obtain ⟨h1, h2⟩ := z_s2 hf
            subst h1 h2
            exact hret _ _ _ _ rfl hP hS dX12_sumUp_70
          · have hf := z_it c_19 hf
            exact J_29  S_4 _ _ _ hf hP hS (lv_sub hl [0] rfl)
    exact L_9 zFU  S_2 _ _ _ hf hP hS (lv_sub hl [0] rfl)
  · have hf := z_it c_21 hf
    refine lv_iconst (v := 0) hx hb dX12_sumUp_7 (by decide) ?_
    obtain ⟨h1, h2⟩ := z_s2 hf
    subst h1 h2
    exact hret _ _ _ _ rfl hP hS dX12_sumUp_8
def fm_every_L9 (rec : zSt → Option (Int32 × zSt)) : Nat → zSt → Option (Int32 × zSt)
  | 0, _ => none
  | n_9 + 1, S_4 =>
    if (S_4.1 0 14) = (5 : Int32) then (
    zbd (fm_next0 S_4) fun _ S_6 =>
    zbd (rec S_6) fun r_8 S_9 =>
    if r_8 = 0 then (
    some ((0 : Int32), S_9)) else (
    zbd (fm_lay S_9 (21 : Int32) (0 : Int32)) fun _ S_12 =>
    fm_every_L9 rec n_9  S_12)) else (
    some ((1 : Int32), S_4))
def fm_every (rec : zSt → Option (Int32 × zSt)) (S_0 : zSt) : Option (Int32 × zSt) :=
  zbd (rec S_0) fun r_1 S_2 =>
  if r_1 = 0 then (
  some ((0 : Int32), S_2)) else (
  fm_every_L9 rec zFU  S_2)
set_option maxHeartbeats 4000000 in
set_option maxRecDepth 100000 in
theorem cm_every (l : Launch) (D : va_G) (K : (Nat → Nat) × (Nat → Nat)) (cy : Nat → ClassId) (ad : Nat → Nat) (rec : zSt → Option (Int32 × zSt)) (rf rl : Nat) (hrec : ∀ (S_r : zSt)  (r_r : Int32) (S_q : zSt), rec S_r  = some (r_r, S_q) → zMI l yX12_oneTest (zws yX12_oneTest cX12_oneTest 2 (Option.some .boolean)) { frames := rf, cells := 0, slots := 0, locals := rl } D (zTy cy) K (zM cy ad) [.ref (ad 0)] S_r r_r S_q) (S_0 : zSt) (ro : Int32) (So : zSt) (hf : fm_every rec S_0 = some (ro, So)) : zMI l yX12_every (zws yX12_every cX12_every 1 (Option.some .boolean)) ({ frames := rf + 8, cells := 0, slots := 0, locals := rl + 170 }) D (zTy cy) K (zM cy ad) [.ref (ad 0)] S_0 ro So := by
  refine z_metZ (own := RX12) (lv := [(0, .ref (ad 0))]) (by decide) rfl rfl (Nat.le_of_ble_eq_true rfl) rfl ?_
  intro p e s m below meth c A Q X hK hE hD hA hret hP hS ls hl
  obtain ⟨hx, hb, hml, hown, hts⟩ := id X
  have k0 := (fun w h => List.mem_cons_of_mem _ (zFX12 w h) : ∀ w ∈ u_ws RX12 TX12 36, w ∈ zws yX12_every cX12_every 1 (Option.some .boolean))
  have k1 := hts _ (List.mem_cons_of_mem _ wt_5_109)
  refine lv_aload_n hx hb dX12_every_0 rfl (lv_at hl 0 rfl) ?_
  obtain ⟨r_1, S_2, h_3, hf⟩ := z_bd hf
  refine z_cVI (As := []) (rest := []) X hK hE hD hA hP hS (hrec S_0 _ _ h_3) (cwV 0 hts (z_gV wt_6_58 wt_6_60 wp_58 wt_1_13 wt_6_61) rfl rfl rfl ⟨rfl, yd_yX12_oneTest⟩ ⟨by first | omega | (dsimp only; omega), by first | omega | (dsimp only; omega)⟩) (va_recv hK hP (ci := 12) (q0 := 0) rfl (zM_0 cy ad S_0)) hl.1 rfl rfl (Nat.le_of_ble_eq_true rfl) dX12_every_1 (fun H locs hP hS => ?_)
  refine lv_if_ne (tgt := 9) hx hb dX12_every_4 (by decide) (fun c_16 => ?_) (fun c_16 => ?_)
  · have hf := z_if c_16 hf
    have L_9 : ∀ (n_9 : Nat) (S_4 : zSt) (H : Heap) (locs : List Loc) (ls : Array Slot), fm_every_L9 rec n_9  S_4 = some (ro, So) → va_P D vwCl (zM cy ad S_4) H → va_S A s.heap H locs → lv_has ls 1 [(0, .ref (ad 0))] → W p l e ({ frames := rf + 8, cells := 0, slots := 0, locals := rl + 170 }) s m ([.ref (ad 0)] : List Value).toArray below meth c H locs 0 0 Q (F0 m 9 ls []) := by
      intro n_9
      induction n_9 with
      | zero =>
        intro  S_4 H locs ls hf hP hS hl
        exact z_no hf
      | succ n_9 ih_9 =>
        intro  S_4 H locs ls hf hP hS hl
        rw [fm_every_L9] at hf
        refine lv_aload_n hx hb dX12_every_9 rfl (lv_at hl 0 rfl) ?_
        refine va_get (D := D) (ci := 12) (v := .int (S_4.1 0 14)) (C := RX12) (T := TX12) (N := 36) hx hb hts k0 hown hK hP 0 (zM_0 cy ad S_4) rfl 14 (by decide) k1 (fun _ h9 => h9) rfl dX12_every_10 ?_
        refine lv_iconst (v := 5) hx hb dX12_every_13 (by decide) ?_
        refine lv_icmp_ne (tgt := 40) hx hb dX12_every_14 (by decide) (fun c_15 => ?_) (fun c_15 => ?_)
        · have hf := z_if c_15 hf
          refine lv_iconst (v := 1) hx hb dX12_every_40 (by decide) ?_
          obtain ⟨h1, h2⟩ := z_s2 hf
          subst h1 h2
          exact hret _ _ _ _ rfl hP hS dX12_every_41
        · have hf := z_it c_15 hf
          refine lv_aload_n hx hb dX12_every_17 rfl (lv_at hl 0 rfl) ?_
          obtain ⟨r_5, S_6, h_7, hf⟩ := z_bd hf
          refine z_cVV (As := []) (rest := []) X hK hE hD hA hP hS (cm_next0 l D K cy ad S_4 _ h_7) (cwV 0 hts (z_gV wt_5_223 wt_5_225 wp_45 wt_1_13 wt_5_226) rfl rfl rfl ⟨rfl, yd_yX12_next0⟩ ⟨by first | omega | (dsimp only; omega), by first | omega | (dsimp only; omega)⟩) (va_recv hK hP (ci := 12) (q0 := 0) rfl (zM_0 cy ad S_4)) hl.1 rfl rfl (Nat.le_of_ble_eq_true rfl) dX12_every_18 (fun H locs hP hS => ?_)
          refine lv_aload_n hx hb dX12_every_21 rfl (lv_at hl 0 rfl) ?_
          obtain ⟨r_8, S_9, h_10, hf⟩ := z_bd hf
          refine z_cVI (As := []) (rest := []) X hK hE hD hA hP hS (hrec S_6 _ _ h_10) (cwV 0 hts (z_gV wt_6_58 wt_6_60 wp_58 wt_1_13 wt_6_61) rfl rfl rfl ⟨rfl, yd_yX12_oneTest⟩ ⟨by first | omega | (dsimp only; omega), by first | omega | (dsimp only; omega)⟩) (va_recv hK hP (ci := 12) (q0 := 0) rfl (zM_0 cy ad S_6)) hl.1 rfl rfl (Nat.le_of_ble_eq_true rfl) dX12_every_22 (fun H locs hP hS => ?_)
          refine lv_if_ne (tgt := 30) hx hb dX12_every_25 (by decide) (fun c_14 => ?_) (fun c_14 => ?_)
          · have hf := z_if c_14 hf
            refine lv_aload_n hx hb dX12_every_30 rfl (lv_at hl 0 rfl) ?_
            refine lv_bipush (v := 21) hx hb dX12_every_31 (by decide) ?_
            refine lv_iconst (v := 0) hx hb dX12_every_33 (by decide) ?_
            obtain ⟨r_11, S_12, h_13, hf⟩ := z_bd hf
            refine z_cVV (As := [.int (21 : Int32), .int (0 : Int32)]) (rest := []) X hK hE hD hA hP hS (cm_lay l D K cy ad S_9 _ _ _ h_13) (cwV 2 hts (z_gV wt_6_46 wt_6_48 wp_55 wt_1_13 wt_6_49) rfl rfl rfl ⟨rfl, yd_yX12_lay⟩ ⟨by first | omega | (dsimp only; omega), by first | omega | (dsimp only; omega)⟩) (va_recv hK hP (ci := 12) (q0 := 0) rfl (zM_0 cy ad S_9)) hl.1 rfl rfl (Nat.le_of_ble_eq_true rfl) dX12_every_34 (fun H locs hP hS => ?_)
            refine lv_goto (tgt := 9) hx hb dX12_every_37 (by decide) ?_
            exact ih_9  S_12 _ _ _ hf hP hS (lv_sub hl [0] rfl)
          · have hf := z_it c_14 hf
            refine lv_iconst (v := 0) hx hb dX12_every_28 (by decide) ?_
            obtain ⟨h1, h2⟩ := z_s2 hf
            subst h1 h2
            exact hret _ _ _ _ rfl hP hS dX12_every_29
    exact L_9 zFU  S_2 _ _ _ hf hP hS (lv_sub hl [0] rfl)
  · have hf := z_it c_16 hf
    refine lv_iconst (v := 0) hx hb dX12_every_7 (by decide) ?_
    obtain ⟨h1, h2⟩ := z_s2 hf
    subst h1 h2
    exact hret _ _ _ _ rfl hP hS dX12_every_8
def fm_any_L9 (rec : zSt → Option (Int32 × zSt)) : Nat → zSt → Option (Int32 × zSt)
  | 0, _ => none
  | n_9 + 1, S_4 =>
    if (S_4.1 0 14) = (4 : Int32) then (
    zbd (fm_next0 S_4) fun _ S_6 =>
    zbd (fm_every rec S_6) fun r_8 S_9 =>
    if r_8 = 0 then (
    some ((0 : Int32), S_9)) else (
    zbd (fm_lay S_9 (22 : Int32) (0 : Int32)) fun _ S_12 =>
    fm_any_L9 rec n_9  S_12)) else (
    some ((1 : Int32), S_4))
def fm_any (rec : zSt → Option (Int32 × zSt)) (S_0 : zSt) : Option (Int32 × zSt) :=
  zbd (fm_every rec S_0) fun r_1 S_2 =>
  if r_1 = 0 then (
  some ((0 : Int32), S_2)) else (
  fm_any_L9 rec zFU  S_2)
set_option maxHeartbeats 4000000 in
set_option maxRecDepth 100000 in
theorem cm_any (l : Launch) (D : va_G) (K : (Nat → Nat) × (Nat → Nat)) (cy : Nat → ClassId) (ad : Nat → Nat) (rec : zSt → Option (Int32 × zSt)) (rf rl : Nat) (hrec : ∀ (S_r : zSt)  (r_r : Int32) (S_q : zSt), rec S_r  = some (r_r, S_q) → zMI l yX12_oneTest (zws yX12_oneTest cX12_oneTest 2 (Option.some .boolean)) { frames := rf, cells := 0, slots := 0, locals := rl } D (zTy cy) K (zM cy ad) [.ref (ad 0)] S_r r_r S_q) (S_0 : zSt) (ro : Int32) (So : zSt) (hf : fm_any rec S_0 = some (ro, So)) : zMI l yX12_any (zws yX12_any cX12_any 1 (Option.some .boolean)) ({ frames := rf + 9, cells := 0, slots := 0, locals := rl + 190 }) D (zTy cy) K (zM cy ad) [.ref (ad 0)] S_0 ro So := by
  refine z_metZ (own := RX12) (lv := [(0, .ref (ad 0))]) (by decide) rfl rfl (Nat.le_of_ble_eq_true rfl) rfl ?_
  intro p e s m below meth c A Q X hK hE hD hA hret hP hS ls hl
  obtain ⟨hx, hb, hml, hown, hts⟩ := id X
  have k0 := (fun w h => List.mem_cons_of_mem _ (zFX12 w h) : ∀ w ∈ u_ws RX12 TX12 36, w ∈ zws yX12_any cX12_any 1 (Option.some .boolean))
  have k1 := hts _ (List.mem_cons_of_mem _ wt_5_109)
  refine lv_aload_n hx hb dX12_any_0 rfl (lv_at hl 0 rfl) ?_
  obtain ⟨r_1, S_2, h_3, hf⟩ := z_bd hf
  refine z_cVI (As := []) (rest := []) X hK hE hD hA hP hS (cm_every l D K cy ad rec rf rl hrec S_0 _ _ h_3) (cwV 0 hts (z_gV wt_6_54 wt_6_56 wp_57 wt_1_13 wt_6_57) rfl rfl rfl ⟨rfl, yd_yX12_every⟩ ⟨by first | omega | (dsimp only; omega), by first | omega | (dsimp only; omega)⟩) (va_recv hK hP (ci := 12) (q0 := 0) rfl (zM_0 cy ad S_0)) hl.1 rfl rfl (Nat.le_of_ble_eq_true rfl) dX12_any_1 (fun H locs hP hS => ?_)
  refine lv_if_ne (tgt := 9) hx hb dX12_any_4 (by decide) (fun c_16 => ?_) (fun c_16 => ?_)
  · have hf := z_if c_16 hf
    have L_9 : ∀ (n_9 : Nat) (S_4 : zSt) (H : Heap) (locs : List Loc) (ls : Array Slot), fm_any_L9 rec n_9  S_4 = some (ro, So) → va_P D vwCl (zM cy ad S_4) H → va_S A s.heap H locs → lv_has ls 1 [(0, .ref (ad 0))] → W p l e ({ frames := rf + 9, cells := 0, slots := 0, locals := rl + 190 }) s m ([.ref (ad 0)] : List Value).toArray below meth c H locs 0 0 Q (F0 m 9 ls []) := by
      intro n_9
      induction n_9 with
      | zero =>
        intro  S_4 H locs ls hf hP hS hl
        exact z_no hf
      | succ n_9 ih_9 =>
        intro  S_4 H locs ls hf hP hS hl
        rw [fm_any_L9] at hf
        refine lv_aload_n hx hb dX12_any_9 rfl (lv_at hl 0 rfl) ?_
        refine va_get (D := D) (ci := 12) (v := .int (S_4.1 0 14)) (C := RX12) (T := TX12) (N := 36) hx hb hts k0 hown hK hP 0 (zM_0 cy ad S_4) rfl 14 (by decide) k1 (fun _ h9 => h9) rfl dX12_any_10 ?_
        refine lv_iconst (v := 4) hx hb dX12_any_13 (by decide) ?_
        refine lv_icmp_ne (tgt := 40) hx hb dX12_any_14 (by decide) (fun c_15 => ?_) (fun c_15 => ?_)
        · have hf := z_if c_15 hf
          refine lv_iconst (v := 1) hx hb dX12_any_40 (by decide) ?_
          obtain ⟨h1, h2⟩ := z_s2 hf
          subst h1 h2
          exact hret _ _ _ _ rfl hP hS dX12_any_41
        · have hf := z_it c_15 hf
          refine lv_aload_n hx hb dX12_any_17 rfl (lv_at hl 0 rfl) ?_
          obtain ⟨r_5, S_6, h_7, hf⟩ := z_bd hf
          refine z_cVV (As := []) (rest := []) X hK hE hD hA hP hS (cm_next0 l D K cy ad S_4 _ h_7) (cwV 0 hts (z_gV wt_5_223 wt_5_225 wp_45 wt_1_13 wt_5_226) rfl rfl rfl ⟨rfl, yd_yX12_next0⟩ ⟨by first | omega | (dsimp only; omega), by first | omega | (dsimp only; omega)⟩) (va_recv hK hP (ci := 12) (q0 := 0) rfl (zM_0 cy ad S_4)) hl.1 rfl rfl (Nat.le_of_ble_eq_true rfl) dX12_any_18 (fun H locs hP hS => ?_)
          refine lv_aload_n hx hb dX12_any_21 rfl (lv_at hl 0 rfl) ?_
          obtain ⟨r_8, S_9, h_10, hf⟩ := z_bd hf
          refine z_cVI (As := []) (rest := []) X hK hE hD hA hP hS (cm_every l D K cy ad rec rf rl hrec S_6 _ _ h_10) (cwV 0 hts (z_gV wt_6_54 wt_6_56 wp_57 wt_1_13 wt_6_57) rfl rfl rfl ⟨rfl, yd_yX12_every⟩ ⟨by first | omega | (dsimp only; omega), by first | omega | (dsimp only; omega)⟩) (va_recv hK hP (ci := 12) (q0 := 0) rfl (zM_0 cy ad S_6)) hl.1 rfl rfl (Nat.le_of_ble_eq_true rfl) dX12_any_22 (fun H locs hP hS => ?_)
          refine lv_if_ne (tgt := 30) hx hb dX12_any_25 (by decide) (fun c_14 => ?_) (fun c_14 => ?_)
          · have hf := z_if c_14 hf
            refine lv_aload_n hx hb dX12_any_30 rfl (lv_at hl 0 rfl) ?_
            refine lv_bipush (v := 22) hx hb dX12_any_31 (by decide) ?_
            refine lv_iconst (v := 0) hx hb dX12_any_33 (by decide) ?_
            obtain ⟨r_11, S_12, h_13, hf⟩ := z_bd hf
            refine z_cVV (As := [.int (22 : Int32), .int (0 : Int32)]) (rest := []) X hK hE hD hA hP hS (cm_lay l D K cy ad S_9 _ _ _ h_13) (cwV 2 hts (z_gV wt_6_46 wt_6_48 wp_55 wt_1_13 wt_6_49) rfl rfl rfl ⟨rfl, yd_yX12_lay⟩ ⟨by first | omega | (dsimp only; omega), by first | omega | (dsimp only; omega)⟩) (va_recv hK hP (ci := 12) (q0 := 0) rfl (zM_0 cy ad S_9)) hl.1 rfl rfl (Nat.le_of_ble_eq_true rfl) dX12_any_34 (fun H locs hP hS => ?_)
            refine lv_goto (tgt := 9) hx hb dX12_any_37 (by decide) ?_
            exact ih_9  S_12 _ _ _ hf hP hS (lv_sub hl [0] rfl)
          · have hf := z_it c_14 hf
            refine lv_iconst (v := 0) hx hb dX12_any_28 (by decide) ?_
            obtain ⟨h1, h2⟩ := z_s2 hf
            subst h1 h2
            exact hret _ _ _ _ rfl hP hS dX12_any_29
    exact L_9 zFU  S_2 _ _ _ hf hP hS (lv_sub hl [0] rfl)
  · have hf := z_it c_16 hf
    refine lv_iconst (v := 0) hx hb dX12_any_7 (by decide) ?_
    obtain ⟨h1, h2⟩ := z_s2 hf
    subst h1 h2
    exact hret _ _ _ _ rfl hP hS dX12_any_8
def fm_oneTest (rec : zSt → Option (Int32 × zSt)) (S_0 : zSt) : Option (Int32 × zSt) :=
  if (S_0.1 0 14) = (6 : Int32) then (
  zbd (fm_opens S_0) fun r_40 S_41 =>
  znm (fun (S_43 : zSt) =>
  some ((0 : Int32), S_43)) fun j_23 =>
  if r_40 = 0 then (
  j_23  S_41) else (
  zbd (rec S_41) fun r_44 S_45 =>
  if r_44 = 0 then (
  j_23  S_45) else (
  znm (zpI S_45 0 20 ((S_45.1 0 20) - (1 : Int32))) fun S_47 =>
  zbd (fm_lay S_47 (20 : Int32) (0 : Int32)) fun _ S_49 =>
  some ((1 : Int32), S_49)))) else (
  if (S_0.1 0 14) = (140 : Int32) then (
  zbd (fm_opens S_0) fun r_25 S_26 =>
  znm (fun (S_28 : zSt) =>
  some ((0 : Int32), S_28)) fun j_78 =>
  if r_25 = 0 then (
  j_78  S_26) else (
  zbd (fm_any rec S_26) fun r_29 S_30 =>
  if r_29 = 0 then (
  j_78  S_30) else (
  zbd (fm_need S_30 (141 : Int32)) fun r_32 S_33 =>
  if r_32 = 0 then (
  j_78  S_33) else (
  znm (zpI S_33 0 20 ((S_33.1 0 20) - (1 : Int32))) fun S_35 =>
  some ((1 : Int32), S_35))))) else (
  zbd (fm_sumUp S_0) fun r_1 S_2 =>
  if r_1 = 0 then (
  some ((0 : Int32), S_2)) else (
  znm (fun (x_4 : Int32) (S_5 : zSt) =>
  if x_4 = (-1 : Int32) then (
  zbd (fm_bad S_5 (1 : Int32)) fun r_16 S_17 =>
  zck (zbo r_16) <|
  some (r_16, S_17)) else (
  zbd (fm_next0 S_5) fun _ S_7 =>
  zbd (fm_sumUp S_7) fun r_9 S_10 =>
  if r_9 = 0 then (
  some ((0 : Int32), S_10)) else (
  zbd (fm_lay S_10 x_4 (0 : Int32)) fun _ S_13 =>
  some ((1 : Int32), S_13)))) fun j_147 =>
  if (S_2.1 0 14) = (160 : Int32) then (
  j_147 (17 : Int32) S_2) else (
  if (S_2.1 0 14) = (161 : Int32) then (
  j_147 (18 : Int32) S_2) else (
  if (S_2.1 0 14) = (162 : Int32) then (
  j_147 (19 : Int32) S_2) else (
  j_147 (-1 : Int32) S_2))))))
set_option maxHeartbeats 4000000 in
set_option maxRecDepth 100000 in
theorem cm_oneTest (l : Launch) (D : va_G) (K : (Nat → Nat) × (Nat → Nat)) (cy : Nat → ClassId) (ad : Nat → Nat) (rec : zSt → Option (Int32 × zSt)) (rf rl : Nat) (hrec : ∀ (S_r : zSt)  (r_r : Int32) (S_q : zSt), rec S_r  = some (r_r, S_q) → zMI l yX12_oneTest (zws yX12_oneTest cX12_oneTest 2 (Option.some .boolean)) { frames := rf, cells := 0, slots := 0, locals := rl } D (zTy cy) K (zM cy ad) [.ref (ad 0)] S_r r_r S_q) (S_0 : zSt) (ro : Int32) (So : zSt) (hf : fm_oneTest rec S_0 = some (ro, So)) : zMI l yX12_oneTest (zws yX12_oneTest cX12_oneTest 2 (Option.some .boolean)) ({ frames := rf + 11, cells := 0, slots := 0, locals := rl + 234 }) D (zTy cy) K (zM cy ad) [.ref (ad 0)] S_0 ro So := by
  refine z_metZ (own := RX12) (lv := [(0, .ref (ad 0))]) (by decide) rfl rfl (Nat.le_of_ble_eq_true rfl) rfl ?_
  intro p e s m below meth c A Q X hK hE hD hA hret hP hS ls hl
  obtain ⟨hx, hb, hml, hown, hts⟩ := id X
  have k0 := (fun w h => List.mem_cons_of_mem _ (zFX12 w h) : ∀ w ∈ u_ws RX12 TX12 36, w ∈ zws yX12_oneTest cX12_oneTest 2 (Option.some .boolean))
  have k1 := hts _ (List.mem_cons_of_mem _ wt_5_109)
  have k2 := hts _ (List.mem_cons_of_mem _ wt_5_115)
  refine lv_aload_n hx hb dX12_oneTest_0 rfl (lv_at hl 0 rfl) ?_
  refine va_get (D := D) (ci := 12) (v := .int (S_0.1 0 14)) (C := RX12) (T := TX12) (N := 36) hx hb hts k0 hown hK hP 0 (zM_0 cy ad S_0) rfl 14 (by decide) k1 (fun _ h9 => h9) rfl dX12_oneTest_1 ?_
  refine lv_bipush (v := 6) hx hb dX12_oneTest_4 (by decide) ?_
  refine lv_icmp_ne (tgt := 44) hx hb dX12_oneTest_6 (by decide) (fun c_53 => ?_) (fun c_53 => ?_)
  · have hf := z_if c_53 hf
    refine lv_aload_n hx hb dX12_oneTest_44 rfl (lv_at hl 0 rfl) ?_
    refine va_get (D := D) (ci := 12) (v := .int (S_0.1 0 14)) (C := RX12) (T := TX12) (N := 36) hx hb hts k0 hown hK hP 0 (zM_0 cy ad S_0) rfl 14 (by decide) k1 (fun _ h9 => h9) rfl dX12_oneTest_45 ?_
    refine lv_sipush (v := 140) hx hb dX12_oneTest_48 (by decide) ?_
    refine lv_icmp_ne (tgt := 92) hx hb dX12_oneTest_51 (by decide) (fun c_39 => ?_) (fun c_39 => ?_)
    · have hf := z_if c_39 hf
      refine lv_aload_n hx hb dX12_oneTest_92 rfl (lv_at hl 0 rfl) ?_
      obtain ⟨r_1, S_2, h_3, hf⟩ := z_bd hf
      refine z_cVI (As := []) (rest := []) X hK hE hD hA hP hS (cm_sumUp l D K cy ad S_0 _ _ h_3) (cwV 0 hts (z_gV wt_6_34 wt_6_36 wp_52 wt_1_13 wt_6_37) rfl rfl rfl ⟨rfl, yd_yX12_sumUp⟩ ⟨by first | omega | (dsimp only; omega), by first | omega | (dsimp only; omega)⟩) (va_recv hK hP (ci := 12) (q0 := 0) rfl (zM_0 cy ad S_0)) hl.1 rfl rfl (Nat.le_of_ble_eq_true rfl) dX12_oneTest_93 (fun H locs hP hS => ?_)
      refine lv_if_ne (tgt := 101) hx hb dX12_oneTest_96 (by decide) (fun c_24 => ?_) (fun c_24 => ?_)
      · have hf := z_if c_24 hf
        refine lv_aload_n hx hb dX12_oneTest_101 rfl (lv_at hl 0 rfl) ?_
        refine va_get (D := D) (ci := 12) (v := .int (S_2.1 0 14)) (C := RX12) (T := TX12) (N := 36) hx hb hts k0 hown hK hP 0 (zM_0 cy ad S_2) rfl 14 (by decide) k1 (fun _ h9 => h9) rfl dX12_oneTest_102 ?_
        refine lv_sipush (v := 160) hx hb dX12_oneTest_105 (by decide) ?_
        obtain ⟨j_147, ej_147, hf⟩ := z_nm hf
        have J_147 : ∀ (x_4 : Int32) (S_5 : zSt) (H : Heap) (locs : List Loc) (ls : Array Slot), j_147 x_4 S_5 = some (ro, So) → va_P D vwCl (zM cy ad S_5) H → va_S A s.heap H locs → lv_has ls 2 [(0, .ref (ad 0))] → W p l e ({ frames := rf + 11, cells := 0, slots := 0, locals := rl + 234 }) s m ([.ref (ad 0)] : List Value).toArray below meth c H locs 0 0 Q (F0 m 147 ls [.int x_4]) := by
          intro x_4 S_5 H locs ls hf hP hS hl
          have hf := z_e2 ej_147 hf
          refine lv_istore_n (lv' := [(1, .int x_4), (0, .ref (ad 0))]) hx hb dX12_oneTest_147 rfl hl (by decide) rfl (fun ls hl => ?_)
          refine lv_iload_n hx hb dX12_oneTest_148 rfl (lv_at hl 0 rfl) ?_
          refine lv_iconst (v := -1) hx hb dX12_oneTest_149 (by decide) ?_
          refine lv_icmp_ne (tgt := 159) hx hb dX12_oneTest_150 (by decide) (fun c_20 => ?_) (fun c_20 => ?_)
          · have hf := z_if c_20 hf
            refine lv_aload_n hx hb dX12_oneTest_159 rfl (lv_at hl 1 rfl) ?_
            obtain ⟨r_6, S_7, h_8, hf⟩ := z_bd hf
            refine z_cVV (As := []) (rest := []) X hK hE hD hA hP hS (cm_next0 l D K cy ad S_5 _ h_8) (cwV 0 hts (z_gV wt_5_223 wt_5_225 wp_45 wt_1_13 wt_5_226) rfl rfl rfl ⟨rfl, yd_yX12_next0⟩ ⟨by first | omega | (dsimp only; omega), by first | omega | (dsimp only; omega)⟩) (va_recv hK hP (ci := 12) (q0 := 0) rfl (zM_0 cy ad S_5)) hl.1 rfl rfl (Nat.le_of_ble_eq_true rfl) dX12_oneTest_160 (fun H locs hP hS => ?_)
            refine lv_aload_n hx hb dX12_oneTest_163 rfl (lv_at hl 1 rfl) ?_
            obtain ⟨r_9, S_10, h_11, hf⟩ := z_bd hf
            refine z_cVI (As := []) (rest := []) X hK hE hD hA hP hS (cm_sumUp l D K cy ad S_7 _ _ h_11) (cwV 0 hts (z_gV wt_6_34 wt_6_36 wp_52 wt_1_13 wt_6_37) rfl rfl rfl ⟨rfl, yd_yX12_sumUp⟩ ⟨by first | omega | (dsimp only; omega), by first | omega | (dsimp only; omega)⟩) (va_recv hK hP (ci := 12) (q0 := 0) rfl (zM_0 cy ad S_7)) hl.1 rfl rfl (Nat.le_of_ble_eq_true rfl) dX12_oneTest_164 (fun H locs hP hS => ?_)
            refine lv_if_ne (tgt := 172) hx hb dX12_oneTest_167 (by decide) (fun c_15 => ?_) (fun c_15 => ?_)
            · have hf := z_if c_15 hf
              refine lv_aload_n hx hb dX12_oneTest_172 rfl (lv_at hl 1 rfl) ?_
              refine lv_iload_n hx hb dX12_oneTest_173 rfl (lv_at hl 0 rfl) ?_
              refine lv_iconst (v := 0) hx hb dX12_oneTest_174 (by decide) ?_
              obtain ⟨r_12, S_13, h_14, hf⟩ := z_bd hf
              refine z_cVV (As := [.int x_4, .int (0 : Int32)]) (rest := []) X hK hE hD hA hP hS (cm_lay l D K cy ad S_10 _ _ _ h_14) (cwV 2 hts (z_gV wt_6_46 wt_6_48 wp_55 wt_1_13 wt_6_49) rfl rfl rfl ⟨rfl, yd_yX12_lay⟩ ⟨by first | omega | (dsimp only; omega), by first | omega | (dsimp only; omega)⟩) (va_recv hK hP (ci := 12) (q0 := 0) rfl (zM_0 cy ad S_10)) hl.1 rfl rfl (Nat.le_of_ble_eq_true rfl) dX12_oneTest_175 (fun H locs hP hS => ?_)
              refine lv_iconst (v := 1) hx hb dX12_oneTest_178 (by decide) ?_
              obtain ⟨h1, h2⟩ := z_s2 hf
              subst h1 h2
              exact hret _ _ _ _ rfl hP hS dX12_oneTest_179
            · have hf := z_it c_15 hf
              refine lv_iconst (v := 0) hx hb dX12_oneTest_170 (by decide) ?_
              obtain ⟨h1, h2⟩ := z_s2 hf
              subst h1 h2
              exact hret _ _ _ _ rfl hP hS dX12_oneTest_171
          · have hf := z_it c_20 hf
            refine lv_aload_n hx hb dX12_oneTest_153 rfl (lv_at hl 1 rfl) ?_
            refine lv_iconst (v := 1) hx hb dX12_oneTest_154 (by decide) ?_
            obtain ⟨r_16, S_17, h_18, hf⟩ := z_bd hf
            refine z_cVI (As := [.int (1 : Int32)]) (rest := []) X hK hE hD hA hP hS (cm_bad l D K cy ad S_5 _ _ _ h_18) (cwV 1 hts (z_gV wt_6_30 wt_6_32 wp_51 wt_1_13 wt_6_33) rfl rfl rfl ⟨rfl, yd_yX12_bad⟩ ⟨by first | omega | (dsimp only; omega), by first | omega | (dsimp only; omega)⟩) (va_recv hK hP (ci := 12) (q0 := 0) rfl (zM_0 cy ad S_5)) hl.1 rfl rfl (Nat.le_of_ble_eq_true rfl) dX12_oneTest_155 (fun H locs hP hS => ?_)
            obtain ⟨h_19, hf⟩ := z_bo hf
            obtain ⟨h1, h2⟩ := z_s2 hf
            subst h1 h2
            exact hret _ _ _ _ h_19 hP hS dX12_oneTest_158
        refine lv_icmp_ne (tgt := 116) hx hb dX12_oneTest_108 (by decide) (fun c_23 => ?_) (fun c_23 => ?_)
        · have hf := z_if c_23 hf
          refine lv_aload_n hx hb dX12_oneTest_116 rfl (lv_at hl 0 rfl) ?_
          refine va_get (D := D) (ci := 12) (v := .int (S_2.1 0 14)) (C := RX12) (T := TX12) (N := 36) hx hb hts k0 hown hK hP 0 (zM_0 cy ad S_2) rfl 14 (by decide) k1 (fun _ h9 => h9) rfl dX12_oneTest_117 ?_
          refine lv_sipush (v := 161) hx hb dX12_oneTest_120 (by decide) ?_
          refine lv_icmp_ne (tgt := 131) hx hb dX12_oneTest_123 (by decide) (fun c_22 => ?_) (fun c_22 => ?_)
          · have hf := z_if c_22 hf
            refine lv_aload_n hx hb dX12_oneTest_131 rfl (lv_at hl 0 rfl) ?_
            refine va_get (D := D) (ci := 12) (v := .int (S_2.1 0 14)) (C := RX12) (T := TX12) (N := 36) hx hb hts k0 hown hK hP 0 (zM_0 cy ad S_2) rfl 14 (by decide) k1 (fun _ h9 => h9) rfl dX12_oneTest_132 ?_
            refine lv_sipush (v := 162) hx hb dX12_oneTest_135 (by decide) ?_
            refine lv_icmp_ne (tgt := 146) hx hb dX12_oneTest_138 (by decide) (fun c_21 => ?_) (fun c_21 => ?_)
            · have hf := z_if c_21 hf
              refine lv_iconst (v := -1) hx hb dX12_oneTest_146 (by decide) ?_
              exact J_147 (-1 : Int32) S_2 _ _ _ hf hP hS (lv_sub hl [0] rfl)
            · have hf := z_it c_21 hf
              refine lv_bipush (v := 19) hx hb dX12_oneTest_141 (by decide) ?_
              refine lv_goto (tgt := 147) hx hb dX12_oneTest_143 (by decide) ?_
              exact J_147 (19 : Int32) S_2 _ _ _ hf hP hS (lv_sub hl [0] rfl)
          · have hf := z_it c_22 hf
            refine lv_bipush (v := 18) hx hb dX12_oneTest_126 (by decide) ?_
            refine lv_goto (tgt := 147) hx hb dX12_oneTest_128 (by decide) ?_
            exact J_147 (18 : Int32) S_2 _ _ _ hf hP hS (lv_sub hl [0] rfl)
        · have hf := z_it c_23 hf
          refine lv_bipush (v := 17) hx hb dX12_oneTest_111 (by decide) ?_
          refine lv_goto (tgt := 147) hx hb dX12_oneTest_113 (by decide) ?_
          exact J_147 (17 : Int32) S_2 _ _ _ hf hP hS (lv_sub hl [0] rfl)
      · have hf := z_it c_24 hf
        refine lv_iconst (v := 0) hx hb dX12_oneTest_99 (by decide) ?_
        obtain ⟨h1, h2⟩ := z_s2 hf
        subst h1 h2
        exact hret _ _ _ _ rfl hP hS dX12_oneTest_100
    · have hf := z_it c_39 hf
      refine lv_aload_n hx hb dX12_oneTest_54 rfl (lv_at hl 0 rfl) ?_
      obtain ⟨r_25, S_26, h_27, hf⟩ := z_bd hf
      refine z_cVI (As := []) (rest := []) X hK hE hD hA hP hS (cm_opens l D K cy ad S_0 _ _ h_27) (cwV 0 hts (z_gV wt_6_62 wt_6_64 wp_59 wt_1_13 wt_6_65) rfl rfl rfl ⟨rfl, yd_yX12_opens⟩ ⟨by first | omega | (dsimp only; omega), by first | omega | (dsimp only; omega)⟩) (va_recv hK hP (ci := 12) (q0 := 0) rfl (zM_0 cy ad S_0)) hl.1 rfl rfl (Nat.le_of_ble_eq_true rfl) dX12_oneTest_55 (fun H locs hP hS => ?_)
      obtain ⟨j_78, ej_78, hf⟩ := z_nm hf
      have J_78 : ∀ (S_28 : zSt) (H : Heap) (locs : List Loc) (ls : Array Slot), j_78  S_28 = some (ro, So) → va_P D vwCl (zM cy ad S_28) H → va_S A s.heap H locs → lv_has ls 2 [] → W p l e ({ frames := rf + 11, cells := 0, slots := 0, locals := rl + 234 }) s m ([.ref (ad 0)] : List Value).toArray below meth c H locs 0 0 Q (F0 m 78 ls []) := by
        intro  S_28 H locs ls hf hP hS hl
        have hf := z_e1 ej_78 hf
        refine lv_iconst (v := 0) hx hb dX12_oneTest_78 (by decide) ?_
        obtain ⟨h1, h2⟩ := z_s2 hf
        subst h1 h2
        exact hret _ _ _ _ rfl hP hS dX12_oneTest_79
      refine lv_if_eq (tgt := 78) hx hb dX12_oneTest_58 (by decide) (fun c_38 => ?_) (fun c_38 => ?_)
      · have hf := z_it c_38 hf
        exact J_78  S_26 _ _ _ hf hP hS (lv_sub hl [] rfl)
      · have hf := z_if c_38 hf
        refine lv_aload_n hx hb dX12_oneTest_61 rfl (lv_at hl 0 rfl) ?_
        obtain ⟨r_29, S_30, h_31, hf⟩ := z_bd hf
        refine z_cVI (As := []) (rest := []) X hK hE hD hA hP hS (cm_any l D K cy ad rec rf rl hrec S_26 _ _ h_31) (cwV 0 hts (z_gV wt_6_50 wt_6_52 wp_56 wt_1_13 wt_6_53) rfl rfl rfl ⟨rfl, yd_yX12_any⟩ ⟨by first | omega | (dsimp only; omega), by first | omega | (dsimp only; omega)⟩) (va_recv hK hP (ci := 12) (q0 := 0) rfl (zM_0 cy ad S_26)) hl.1 rfl rfl (Nat.le_of_ble_eq_true rfl) dX12_oneTest_62 (fun H locs hP hS => ?_)
        refine lv_if_eq (tgt := 78) hx hb dX12_oneTest_65 (by decide) (fun c_37 => ?_) (fun c_37 => ?_)
        · have hf := z_it c_37 hf
          exact J_78  S_30 _ _ _ hf hP hS (lv_sub hl [] rfl)
        · have hf := z_if c_37 hf
          refine lv_aload_n hx hb dX12_oneTest_68 rfl (lv_at hl 0 rfl) ?_
          refine lv_sipush (v := 141) hx hb dX12_oneTest_69 (by decide) ?_
          obtain ⟨r_32, S_33, h_34, hf⟩ := z_bd hf
          refine z_cVI (As := [.int (141 : Int32)]) (rest := []) X hK hE hD hA hP hS (cm_need l D K cy ad S_30 _ _ _ h_34) (cwV 1 hts (z_gV wt_6_66 wt_6_68 wp_60 wt_1_13 wt_6_69) rfl rfl rfl ⟨rfl, yd_yX12_need⟩ ⟨by first | omega | (dsimp only; omega), by first | omega | (dsimp only; omega)⟩) (va_recv hK hP (ci := 12) (q0 := 0) rfl (zM_0 cy ad S_30)) hl.1 rfl rfl (Nat.le_of_ble_eq_true rfl) dX12_oneTest_72 (fun H locs hP hS => ?_)
          refine lv_if_ne (tgt := 80) hx hb dX12_oneTest_75 (by decide) (fun c_36 => ?_) (fun c_36 => ?_)
          · have hf := z_if c_36 hf
            refine lv_aload_n hx hb dX12_oneTest_80 rfl (lv_at hl 0 rfl) ?_
            refine lv_dup hx hb dX12_oneTest_81 rfl ?_
            refine va_get (D := D) (ci := 12) (v := .int (S_33.1 0 20)) (C := RX12) (T := TX12) (N := 36) hx hb hts k0 hown hK hP 0 (zM_0 cy ad S_33) rfl 20 (by decide) k2 (fun _ h9 => h9) rfl dX12_oneTest_82 ?_
            refine lv_iconst (v := 1) hx hb dX12_oneTest_85 (by decide) ?_
            refine lv_isub hx hb dX12_oneTest_86 ?_
            refine va_put (D := D) (ci := 12) (v := .int ((S_33.1 0 20) - (1 : Int32))) (ty := .int) (C := RX12) (T := TX12) (N := 36) hx hb hts k0 tyX12 tyX12_ok nmX12 hown hK hP (hD S_33) hS 0 (zM_0 cy ad S_33) rfl 20 (by decide) k2 (fun _ h9 => h9) rfl (tyX12_ok 20 (by decide)) rfl rfl (Nat.le_of_ble_eq_true rfl) dX12_oneTest_87 (fun H locs hP _ hS => ?_)
            obtain ⟨S_35, eS_35, hf⟩ := z_nm hf
            have hP := zW_putI hP eS_35 (by decide) rfl
            refine lv_iconst (v := 1) hx hb dX12_oneTest_90 (by decide) ?_
            obtain ⟨h1, h2⟩ := z_s2 hf
            subst h1 h2
            exact hret _ _ _ _ rfl hP hS dX12_oneTest_91
          · have hf := z_it c_36 hf
            exact J_78  S_33 _ _ _ hf hP hS (lv_sub hl [] rfl)
  · have hf := z_it c_53 hf
    refine lv_aload_n hx hb dX12_oneTest_9 rfl (lv_at hl 0 rfl) ?_
    obtain ⟨r_40, S_41, h_42, hf⟩ := z_bd hf
    refine z_cVI (As := []) (rest := []) X hK hE hD hA hP hS (cm_opens l D K cy ad S_0 _ _ h_42) (cwV 0 hts (z_gV wt_6_62 wt_6_64 wp_59 wt_1_13 wt_6_65) rfl rfl rfl ⟨rfl, yd_yX12_opens⟩ ⟨by first | omega | (dsimp only; omega), by first | omega | (dsimp only; omega)⟩) (va_recv hK hP (ci := 12) (q0 := 0) rfl (zM_0 cy ad S_0)) hl.1 rfl rfl (Nat.le_of_ble_eq_true rfl) dX12_oneTest_10 (fun H locs hP hS => ?_)
    obtain ⟨j_23, ej_23, hf⟩ := z_nm hf
    have J_23 : ∀ (S_43 : zSt) (H : Heap) (locs : List Loc) (ls : Array Slot), j_23  S_43 = some (ro, So) → va_P D vwCl (zM cy ad S_43) H → va_S A s.heap H locs → lv_has ls 2 [] → W p l e ({ frames := rf + 11, cells := 0, slots := 0, locals := rl + 234 }) s m ([.ref (ad 0)] : List Value).toArray below meth c H locs 0 0 Q (F0 m 23 ls []) := by
      intro  S_43 H locs ls hf hP hS hl
      have hf := z_e1 ej_23 hf
      refine lv_iconst (v := 0) hx hb dX12_oneTest_23 (by decide) ?_
      obtain ⟨h1, h2⟩ := z_s2 hf
      subst h1 h2
      exact hret _ _ _ _ rfl hP hS dX12_oneTest_24
    refine lv_if_eq (tgt := 23) hx hb dX12_oneTest_13 (by decide) (fun c_52 => ?_) (fun c_52 => ?_)
    · have hf := z_it c_52 hf
      exact J_23  S_41 _ _ _ hf hP hS (lv_sub hl [] rfl)
    · have hf := z_if c_52 hf
      refine lv_aload_n hx hb dX12_oneTest_16 rfl (lv_at hl 0 rfl) ?_
      obtain ⟨r_44, S_45, h_46, hf⟩ := z_bd hf
      refine z_cVI (As := []) (rest := []) X hK hE hD hA hP hS (hrec S_41 _ _ h_46) (cwV 0 hts (z_gV wt_6_58 wt_6_60 wp_58 wt_1_13 wt_6_61) rfl rfl rfl ⟨rfl, yd_yX12_oneTest⟩ ⟨by first | omega | (dsimp only; omega), by first | omega | (dsimp only; omega)⟩) (va_recv hK hP (ci := 12) (q0 := 0) rfl (zM_0 cy ad S_41)) hl.1 rfl rfl (Nat.le_of_ble_eq_true rfl) dX12_oneTest_17 (fun H locs hP hS => ?_)
      refine lv_if_ne (tgt := 25) hx hb dX12_oneTest_20 (by decide) (fun c_51 => ?_) (fun c_51 => ?_)
      · have hf := z_if c_51 hf
        refine lv_aload_n hx hb dX12_oneTest_25 rfl (lv_at hl 0 rfl) ?_
        refine lv_dup hx hb dX12_oneTest_26 rfl ?_
        refine va_get (D := D) (ci := 12) (v := .int (S_45.1 0 20)) (C := RX12) (T := TX12) (N := 36) hx hb hts k0 hown hK hP 0 (zM_0 cy ad S_45) rfl 20 (by decide) k2 (fun _ h9 => h9) rfl dX12_oneTest_27 ?_
        refine lv_iconst (v := 1) hx hb dX12_oneTest_30 (by decide) ?_
        refine lv_isub hx hb dX12_oneTest_31 ?_
        refine va_put (D := D) (ci := 12) (v := .int ((S_45.1 0 20) - (1 : Int32))) (ty := .int) (C := RX12) (T := TX12) (N := 36) hx hb hts k0 tyX12 tyX12_ok nmX12 hown hK hP (hD S_45) hS 0 (zM_0 cy ad S_45) rfl 20 (by decide) k2 (fun _ h9 => h9) rfl (tyX12_ok 20 (by decide)) rfl rfl (Nat.le_of_ble_eq_true rfl) dX12_oneTest_32 (fun H locs hP _ hS => ?_)
        obtain ⟨S_47, eS_47, hf⟩ := z_nm hf
        have hP := zW_putI hP eS_47 (by decide) rfl
        refine lv_aload_n hx hb dX12_oneTest_35 rfl (lv_at hl 0 rfl) ?_
        refine lv_bipush (v := 20) hx hb dX12_oneTest_36 (by decide) ?_
        refine lv_iconst (v := 0) hx hb dX12_oneTest_38 (by decide) ?_
        obtain ⟨r_48, S_49, h_50, hf⟩ := z_bd hf
        refine z_cVV (As := [.int (20 : Int32), .int (0 : Int32)]) (rest := []) X hK hE hD hA hP hS (cm_lay l D K cy ad S_47 _ _ _ h_50) (cwV 2 hts (z_gV wt_6_46 wt_6_48 wp_55 wt_1_13 wt_6_49) rfl rfl rfl ⟨rfl, yd_yX12_lay⟩ ⟨by first | omega | (dsimp only; omega), by first | omega | (dsimp only; omega)⟩) (va_recv hK hP (ci := 12) (q0 := 0) rfl (zM_0 cy ad S_47)) hl.1 rfl rfl (Nat.le_of_ble_eq_true rfl) dX12_oneTest_39 (fun H locs hP hS => ?_)
        refine lv_iconst (v := 1) hx hb dX12_oneTest_42 (by decide) ?_
        obtain ⟨h1, h2⟩ := z_s2 hf
        subst h1 h2
        exact hret _ _ _ _ rfl hP hS dX12_oneTest_43
      · have hf := z_it c_51 hf
        exact J_23  S_45 _ _ _ hf hP hS (lv_sub hl [] rfl)
def fm_oneTest_c : Nat → zSt → Option (Int32 × zSt)
  | 0, _ => none
  | d + 1, S => fm_oneTest (fm_oneTest_c d) S
theorem cm_oneTest_c (l : Launch) (D : va_G) (K : (Nat → Nat) × (Nat → Nat)) (cy : Nat → ClassId) (ad : Nat → Nat) : ∀ (d : Nat) (S_0 : zSt) (ro : Int32) (So : zSt), fm_oneTest_c d S_0 = some (ro, So) → zMI l yX12_oneTest (zws yX12_oneTest cX12_oneTest 2 (Option.some .boolean)) { frames := 11 * d, cells := 0, slots := 0, locals := 234 * d } D (zTy cy) K (zM cy ad) [.ref (ad 0)] S_0 ro So := by
  intro d
  induction d with
  | zero =>
    intro S_0 ro So hf
    exact z_no hf
  | succ d ih =>
    intro S_0 ro So hf
    exact cm_oneTest l D K cy ad (fm_oneTest_c d) (11 * d) (234 * d) ih S_0 ro So hf
def fm_every_c (S : zSt) : Option (Int32 × zSt) := fm_every (fm_oneTest_c 16) S
theorem cm_every_c (l : Launch) (D : va_G) (K : (Nat → Nat) × (Nat → Nat)) (cy : Nat → ClassId) (ad : Nat → Nat) (S_0 : zSt) (ro : Int32) (So : zSt) (hf : fm_every_c S_0 = some (ro, So)) : zMI l yX12_every (zws yX12_every cX12_every 1 (Option.some .boolean)) { frames := 184, cells := 0, slots := 0, locals := 3914 } D (zTy cy) K (zM cy ad) [.ref (ad 0)] S_0 ro So := cm_every l D K cy ad (fm_oneTest_c 16) 176 3744 (fun S_r r_r S_q h => cm_oneTest_c l D K cy ad 16 S_r r_r S_q h) S_0 ro So hf
def fm_any_c (S : zSt) : Option (Int32 × zSt) := fm_any (fm_oneTest_c 16) S
theorem cm_any_c (l : Launch) (D : va_G) (K : (Nat → Nat) × (Nat → Nat)) (cy : Nat → ClassId) (ad : Nat → Nat) (S_0 : zSt) (ro : Int32) (So : zSt) (hf : fm_any_c S_0 = some (ro, So)) : zMI l yX12_any (zws yX12_any cX12_any 1 (Option.some .boolean)) { frames := 185, cells := 0, slots := 0, locals := 3934 } D (zTy cy) K (zM cy ad) [.ref (ad 0)] S_0 ro So := cm_any l D K cy ad (fm_oneTest_c 16) 176 3744 (fun S_r r_r S_q h => cm_oneTest_c l D K cy ad 16 S_r r_r S_q h) S_0 ro So hf
