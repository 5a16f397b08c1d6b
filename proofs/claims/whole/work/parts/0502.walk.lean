theorem yd_yX4_gatherFacts : (yX4_gatherFacts).cls ≠ "java/lang/invoke/MethodHandle" ∧ (yX4_gatherFacts).cls ≠ "java/lang/invoke/VarHandle" ∧ (parseMethodDescriptor (yX4_gatherFacts).desc).map (fun d => d.parameters.length) = some 1 := by decide +kernel
def fx_Lineup_gatherFacts (S_0 : zSt) (a_1 : Int32) : Option (Unit × zSt) :=
  zck (zix a_1 9) <|
  znm (zpI S_0 132 0 (S_0.1 5 (a_1.toNatClampNeg))) fun S_2 =>
  zck (zix a_1 9) <|
  znm (zpI S_2 132 1 (S_2.1 6 (a_1.toNatClampNeg))) fun S_4 =>
  zck (zix a_1 9) <|
  znm (zpI S_4 132 2 (S_4.1 12 (a_1.toNatClampNeg))) fun S_6 =>
  zck (zix a_1 9) <|
  znm (zpI S_6 132 3 (S_6.1 13 (a_1.toNatClampNeg))) fun S_8 =>
  zck (zix a_1 9) <|
  znm (zpI S_8 132 4 (S_8.1 14 (a_1.toNatClampNeg))) fun S_10 =>
  zck (zix a_1 9) <|
  znm (zpI S_10 132 5 (S_10.1 15 (a_1.toNatClampNeg))) fun S_12 =>
  zck (zix a_1 9) <|
  znm (zpI S_12 132 6 (S_12.1 17 (a_1.toNatClampNeg))) fun S_14 =>
  znm (zpI S_14 132 7 a_1) fun S_15 =>
  znm (zpI S_15 132 8 (S_15.1 11 1)) fun S_16 =>
  zck (zix a_1 9) <|
  znm (zpI S_16 132 9 (-(S_16.1 10 (a_1.toNatClampNeg)))) fun S_18 =>
  some ((), S_18)
set_option maxHeartbeats 4000000 in
set_option maxRecDepth 100000 in
theorem cx_Lineup_gatherFacts (l : Launch) (D : va_G) (K : (Nat → Nat) × (Nat → Nat)) (cy : Nat → ClassId) (ad : Nat → Nat) (S_0 : zSt) (a_1 : Int32) (So : zSt) (hf : fx_Lineup_gatherFacts S_0 a_1 = some ((), So)) : zMV l yX4_gatherFacts (zws yX4_gatherFacts cX4_gatherFacts 2 none) ({ frames := 0, cells := 0, slots := 0, locals := 0 }) D (zTy cy) K (zX cy ad) [.ref (ad 128), .int a_1] S_0 So := by
  refine z_metV (own := RX4) (lv := [(0, .ref (ad 128)), (1, .int a_1)]) (by decide) rfl rfl (Nat.le_of_ble_eq_true rfl) rfl ?_
  intro p e s m below meth c A Q X hK hE hD hA hret hP hS ls hl
  obtain ⟨hx, hb, hml, hown, hts⟩ := id X
  have k0 := (fun w h => List.mem_cons_of_mem _ (zFX4 w h) : ∀ w ∈ u_ws RX4 TX4 14, w ∈ zws yX4_gatherFacts cX4_gatherFacts 2 none)
  have k1 := hts _ (List.mem_cons_of_mem _ wt_2_122)
  have k2 := hts _ (List.mem_cons_of_mem _ wt_2_108)
  have k3 := (fun w h => List.mem_cons_of_mem _ (zFX0 w h) : ∀ w ∈ u_ws RX0 TX0 6, w ∈ zws yX4_gatherFacts cX4_gatherFacts 2 none)
  have k4 := hts _ (List.mem_cons_of_mem _ wt_1_234)
  have k5 := (fun w h => List.mem_cons_of_mem _ (zFX2 w h) : ∀ w ∈ u_ws RX2 TX2 7, w ∈ zws yX4_gatherFacts cX4_gatherFacts 2 none)
  have k6 := hts _ (List.mem_cons_of_mem _ wt_1_70)
  have k7 := hts _ (List.mem_cons_of_mem _ wt_1_73)
  have k8 := hts _ (List.mem_cons_of_mem _ wt_1_238)
  have k9 := (fun w h => List.mem_cons_of_mem _ (zFX10 w h) : ∀ w ∈ u_ws RX10 TX10 12, w ∈ zws yX4_gatherFacts cX4_gatherFacts 2 none)
  have k10 := hts _ (List.mem_cons_of_mem _ wt_1_116)
  have k11 := hts _ (List.mem_cons_of_mem _ wt_1_119)
  have k12 := hts _ (List.mem_cons_of_mem _ wt_1_122)
  have k13 := hts _ (List.mem_cons_of_mem _ wt_1_125)
  have k14 := hts _ (List.mem_cons_of_mem _ wt_1_131)
  have k15 := hts _ (List.mem_cons_of_mem _ wt_1_110)
  have k16 := hts _ (List.mem_cons_of_mem _ wt_1_84)
  refine lv_aload_n hx hb dX4_gatherFacts_0 rfl (lv_at hl 0 rfl) ?_
  refine va_get (D := D) (ci := 4) (v := .ref (ad 132)) (C := RX4) (T := TX4) (N := 14) hx hb hts k0 hown hK hP 128 (zX_128 cy ad S_0) rfl 8 (by decide) k1 (fun _ h9 => h9) rfl dX4_gatherFacts_1 ?_
  refine lv_iconst (v := 0) hx hb dX4_gatherFacts_4 (by decide) ?_
  refine lv_aload_n hx hb dX4_gatherFacts_5 rfl (lv_at hl 0 rfl) ?_
  refine va_get (D := D) (ci := 4) (v := .ref (ad 3)) (C := RX4) (T := TX4) (N := 14) hx hb hts k0 hown hK hP 128 (zX_128 cy ad S_0) rfl 0 (by decide) k2 (fun _ h9 => h9) rfl dX4_gatherFacts_6 ?_
  refine va_get (D := D) (ci := 0) (v := .ref (ad 4)) (C := RX0) (T := TX0) (N := 6) hx hb hts k3 hown hK hP 3 (zX_3 cy ad S_0) rfl 0 (by decide) k4 (fun _ h9 => h9) rfl dX4_gatherFacts_9 ?_
  refine va_get (D := D) (ci := 2) (v := .ref (ad 5)) (C := RX2) (T := TX2) (N := 7) hx hb hts k5 hown hK hP 4 (zX_4 cy ad S_0) rfl 1 (by decide) k6 (fun _ h9 => h9) rfl dX4_gatherFacts_12 ?_
  refine lv_iload_n hx hb dX4_gatherFacts_15 rfl (lv_at hl 1 rfl) ?_
  obtain ⟨h_1, hf⟩ := z_ix hf
  refine z_iald hx hb hK hP 5 0 (zX_5 cy ad S_0) rfl h_1 (k := (a_1.toNatClampNeg)) rfl dX4_gatherFacts_16 ?_
  refine z_iast hx hb hK hP (hD S_0) hS 132 0 (zX_132 cy ad S_0) rfl (vp_in_iff.mpr (by decide)) (k := 0) (by decide) dX4_gatherFacts_17 (fun H locs hP hS => ?_)
  obtain ⟨S_2, eS_2, hf⟩ := z_nm hf
  have hP := zW_putI hP eS_2 (by decide) rfl
  refine lv_aload_n hx hb dX4_gatherFacts_18 rfl (lv_at hl 0 rfl) ?_
  refine va_get (D := D) (ci := 4) (v := .ref (ad 132)) (C := RX4) (T := TX4) (N := 14) hx hb hts k0 hown hK hP 128 (zX_128 cy ad S_2) rfl 8 (by decide) k1 (fun _ h9 => h9) rfl dX4_gatherFacts_19 ?_
  refine lv_iconst (v := 1) hx hb dX4_gatherFacts_22 (by decide) ?_
  refine lv_aload_n hx hb dX4_gatherFacts_23 rfl (lv_at hl 0 rfl) ?_
  refine va_get (D := D) (ci := 4) (v := .ref (ad 3)) (C := RX4) (T := TX4) (N := 14) hx hb hts k0 hown hK hP 128 (zX_128 cy ad S_2) rfl 0 (by decide) k2 (fun _ h9 => h9) rfl dX4_gatherFacts_24 ?_
  refine va_get (D := D) (ci := 0) (v := .ref (ad 4)) (C := RX0) (T := TX0) (N := 6) hx hb hts k3 hown hK hP 3 (zX_3 cy ad S_2) rfl 0 (by decide) k4 (fun _ h9 => h9) rfl dX4_gatherFacts_27 ?_
  refine va_get (D := D) (ci := 2) (v := .ref (ad 6)) (C := RX2) (T := TX2) (N := 7) hx hb hts k5 hown hK hP 4 (zX_4 cy ad S_2) rfl 2 (by decide) k7 (fun _ h9 => h9) rfl dX4_gatherFacts_30 ?_
  refine lv_iload_n hx hb dX4_gatherFacts_33 rfl (lv_at hl 1 rfl) ?_
  obtain ⟨h_3, hf⟩ := z_ix hf
  refine z_iald hx hb hK hP 6 0 (zX_6 cy ad S_2) rfl h_3 (k := (a_1.toNatClampNeg)) rfl dX4_gatherFacts_34 ?_
  refine z_iast hx hb hK hP (hD S_2) hS 132 0 (zX_132 cy ad S_2) rfl (vp_in_iff.mpr (by decide)) (k := 1) (by decide) dX4_gatherFacts_35 (fun H locs hP hS => ?_)
  obtain ⟨S_4, eS_4, hf⟩ := z_nm hf
  have hP := zW_putI hP eS_4 (by decide) rfl
  refine lv_aload_n hx hb dX4_gatherFacts_36 rfl (lv_at hl 0 rfl) ?_
  refine va_get (D := D) (ci := 4) (v := .ref (ad 132)) (C := RX4) (T := TX4) (N := 14) hx hb hts k0 hown hK hP 128 (zX_128 cy ad S_4) rfl 8 (by decide) k1 (fun _ h9 => h9) rfl dX4_gatherFacts_37 ?_
  refine lv_iconst (v := 2) hx hb dX4_gatherFacts_40 (by decide) ?_
  refine lv_aload_n hx hb dX4_gatherFacts_41 rfl (lv_at hl 0 rfl) ?_
  refine va_get (D := D) (ci := 4) (v := .ref (ad 3)) (C := RX4) (T := TX4) (N := 14) hx hb hts k0 hown hK hP 128 (zX_128 cy ad S_4) rfl 0 (by decide) k2 (fun _ h9 => h9) rfl dX4_gatherFacts_42 ?_
  refine va_get (D := D) (ci := 0) (v := .ref (ad 11)) (C := RX0) (T := TX0) (N := 6) hx hb hts k3 hown hK hP 3 (zX_3 cy ad S_4) rfl 1 (by decide) k8 (fun _ h9 => h9) rfl dX4_gatherFacts_45 ?_
  refine va_get (D := D) (ci := 10) (v := .ref (ad 12)) (C := RX10) (T := TX10) (N := 12) hx hb hts k9 hown hK hP 11 (zX_11 cy ad S_4) rfl 3 (by decide) k10 (fun _ h9 => h9) rfl dX4_gatherFacts_48 ?_
  refine lv_iload_n hx hb dX4_gatherFacts_51 rfl (lv_at hl 1 rfl) ?_
  obtain ⟨h_5, hf⟩ := z_ix hf
  refine z_iald hx hb hK hP 12 0 (zX_12 cy ad S_4) rfl h_5 (k := (a_1.toNatClampNeg)) rfl dX4_gatherFacts_52 ?_
  refine z_iast hx hb hK hP (hD S_4) hS 132 0 (zX_132 cy ad S_4) rfl (vp_in_iff.mpr (by decide)) (k := 2) (by decide) dX4_gatherFacts_53 (fun H locs hP hS => ?_)
  obtain ⟨S_6, eS_6, hf⟩ := z_nm hf
  have hP := zW_putI hP eS_6 (by decide) rfl
  refine lv_aload_n hx hb dX4_gatherFacts_54 rfl (lv_at hl 0 rfl) ?_
  refine va_get (D := D) (ci := 4) (v := .ref (ad 132)) (C := RX4) (T := TX4) (N := 14) hx hb hts k0 hown hK hP 128 (zX_128 cy ad S_6) rfl 8 (by decide) k1 (fun _ h9 => h9) rfl dX4_gatherFacts_55 ?_
  refine lv_iconst (v := 3) hx hb dX4_gatherFacts_58 (by decide) ?_
  refine lv_aload_n hx hb dX4_gatherFacts_59 rfl (lv_at hl 0 rfl) ?_
  refine va_get (D := D) (ci := 4) (v := .ref (ad 3)) (C := RX4) (T := TX4) (N := 14) hx hb hts k0 hown hK hP 128 (zX_128 cy ad S_6) rfl 0 (by decide) k2 (fun _ h9 => h9) rfl dX4_gatherFacts_60 ?_
  refine va_get (D := D) (ci := 0) (v := .ref (ad 11)) (C := RX0) (T := TX0) (N := 6) hx hb hts k3 hown hK hP 3 (zX_3 cy ad S_6) rfl 1 (by decide) k8 (fun _ h9 => h9) rfl dX4_gatherFacts_63 ?_
  refine va_get (D := D) (ci := 10) (v := .ref (ad 13)) (C := RX10) (T := TX10) (N := 12) hx hb hts k9 hown hK hP 11 (zX_11 cy ad S_6) rfl 4 (by decide) k11 (fun _ h9 => h9) rfl dX4_gatherFacts_66 ?_
  refine lv_iload_n hx hb dX4_gatherFacts_69 rfl (lv_at hl 1 rfl) ?_
  obtain ⟨h_7, hf⟩ := z_ix hf
  refine z_iald hx hb hK hP 13 0 (zX_13 cy ad S_6) rfl h_7 (k := (a_1.toNatClampNeg)) rfl dX4_gatherFacts_70 ?_
  refine z_iast hx hb hK hP (hD S_6) hS 132 0 (zX_132 cy ad S_6) rfl (vp_in_iff.mpr (by decide)) (k := 3) (by decide) dX4_gatherFacts_71 (fun H locs hP hS => ?_)
  obtain ⟨S_8, eS_8, hf⟩ := z_nm hf
  have hP := zW_putI hP eS_8 (by decide) rfl
  refine lv_aload_n hx hb dX4_gatherFacts_72 rfl (lv_at hl 0 rfl) ?_
  refine va_get (D := D) (ci := 4) (v := .ref (ad 132)) (C := RX4) (T := TX4) (N := 14) hx hb hts k0 hown hK hP 128 (zX_128 cy ad S_8) rfl 8 (by decide) k1 (fun _ h9 => h9) rfl dX4_gatherFacts_73 ?_
  refine lv_iconst (v := 4) hx hb dX4_gatherFacts_76 (by decide) ?_
  refine lv_aload_n hx hb dX4_gatherFacts_77 rfl (lv_at hl 0 rfl) ?_
  refine va_get (D := D) (ci := 4) (v := .ref (ad 3)) (C := RX4) (T := TX4) (N := 14) hx hb hts k0 hown hK hP 128 (zX_128 cy ad S_8) rfl 0 (by decide) k2 (fun _ h9 => h9) rfl dX4_gatherFacts_78 ?_
  refine va_get (D := D) (ci := 0) (v := .ref (ad 11)) (C := RX0) (T := TX0) (N := 6) hx hb hts k3 hown hK hP 3 (zX_3 cy ad S_8) rfl 1 (by decide) k8 (fun _ h9 => h9) rfl dX4_gatherFacts_81 ?_
  refine va_get (D := D) (ci := 10) (v := .ref (ad 14)) (C := RX10) (T := TX10) (N := 12) hx hb hts k9 hown hK hP 11 (zX_11 cy ad S_8) rfl 5 (by decide) k12 (fun _ h9 => h9) rfl dX4_gatherFacts_84 ?_
  refine lv_iload_n hx hb dX4_gatherFacts_87 rfl (lv_at hl 1 rfl) ?_
  obtain ⟨h_9, hf⟩ := z_ix hf
  refine z_iald hx hb hK hP 14 0 (zX_14 cy ad S_8) rfl h_9 (k := (a_1.toNatClampNeg)) rfl dX4_gatherFacts_88 ?_
  refine z_iast hx hb hK hP (hD S_8) hS 132 0 (zX_132 cy ad S_8) rfl (vp_in_iff.mpr (by decide)) (k := 4) (by decide) dX4_gatherFacts_89 (fun H locs hP hS => ?_)
  obtain ⟨S_10, eS_10, hf⟩ := z_nm hf
  have hP := zW_putI hP eS_10 (by decide) rfl
  refine lv_aload_n hx hb dX4_gatherFacts_90 rfl (lv_at hl 0 rfl) ?_
  refine va_get (D := D) (ci := 4) (v := .ref (ad 132)) (C := RX4) (T := TX4) (N := 14) hx hb hts k0 hown hK hP 128 (zX_128 cy ad S_10) rfl 8 (by decide) k1 (fun _ h9 => h9) rfl dX4_gatherFacts_91 ?_
  refine lv_iconst (v := 5) hx hb dX4_gatherFacts_94 (by decide) ?_
  refine lv_aload_n hx hb dX4_gatherFacts_95 rfl (lv_at hl 0 rfl) ?_
  refine va_get (D := D) (ci := 4) (v := .ref (ad 3)) (C := RX4) (T := TX4) (N := 14) hx hb hts k0 hown hK hP 128 (zX_128 cy ad S_10) rfl 0 (by decide) k2 (fun _ h9 => h9) rfl dX4_gatherFacts_96 ?_
  refine va_get (D := D) (ci := 0) (v := .ref (ad 11)) (C := RX0) (T := TX0) (N := 6) hx hb hts k3 hown hK hP 3 (zX_3 cy ad S_10) rfl 1 (by decide) k8 (fun _ h9 => h9) rfl dX4_gatherFacts_99 ?_
  refine va_get (D := D) (ci := 10) (v := .ref (ad 15)) (C := RX10) (T := TX10) (N := 12) hx hb hts k9 hown hK hP 11 (zX_11 cy ad S_10) rfl 6 (by decide) k13 (fun _ h9 => h9) rfl dX4_gatherFacts_102 ?_
  refine lv_iload_n hx hb dX4_gatherFacts_105 rfl (lv_at hl 1 rfl) ?_
  obtain ⟨h_11, hf⟩ := z_ix hf
  refine z_iald hx hb hK hP 15 0 (zX_15 cy ad S_10) rfl h_11 (k := (a_1.toNatClampNeg)) rfl dX4_gatherFacts_106 ?_
  refine z_iast hx hb hK hP (hD S_10) hS 132 0 (zX_132 cy ad S_10) rfl (vp_in_iff.mpr (by decide)) (k := 5) (by decide) dX4_gatherFacts_107 (fun H locs hP hS => ?_)
  obtain ⟨S_12, eS_12, hf⟩ := z_nm hf
  have hP := zW_putI hP eS_12 (by decide) rfl
  refine lv_aload_n hx hb dX4_gatherFacts_108 rfl (lv_at hl 0 rfl) ?_
  refine va_get (D := D) (ci := 4) (v := .ref (ad 132)) (C := RX4) (T := TX4) (N := 14) hx hb hts k0 hown hK hP 128 (zX_128 cy ad S_12) rfl 8 (by decide) k1 (fun _ h9 => h9) rfl dX4_gatherFacts_109 ?_
  refine lv_bipush (v := 6) hx hb dX4_gatherFacts_112 (by decide) ?_
  refine lv_aload_n hx hb dX4_gatherFacts_114 rfl (lv_at hl 0 rfl) ?_
  refine va_get (D := D) (ci := 4) (v := .ref (ad 3)) (C := RX4) (T := TX4) (N := 14) hx hb hts k0 hown hK hP 128 (zX_128 cy ad S_12) rfl 0 (by decide) k2 (fun _ h9 => h9) rfl dX4_gatherFacts_115 ?_
  refine va_get (D := D) (ci := 0) (v := .ref (ad 11)) (C := RX0) (T := TX0) (N := 6) hx hb hts k3 hown hK hP 3 (zX_3 cy ad S_12) rfl 1 (by decide) k8 (fun _ h9 => h9) rfl dX4_gatherFacts_118 ?_
  refine va_get (D := D) (ci := 10) (v := .ref (ad 17)) (C := RX10) (T := TX10) (N := 12) hx hb hts k9 hown hK hP 11 (zX_11 cy ad S_12) rfl 8 (by decide) k14 (fun _ h9 => h9) rfl dX4_gatherFacts_121 ?_
  refine lv_iload_n hx hb dX4_gatherFacts_124 rfl (lv_at hl 1 rfl) ?_
  obtain ⟨h_13, hf⟩ := z_ix hf
  refine z_iald hx hb hK hP 17 0 (zX_17 cy ad S_12) rfl h_13 (k := (a_1.toNatClampNeg)) rfl dX4_gatherFacts_125 ?_
  refine z_iast hx hb hK hP (hD S_12) hS 132 0 (zX_132 cy ad S_12) rfl (vp_in_iff.mpr (by decide)) (k := 6) (by decide) dX4_gatherFacts_126 (fun H locs hP hS => ?_)
  obtain ⟨S_14, eS_14, hf⟩ := z_nm hf
  have hP := zW_putI hP eS_14 (by decide) rfl
  refine lv_aload_n hx hb dX4_gatherFacts_127 rfl (lv_at hl 0 rfl) ?_
  refine va_get (D := D) (ci := 4) (v := .ref (ad 132)) (C := RX4) (T := TX4) (N := 14) hx hb hts k0 hown hK hP 128 (zX_128 cy ad S_14) rfl 8 (by decide) k1 (fun _ h9 => h9) rfl dX4_gatherFacts_128 ?_
  refine lv_bipush (v := 7) hx hb dX4_gatherFacts_131 (by decide) ?_
  refine lv_iload_n hx hb dX4_gatherFacts_133 rfl (lv_at hl 1 rfl) ?_
  refine z_iast hx hb hK hP (hD S_14) hS 132 0 (zX_132 cy ad S_14) rfl (vp_in_iff.mpr (by decide)) (k := 7) (by decide) dX4_gatherFacts_134 (fun H locs hP hS => ?_)
  obtain ⟨S_15, eS_15, hf⟩ := z_nm hf
  have hP := zW_putI hP eS_15 (by decide) rfl
  refine lv_aload_n hx hb dX4_gatherFacts_135 rfl (lv_at hl 0 rfl) ?_
  refine va_get (D := D) (ci := 4) (v := .ref (ad 132)) (C := RX4) (T := TX4) (N := 14) hx hb hts k0 hown hK hP 128 (zX_128 cy ad S_15) rfl 8 (by decide) k1 (fun _ h9 => h9) rfl dX4_gatherFacts_136 ?_
  refine lv_bipush (v := 8) hx hb dX4_gatherFacts_139 (by decide) ?_
  refine lv_aload_n hx hb dX4_gatherFacts_141 rfl (lv_at hl 0 rfl) ?_
  refine va_get (D := D) (ci := 4) (v := .ref (ad 3)) (C := RX4) (T := TX4) (N := 14) hx hb hts k0 hown hK hP 128 (zX_128 cy ad S_15) rfl 0 (by decide) k2 (fun _ h9 => h9) rfl dX4_gatherFacts_142 ?_
  refine va_get (D := D) (ci := 0) (v := .ref (ad 11)) (C := RX0) (T := TX0) (N := 6) hx hb hts k3 hown hK hP 3 (zX_3 cy ad S_15) rfl 1 (by decide) k8 (fun _ h9 => h9) rfl dX4_gatherFacts_145 ?_
  refine va_get (D := D) (ci := 10) (v := .int (S_15.1 11 1)) (C := RX10) (T := TX10) (N := 12) hx hb hts k9 hown hK hP 11 (zX_11 cy ad S_15) rfl 1 (by decide) k15 (fun _ h9 => h9) rfl dX4_gatherFacts_148 ?_
  refine z_iast hx hb hK hP (hD S_15) hS 132 0 (zX_132 cy ad S_15) rfl (vp_in_iff.mpr (by decide)) (k := 8) (by decide) dX4_gatherFacts_151 (fun H locs hP hS => ?_)
  obtain ⟨S_16, eS_16, hf⟩ := z_nm hf
  have hP := zW_putI hP eS_16 (by decide) rfl
  refine lv_aload_n hx hb dX4_gatherFacts_152 rfl (lv_at hl 0 rfl) ?_
  refine va_get (D := D) (ci := 4) (v := .ref (ad 132)) (C := RX4) (T := TX4) (N := 14) hx hb hts k0 hown hK hP 128 (zX_128 cy ad S_16) rfl 8 (by decide) k1 (fun _ h9 => h9) rfl dX4_gatherFacts_153 ?_
  refine lv_bipush (v := 9) hx hb dX4_gatherFacts_156 (by decide) ?_
  refine lv_aload_n hx hb dX4_gatherFacts_158 rfl (lv_at hl 0 rfl) ?_
  refine va_get (D := D) (ci := 4) (v := .ref (ad 3)) (C := RX4) (T := TX4) (N := 14) hx hb hts k0 hown hK hP 128 (zX_128 cy ad S_16) rfl 0 (by decide) k2 (fun _ h9 => h9) rfl dX4_gatherFacts_159 ?_
  refine va_get (D := D) (ci := 0) (v := .ref (ad 4)) (C := RX0) (T := TX0) (N := 6) hx hb hts k3 hown hK hP 3 (zX_3 cy ad S_16) rfl 0 (by decide) k4 (fun _ h9 => h9) rfl dX4_gatherFacts_162 ?_
  refine va_get (D := D) (ci := 2) (v := .ref (ad 10)) (C := RX2) (T := TX2) (N := 7) hx hb hts k5 hown hK hP 4 (zX_4 cy ad S_16) rfl 6 (by decide) k16 (fun _ h9 => h9) rfl dX4_gatherFacts_165 ?_
  refine lv_iload_n hx hb dX4_gatherFacts_168 rfl (lv_at hl 1 rfl) ?_
  obtain ⟨h_17, hf⟩ := z_ix hf
  refine z_iald hx hb hK hP 10 0 (zX_10 cy ad S_16) rfl h_17 (k := (a_1.toNatClampNeg)) rfl dX4_gatherFacts_169 ?_
  refine lv_ineg hx hb dX4_gatherFacts_170 ?_
  refine z_iast hx hb hK hP (hD S_16) hS 132 0 (zX_132 cy ad S_16) rfl (vp_in_iff.mpr (by decide)) (k := 9) (by decide) dX4_gatherFacts_171 (fun H locs hP hS => ?_)
  obtain ⟨S_18, eS_18, hf⟩ := z_nm hf
  have hP := zW_putI hP eS_18 (by decide) rfl
  obtain ⟨h1, h2⟩ := z_s2 hf
  subst h2
  exact hret _ _ _ _ hP hS dX4_gatherFacts_172
theorem yd_yX6_apply : (yX6_apply).cls ≠ "java/lang/invoke/MethodHandle" ∧ (yX6_apply).cls ≠ "java/lang/invoke/VarHandle" ∧ (parseMethodDescriptor (yX6_apply).desc).map (fun d => d.parameters.length) = some 3 := by decide +kernel
def fx_Rule_apply (S_0 : zSt) (a_1 : Int32) (a_2 : Int32) (a_3 : Int32) : Option (Int32 × zSt) :=
  if a_1 = (42 : Int32) then (
  some (a_2 * a_3, S_0)) else (
  if a_1 = (43 : Int32) then (
  some (a_2 + a_3, S_0)) else (
  if a_1 = (45 : Int32) then (
  some (a_2 - a_3, S_0)) else (
  if a_1 = (47 : Int32) then (
  znm (fun (x_7 : Int32) (S_8 : zSt) =>
  some (x_7, S_8)) fun j_99 =>
  if a_3 = 0 then (
  j_99 (0 : Int32) S_0) else (
  zck (znz a_3) <|
  j_99 (a_2 / a_3) S_0)) else (
  if a_1 = (60 : Int32) then (
  znm (fun (x_13 : Int32) (S_14 : zSt) =>
  some (x_13, S_14)) fun j_110 =>
  if a_3 ≤ a_2 then (
  j_110 (0 : Int32) S_0) else (
  j_110 (1 : Int32) S_0)) else (
  if a_1 = (61 : Int32) then (
  znm (fun (x_18 : Int32) (S_19 : zSt) =>
  some (x_18, S_19)) fun j_121 =>
  if a_2 = a_3 then (
  j_121 (1 : Int32) S_0) else (
  j_121 (0 : Int32) S_0)) else (
  if a_1 = (62 : Int32) then (
  znm (fun (x_23 : Int32) (S_24 : zSt) =>
  some (x_23, S_24)) fun j_132 =>
  if a_2 ≤ a_3 then (
  j_132 (0 : Int32) S_0) else (
  j_132 (1 : Int32) S_0)) else (
  if a_1 = (259 : Int32) then (
  some (a_2 &&& a_3, S_0)) else (
  some (a_2 ||| a_3, S_0)))))))))
set_option maxHeartbeats 4000000 in
set_option maxRecDepth 100000 in
theorem cx_Rule_apply (l : Launch) (D : va_G) (K : (Nat → Nat) × (Nat → Nat)) (cy : Nat → ClassId) (ad : Nat → Nat) (S_0 : zSt) (a_1 : Int32) (a_2 : Int32) (a_3 : Int32) (ro : Int32) (So : zSt) (hf : fx_Rule_apply S_0 a_1 a_2 a_3 = some (ro, So)) : zMI l yX6_apply (zws yX6_apply cX6_apply 3 (Option.some .int)) ({ frames := 0, cells := 0, slots := 0, locals := 0 }) D (zTy cy) K (zX cy ad) [.int a_1, .int a_2, .int a_3] S_0 ro So := by
  refine z_metI (own := RX6) (lv := [(0, .int a_1), (1, .int a_2), (2, .int a_3)]) (by decide) rfl rfl (Nat.le_of_ble_eq_true rfl) rfl ?_
  intro p e s m below meth c A Q X hK hE hD hA hret hP hS ls hl
  obtain ⟨hx, hb, hml, hown, hts⟩ := id X
  refine lv_iload_n hx hb dX6_apply_0 rfl (lv_at hl 0 rfl) ?_
  by_cases c_1 : a_1 = (42 : Int32)
  · have hf := z_it c_1 hf
    refine lv_lookup (off := 83) (tgt := 84) hx hb dX6_apply_1 (by decide) (by rw [c_1]; rfl) (by decide) ?_
    refine lv_iload_n hx hb dX6_apply_84 rfl (lv_at hl 1 rfl) ?_
    refine lv_iload_n hx hb dX6_apply_85 rfl (lv_at hl 2 rfl) ?_
    refine lv_imul hx hb dX6_apply_86 ?_
    obtain ⟨h1, h2⟩ := z_s2 hf
    subst h1 h2
    exact hret _ _ _ _ hP hS dX6_apply_87
  have hf := z_if c_1 hf
  have n_2 : a_1.toInt ≠ 42 := z_ne c_1 (by decide)
  by_cases c_3 : a_1 = (43 : Int32)
  · have hf := z_it c_3 hf
    refine lv_lookup (off := 75) (tgt := 76) hx hb dX6_apply_1 (by decide) (by rw [c_3]; rfl) (by decide) ?_
    refine lv_iload_n hx hb dX6_apply_76 rfl (lv_at hl 1 rfl) ?_
    refine lv_iload_n hx hb dX6_apply_77 rfl (lv_at hl 2 rfl) ?_
    refine lv_iadd hx hb dX6_apply_78 ?_
    obtain ⟨h1, h2⟩ := z_s2 hf
    subst h1 h2
    exact hret _ _ _ _ hP hS dX6_apply_79
  have hf := z_if c_3 hf
  have n_4 : a_1.toInt ≠ 43 := z_ne c_3 (by decide)
  by_cases c_5 : a_1 = (45 : Int32)
  · have hf := z_it c_5 hf
    refine lv_lookup (off := 79) (tgt := 80) hx hb dX6_apply_1 (by decide) (by rw [c_5]; rfl) (by decide) ?_
    refine lv_iload_n hx hb dX6_apply_80 rfl (lv_at hl 1 rfl) ?_
    refine lv_iload_n hx hb dX6_apply_81 rfl (lv_at hl 2 rfl) ?_
    refine lv_isub hx hb dX6_apply_82 ?_
    obtain ⟨h1, h2⟩ := z_s2 hf
    subst h1 h2
    exact hret _ _ _ _ hP hS dX6_apply_83
  have hf := z_if c_5 hf
  have n_6 : a_1.toInt ≠ 45 := z_ne c_5 (by decide)
  by_cases c_11 : a_1 = (47 : Int32)
  · have hf := z_it c_11 hf
    refine lv_lookup (off := 87) (tgt := 88) hx hb dX6_apply_1 (by decide) (by rw [c_11]; rfl) (by decide) ?_
    refine lv_iload_n hx hb dX6_apply_88 rfl (lv_at hl 2 rfl) ?_
    obtain ⟨j_99, ej_99, hf⟩ := z_nm hf
    have J_99 : ∀ (x_7 : Int32) (S_8 : zSt) (H : Heap) (locs : List Loc) (ls : Array Slot), j_99 x_7 S_8 = some (ro, So) → va_P D vwCl (zX cy ad S_8) H → va_S A s.heap H locs → lv_has ls 3 [] → W p l e ({ frames := 0, cells := 0, slots := 0, locals := 0 }) s m ([.int a_1, .int a_2, .int a_3] : List Value).toArray below meth c H locs 0 0 Q (F0 m 99 ls [.int x_7]) := by
      intro x_7 S_8 H locs ls hf hP hS hl
      have hf := z_e2 ej_99 hf
      obtain ⟨h1, h2⟩ := z_s2 hf
      subst h1 h2
      exact hret _ _ _ _ hP hS dX6_apply_99
    refine lv_if_ne (tgt := 96) hx hb dX6_apply_89 (by decide) (fun c_10 => ?_) (fun c_10 => ?_)
    · have hf := z_if c_10 hf
      refine lv_iload_n hx hb dX6_apply_96 rfl (lv_at hl 1 rfl) ?_
      refine lv_iload_n hx hb dX6_apply_97 rfl (lv_at hl 2 rfl) ?_
      obtain ⟨h_9, hf⟩ := z_nz hf
      refine lv_idiv hx hb dX6_apply_98 h_9 ?_
      exact J_99 (a_2 / a_3) S_0 _ _ _ hf hP hS (lv_sub hl [] rfl)
    · have hf := z_it c_10 hf
      refine lv_iconst (v := 0) hx hb dX6_apply_92 (by decide) ?_
      refine lv_goto (tgt := 99) hx hb dX6_apply_93 (by decide) ?_
      exact J_99 (0 : Int32) S_0 _ _ _ hf hP hS (lv_sub hl [] rfl)
  have hf := z_if c_11 hf
  have n_12 : a_1.toInt ≠ 47 := z_ne c_11 (by decide)
  by_cases c_16 : a_1 = (60 : Int32)
  · have hf := z_it c_16 hf
    refine lv_lookup (off := 99) (tgt := 100) hx hb dX6_apply_1 (by decide) (by rw [c_16]; rfl) (by decide) ?_
    refine lv_iload_n hx hb dX6_apply_100 rfl (lv_at hl 1 rfl) ?_
    refine lv_iload_n hx hb dX6_apply_101 rfl (lv_at hl 2 rfl) ?_
    obtain ⟨j_110, ej_110, hf⟩ := z_nm hf
    have J_110 : ∀ (x_13 : Int32) (S_14 : zSt) (H : Heap) (locs : List Loc) (ls : Array Slot), j_110 x_13 S_14 = some (ro, So) → va_P D vwCl (zX cy ad S_14) H → va_S A s.heap H locs → lv_has ls 3 [] → W p l e ({ frames := 0, cells := 0, slots := 0, locals := 0 }) s m ([.int a_1, .int a_2, .int a_3] : List Value).toArray below meth c H locs 0 0 Q (F0 m 110 ls [.int x_13]) := by
      intro x_13 S_14 H locs ls hf hP hS hl
      have hf := z_e2 ej_110 hf
      obtain ⟨h1, h2⟩ := z_s2 hf
      subst h1 h2
      exact hret _ _ _ _ hP hS dX6_apply_110
    refine lv_icmp_ge (tgt := 109) hx hb dX6_apply_102 (by decide) (fun c_15 => ?_) (fun c_15 => ?_)
    · have hf := z_it c_15 hf
      refine lv_iconst (v := 0) hx hb dX6_apply_109 (by decide) ?_
      exact J_110 (0 : Int32) S_0 _ _ _ hf hP hS (lv_sub hl [] rfl)
    · have hf := z_if c_15 hf
      refine lv_iconst (v := 1) hx hb dX6_apply_105 (by decide) ?_
      refine lv_goto (tgt := 110) hx hb dX6_apply_106 (by decide) ?_
      exact J_110 (1 : Int32) S_0 _ _ _ hf hP hS (lv_sub hl [] rfl)
  have hf := z_if c_16 hf
  have n_17 : a_1.toInt ≠ 60 := z_ne c_16 (by decide)
  by_cases c_21 : a_1 = (61 : Int32)
  · have hf := z_it c_21 hf
    refine lv_lookup (off := 110) (tgt := 111) hx hb dX6_apply_1 (by decide) (by rw [c_21]; rfl) (by decide) ?_
    refine lv_iload_n hx hb dX6_apply_111 rfl (lv_at hl 1 rfl) ?_
    refine lv_iload_n hx hb dX6_apply_112 rfl (lv_at hl 2 rfl) ?_
    obtain ⟨j_121, ej_121, hf⟩ := z_nm hf
    have J_121 : ∀ (x_18 : Int32) (S_19 : zSt) (H : Heap) (locs : List Loc) (ls : Array Slot), j_121 x_18 S_19 = some (ro, So) → va_P D vwCl (zX cy ad S_19) H → va_S A s.heap H locs → lv_has ls 3 [] → W p l e ({ frames := 0, cells := 0, slots := 0, locals := 0 }) s m ([.int a_1, .int a_2, .int a_3] : List Value).toArray below meth c H locs 0 0 Q (F0 m 121 ls [.int x_18]) := by
      intro x_18 S_19 H locs ls hf hP hS hl
      have hf := z_e2 ej_121 hf
      obtain ⟨h1, h2⟩ := z_s2 hf
      subst h1 h2
      exact hret _ _ _ _ hP hS dX6_apply_121
    refine lv_icmp_ne (tgt := 120) hx hb dX6_apply_113 (by decide) (fun c_20 => ?_) (fun c_20 => ?_)
    · have hf := z_if c_20 hf
      refine lv_iconst (v := 0) hx hb dX6_apply_120 (by decide) ?_
      exact J_121 (0 : Int32) S_0 _ _ _ hf hP hS (lv_sub hl [] rfl)
    · have hf := z_it c_20 hf
      refine lv_iconst (v := 1) hx hb dX6_apply_116 (by decide) ?_
      refine lv_goto (tgt := 121) hx hb dX6_apply_117 (by decide) ?_
      exact J_121 (1 : Int32) S_0 _ _ _ hf hP hS (lv_sub hl [] rfl)
  have hf := z_if c_21 hf
  have n_22 : a_1.toInt ≠ 61 := z_ne c_21 (by decide)
  by_cases c_26 : a_1 = (62 : Int32)
  · have hf := z_it c_26 hf
    refine lv_lookup (off := 121) (tgt := 122) hx hb dX6_apply_1 (by decide) (by rw [c_26]; rfl) (by decide) ?_
    refine lv_iload_n hx hb dX6_apply_122 rfl (lv_at hl 1 rfl) ?_
    refine lv_iload_n hx hb dX6_apply_123 rfl (lv_at hl 2 rfl) ?_
    obtain ⟨j_132, ej_132, hf⟩ := z_nm hf
    have J_132 : ∀ (x_23 : Int32) (S_24 : zSt) (H : Heap) (locs : List Loc) (ls : Array Slot), j_132 x_23 S_24 = some (ro, So) → va_P D vwCl (zX cy ad S_24) H → va_S A s.heap H locs → lv_has ls 3 [] → W p l e ({ frames := 0, cells := 0, slots := 0, locals := 0 }) s m ([.int a_1, .int a_2, .int a_3] : List Value).toArray below meth c H locs 0 0 Q (F0 m 132 ls [.int x_23]) := by
      intro x_23 S_24 H locs ls hf hP hS hl
      have hf := z_e2 ej_132 hf
      obtain ⟨h1, h2⟩ := z_s2 hf
      subst h1 h2
      exact hret _ _ _ _ hP hS dX6_apply_132
    refine lv_icmp_le (tgt := 131) hx hb dX6_apply_124 (by decide) (fun c_25 => ?_) (fun c_25 => ?_)
    · have hf := z_it c_25 hf
      refine lv_iconst (v := 0) hx hb dX6_apply_131 (by decide) ?_
      exact J_132 (0 : Int32) S_0 _ _ _ hf hP hS (lv_sub hl [] rfl)
    · have hf := z_if c_25 hf
      refine lv_iconst (v := 1) hx hb dX6_apply_127 (by decide) ?_
      refine lv_goto (tgt := 132) hx hb dX6_apply_128 (by decide) ?_
      exact J_132 (1 : Int32) S_0 _ _ _ hf hP hS (lv_sub hl [] rfl)
  have hf := z_if c_26 hf
  have n_27 : a_1.toInt ≠ 62 := z_ne c_26 (by decide)
  by_cases c_28 : a_1 = (259 : Int32)
  · have hf := z_it c_28 hf
    refine lv_lookup (off := 132) (tgt := 133) hx hb dX6_apply_1 (by decide) (by rw [c_28]; rfl) (by decide) ?_
    refine lv_iload_n hx hb dX6_apply_133 rfl (lv_at hl 1 rfl) ?_
    refine lv_iload_n hx hb dX6_apply_134 rfl (lv_at hl 2 rfl) ?_
    refine lv_iand hx hb dX6_apply_135 ?_
    obtain ⟨h1, h2⟩ := z_s2 hf
    subst h1 h2
    exact hret _ _ _ _ hP hS dX6_apply_136
  have hf := z_if c_28 hf
  have n_29 : a_1.toInt ≠ 259 := z_ne c_28 (by decide)
  refine lv_lookup (off := 136) (tgt := 137) hx hb dX6_apply_1 (by decide) (by simp only [Op.lookupswitch.offset_cons, Op.lookupswitch.offset_nil, ne_eq]; simp [n_2, n_4, n_6, n_12, n_17, n_22, n_27, n_29, Ne.symm n_2, Ne.symm n_4, Ne.symm n_6, Ne.symm n_12, Ne.symm n_17, Ne.symm n_22, Ne.symm n_27, Ne.symm n_29]) (by decide) ?_
  refine lv_iload_n hx hb dX6_apply_137 rfl (lv_at hl 1 rfl) ?_
  refine lv_iload_n hx hb dX6_apply_138 rfl (lv_at hl 2 rfl) ?_
  refine lv_ior hx hb dX6_apply_139 ?_
  obtain ⟨h1, h2⟩ := z_s2 hf
  subst h1 h2
  exact hret _ _ _ _ hP hS dX6_apply_140
theorem yd_yX6_valueOf : (yX6_valueOf).cls ≠ "java/lang/invoke/MethodHandle" ∧ (yX6_valueOf).cls ≠ "java/lang/invoke/VarHandle" ∧ (parseMethodDescriptor (yX6_valueOf).desc).map (fun d => d.parameters.length) = some 2 := by decide +kernel
def fx_Rule_valueOf (S_0 : zSt) (a_1 : Int32) : Option (Int32 × zSt) :=
  if (10000 : Int32) ≤ a_1 then (
  znm (a_1 - (10000 : Int32)) fun x_1 =>
  znm (fun (x_2 : Int32) (S_3 : zSt) =>
  some (x_2, S_3)) fun j_28 =>
  if (10 : Int32) ≤ x_1 then (
  j_28 (0 : Int32) S_0) else (
  zck (zix x_1 10) <|
  j_28 (S_0.1 132 (x_1.toNatClampNeg)) S_0)) else (
  some (a_1, S_0))
set_option maxHeartbeats 4000000 in
set_option maxRecDepth 100000 in
theorem cx_Rule_valueOf (l : Launch) (D : va_G) (K : (Nat → Nat) × (Nat → Nat)) (cy : Nat → ClassId) (ad : Nat → Nat) (S_0 : zSt) (a_1 : Int32) (ro : Int32) (So : zSt) (hf : fx_Rule_valueOf S_0 a_1 = some (ro, So)) : zMI l yX6_valueOf (zws yX6_valueOf cX6_valueOf 3 (Option.some .int)) ({ frames := 0, cells := 0, slots := 0, locals := 0 }) D (zTy cy) K (zX cy ad) [.int a_1, .ref (ad 132)] S_0 ro So := by
  refine z_metI (own := RX6) (lv := [(0, .int a_1), (1, .ref (ad 132))]) (by decide) rfl rfl (Nat.le_of_ble_eq_true rfl) rfl ?_
  intro p e s m below meth c A Q X hK hE hD hA hret hP hS ls hl
  obtain ⟨hx, hb, hml, hown, hts⟩ := id X
  refine lv_iload_n hx hb dX6_valueOf_0 rfl (lv_at hl 0 rfl) ?_
  refine lv_sipush (v := 10000) hx hb dX6_valueOf_1 (by decide) ?_
  refine lv_icmp_ge (tgt := 9) hx hb dX6_valueOf_4 (by decide) (fun c_6 => ?_) (fun c_6 => ?_)
  · have hf := z_it c_6 hf
    refine lv_iload_n hx hb dX6_valueOf_9 rfl (lv_at hl 0 rfl) ?_
    refine lv_sipush (v := 10000) hx hb dX6_valueOf_10 (by decide) ?_
    refine lv_isub hx hb dX6_valueOf_13 ?_
    refine lv_topi (fun x_1 ex_1 => ?_)
    have hf := z_nv ex_1 hf
    refine lv_istore_n (lv' := [(2, .int x_1), (0, .int a_1), (1, .ref (ad 132))]) hx hb dX6_valueOf_14 rfl hl (by decide) rfl (fun ls hl => ?_)
    refine lv_iload_n hx hb dX6_valueOf_15 rfl (lv_at hl 0 rfl) ?_
    refine lv_bipush (v := 10) hx hb dX6_valueOf_16 (by decide) ?_
    obtain ⟨j_28, ej_28, hf⟩ := z_nm hf
    have J_28 : ∀ (x_2 : Int32) (S_3 : zSt) (H : Heap) (locs : List Loc) (ls : Array Slot), j_28 x_2 S_3 = some (ro, So) → va_P D vwCl (zX cy ad S_3) H → va_S A s.heap H locs → lv_has ls 3 [] → W p l e ({ frames := 0, cells := 0, slots := 0, locals := 0 }) s m ([.int a_1, .ref (ad 132)] : List Value).toArray below meth c H locs 0 0 Q (F0 m 28 ls [.int x_2]) := by
      intro x_2 S_3 H locs ls hf hP hS hl
      have hf := z_e2 ej_28 hf
      obtain ⟨h1, h2⟩ := z_s2 hf
      subst h1 h2
      exact hret _ _ _ _ hP hS dX6_valueOf_28
    refine lv_icmp_ge (tgt := 27) hx hb dX6_valueOf_18 (by decide) (fun c_5 => ?_) (fun c_5 => ?_)
    · have hf := z_it c_5 hf
      refine lv_iconst (v := 0) hx hb dX6_valueOf_27 (by decide) ?_
      exact J_28 (0 : Int32) S_0 _ _ _ hf hP hS (lv_sub hl [] rfl)
    · have hf := z_if c_5 hf
      refine lv_aload_n hx hb dX6_valueOf_21 rfl (lv_at hl 2 rfl) ?_
      refine lv_iload_n hx hb dX6_valueOf_22 rfl (lv_at hl 0 rfl) ?_
      obtain ⟨h_4, hf⟩ := z_ix hf
      refine z_iald hx hb hK hP 132 0 (zX_132 cy ad S_0) rfl h_4 (k := (x_1.toNatClampNeg)) rfl dX6_valueOf_23 ?_
      refine lv_goto (tgt := 28) hx hb dX6_valueOf_24 (by decide) ?_
      exact J_28 (S_0.1 132 (x_1.toNatClampNeg)) S_0 _ _ _ hf hP hS (lv_sub hl [] rfl)
  · have hf := z_if c_6 hf
    refine lv_iload_n hx hb dX6_valueOf_7 rfl (lv_at hl 0 rfl) ?_
    obtain ⟨h1, h2⟩ := z_s2 hf
    subst h1 h2
    exact hret _ _ _ _ hP hS dX6_valueOf_8
theorem yd_yX6_worth : (yX6_worth).cls ≠ "java/lang/invoke/MethodHandle" ∧ (yX6_worth).cls ≠ "java/lang/invoke/VarHandle" ∧ (parseMethodDescriptor (yX6_worth).desc).map (fun d => d.parameters.length) = some 2 := by decide +kernel
def fx_Rule_worth_L5 (j_56 : Int32 → zSt → Option (Int32 × zSt)) : Nat → Int32 → Int32 → zSt → Option (Int32 × zSt)
  | 0, _, _, _ => none
  | n_5 + 1, x_7, x_8, S_9 =>
    if (S_9.1 20 1) ≤ x_8 then (
    some ((0 : Int32), S_9)) else (
    zck (zix x_8 400) <|
    znm (S_9.1 21 (x_8.toNatClampNeg)) fun x_11 =>
    znm (fun (x_12 : Int32) (S_13 : zSt) =>
    znm (x_8 + (1 : Int32)) fun x_14 =>
    fx_Rule_worth_L5 j_56 n_5 x_12 x_14 S_13) fun j_158 =>
    if x_11 < 0 then (
    if x_11 = (-59 : Int32) then (
    j_56 x_7 S_9) else (
    if x_11 = (-257 : Int32) then (
    znm (fun (S_29 : zSt) =>
    j_158 (0 : Int32) S_29) fun j_97 =>
    if x_7 ≤ (1 : Int32) then (
    j_97  S_9) else (
    zck (zix (x_7 - (1 : Int32)) 64) <|
    if (S_9.1 133 ((x_7 - (1 : Int32)).toNatClampNeg)) = 0 then (
    j_97  S_9) else (
    zck (zix (x_7 - (2 : Int32)) 64) <|
    some (S_9.1 133 ((x_7 - (2 : Int32)).toNatClampNeg), S_9)))) else (
    if x_11 = (-260 : Int32) then (
    if x_7 ≤ 0 then (
    j_158 x_7 S_9) else (
    zck (zix (x_7 - (1 : Int32)) 64) <|
    zck (zix (x_7 - (1 : Int32)) 64) <|
    znm (zpI S_9 133 ((x_7 - (1 : Int32)).toNatClampNeg) ((1 : Int32) - (S_9.1 133 ((x_7 - (1 : Int32)).toNatClampNeg)))) fun S_26 =>
    j_158 x_7 S_26)) else (
    if x_7 ≤ (1 : Int32) then (
    j_158 x_7 S_9) else (
    zck (zix (x_7 - (2 : Int32)) 64) <|
    zck (zix (x_7 - (1 : Int32)) 64) <|
    zbd (fx_Rule_apply S_9 (-x_11) (S_9.1 133 ((x_7 - (2 : Int32)).toNatClampNeg)) (S_9.1 133 ((x_7 - (1 : Int32)).toNatClampNeg))) fun r_17 S_18 =>
    zck (zix (x_7 - (2 : Int32)) 64) <|
    znm (zpI S_18 133 ((x_7 - (2 : Int32)).toNatClampNeg) r_17) fun S_21 =>
    znm (x_7 + (-1 : Int32)) fun x_22 =>
    j_158 x_22 S_21))))) else (
    if (64 : Int32) ≤ x_7 then (
    j_158 x_7 S_9) else (
    zbd (fx_Rule_valueOf S_9 x_11) fun r_36 S_37 =>
    zck (zix x_7 64) <|
    znm (zpI S_37 133 (x_7.toNatClampNeg) r_36) fun S_40 =>
    znm (x_7 + (1 : Int32)) fun x_41 =>
    j_158 x_41 S_40)))
def fx_Rule_worth (S_0 : zSt) : Option (Int32 × zSt) :=
  znm (fun (x_1 : Int32) (S_2 : zSt) =>
  znm (fun (x_3 : Int32) (S_4 : zSt) =>
  some (x_3, S_4)) fun j_69 =>
  if x_1 ≤ 0 then (
  j_69 (0 : Int32) S_2) else (
  zck (zix (x_1 - (1 : Int32)) 64) <|
  j_69 (S_2.1 133 ((x_1 - (1 : Int32)).toNatClampNeg)) S_2)) fun j_56 =>
  fx_Rule_worth_L5 j_56 zFU (0 : Int32) (0 : Int32) S_0
set_option maxHeartbeats 4000000 in
set_option maxRecDepth 100000 in
theorem cx_Rule_worth (l : Launch) (D : va_G) (K : (Nat → Nat) × (Nat → Nat)) (cy : Nat → ClassId) (ad : Nat → Nat) (S_0 : zSt) (ro : Int32) (So : zSt) (hf : fx_Rule_worth S_0 = some (ro, So)) : zMI l yX6_worth (zws yX6_worth cX6_worth 6 (Option.some .int)) ({ frames := 1, cells := 0, slots := 0, locals := 22 }) D (zTy cy) K (zX cy ad) [.ref (ad 20), .ref (ad 132), .ref (ad 133)] S_0 ro So := by
  refine z_metI (own := RX6) (lv := [(0, .ref (ad 20)), (1, .ref (ad 132)), (2, .ref (ad 133))]) (by decide) rfl rfl (Nat.le_of_ble_eq_true rfl) rfl ?_
  intro p e s m below meth c A Q X hK hE hD hA hret hP hS ls hl
  obtain ⟨hx, hb, hml, hown, hts⟩ := id X
  have k0 := (fun w h => List.mem_cons_of_mem _ (zFX6 w h) : ∀ w ∈ u_ws RX6 TX6 3, w ∈ zws yX6_worth cX6_worth 6 (Option.some .int))
  have k1 := hts _ (List.mem_cons_of_mem _ wt_1_175)
  have k2 := hts _ (List.mem_cons_of_mem _ wt_1_173)
  refine lv_iconst (v := 0) hx hb dX6_worth_0 (by decide) ?_
  refine lv_istore_n (lv' := [(3, .int (0 : Int32)), (0, .ref (ad 20)), (1, .ref (ad 132)), (2, .ref (ad 133))]) hx hb dX6_worth_1 rfl hl (by decide) rfl (fun ls hl => ?_)
  refine lv_iconst (v := 0) hx hb dX6_worth_2 (by decide) ?_
  refine lv_istore (lv' := [(4, .int (0 : Int32)), (3, .int (0 : Int32)), (0, .ref (ad 20)), (1, .ref (ad 132)), (2, .ref (ad 133))]) hx hb dX6_worth_3 hl (by decide) rfl (fun ls hl => ?_)
  obtain ⟨j_56, ej_56, hf⟩ := z_nm hf
  have J_56 : ∀ (x_1 : Int32) (S_2 : zSt) (H : Heap) (locs : List Loc) (ls : Array Slot), j_56 x_1 S_2 = some (ro, So) → va_P D vwCl (zX cy ad S_2) H → va_S A s.heap H locs → lv_has ls 6 [(2, .ref (ad 133)), (3, .int x_1)] → W p l e ({ frames := 1, cells := 0, slots := 0, locals := 22 }) s m ([.ref (ad 20), .ref (ad 132), .ref (ad 133)] : List Value).toArray below meth c H locs 0 0 Q (F0 m 56 ls []) := by
    intro x_1 S_2 H locs ls hf hP hS hl
    have hf := z_e2 ej_56 hf
    refine lv_iload_n hx hb dX6_worth_56 rfl (lv_at hl 1 rfl) ?_
    obtain ⟨j_69, ej_69, hf⟩ := z_nm hf
    have J_69 : ∀ (x_3 : Int32) (S_4 : zSt) (H : Heap) (locs : List Loc) (ls : Array Slot), j_69 x_3 S_4 = some (ro, So) → va_P D vwCl (zX cy ad S_4) H → va_S A s.heap H locs → lv_has ls 6 [] → W p l e ({ frames := 1, cells := 0, slots := 0, locals := 22 }) s m ([.ref (ad 20), .ref (ad 132), .ref (ad 133)] : List Value).toArray below meth c H locs 0 0 Q (F0 m 69 ls [.int x_3]) := by
      intro x_3 S_4 H locs ls hf hP hS hl
      have hf := z_e2 ej_69 hf
      obtain ⟨h1, h2⟩ := z_s2 hf
      subst h1 h2
      exact hret _ _ _ _ hP hS dX6_worth_69
    refine lv_if_le (tgt := 68) hx hb dX6_worth_57 (by decide) (fun c_6 => ?_) (fun c_6 => ?_)
    · have hf := z_it c_6 hf
      refine lv_iconst (v := 0) hx hb dX6_worth_68 (by decide) ?_
      exact J_69 (0 : Int32) S_2 _ _ _ hf hP hS (lv_sub hl [] rfl)
    · have hf := z_if c_6 hf
      refine lv_aload_n hx hb dX6_worth_60 rfl (lv_at hl 0 rfl) ?_
      refine lv_iload_n hx hb dX6_worth_61 rfl (lv_at hl 1 rfl) ?_
      refine lv_iconst (v := 1) hx hb dX6_worth_62 (by decide) ?_
      refine lv_isub hx hb dX6_worth_63 ?_
      obtain ⟨h_5, hf⟩ := z_ix hf
      refine z_iald hx hb hK hP 133 0 (zX_133 cy ad S_2) rfl h_5 (k := ((x_1 - (1 : Int32)).toNatClampNeg)) rfl dX6_worth_64 ?_
      refine lv_goto (tgt := 69) hx hb dX6_worth_65 (by decide) ?_
      exact J_69 (S_2.1 133 ((x_1 - (1 : Int32)).toNatClampNeg)) S_2 _ _ _ hf hP hS (lv_sub hl [] rfl)
  have L_5 : ∀ (n_5 : Nat) (x_7 : Int32) (x_8 : Int32) (S_9 : zSt) (H : Heap) (locs : List Loc) (ls : Array Slot), fx_Rule_worth_L5 j_56 n_5 x_7 x_8 S_9 = some (ro, So) → va_P D vwCl (zX cy ad S_9) H → va_S A s.heap H locs → lv_has ls 6 [(0, .ref (ad 20)), (1, .ref (ad 132)), (2, .ref (ad 133)), (3, .int x_7), (4, .int x_8)] → W p l e ({ frames := 1, cells := 0, slots := 0, locals := 22 }) s m ([.ref (ad 20), .ref (ad 132), .ref (ad 133)] : List Value).toArray below meth c H locs 0 0 Q (F0 m 5 ls []) := by
    intro n_5
    induction n_5 with
    | zero =>
      intro x_7 x_8 S_9 H locs ls hf hP hS hl
      exact z_no hf
    | succ n_5 ih_5 =>
      intro x_7 x_8 S_9 H locs ls hf hP hS hl
      rw [fx_Rule_worth_L5] at hf
      refine lv_iload hx hb dX6_worth_5 (lv_at hl 4 rfl) ?_
      refine lv_aload_n hx hb dX6_worth_7 rfl (lv_at hl 0 rfl) ?_
      refine va_get (D := D) (ci := 6) (v := .int (S_9.1 20 1)) (C := RX6) (T := TX6) (N := 3) hx hb hts k0 hown hK hP 20 (zX_20 cy ad S_9) rfl 1 (by decide) k1 (fun _ h9 => h9) rfl dX6_worth_8 ?_
      refine lv_icmp_ge (tgt := 164) hx hb dX6_worth_11 (by decide) (fun c_44 => ?_) (fun c_44 => ?_)
      · have hf := z_it c_44 hf
        refine lv_iconst (v := 0) hx hb dX6_worth_164 (by decide) ?_
        obtain ⟨h1, h2⟩ := z_s2 hf
        subst h1 h2
        exact hret _ _ _ _ hP hS dX6_worth_165
      · have hf := z_if c_44 hf
        refine lv_aload_n hx hb dX6_worth_14 rfl (lv_at hl 0 rfl) ?_
        refine va_get (D := D) (ci := 6) (v := .ref (ad 21)) (C := RX6) (T := TX6) (N := 3) hx hb hts k0 hown hK hP 20 (zX_20 cy ad S_9) rfl 0 (by decide) k2 (fun _ h9 => h9) rfl dX6_worth_15 ?_
        refine lv_iload hx hb dX6_worth_18 (lv_at hl 4 rfl) ?_
        obtain ⟨h_10, hf⟩ := z_ix hf
        refine z_iald hx hb hK hP 21 0 (zX_21 cy ad S_9) rfl h_10 (k := (x_8.toNatClampNeg)) rfl dX6_worth_20 ?_
        refine lv_topi (fun x_11 ex_11 => ?_)
        have hf := z_nv ex_11 hf
        refine lv_istore (lv' := [(5, .int x_11), (0, .ref (ad 20)), (1, .ref (ad 132)), (2, .ref (ad 133)), (3, .int x_7), (4, .int x_8)]) hx hb dX6_worth_21 hl (by decide) rfl (fun ls hl => ?_)
        refine lv_iload hx hb dX6_worth_23 (lv_at hl 0 rfl) ?_
        obtain ⟨j_158, ej_158, hf⟩ := z_nm hf
        have J_158 : ∀ (x_12 : Int32) (S_13 : zSt) (H : Heap) (locs : List Loc) (ls : Array Slot), j_158 x_12 S_13 = some (ro, So) → va_P D vwCl (zX cy ad S_13) H → va_S A s.heap H locs → lv_has ls 6 [(0, .ref (ad 20)), (1, .ref (ad 132)), (2, .ref (ad 133)), (3, .int x_12), (4, .int x_8)] → W p l e ({ frames := 1, cells := 0, slots := 0, locals := 22 }) s m ([.ref (ad 20), .ref (ad 132), .ref (ad 133)] : List Value).toArray below meth c H locs 0 0 Q (F0 m 158 ls []) := by
          intro x_12 S_13 H locs ls hf hP hS hl
          have hf := z_e2 ej_158 hf
          obtain ⟨x_14, ex_14, hf⟩ := z_nm hf
          refine lv_iinc (v := x_14) (lv' := [(4, .int x_14), (0, .ref (ad 20)), (1, .ref (ad 132)), (2, .ref (ad 133)), (3, .int x_12)]) hx hb dX6_worth_158 hl (k := 4) rfl (by rw [ex_14]; rfl) (by decide) rfl (fun ls hl => ?_)
          refine lv_goto (tgt := 5) hx hb dX6_worth_161 (by decide) ?_
          exact ih_5 x_12 x_14 S_13 _ _ _ hf hP hS (lv_sub hl [1, 2, 3, 4, 0] rfl)
        refine lv_if_lt (tgt := 49) hx hb dX6_worth_25 (by decide) (fun c_43 => ?_) (fun c_43 => ?_)
        · have hf := z_it c_43 hf
          refine lv_iload hx hb dX6_worth_49 (lv_at hl 0 rfl) ?_
          refine lv_bipush (v := -59) hx hb dX6_worth_51 (by decide) ?_
          refine lv_icmp_ne (tgt := 70) hx hb dX6_worth_53 (by decide) (fun c_35 => ?_) (fun c_35 => ?_)
          · have hf := z_if c_35 hf
            refine lv_iload hx hb dX6_worth_70 (lv_at hl 0 rfl) ?_
            refine lv_sipush (v := -257) hx hb dX6_worth_72 (by decide) ?_
            refine lv_icmp_ne (tgt := 102) hx hb dX6_worth_75 (by decide) (fun c_34 => ?_) (fun c_34 => ?_)
            · have hf := z_if c_34 hf
              refine lv_iload hx hb dX6_worth_102 (lv_at hl 0 rfl) ?_
              refine lv_sipush (v := -260) hx hb dX6_worth_104 (by decide) ?_
              refine lv_icmp_ne (tgt := 129) hx hb dX6_worth_107 (by decide) (fun c_28 => ?_) (fun c_28 => ?_)
              · have hf := z_if c_28 hf
                refine lv_iload_n hx hb dX6_worth_129 rfl (lv_at hl 4 rfl) ?_
                refine lv_iconst (v := 1) hx hb dX6_worth_130 (by decide) ?_
                refine lv_icmp_le (tgt := 158) hx hb dX6_worth_131 (by decide) (fun c_23 => ?_) (fun c_23 => ?_)
                · have hf := z_it c_23 hf
                  exact J_158 x_7 S_9 _ _ _ hf hP hS (lv_sub hl [1, 2, 3, 4, 5] rfl)
                · have hf := z_if c_23 hf
                  refine lv_aload_n hx hb dX6_worth_134 rfl (lv_at hl 3 rfl) ?_
                  refine lv_iload_n hx hb dX6_worth_135 rfl (lv_at hl 4 rfl) ?_
                  refine lv_iconst (v := 2) hx hb dX6_worth_136 (by decide) ?_
                  refine lv_isub hx hb dX6_worth_137 ?_
                  refine lv_iload hx hb dX6_worth_138 (lv_at hl 0 rfl) ?_
                  refine lv_ineg hx hb dX6_worth_140 ?_
                  refine lv_aload_n hx hb dX6_worth_141 rfl (lv_at hl 3 rfl) ?_
                  refine lv_iload_n hx hb dX6_worth_142 rfl (lv_at hl 4 rfl) ?_
                  refine lv_iconst (v := 2) hx hb dX6_worth_143 (by decide) ?_
                  refine lv_isub hx hb dX6_worth_144 ?_
                  obtain ⟨h_15, hf⟩ := z_ix hf
                  refine z_iald hx hb hK hP 133 0 (zX_133 cy ad S_9) rfl h_15 (k := ((x_7 - (2 : Int32)).toNatClampNeg)) rfl dX6_worth_145 ?_
                  refine lv_aload_n hx hb dX6_worth_146 rfl (lv_at hl 3 rfl) ?_
                  refine lv_iload_n hx hb dX6_worth_147 rfl (lv_at hl 4 rfl) ?_
                  refine lv_iconst (v := 1) hx hb dX6_worth_148 (by decide) ?_
                  refine lv_isub hx hb dX6_worth_149 ?_
                  obtain ⟨h_16, hf⟩ := z_ix hf
                  refine z_iald hx hb hK hP 133 0 (zX_133 cy ad S_9) rfl h_16 (k := ((x_7 - (1 : Int32)).toNatClampNeg)) rfl dX6_worth_150 ?_
                  obtain ⟨r_17, S_18, h_19, hf⟩ := z_bd hf
                  refine z_cSI (As := [.int (-x_11), .int (S_9.1 133 ((x_7 - (2 : Int32)).toNatClampNeg)), .int (S_9.1 133 ((x_7 - (1 : Int32)).toNatClampNeg))]) (rest := [.int (x_7 - (2 : Int32)), .ref (ad 133)]) X hK hE hD hA hP hS (cx_Rule_apply l D K cy ad S_9 _ _ _ _ _ h_19) (va_cwS 3 hts (z_gS wt_4_20 wt_4_21 wt_1_6 wt_4_22) rfl rfl rfl yd_yX6_apply ⟨Nat.le_of_ble_eq_true rfl, Nat.le_of_ble_eq_true rfl⟩) hl.1 rfl rfl (Nat.le_of_ble_eq_true rfl) dX6_worth_151 (fun H locs hP hS => ?_)
                  obtain ⟨h_20, hf⟩ := z_ix hf
                  refine z_iast hx hb hK hP (hD S_18) hS 133 0 (zX_133 cy ad S_18) rfl h_20 (k := ((x_7 - (2 : Int32)).toNatClampNeg)) rfl dX6_worth_154 (fun H locs hP hS => ?_)
                  obtain ⟨S_21, eS_21, hf⟩ := z_nm hf
                  have hP := zW_putI hP eS_21 (by decide) rfl
                  obtain ⟨x_22, ex_22, hf⟩ := z_nm hf
                  refine lv_iinc (v := x_22) (lv' := [(3, .int x_22), (5, .int x_11), (0, .ref (ad 20)), (1, .ref (ad 132)), (2, .ref (ad 133)), (4, .int x_8)]) hx hb dX6_worth_155 hl (k := 4) rfl (by rw [ex_22]; rfl) (by decide) rfl (fun ls hl => ?_)
                  exact J_158 x_22 S_21 _ _ _ hf hP hS (lv_sub hl [2, 3, 4, 0, 5] rfl)
              · have hf := z_it c_28 hf
                refine lv_iload_n hx hb dX6_worth_110 rfl (lv_at hl 4 rfl) ?_
                refine lv_if_le (tgt := 158) hx hb dX6_worth_111 (by decide) (fun c_27 => ?_) (fun c_27 => ?_)
                · have hf := z_it c_27 hf
                  exact J_158 x_7 S_9 _ _ _ hf hP hS (lv_sub hl [1, 2, 3, 4, 5] rfl)
                · have hf := z_if c_27 hf
                  refine lv_aload_n hx hb dX6_worth_114 rfl (lv_at hl 3 rfl) ?_
                  refine lv_iload_n hx hb dX6_worth_115 rfl (lv_at hl 4 rfl) ?_
                  refine lv_iconst (v := 1) hx hb dX6_worth_116 (by decide) ?_
                  refine lv_isub hx hb dX6_worth_117 ?_
                  refine lv_iconst (v := 1) hx hb dX6_worth_118 (by decide) ?_
                  refine lv_aload_n hx hb dX6_worth_119 rfl (lv_at hl 3 rfl) ?_
                  refine lv_iload_n hx hb dX6_worth_120 rfl (lv_at hl 4 rfl) ?_
                  refine lv_iconst (v := 1) hx hb dX6_worth_121 (by decide) ?_
                  refine lv_isub hx hb dX6_worth_122 ?_
                  obtain ⟨h_24, hf⟩ := z_ix hf
                  refine z_iald hx hb hK hP 133 0 (zX_133 cy ad S_9) rfl h_24 (k := ((x_7 - (1 : Int32)).toNatClampNeg)) rfl dX6_worth_123 ?_
                  refine lv_isub hx hb dX6_worth_124 ?_
                  obtain ⟨h_25, hf⟩ := z_ix hf
                  refine z_iast hx hb hK hP (hD S_9) hS 133 0 (zX_133 cy ad S_9) rfl h_25 (k := ((x_7 - (1 : Int32)).toNatClampNeg)) rfl dX6_worth_125 (fun H locs hP hS => ?_)
                  obtain ⟨S_26, eS_26, hf⟩ := z_nm hf
                  have hP := zW_putI hP eS_26 (by decide) rfl
                  refine lv_goto (tgt := 158) hx hb dX6_worth_126 (by decide) ?_
                  exact J_158 x_7 S_26 _ _ _ hf hP hS (lv_sub hl [1, 2, 3, 4, 5] rfl)
            · have hf := z_it c_34 hf
              refine lv_iload_n hx hb dX6_worth_78 rfl (lv_at hl 4 rfl) ?_
              refine lv_iconst (v := 1) hx hb dX6_worth_79 (by decide) ?_
              obtain ⟨j_97, ej_97, hf⟩ := z_nm hf
              have J_97 : ∀ (S_29 : zSt) (H : Heap) (locs : List Loc) (ls : Array Slot), j_97  S_29 = some (ro, So) → va_P D vwCl (zX cy ad S_29) H → va_S A s.heap H locs → lv_has ls 6 [(0, .ref (ad 20)), (1, .ref (ad 132)), (2, .ref (ad 133)), (4, .int x_8)] → W p l e ({ frames := 1, cells := 0, slots := 0, locals := 22 }) s m ([.ref (ad 20), .ref (ad 132), .ref (ad 133)] : List Value).toArray below meth c H locs 0 0 Q (F0 m 97 ls []) := by
                intro  S_29 H locs ls hf hP hS hl
                have hf := z_e1 ej_97 hf
                refine lv_iconst (v := 0) hx hb dX6_worth_97 (by decide) ?_
                refine lv_istore_n (lv' := [(3, .int (0 : Int32)), (0, .ref (ad 20)), (1, .ref (ad 132)), (2, .ref (ad 133)), (4, .int x_8)]) hx hb dX6_worth_98 rfl hl (by decide) rfl (fun ls hl => ?_)
                refine lv_goto (tgt := 158) hx hb dX6_worth_99 (by decide) ?_
                exact J_158 (0 : Int32) S_29 _ _ _ hf hP hS (lv_sub hl [1, 2, 3, 0, 4] rfl)
              refine lv_icmp_le (tgt := 97) hx hb dX6_worth_80 (by decide) (fun c_33 => ?_) (fun c_33 => ?_)
              · have hf := z_it c_33 hf
                exact J_97  S_9 _ _ _ hf hP hS (lv_sub hl [1, 2, 3, 5] rfl)
              · have hf := z_if c_33 hf
                refine lv_aload_n hx hb dX6_worth_83 rfl (lv_at hl 3 rfl) ?_
                refine lv_iload_n hx hb dX6_worth_84 rfl (lv_at hl 4 rfl) ?_
                refine lv_iconst (v := 1) hx hb dX6_worth_85 (by decide) ?_
                refine lv_isub hx hb dX6_worth_86 ?_
                obtain ⟨h_30, hf⟩ := z_ix hf
                refine z_iald hx hb hK hP 133 0 (zX_133 cy ad S_9) rfl h_30 (k := ((x_7 - (1 : Int32)).toNatClampNeg)) rfl dX6_worth_87 ?_
                refine lv_if_eq (tgt := 97) hx hb dX6_worth_88 (by decide) (fun c_32 => ?_) (fun c_32 => ?_)
                · have hf := z_it c_32 hf
                  exact J_97  S_9 _ _ _ hf hP hS (lv_sub hl [1, 2, 3, 5] rfl)
                · have hf := z_if c_32 hf
                  refine lv_aload_n hx hb dX6_worth_91 rfl (lv_at hl 3 rfl) ?_
                  refine lv_iload_n hx hb dX6_worth_92 rfl (lv_at hl 4 rfl) ?_
                  refine lv_iconst (v := 2) hx hb dX6_worth_93 (by decide) ?_
                  refine lv_isub hx hb dX6_worth_94 ?_
                  obtain ⟨h_31, hf⟩ := z_ix hf
                  refine z_iald hx hb hK hP 133 0 (zX_133 cy ad S_9) rfl h_31 (k := ((x_7 - (2 : Int32)).toNatClampNeg)) rfl dX6_worth_95 ?_
                  obtain ⟨h1, h2⟩ := z_s2 hf
                  subst h1 h2
                  exact hret _ _ _ _ hP hS dX6_worth_96
          · have hf := z_it c_35 hf
            exact J_56 x_7 S_9 _ _ _ hf hP hS (lv_sub hl [3, 4] rfl)
        · have hf := z_if c_43 hf
          refine lv_iload_n hx hb dX6_worth_28 rfl (lv_at hl 4 rfl) ?_
          refine lv_bipush (v := 64) hx hb dX6_worth_29 (by decide) ?_
          refine lv_icmp_ge (tgt := 158) hx hb dX6_worth_31 (by decide) (fun c_42 => ?_) (fun c_42 => ?_)
          · have hf := z_it c_42 hf
            exact J_158 x_7 S_9 _ _ _ hf hP hS (lv_sub hl [1, 2, 3, 4, 5] rfl)
          · have hf := z_if c_42 hf
            refine lv_aload_n hx hb dX6_worth_34 rfl (lv_at hl 3 rfl) ?_
            refine lv_iload_n hx hb dX6_worth_35 rfl (lv_at hl 4 rfl) ?_
            refine lv_iload hx hb dX6_worth_36 (lv_at hl 0 rfl) ?_
            refine lv_aload_n hx hb dX6_worth_38 rfl (lv_at hl 2 rfl) ?_
            obtain ⟨r_36, S_37, h_38, hf⟩ := z_bd hf
            refine z_cSI (As := [.int x_11, .ref (ad 132)]) (rest := [.int x_7, .ref (ad 133)]) X hK hE hD hA hP hS (cx_Rule_valueOf l D K cy ad S_9 _ _ _ h_38) (va_cwS 2 hts (z_gS wt_4_17 wt_4_18 wt_1_6 wt_4_19) rfl rfl rfl yd_yX6_valueOf ⟨Nat.le_of_ble_eq_true rfl, Nat.le_of_ble_eq_true rfl⟩) hl.1 rfl rfl (Nat.le_of_ble_eq_true rfl) dX6_worth_39 (fun H locs hP hS => ?_)
            obtain ⟨h_39, hf⟩ := z_ix hf
            refine z_iast hx hb hK hP (hD S_37) hS 133 0 (zX_133 cy ad S_37) rfl h_39 (k := (x_7.toNatClampNeg)) rfl dX6_worth_42 (fun H locs hP hS => ?_)
            obtain ⟨S_40, eS_40, hf⟩ := z_nm hf
            have hP := zW_putI hP eS_40 (by decide) rfl
            obtain ⟨x_41, ex_41, hf⟩ := z_nm hf
            refine lv_iinc (v := x_41) (lv' := [(3, .int x_41), (5, .int x_11), (0, .ref (ad 20)), (1, .ref (ad 132)), (2, .ref (ad 133)), (4, .int x_8)]) hx hb dX6_worth_43 hl (k := 4) rfl (by rw [ex_41]; rfl) (by decide) rfl (fun ls hl => ?_)
            refine lv_goto (tgt := 158) hx hb dX6_worth_46 (by decide) ?_
            exact J_158 x_41 S_40 _ _ _ hf hP hS (lv_sub hl [2, 3, 4, 0, 5] rfl)
  exact L_5 zFU (0 : Int32) (0 : Int32) S_0 _ _ _ hf hP hS (lv_sub hl [2, 3, 4, 1, 0] rfl)
theorem yd_yX4_standByRule : (yX4_standByRule).cls ≠ "java/lang/invoke/MethodHandle" ∧ (yX4_standByRule).cls ≠ "java/lang/invoke/VarHandle" ∧ (parseMethodDescriptor (yX4_standByRule).desc).map (fun d => d.parameters.length) = some 0 := by decide +kernel
def fx_Lineup_standByRule_L47 (x_1 : Int32) (j_93 : Int32 → zSt → Option (Unit × zSt)) : Nat → Int32 → zSt → Option (Unit × zSt)
  | 0, _, _ => none
  | n_47 + 1, x_16, S_17 =>
    if x_16 ≤ 0 then (
    j_93 x_16 S_17) else (
    zck (zix (x_16 - (1 : Int32)) 9) <|
    zck (zix (S_17.1 129 ((x_16 - (1 : Int32)).toNatClampNeg)) 9) <|
    zck (zix x_1 9) <|
    if (S_17.1 131 (x_1.toNatClampNeg)) ≤ (S_17.1 131 ((S_17.1 129 ((x_16 - (1 : Int32)).toNatClampNeg)).toNatClampNeg)) then (
    j_93 x_16 S_17) else (
    zck (zix (x_16 - (1 : Int32)) 9) <|
    zck (zix x_16 9) <|
    znm (zpI S_17 129 (x_16.toNatClampNeg) (S_17.1 129 ((x_16 - (1 : Int32)).toNatClampNeg))) fun S_23 =>
    znm (x_16 + (-1 : Int32)) fun x_24 =>
    fx_Lineup_standByRule_L47 x_1 j_93 n_47 x_24 S_23))
def fx_Lineup_standByRule_L2 : Nat → Int32 → zSt → Option (Unit × zSt)
  | 0, _, _ => none
  | n_2 + 1, x_1, S_2 =>
    if (S_2.1 4 0) ≤ x_1 then (
    some ((), S_2)) else (
    zbd (fx_Lineup_gatherFacts S_2 x_1) fun _ S_4 =>
    zbd (fx_Rule_worth S_4) fun r_6 S_7 =>
    zck (zix x_1 9) <|
    znm (zpI S_7 131 (x_1.toNatClampNeg) r_6) fun S_10 =>
    znm (fun (x_11 : Int32) (S_12 : zSt) =>
    zck (zix x_11 9) <|
    znm (zpI S_12 129 (x_11.toNatClampNeg) x_1) fun S_14 =>
    znm (x_1 + (1 : Int32)) fun x_15 =>
    fx_Lineup_standByRule_L2 n_2 x_15 S_14) fun j_93 =>
    fx_Lineup_standByRule_L47 x_1 j_93 zFU x_1 S_10)
def fx_Lineup_standByRule (S_0 : zSt) : Option (Unit × zSt) :=
  fx_Lineup_standByRule_L2 zFU (0 : Int32) S_0
set_option maxHeartbeats 4000000 in
set_option maxRecDepth 100000 in
theorem cx_Lineup_standByRule (l : Launch) (D : va_G) (K : (Nat → Nat) × (Nat → Nat)) (cy : Nat → ClassId) (ad : Nat → Nat) (S_0 : zSt) (So : zSt) (hf : fx_Lineup_standByRule S_0 = some ((), So)) : zMV l yX4_standByRule (zws yX4_standByRule cX4_standByRule 3 none) ({ frames := 2, cells := 0, slots := 0, locals := 47 }) D (zTy cy) K (zX cy ad) [.ref (ad 128)] S_0 So := by
  refine z_metV (own := RX4) (lv := [(0, .ref (ad 128))]) (by decide) rfl rfl (Nat.le_of_ble_eq_true rfl) rfl ?_
  intro p e s m below meth c A Q X hK hE hD hA hret hP hS ls hl
  obtain ⟨hx, hb, hml, hown, hts⟩ := id X
  have k0 := (fun w h => List.mem_cons_of_mem _ (zFX4 w h) : ∀ w ∈ u_ws RX4 TX4 14, w ∈ zws yX4_standByRule cX4_standByRule 3 none)
  have k1 := hts _ (List.mem_cons_of_mem _ wt_2_108)
  have k2 := (fun w h => List.mem_cons_of_mem _ (zFX0 w h) : ∀ w ∈ u_ws RX0 TX0 6, w ∈ zws yX4_standByRule cX4_standByRule 3 none)
  have k3 := hts _ (List.mem_cons_of_mem _ wt_1_234)
  have k4 := (fun w h => List.mem_cons_of_mem _ (zFX2 w h) : ∀ w ∈ u_ws RX2 TX2 7, w ∈ zws yX4_standByRule cX4_standByRule 3 none)
  have k5 := hts _ (List.mem_cons_of_mem _ wt_1_66)
  have k6 := hts _ (List.mem_cons_of_mem _ wt_2_121)
  have k7 := hts _ (List.mem_cons_of_mem _ wt_2_3)
  have k8 := hts _ (List.mem_cons_of_mem _ wt_2_122)
  have k9 := hts _ (List.mem_cons_of_mem _ wt_2_123)
  have k10 := hts _ (List.mem_cons_of_mem _ wt_2_109)
  refine lv_iconst (v := 0) hx hb dX4_standByRule_0 (by decide) ?_
  refine lv_istore_n (lv' := [(1, .int (0 : Int32)), (0, .ref (ad 128))]) hx hb dX4_standByRule_1 rfl hl (by decide) rfl (fun ls hl => ?_)
  have L_2 : ∀ (n_2 : Nat) (x_1 : Int32) (S_2 : zSt) (H : Heap) (locs : List Loc) (ls : Array Slot), fx_Lineup_standByRule_L2 n_2 x_1 S_2 = some ((), So) → va_P D vwCl (zX cy ad S_2) H → va_S A s.heap H locs → lv_has ls 3 [(0, .ref (ad 128)), (1, .int x_1)] → W p l e ({ frames := 2, cells := 0, slots := 0, locals := 47 }) s m ([.ref (ad 128)] : List Value).toArray below meth c H locs 0 0 Q (F0 m 2 ls []) := by
    intro n_2
    induction n_2 with
    | zero =>
      intro x_1 S_2 H locs ls hf hP hS hl
      exact z_no hf
    | succ n_2 ih_2 =>
      intro x_1 S_2 H locs ls hf hP hS hl
      rw [fx_Lineup_standByRule_L2] at hf
      refine lv_iload_n hx hb dX4_standByRule_2 rfl (lv_at hl 1 rfl) ?_
      refine lv_aload_n hx hb dX4_standByRule_3 rfl (lv_at hl 0 rfl) ?_
      refine va_get (D := D) (ci := 4) (v := .ref (ad 3)) (C := RX4) (T := TX4) (N := 14) hx hb hts k0 hown hK hP 128 (zX_128 cy ad S_2) rfl 0 (by decide) k1 (fun _ h9 => h9) rfl dX4_standByRule_4 ?_
      refine va_get (D := D) (ci := 0) (v := .ref (ad 4)) (C := RX0) (T := TX0) (N := 6) hx hb hts k2 hown hK hP 3 (zX_3 cy ad S_2) rfl 0 (by decide) k3 (fun _ h9 => h9) rfl dX4_standByRule_7 ?_
      refine va_get (D := D) (ci := 2) (v := .int (S_2.1 4 0)) (C := RX2) (T := TX2) (N := 7) hx hb hts k4 hown hK hP 4 (zX_4 cy ad S_2) rfl 0 (by decide) k5 (fun _ h9 => h9) rfl dX4_standByRule_10 ?_
      refine lv_icmp_ge (tgt := 106) hx hb dX4_standByRule_13 (by decide) (fun c_27 => ?_) (fun c_27 => ?_)
      · have hf := z_it c_27 hf
        obtain ⟨h1, h2⟩ := z_s2 hf
        subst h2
        exact hret _ _ _ _ hP hS dX4_standByRule_106
      · have hf := z_if c_27 hf
        refine lv_aload_n hx hb dX4_standByRule_16 rfl (lv_at hl 0 rfl) ?_
        refine lv_iload_n hx hb dX4_standByRule_17 rfl (lv_at hl 1 rfl) ?_
        obtain ⟨r_3, S_4, h_5, hf⟩ := z_bd hf
        refine z_cVV (As := [.int x_1]) (rest := []) X hK hE hD hA hP hS (cx_Lineup_gatherFacts l D K cy ad S_2 _ _ h_5) (cwV 1 hts (z_gV wt_4_9 wt_4_11 wp_23 wt_1_11 wt_4_12) rfl rfl rfl ⟨rfl, yd_yX4_gatherFacts⟩ ⟨Nat.le_of_ble_eq_true rfl, Nat.le_of_ble_eq_true rfl⟩) (va_recv hK hP (ci := 4) (q0 := 128) rfl (zX_128 cy ad S_2)) hl.1 rfl rfl (Nat.le_of_ble_eq_true rfl) dX4_standByRule_18 (fun H locs hP hS => ?_)
        refine lv_aload_n hx hb dX4_standByRule_21 rfl (lv_at hl 0 rfl) ?_
        refine va_get (D := D) (ci := 4) (v := .ref (ad 131)) (C := RX4) (T := TX4) (N := 14) hx hb hts k0 hown hK hP 128 (zX_128 cy ad S_4) rfl 7 (by decide) k6 (fun _ h9 => h9) rfl dX4_standByRule_22 ?_
        refine lv_iload_n hx hb dX4_standByRule_25 rfl (lv_at hl 1 rfl) ?_
        refine lv_aload_n hx hb dX4_standByRule_26 rfl (lv_at hl 0 rfl) ?_
        refine va_get (D := D) (ci := 4) (v := .ref (ad 3)) (C := RX4) (T := TX4) (N := 14) hx hb hts k0 hown hK hP 128 (zX_128 cy ad S_4) rfl 0 (by decide) k1 (fun _ h9 => h9) rfl dX4_standByRule_27 ?_
        refine va_get (D := D) (ci := 0) (v := .ref (ad 20)) (C := RX0) (T := TX0) (N := 6) hx hb hts k2 hown hK hP 3 (zX_3 cy ad S_4) rfl 3 (by decide) k7 (fun _ h9 => h9) rfl dX4_standByRule_30 ?_
        refine lv_aload_n hx hb dX4_standByRule_33 rfl (lv_at hl 0 rfl) ?_
        refine va_get (D := D) (ci := 4) (v := .ref (ad 132)) (C := RX4) (T := TX4) (N := 14) hx hb hts k0 hown hK hP 128 (zX_128 cy ad S_4) rfl 8 (by decide) k8 (fun _ h9 => h9) rfl dX4_standByRule_34 ?_
        refine lv_aload_n hx hb dX4_standByRule_37 rfl (lv_at hl 0 rfl) ?_
        refine va_get (D := D) (ci := 4) (v := .ref (ad 133)) (C := RX4) (T := TX4) (N := 14) hx hb hts k0 hown hK hP 128 (zX_128 cy ad S_4) rfl 9 (by decide) k9 (fun _ h9 => h9) rfl dX4_standByRule_38 ?_
        obtain ⟨r_6, S_7, h_8, hf⟩ := z_bd hf
        refine z_cVI (As := [.ref (ad 132), .ref (ad 133)]) (rest := [.int x_1, .ref (ad 131)]) X hK hE hD hA hP hS (cx_Rule_worth l D K cy ad S_4 _ _ h_8) (cwV 2 hts (z_gV wt_4_13 wt_4_14 wt_4_15 wt_1_6 wt_4_16) rfl rfl rfl ⟨rfl, yd_yX6_worth⟩ ⟨Nat.le_of_ble_eq_true rfl, Nat.le_of_ble_eq_true rfl⟩) (va_recv hK hP (ci := 6) (q0 := 20) rfl (zX_20 cy ad S_4)) hl.1 rfl rfl (Nat.le_of_ble_eq_true rfl) dX4_standByRule_41 (fun H locs hP hS => ?_)
        obtain ⟨h_9, hf⟩ := z_ix hf
        refine z_iast hx hb hK hP (hD S_7) hS 131 0 (zX_131 cy ad S_7) rfl h_9 (k := (x_1.toNatClampNeg)) rfl dX4_standByRule_44 (fun H locs hP hS => ?_)
        obtain ⟨S_10, eS_10, hf⟩ := z_nm hf
        have hP := zW_putI hP eS_10 (by decide) rfl
        refine lv_iload_n hx hb dX4_standByRule_45 rfl (lv_at hl 1 rfl) ?_
        refine lv_istore_n (lv' := [(2, .int x_1), (0, .ref (ad 128)), (1, .int x_1)]) hx hb dX4_standByRule_46 rfl hl (by decide) rfl (fun ls hl => ?_)
        obtain ⟨j_93, ej_93, hf⟩ := z_nm hf
        have J_93 : ∀ (x_11 : Int32) (S_12 : zSt) (H : Heap) (locs : List Loc) (ls : Array Slot), j_93 x_11 S_12 = some ((), So) → va_P D vwCl (zX cy ad S_12) H → va_S A s.heap H locs → lv_has ls 3 [(0, .ref (ad 128)), (1, .int x_1), (2, .int x_11)] → W p l e ({ frames := 2, cells := 0, slots := 0, locals := 47 }) s m ([.ref (ad 128)] : List Value).toArray below meth c H locs 0 0 Q (F0 m 93 ls []) := by
          intro x_11 S_12 H locs ls hf hP hS hl
          have hf := z_e2 ej_93 hf
          refine lv_aload_n hx hb dX4_standByRule_93 rfl (lv_at hl 0 rfl) ?_
          refine va_get (D := D) (ci := 4) (v := .ref (ad 129)) (C := RX4) (T := TX4) (N := 14) hx hb hts k0 hown hK hP 128 (zX_128 cy ad S_12) rfl 1 (by decide) k10 (fun _ h9 => h9) rfl dX4_standByRule_94 ?_
          refine lv_iload_n hx hb dX4_standByRule_97 rfl (lv_at hl 2 rfl) ?_
          refine lv_iload_n hx hb dX4_standByRule_98 rfl (lv_at hl 1 rfl) ?_
          obtain ⟨h_13, hf⟩ := z_ix hf
          refine z_iast hx hb hK hP (hD S_12) hS 129 0 (zX_129 cy ad S_12) rfl h_13 (k := (x_11.toNatClampNeg)) rfl dX4_standByRule_99 (fun H locs hP hS => ?_)
          obtain ⟨S_14, eS_14, hf⟩ := z_nm hf
          have hP := zW_putI hP eS_14 (by decide) rfl
          obtain ⟨x_15, ex_15, hf⟩ := z_nm hf
          refine lv_iinc (v := x_15) (lv' := [(1, .int x_15), (0, .ref (ad 128)), (2, .int x_11)]) hx hb dX4_standByRule_100 hl (k := 1) rfl (by rw [ex_15]; rfl) (by decide) rfl (fun ls hl => ?_)
          refine lv_goto (tgt := 2) hx hb dX4_standByRule_103 (by decide) ?_
          exact ih_2 x_15 S_14 _ _ _ hf hP hS (lv_sub hl [1, 0] rfl)
        have L_47 : ∀ (n_47 : Nat) (x_16 : Int32) (S_17 : zSt) (H : Heap) (locs : List Loc) (ls : Array Slot), fx_Lineup_standByRule_L47 x_1 j_93 n_47 x_16 S_17 = some ((), So) → va_P D vwCl (zX cy ad S_17) H → va_S A s.heap H locs → lv_has ls 3 [(0, .ref (ad 128)), (1, .int x_1), (2, .int x_16)] → W p l e ({ frames := 2, cells := 0, slots := 0, locals := 47 }) s m ([.ref (ad 128)] : List Value).toArray below meth c H locs 0 0 Q (F0 m 47 ls []) := by
          intro n_47
          induction n_47 with
          | zero =>
            intro x_16 S_17 H locs ls hf hP hS hl
            exact z_no hf
          | succ n_47 ih_47 =>
            intro x_16 S_17 H locs ls hf hP hS hl
            rw [fx_Lineup_standByRule_L47] at hf
            refine lv_iload_n hx hb dX4_standByRule_47 rfl (lv_at hl 2 rfl) ?_
            refine lv_if_le (tgt := 93) hx hb dX4_standByRule_48 (by decide) (fun c_26 => ?_) (fun c_26 => ?_)
            · have hf := z_it c_26 hf
              exact J_93 x_16 S_17 _ _ _ hf hP hS (lv_sub hl [0, 1, 2] rfl)
            · have hf := z_if c_26 hf
              refine lv_aload_n hx hb dX4_standByRule_51 rfl (lv_at hl 0 rfl) ?_
              refine va_get (D := D) (ci := 4) (v := .ref (ad 131)) (C := RX4) (T := TX4) (N := 14) hx hb hts k0 hown hK hP 128 (zX_128 cy ad S_17) rfl 7 (by decide) k6 (fun _ h9 => h9) rfl dX4_standByRule_52 ?_
              refine lv_aload_n hx hb dX4_standByRule_55 rfl (lv_at hl 0 rfl) ?_
              refine va_get (D := D) (ci := 4) (v := .ref (ad 129)) (C := RX4) (T := TX4) (N := 14) hx hb hts k0 hown hK hP 128 (zX_128 cy ad S_17) rfl 1 (by decide) k10 (fun _ h9 => h9) rfl dX4_standByRule_56 ?_
              refine lv_iload_n hx hb dX4_standByRule_59 rfl (lv_at hl 2 rfl) ?_
              refine lv_iconst (v := 1) hx hb dX4_standByRule_60 (by decide) ?_
              refine lv_isub hx hb dX4_standByRule_61 ?_
              obtain ⟨h_18, hf⟩ := z_ix hf
              refine z_iald hx hb hK hP 129 0 (zX_129 cy ad S_17) rfl h_18 (k := ((x_16 - (1 : Int32)).toNatClampNeg)) rfl dX4_standByRule_62 ?_
              obtain ⟨h_19, hf⟩ := z_ix hf
              refine z_iald hx hb hK hP 131 0 (zX_131 cy ad S_17) rfl h_19 (k := ((S_17.1 129 ((x_16 - (1 : Int32)).toNatClampNeg)).toNatClampNeg)) rfl dX4_standByRule_63 ?_
              refine lv_aload_n hx hb dX4_standByRule_64 rfl (lv_at hl 0 rfl) ?_
              refine va_get (D := D) (ci := 4) (v := .ref (ad 131)) (C := RX4) (T := TX4) (N := 14) hx hb hts k0 hown hK hP 128 (zX_128 cy ad S_17) rfl 7 (by decide) k6 (fun _ h9 => h9) rfl dX4_standByRule_65 ?_
              refine lv_iload_n hx hb dX4_standByRule_68 rfl (lv_at hl 1 rfl) ?_
              obtain ⟨h_20, hf⟩ := z_ix hf
              refine z_iald hx hb hK hP 131 0 (zX_131 cy ad S_17) rfl h_20 (k := (x_1.toNatClampNeg)) rfl dX4_standByRule_69 ?_
              refine lv_icmp_ge (tgt := 93) hx hb dX4_standByRule_70 (by decide) (fun c_25 => ?_) (fun c_25 => ?_)
              · have hf := z_it c_25 hf
                exact J_93 x_16 S_17 _ _ _ hf hP hS (lv_sub hl [0, 1, 2] rfl)
              · have hf := z_if c_25 hf
                refine lv_aload_n hx hb dX4_standByRule_73 rfl (lv_at hl 0 rfl) ?_
                refine va_get (D := D) (ci := 4) (v := .ref (ad 129)) (C := RX4) (T := TX4) (N := 14) hx hb hts k0 hown hK hP 128 (zX_128 cy ad S_17) rfl 1 (by decide) k10 (fun _ h9 => h9) rfl dX4_standByRule_74 ?_
                refine lv_iload_n hx hb dX4_standByRule_77 rfl (lv_at hl 2 rfl) ?_
                refine lv_aload_n hx hb dX4_standByRule_78 rfl (lv_at hl 0 rfl) ?_
                refine va_get (D := D) (ci := 4) (v := .ref (ad 129)) (C := RX4) (T := TX4) (N := 14) hx hb hts k0 hown hK hP 128 (zX_128 cy ad S_17) rfl 1 (by decide) k10 (fun _ h9 => h9) rfl dX4_standByRule_79 ?_
                refine lv_iload_n hx hb dX4_standByRule_82 rfl (lv_at hl 2 rfl) ?_
                refine lv_iconst (v := 1) hx hb dX4_standByRule_83 (by decide) ?_
                refine lv_isub hx hb dX4_standByRule_84 ?_
                obtain ⟨h_21, hf⟩ := z_ix hf
                refine z_iald hx hb hK hP 129 0 (zX_129 cy ad S_17) rfl h_21 (k := ((x_16 - (1 : Int32)).toNatClampNeg)) rfl dX4_standByRule_85 ?_
                obtain ⟨h_22, hf⟩ := z_ix hf
                refine z_iast hx hb hK hP (hD S_17) hS 129 0 (zX_129 cy ad S_17) rfl h_22 (k := (x_16.toNatClampNeg)) rfl dX4_standByRule_86 (fun H locs hP hS => ?_)
                obtain ⟨S_23, eS_23, hf⟩ := z_nm hf
                have hP := zW_putI hP eS_23 (by decide) rfl
                obtain ⟨x_24, ex_24, hf⟩ := z_nm hf
                refine lv_iinc (v := x_24) (lv' := [(2, .int x_24), (0, .ref (ad 128)), (1, .int x_1)]) hx hb dX4_standByRule_87 hl (k := 2) rfl (by rw [ex_24]; rfl) (by decide) rfl (fun ls hl => ?_)
                refine lv_goto (tgt := 47) hx hb dX4_standByRule_90 (by decide) ?_
                exact ih_47 x_24 S_23 _ _ _ hf hP hS (lv_sub hl [1, 2, 0] rfl)
        exact L_47 zFU x_1 S_10 _ _ _ hf hP hS (lv_sub hl [1, 2, 0] rfl)
  exact L_2 zFU (0 : Int32) S_0 _ _ _ hf hP hS (lv_sub hl [1, 0] rfl)
theorem yd_yX4_standForToday : (yX4_standForToday).cls ≠ "java/lang/invoke/MethodHandle" ∧ (yX4_standForToday).cls ≠ "java/lang/invoke/VarHandle" ∧ (parseMethodDescriptor (yX4_standForToday).desc).map (fun d => d.parameters.length) = some 0 := by decide +kernel
def fx_Lineup_standForToday (S_0 : zSt) : Option (Unit × zSt) :=
  zbd (fx_Lineup_standByRule S_0) fun _ S_2 =>
  zbd (fx_Times_isMonday S_2) fun r_4 S_5 =>
  znm (fun (S_7 : zSt) =>
  some ((), S_7)) fun j_25 =>
  if r_4 = 0 then (
  j_25  S_5) else (
  zbd (fx_Lineup_fewestMondays S_5) fun r_8 S_9 =>
  zbd (fx_Lineup_putFirst S_9 r_8) fun _ S_12 =>
  j_25  S_12)
set_option maxHeartbeats 4000000 in
set_option maxRecDepth 100000 in
theorem cx_Lineup_standForToday (l : Launch) (D : va_G) (K : (Nat → Nat) × (Nat → Nat)) (cy : Nat → ClassId) (ad : Nat → Nat) (S_0 : zSt) (So : zSt) (hf : fx_Lineup_standForToday S_0 = some ((), So)) : zMV l yX4_standForToday (zws yX4_standForToday cX4_standForToday 1 none) ({ frames := 3, cells := 0, slots := 0, locals := 69 }) D (zTy cy) K (zX cy ad) [.ref (ad 128)] S_0 So := by
  refine z_metV (own := RX4) (lv := [(0, .ref (ad 128))]) (by decide) rfl rfl (Nat.le_of_ble_eq_true rfl) rfl ?_
  intro p e s m below meth c A Q X hK hE hD hA hret hP hS ls hl
  obtain ⟨hx, hb, hml, hown, hts⟩ := id X
  have k0 := (fun w h => List.mem_cons_of_mem _ (zFX4 w h) : ∀ w ∈ u_ws RX4 TX4 14, w ∈ zws yX4_standForToday cX4_standForToday 1 none)
  have k1 := hts _ (List.mem_cons_of_mem _ wt_2_108)
  have k2 := (fun w h => List.mem_cons_of_mem _ (zFX0 w h) : ∀ w ∈ u_ws RX0 TX0 6, w ∈ zws yX4_standForToday cX4_standForToday 1 none)
  have k3 := hts _ (List.mem_cons_of_mem _ wt_1_238)
  refine lv_aload_n hx hb dX4_standForToday_0 rfl (lv_at hl 0 rfl) ?_
  obtain ⟨r_1, S_2, h_3, hf⟩ := z_bd hf
  refine z_cVV (As := []) (rest := []) X hK hE hD hA hP hS (cx_Lineup_standByRule l D K cy ad S_0 _ h_3) (cwV 0 hts (z_gV wt_4_5 wt_4_7 wp_22 wt_1_11 wt_4_8) rfl rfl rfl ⟨rfl, yd_yX4_standByRule⟩ ⟨Nat.le_of_ble_eq_true rfl, Nat.le_of_ble_eq_true rfl⟩) (va_recv hK hP (ci := 4) (q0 := 128) rfl (zX_128 cy ad S_0)) hl.1 rfl rfl (Nat.le_of_ble_eq_true rfl) dX4_standForToday_1 (fun H locs hP hS => ?_)
  refine lv_aload_n hx hb dX4_standForToday_4 rfl (lv_at hl 0 rfl) ?_
  refine va_get (D := D) (ci := 4) (v := .ref (ad 3)) (C := RX4) (T := TX4) (N := 14) hx hb hts k0 hown hK hP 128 (zX_128 cy ad S_2) rfl 0 (by decide) k1 (fun _ h9 => h9) rfl dX4_standForToday_5 ?_
  refine va_get (D := D) (ci := 0) (v := .ref (ad 11)) (C := RX0) (T := TX0) (N := 6) hx hb hts k2 hown hK hP 3 (zX_3 cy ad S_2) rfl 1 (by decide) k3 (fun _ h9 => h9) rfl dX4_standForToday_8 ?_
  obtain ⟨r_4, S_5, h_6, hf⟩ := z_bd hf
  refine z_cVI (As := []) (rest := []) X hK hE hD hA hP hS (cx_Times_isMonday l D K cy ad S_2 _ _ h_6) (cwV 0 hts (z_gV wt_4_23 wt_4_24 wt_4_25 wt_1_5 wt_4_26) rfl rfl rfl ⟨rfl, yd_yX10_isMonday⟩ ⟨Nat.le_of_ble_eq_true rfl, Nat.le_of_ble_eq_true rfl⟩) (va_recv hK hP (ci := 10) (q0 := 11) rfl (zX_11 cy ad S_2)) hl.1 rfl rfl (Nat.le_of_ble_eq_true rfl) dX4_standForToday_11 (fun H locs hP hS => ?_)
  obtain ⟨j_25, ej_25, hf⟩ := z_nm hf
  have J_25 : ∀ (S_7 : zSt) (H : Heap) (locs : List Loc) (ls : Array Slot), j_25  S_7 = some ((), So) → va_P D vwCl (zX cy ad S_7) H → va_S A s.heap H locs → lv_has ls 1 [] → W p l e ({ frames := 3, cells := 0, slots := 0, locals := 69 }) s m ([.ref (ad 128)] : List Value).toArray below meth c H locs 0 0 Q (F0 m 25 ls []) := by
    intro  S_7 H locs ls hf hP hS hl
    have hf := z_e1 ej_25 hf
    obtain ⟨h1, h2⟩ := z_s2 hf
    subst h2
    exact hret _ _ _ _ hP hS dX4_standForToday_25
  refine lv_if_eq (tgt := 25) hx hb dX4_standForToday_14 (by decide) (fun c_14 => ?_) (fun c_14 => ?_)
  · have hf := z_it c_14 hf
    exact J_25  S_5 _ _ _ hf hP hS (lv_sub hl [] rfl)
  · have hf := z_if c_14 hf
    refine lv_aload_n hx hb dX4_standForToday_17 rfl (lv_at hl 0 rfl) ?_
    refine lv_aload_n hx hb dX4_standForToday_18 rfl (lv_at hl 0 rfl) ?_
    obtain ⟨r_8, S_9, h_10, hf⟩ := z_bd hf
    refine z_cVI (As := []) (rest := [.ref (ad 128)]) X hK hE hD hA hP hS (cx_Lineup_fewestMondays l D K cy ad S_5 _ _ h_10) (cwV 0 hts (z_gV wt_4_27 wt_4_29 wp_24 wt_1_11 wt_4_30) rfl rfl rfl ⟨rfl, yd_yX4_fewestMondays⟩ ⟨Nat.le_of_ble_eq_true rfl, Nat.le_of_ble_eq_true rfl⟩) (va_recv hK hP (ci := 4) (q0 := 128) rfl (zX_128 cy ad S_5)) hl.1 rfl rfl (Nat.le_of_ble_eq_true rfl) dX4_standForToday_19 (fun H locs hP hS => ?_)
    obtain ⟨r_11, S_12, h_13, hf⟩ := z_bd hf
    refine z_cVV (As := [.int r_8]) (rest := []) X hK hE hD hA hP hS (cx_Lineup_putFirst l D K cy ad S_9 _ _ h_13) (cwV 1 hts (z_gV wt_4_31 wt_4_33 wp_25 wt_1_11 wt_4_34) rfl rfl rfl ⟨rfl, yd_yX4_putFirst⟩ ⟨Nat.le_of_ble_eq_true rfl, Nat.le_of_ble_eq_true rfl⟩) (va_recv hK hP (ci := 4) (q0 := 128) rfl (zX_128 cy ad S_9)) hl.1 rfl rfl (Nat.le_of_ble_eq_true rfl) dX4_standForToday_22 (fun H locs hP hS => ?_)
    exact J_25  S_12 _ _ _ hf hP hS (lv_sub hl [] rfl)
theorem yd_yX4_clearPlaced : (yX4_clearPlaced).cls ≠ "java/lang/invoke/MethodHandle" ∧ (yX4_clearPlaced).cls ≠ "java/lang/invoke/VarHandle" ∧ (parseMethodDescriptor (yX4_clearPlaced).desc).map (fun d => d.parameters.length) = some 0 := by decide +kernel
def fx_Lineup_clearPlaced_L2 : Nat → Int32 → zSt → Option (Unit × zSt)
  | 0, _, _ => none
  | n_2 + 1, x_1, S_2 =>
    if (9 : Int32) ≤ x_1 then (
    some ((), S_2)) else (
    zck (zix x_1 9) <|
    znm (zpI S_2 136 (x_1.toNatClampNeg) (0 : Int32)) fun S_4 =>
    znm (x_1 + (1 : Int32)) fun x_5 =>
    fx_Lineup_clearPlaced_L2 n_2 x_5 S_4)
def fx_Lineup_clearPlaced (S_0 : zSt) : Option (Unit × zSt) :=
  fx_Lineup_clearPlaced_L2 zFU (0 : Int32) S_0
set_option maxHeartbeats 4000000 in
set_option maxRecDepth 100000 in
theorem cx_Lineup_clearPlaced (l : Launch) (D : va_G) (K : (Nat → Nat) × (Nat → Nat)) (cy : Nat → ClassId) (ad : Nat → Nat) (S_0 : zSt) (So : zSt) (hf : fx_Lineup_clearPlaced S_0 = some ((), So)) : zMV l yX4_clearPlaced (zws yX4_clearPlaced cX4_clearPlaced 2 none) ({ frames := 0, cells := 0, slots := 0, locals := 0 }) D (zTy cy) K (zX cy ad) [.ref (ad 128)] S_0 So := by
  refine z_metV (own := RX4) (lv := [(0, .ref (ad 128))]) (by decide) rfl rfl (Nat.le_of_ble_eq_true rfl) rfl ?_
  intro p e s m below meth c A Q X hK hE hD hA hret hP hS ls hl
  obtain ⟨hx, hb, hml, hown, hts⟩ := id X
  have k0 := (fun w h => List.mem_cons_of_mem _ (zFX4 w h) : ∀ w ∈ u_ws RX4 TX4 14, w ∈ zws yX4_clearPlaced cX4_clearPlaced 2 none)
  have k1 := hts _ (List.mem_cons_of_mem _ wt_2_126)
  refine lv_iconst (v := 0) hx hb dX4_clearPlaced_0 (by decide) ?_
  refine lv_istore_n (lv' := [(1, .int (0 : Int32)), (0, .ref (ad 128))]) hx hb dX4_clearPlaced_1 rfl hl (by decide) rfl (fun ls hl => ?_)
  have L_2 : ∀ (n_2 : Nat) (x_1 : Int32) (S_2 : zSt) (H : Heap) (locs : List Loc) (ls : Array Slot), fx_Lineup_clearPlaced_L2 n_2 x_1 S_2 = some ((), So) → va_P D vwCl (zX cy ad S_2) H → va_S A s.heap H locs → lv_has ls 2 [(0, .ref (ad 128)), (1, .int x_1)] → W p l e ({ frames := 0, cells := 0, slots := 0, locals := 0 }) s m ([.ref (ad 128)] : List Value).toArray below meth c H locs 0 0 Q (F0 m 2 ls []) := by
    intro n_2
    induction n_2 with
    | zero =>
      intro x_1 S_2 H locs ls hf hP hS hl
      exact z_no hf
    | succ n_2 ih_2 =>
      intro x_1 S_2 H locs ls hf hP hS hl
      rw [fx_Lineup_clearPlaced_L2] at hf
      refine lv_iload_n hx hb dX4_clearPlaced_2 rfl (lv_at hl 1 rfl) ?_
      refine lv_bipush (v := 9) hx hb dX4_clearPlaced_3 (by decide) ?_
      refine lv_icmp_ge (tgt := 21) hx hb dX4_clearPlaced_5 (by decide) (fun c_6 => ?_) (fun c_6 => ?_)
      · have hf := z_it c_6 hf
        obtain ⟨h1, h2⟩ := z_s2 hf
        subst h2
        exact hret _ _ _ _ hP hS dX4_clearPlaced_21
      · have hf := z_if c_6 hf
        refine lv_aload_n hx hb dX4_clearPlaced_8 rfl (lv_at hl 0 rfl) ?_
        refine va_get (D := D) (ci := 4) (v := .ref (ad 136)) (C := RX4) (T := TX4) (N := 14) hx hb hts k0 hown hK hP 128 (zX_128 cy ad S_2) rfl 12 (by decide) k1 (fun _ h9 => h9) rfl dX4_clearPlaced_9 ?_
        refine lv_iload_n hx hb dX4_clearPlaced_12 rfl (lv_at hl 1 rfl) ?_
        refine lv_iconst (v := 0) hx hb dX4_clearPlaced_13 (by decide) ?_
        obtain ⟨h_3, hf⟩ := z_ix hf
        refine z_zast hx hb hK hP (hD S_2) hS 136 2 (zX_136 cy ad S_2) rfl h_3 (k := (x_1.toNatClampNeg)) rfl rfl dX4_clearPlaced_14 (fun H locs hP hS => ?_)
        obtain ⟨S_4, eS_4, hf⟩ := z_nm hf
        have hP := zW_putI hP eS_4 (by decide) rfl
        obtain ⟨x_5, ex_5, hf⟩ := z_nm hf
        refine lv_iinc (v := x_5) (lv' := [(1, .int x_5), (0, .ref (ad 128))]) hx hb dX4_clearPlaced_15 hl (k := 1) rfl (by rw [ex_5]; rfl) (by decide) rfl (fun ls hl => ?_)
        refine lv_goto (tgt := 2) hx hb dX4_clearPlaced_18 (by decide) ?_
        exact ih_2 x_5 S_4 _ _ _ hf hP hS (lv_sub hl [1, 0] rfl)
  exact L_2 zFU (0 : Int32) S_0 _ _ _ hf hP hS (lv_sub hl [1, 0] rfl)
theorem yd_yX4_standAsTold : (yX4_standAsTold).cls ≠ "java/lang/invoke/MethodHandle" ∧ (yX4_standAsTold).cls ≠ "java/lang/invoke/VarHandle" ∧ (parseMethodDescriptor (yX4_standAsTold).desc).map (fun d => d.parameters.length) = some 1 := by decide +kernel
def fx_Lineup_standAsTold_L25 (j_66 : zSt → Option (Int32 × zSt)) : Nat → Int32 → zSt → Option (Int32 × zSt)
  | 0, _, _ => none
  | n_25 + 1, x_5, S_6 =>
    if (S_6.1 1 1) ≤ x_5 then (
    some ((1 : Int32), S_6)) else (
    zck (zix x_5 400) <|
    znm ((S_6.1 2 (x_5.toNatClampNeg)) - (48 : Int32)) fun x_8 =>
    zbd (fx_Houses_has S_6 x_8) fun r_9 S_10 =>
    if r_9 = 0 then (
    j_66  S_10) else (
    zck (zix x_8 9) <|
    if (S_10.1 136 (x_8.toNatClampNeg)) = 0 then (
    zck (zix x_8 9) <|
    znm (zpI S_10 136 (x_8.toNatClampNeg) (1 : Int32)) fun S_14 =>
    zck (zix x_5 9) <|
    znm (zpI S_14 129 (x_5.toNatClampNeg) x_8) fun S_16 =>
    znm (x_5 + (1 : Int32)) fun x_17 =>
    fx_Lineup_standAsTold_L25 j_66 n_25 x_17 S_16) else (
    j_66  S_10)))
def fx_Lineup_standAsTold (S_0 : zSt) : Option (Int32 × zSt) :=
  if (S_0.1 1 1) = (S_0.1 4 0) then (
  zbd (fx_Lineup_clearPlaced S_0) fun _ S_2 =>
  znm (fun (S_4 : zSt) =>
  some ((0 : Int32), S_4)) fun j_66 =>
  fx_Lineup_standAsTold_L25 j_66 zFU (0 : Int32) S_2) else (
  some ((0 : Int32), S_0))
set_option maxHeartbeats 4000000 in
set_option maxRecDepth 100000 in
theorem cx_Lineup_standAsTold (l : Launch) (D : va_G) (K : (Nat → Nat) × (Nat → Nat)) (cy : Nat → ClassId) (ad : Nat → Nat) (S_0 : zSt) (ro : Int32) (So : zSt) (hf : fx_Lineup_standAsTold S_0 = some (ro, So)) : zMI l yX4_standAsTold (zws yX4_standAsTold cX4_standAsTold 4 (Option.some .boolean)) ({ frames := 1, cells := 0, slots := 0, locals := 21 }) D (zTy cy) K (zX cy ad) [.ref (ad 128), .ref (ad 1)] S_0 ro So := by
  refine z_metZ (own := RX4) (lv := [(0, .ref (ad 128)), (1, .ref (ad 1))]) (by decide) rfl rfl (Nat.le_of_ble_eq_true rfl) rfl ?_
  intro p e s m below meth c A Q X hK hE hD hA hret hP hS ls hl
  obtain ⟨hx, hb, hml, hown, hts⟩ := id X
  have k0 := (fun w h => List.mem_cons_of_mem _ (zFX9 w h) : ∀ w ∈ u_ws RX9 TX9 2, w ∈ zws yX4_standAsTold cX4_standAsTold 4 (Option.some .boolean))
  have k1 := hts _ (List.mem_cons_of_mem _ wt_1_43)
  have k2 := (fun w h => List.mem_cons_of_mem _ (zFX4 w h) : ∀ w ∈ u_ws RX4 TX4 14, w ∈ zws yX4_standAsTold cX4_standAsTold 4 (Option.some .boolean))
  have k3 := hts _ (List.mem_cons_of_mem _ wt_2_108)
  have k4 := (fun w h => List.mem_cons_of_mem _ (zFX0 w h) : ∀ w ∈ u_ws RX0 TX0 6, w ∈ zws yX4_standAsTold cX4_standAsTold 4 (Option.some .boolean))
  have k5 := hts _ (List.mem_cons_of_mem _ wt_1_234)
  have k6 := (fun w h => List.mem_cons_of_mem _ (zFX2 w h) : ∀ w ∈ u_ws RX2 TX2 7, w ∈ zws yX4_standAsTold cX4_standAsTold 4 (Option.some .boolean))
  have k7 := hts _ (List.mem_cons_of_mem _ wt_1_66)
  have k8 := hts _ (List.mem_cons_of_mem _ wt_1_38)
  have k9 := hts _ (List.mem_cons_of_mem _ wt_2_126)
  have k10 := hts _ (List.mem_cons_of_mem _ wt_2_109)
  refine lv_aload_n hx hb dX4_standAsTold_0 rfl (lv_at hl 1 rfl) ?_
  refine va_get (D := D) (ci := 9) (v := .int (S_0.1 1 1)) (C := RX9) (T := TX9) (N := 2) hx hb hts k0 hown hK hP 1 (zX_1 cy ad S_0) rfl 1 (by decide) k1 (fun _ h9 => h9) rfl dX4_standAsTold_1 ?_
  refine lv_aload_n hx hb dX4_standAsTold_4 rfl (lv_at hl 0 rfl) ?_
  refine va_get (D := D) (ci := 4) (v := .ref (ad 3)) (C := RX4) (T := TX4) (N := 14) hx hb hts k2 hown hK hP 128 (zX_128 cy ad S_0) rfl 0 (by decide) k3 (fun _ h9 => h9) rfl dX4_standAsTold_5 ?_
  refine va_get (D := D) (ci := 0) (v := .ref (ad 4)) (C := RX0) (T := TX0) (N := 6) hx hb hts k4 hown hK hP 3 (zX_3 cy ad S_0) rfl 0 (by decide) k5 (fun _ h9 => h9) rfl dX4_standAsTold_8 ?_
  refine va_get (D := D) (ci := 2) (v := .int (S_0.1 4 0)) (C := RX2) (T := TX2) (N := 7) hx hb hts k6 hown hK hP 4 (zX_4 cy ad S_0) rfl 0 (by decide) k7 (fun _ h9 => h9) rfl dX4_standAsTold_11 ?_
  refine lv_icmp_eq (tgt := 19) hx hb dX4_standAsTold_14 (by decide) (fun c_21 => ?_) (fun c_21 => ?_)
  · have hf := z_it c_21 hf
    refine lv_aload_n hx hb dX4_standAsTold_19 rfl (lv_at hl 0 rfl) ?_
    obtain ⟨r_1, S_2, h_3, hf⟩ := z_bd hf
    refine z_cVV (As := []) (rest := []) X hK hE hD hA hP hS (cx_Lineup_clearPlaced l D K cy ad S_0 _ h_3) (cwV 0 hts (z_gV wt_4_103 wt_4_105 wp_31 wt_1_11 wt_4_106) rfl rfl rfl ⟨rfl, yd_yX4_clearPlaced⟩ ⟨Nat.le_of_ble_eq_true rfl, Nat.le_of_ble_eq_true rfl⟩) (va_recv hK hP (ci := 4) (q0 := 128) rfl (zX_128 cy ad S_0)) hl.1 rfl rfl (Nat.le_of_ble_eq_true rfl) dX4_standAsTold_20 (fun H locs hP hS => ?_)
    refine lv_iconst (v := 0) hx hb dX4_standAsTold_23 (by decide) ?_
    refine lv_istore_n (lv' := [(2, .int (0 : Int32)), (0, .ref (ad 128)), (1, .ref (ad 1))]) hx hb dX4_standAsTold_24 rfl hl (by decide) rfl (fun ls hl => ?_)
    obtain ⟨j_66, ej_66, hf⟩ := z_nm hf
    have J_66 : ∀ (S_4 : zSt) (H : Heap) (locs : List Loc) (ls : Array Slot), j_66  S_4 = some (ro, So) → va_P D vwCl (zX cy ad S_4) H → va_S A s.heap H locs → lv_has ls 4 [] → W p l e ({ frames := 1, cells := 0, slots := 0, locals := 21 }) s m ([.ref (ad 128), .ref (ad 1)] : List Value).toArray below meth c H locs 0 0 Q (F0 m 66 ls []) := by
      intro  S_4 H locs ls hf hP hS hl
      have hf := z_e1 ej_66 hf
      refine lv_iconst (v := 0) hx hb dX4_standAsTold_66 (by decide) ?_
      obtain ⟨h1, h2⟩ := z_s2 hf
      subst h1 h2
      exact hret _ _ _ _ rfl hP hS dX4_standAsTold_67
    have L_25 : ∀ (n_25 : Nat) (x_5 : Int32) (S_6 : zSt) (H : Heap) (locs : List Loc) (ls : Array Slot), fx_Lineup_standAsTold_L25 j_66 n_25 x_5 S_6 = some (ro, So) → va_P D vwCl (zX cy ad S_6) H → va_S A s.heap H locs → lv_has ls 4 [(0, .ref (ad 128)), (1, .ref (ad 1)), (2, .int x_5)] → W p l e ({ frames := 1, cells := 0, slots := 0, locals := 21 }) s m ([.ref (ad 128), .ref (ad 1)] : List Value).toArray below meth c H locs 0 0 Q (F0 m 25 ls []) := by
      intro n_25
      induction n_25 with
      | zero =>
        intro x_5 S_6 H locs ls hf hP hS hl
        exact z_no hf
      | succ n_25 ih_25 =>
        intro x_5 S_6 H locs ls hf hP hS hl
        rw [fx_Lineup_standAsTold_L25] at hf
        refine lv_iload_n hx hb dX4_standAsTold_25 rfl (lv_at hl 2 rfl) ?_
        refine lv_aload_n hx hb dX4_standAsTold_26 rfl (lv_at hl 1 rfl) ?_
        refine va_get (D := D) (ci := 9) (v := .int (S_6.1 1 1)) (C := RX9) (T := TX9) (N := 2) hx hb hts k0 hown hK hP 1 (zX_1 cy ad S_6) rfl 1 (by decide) k1 (fun _ h9 => h9) rfl dX4_standAsTold_27 ?_
        refine lv_icmp_ge (tgt := 88) hx hb dX4_standAsTold_30 (by decide) (fun c_20 => ?_) (fun c_20 => ?_)
        · have hf := z_it c_20 hf
          refine lv_iconst (v := 1) hx hb dX4_standAsTold_88 (by decide) ?_
          obtain ⟨h1, h2⟩ := z_s2 hf
          subst h1 h2
          exact hret _ _ _ _ rfl hP hS dX4_standAsTold_89
        · have hf := z_if c_20 hf
          refine lv_aload_n hx hb dX4_standAsTold_33 rfl (lv_at hl 1 rfl) ?_
          refine va_get (D := D) (ci := 9) (v := .ref (ad 2)) (C := RX9) (T := TX9) (N := 2) hx hb hts k0 hown hK hP 1 (zX_1 cy ad S_6) rfl 0 (by decide) k8 (fun _ h9 => h9) rfl dX4_standAsTold_34 ?_
          refine lv_iload_n hx hb dX4_standAsTold_37 rfl (lv_at hl 2 rfl) ?_
          obtain ⟨h_7, hf⟩ := z_ix hf
          refine z_iald hx hb hK hP 2 0 (zX_2 cy ad S_6) rfl h_7 (k := (x_5.toNatClampNeg)) rfl dX4_standAsTold_38 ?_
          refine lv_bipush (v := 48) hx hb dX4_standAsTold_39 (by decide) ?_
          refine lv_isub hx hb dX4_standAsTold_41 ?_
          refine lv_topi (fun x_8 ex_8 => ?_)
          have hf := z_nv ex_8 hf
          refine lv_istore_n (lv' := [(3, .int x_8), (0, .ref (ad 128)), (1, .ref (ad 1)), (2, .int x_5)]) hx hb dX4_standAsTold_42 rfl hl (by decide) rfl (fun ls hl => ?_)
          refine lv_aload_n hx hb dX4_standAsTold_43 rfl (lv_at hl 1 rfl) ?_
          refine va_get (D := D) (ci := 4) (v := .ref (ad 3)) (C := RX4) (T := TX4) (N := 14) hx hb hts k2 hown hK hP 128 (zX_128 cy ad S_6) rfl 0 (by decide) k3 (fun _ h9 => h9) rfl dX4_standAsTold_44 ?_
          refine va_get (D := D) (ci := 0) (v := .ref (ad 4)) (C := RX0) (T := TX0) (N := 6) hx hb hts k4 hown hK hP 3 (zX_3 cy ad S_6) rfl 0 (by decide) k5 (fun _ h9 => h9) rfl dX4_standAsTold_47 ?_
          refine lv_iload_n hx hb dX4_standAsTold_50 rfl (lv_at hl 0 rfl) ?_
          obtain ⟨r_9, S_10, h_11, hf⟩ := z_bd hf
          refine z_cVI (As := [.int x_8]) (rest := []) X hK hE hD hA hP hS (cx_Houses_has l D K cy ad S_6 _ _ _ h_11) (cwV 1 hts (z_gV wt_4_107 wt_3_4 wt_3_5 wt_1_4 wt_3_6) rfl rfl rfl ⟨rfl, yd_yX2_has⟩ ⟨Nat.le_of_ble_eq_true rfl, Nat.le_of_ble_eq_true rfl⟩) (va_recv hK hP (ci := 2) (q0 := 4) rfl (zX_4 cy ad S_6)) hl.1 rfl rfl (Nat.le_of_ble_eq_true rfl) dX4_standAsTold_51 (fun H locs hP hS => ?_)
          refine lv_if_eq (tgt := 66) hx hb dX4_standAsTold_54 (by decide) (fun c_19 => ?_) (fun c_19 => ?_)
          · have hf := z_it c_19 hf
            exact J_66  S_10 _ _ _ hf hP hS (lv_sub hl [] rfl)
          · have hf := z_if c_19 hf
            refine lv_aload_n hx hb dX4_standAsTold_57 rfl (lv_at hl 1 rfl) ?_
            refine va_get (D := D) (ci := 4) (v := .ref (ad 136)) (C := RX4) (T := TX4) (N := 14) hx hb hts k2 hown hK hP 128 (zX_128 cy ad S_10) rfl 12 (by decide) k9 (fun _ h9 => h9) rfl dX4_standAsTold_58 ?_
            refine lv_iload_n hx hb dX4_standAsTold_61 rfl (lv_at hl 0 rfl) ?_
            obtain ⟨h_12, hf⟩ := z_ix hf
            refine z_zald hx hb hK hP 136 2 (zX_136 cy ad S_10) rfl h_12 (k := (x_8.toNatClampNeg)) rfl dX4_standAsTold_62 ?_
            refine lv_if_eq (tgt := 68) hx hb dX4_standAsTold_63 (by decide) (fun c_18 => ?_) (fun c_18 => ?_)
            · have hf := z_it c_18 hf
              refine lv_aload_n hx hb dX4_standAsTold_68 rfl (lv_at hl 1 rfl) ?_
              refine va_get (D := D) (ci := 4) (v := .ref (ad 136)) (C := RX4) (T := TX4) (N := 14) hx hb hts k2 hown hK hP 128 (zX_128 cy ad S_10) rfl 12 (by decide) k9 (fun _ h9 => h9) rfl dX4_standAsTold_69 ?_
              refine lv_iload_n hx hb dX4_standAsTold_72 rfl (lv_at hl 0 rfl) ?_
              refine lv_iconst (v := 1) hx hb dX4_standAsTold_73 (by decide) ?_
              obtain ⟨h_13, hf⟩ := z_ix hf
              refine z_zast hx hb hK hP (hD S_10) hS 136 2 (zX_136 cy ad S_10) rfl h_13 (k := (x_8.toNatClampNeg)) rfl rfl dX4_standAsTold_74 (fun H locs hP hS => ?_)
              obtain ⟨S_14, eS_14, hf⟩ := z_nm hf
              have hP := zW_putI hP eS_14 (by decide) rfl
              refine lv_aload_n hx hb dX4_standAsTold_75 rfl (lv_at hl 1 rfl) ?_
              refine va_get (D := D) (ci := 4) (v := .ref (ad 129)) (C := RX4) (T := TX4) (N := 14) hx hb hts k2 hown hK hP 128 (zX_128 cy ad S_14) rfl 1 (by decide) k10 (fun _ h9 => h9) rfl dX4_standAsTold_76 ?_
              refine lv_iload_n hx hb dX4_standAsTold_79 rfl (lv_at hl 3 rfl) ?_
              refine lv_iload_n hx hb dX4_standAsTold_80 rfl (lv_at hl 0 rfl) ?_
              obtain ⟨h_15, hf⟩ := z_ix hf
              refine z_iast hx hb hK hP (hD S_14) hS 129 0 (zX_129 cy ad S_14) rfl h_15 (k := (x_5.toNatClampNeg)) rfl dX4_standAsTold_81 (fun H locs hP hS => ?_)
              obtain ⟨S_16, eS_16, hf⟩ := z_nm hf
              have hP := zW_putI hP eS_16 (by decide) rfl
              obtain ⟨x_17, ex_17, hf⟩ := z_nm hf
              refine lv_iinc (v := x_17) (lv' := [(2, .int x_17), (3, .int x_8), (0, .ref (ad 128)), (1, .ref (ad 1))]) hx hb dX4_standAsTold_82 hl (k := 3) rfl (by rw [ex_17]; rfl) (by decide) rfl (fun ls hl => ?_)
              refine lv_goto (tgt := 25) hx hb dX4_standAsTold_85 (by decide) ?_
              exact ih_25 x_17 S_16 _ _ _ hf hP hS (lv_sub hl [2, 3, 0] rfl)
            · have hf := z_if c_18 hf
              exact J_66  S_10 _ _ _ hf hP hS (lv_sub hl [] rfl)
    exact L_25 zFU (0 : Int32) S_2 _ _ _ hf hP hS (lv_sub hl [1, 2, 0] rfl)
  · have hf := z_if c_21 hf
    refine lv_iconst (v := 0) hx hb dX4_standAsTold_17 (by decide) ?_
    obtain ⟨h1, h2⟩ := z_s2 hf
    subst h1 h2
    exact hret _ _ _ _ rfl hP hS dX4_standAsTold_18
theorem yd_yX4_woodOf : (yX4_woodOf).cls ≠ "java/lang/invoke/MethodHandle" ∧ (yX4_woodOf).cls ≠ "java/lang/invoke/VarHandle" ∧ (parseMethodDescriptor (yX4_woodOf).desc).map (fun d => d.parameters.length) = some 2 := by decide +kernel
def fx_Lineup_woodOf (S_0 : zSt) (a_1 : Int32) (a_2 : Int32) : Option (Int32 × zSt) :=
  zck (zix a_1 9) <|
  znm ((S_0.1 6 (a_1.toNatClampNeg)) - a_2) fun x_2 =>
  znm (S_0.1 19 0) fun x_3 =>
  zck (zix a_1 9) <|
  znm (fun (x_5 : Int32) (S_6 : zSt) =>
  some (x_5, S_6)) fun j_57 =>
  znm (fun (S_7 : zSt) =>
  j_57 (0 : Int32) S_7) fun j_44 =>
  if (S_0.1 134 (a_1.toNatClampNeg)) = 0 then (
  j_44  S_0) else (
  if x_2 ≤ 0 then (
  j_44  S_0) else (
  if 0 < x_3 then (
  zck (znz x_3) <|
  j_57 (((x_2 + x_3) - (1 : Int32)) / x_3) S_0) else (
  j_44  S_0)))
set_option maxHeartbeats 4000000 in
set_option maxRecDepth 100000 in
theorem cx_Lineup_woodOf (l : Launch) (D : va_G) (K : (Nat → Nat) × (Nat → Nat)) (cy : Nat → ClassId) (ad : Nat → Nat) (S_0 : zSt) (a_1 : Int32) (a_2 : Int32) (ro : Int32) (So : zSt) (hf : fx_Lineup_woodOf S_0 a_1 a_2 = some (ro, So)) : zMI l yX4_woodOf (zws yX4_woodOf cX4_woodOf 5 (Option.some .int)) ({ frames := 0, cells := 0, slots := 0, locals := 0 }) D (zTy cy) K (zX cy ad) [.ref (ad 128), .int a_1, .int a_2] S_0 ro So := by
  refine z_metI (own := RX4) (lv := [(0, .ref (ad 128)), (1, .int a_1), (2, .int a_2)]) (by decide) rfl rfl (Nat.le_of_ble_eq_true rfl) rfl ?_
  intro p e s m below meth c A Q X hK hE hD hA hret hP hS ls hl
  obtain ⟨hx, hb, hml, hown, hts⟩ := id X
  have k0 := (fun w h => List.mem_cons_of_mem _ (zFX4 w h) : ∀ w ∈ u_ws RX4 TX4 14, w ∈ zws yX4_woodOf cX4_woodOf 5 (Option.some .int))
  have k1 := hts _ (List.mem_cons_of_mem _ wt_2_108)
  have k2 := (fun w h => List.mem_cons_of_mem _ (zFX0 w h) : ∀ w ∈ u_ws RX0 TX0 6, w ∈ zws yX4_woodOf cX4_woodOf 5 (Option.some .int))
  have k3 := hts _ (List.mem_cons_of_mem _ wt_1_234)
  have k4 := (fun w h => List.mem_cons_of_mem _ (zFX2 w h) : ∀ w ∈ u_ws RX2 TX2 7, w ∈ zws yX4_woodOf cX4_woodOf 5 (Option.some .int))
  have k5 := hts _ (List.mem_cons_of_mem _ wt_1_73)
  have k6 := hts _ (List.mem_cons_of_mem _ wt_2_1)
  have k7 := hts _ (List.mem_cons_of_mem _ wt_2_124)
  refine lv_aload_n hx hb dX4_woodOf_0 rfl (lv_at hl 0 rfl) ?_
  refine va_get (D := D) (ci := 4) (v := .ref (ad 3)) (C := RX4) (T := TX4) (N := 14) hx hb hts k0 hown hK hP 128 (zX_128 cy ad S_0) rfl 0 (by decide) k1 (fun _ h9 => h9) rfl dX4_woodOf_1 ?_
  refine va_get (D := D) (ci := 0) (v := .ref (ad 4)) (C := RX0) (T := TX0) (N := 6) hx hb hts k2 hown hK hP 3 (zX_3 cy ad S_0) rfl 0 (by decide) k3 (fun _ h9 => h9) rfl dX4_woodOf_4 ?_
  refine va_get (D := D) (ci := 2) (v := .ref (ad 6)) (C := RX2) (T := TX2) (N := 7) hx hb hts k4 hown hK hP 4 (zX_4 cy ad S_0) rfl 2 (by decide) k5 (fun _ h9 => h9) rfl dX4_woodOf_7 ?_
  refine lv_iload_n hx hb dX4_woodOf_10 rfl (lv_at hl 1 rfl) ?_
  obtain ⟨h_1, hf⟩ := z_ix hf
  refine z_iald hx hb hK hP 6 0 (zX_6 cy ad S_0) rfl h_1 (k := (a_1.toNatClampNeg)) rfl dX4_woodOf_11 ?_
  refine lv_iload_n hx hb dX4_woodOf_12 rfl (lv_at hl 2 rfl) ?_
  refine lv_isub hx hb dX4_woodOf_13 ?_
  refine lv_topi (fun x_2 ex_2 => ?_)
  have hf := z_nv ex_2 hf
  refine lv_istore_n (lv' := [(3, .int x_2), (0, .ref (ad 128)), (1, .int a_1), (2, .int a_2)]) hx hb dX4_woodOf_14 rfl hl (by decide) rfl (fun ls hl => ?_)
  refine lv_aload_n hx hb dX4_woodOf_15 rfl (lv_at hl 1 rfl) ?_
  refine va_get (D := D) (ci := 4) (v := .ref (ad 3)) (C := RX4) (T := TX4) (N := 14) hx hb hts k0 hown hK hP 128 (zX_128 cy ad S_0) rfl 0 (by decide) k1 (fun _ h9 => h9) rfl dX4_woodOf_16 ?_
  refine va_get (D := D) (ci := 0) (v := .ref (ad 19)) (C := RX0) (T := TX0) (N := 6) hx hb hts k2 hown hK hP 3 (zX_3 cy ad S_0) rfl 2 (by decide) k6 (fun _ h9 => h9) rfl dX4_woodOf_19 ?_
  refine lv_iconst (v := 0) hx hb dX4_woodOf_22 (by decide) ?_
  refine z_iald hx hb hK hP 19 0 (zX_19 cy ad S_0) rfl (vp_in_iff.mpr (by decide)) (k := 0) (by decide) dX4_woodOf_23 ?_
  refine lv_topi (fun x_3 ex_3 => ?_)
  have hf := z_nv ex_3 hf
  refine lv_istore (lv' := [(4, .int x_3), (3, .int x_2), (0, .ref (ad 128)), (1, .int a_1), (2, .int a_2)]) hx hb dX4_woodOf_24 hl (by decide) rfl (fun ls hl => ?_)
  refine lv_aload_n hx hb dX4_woodOf_26 rfl (lv_at hl 2 rfl) ?_
  refine va_get (D := D) (ci := 4) (v := .ref (ad 134)) (C := RX4) (T := TX4) (N := 14) hx hb hts k0 hown hK hP 128 (zX_128 cy ad S_0) rfl 10 (by decide) k7 (fun _ h9 => h9) rfl dX4_woodOf_27 ?_
  refine lv_iload_n hx hb dX4_woodOf_30 rfl (lv_at hl 3 rfl) ?_
  obtain ⟨h_4, hf⟩ := z_ix hf
  refine z_iald hx hb hK hP 134 0 (zX_134 cy ad S_0) rfl h_4 (k := (a_1.toNatClampNeg)) rfl dX4_woodOf_31 ?_
  obtain ⟨j_57, ej_57, hf⟩ := z_nm hf
  have J_57 : ∀ (x_5 : Int32) (S_6 : zSt) (H : Heap) (locs : List Loc) (ls : Array Slot), j_57 x_5 S_6 = some (ro, So) → va_P D vwCl (zX cy ad S_6) H → va_S A s.heap H locs → lv_has ls 5 [] → W p l e ({ frames := 0, cells := 0, slots := 0, locals := 0 }) s m ([.ref (ad 128), .int a_1, .int a_2] : List Value).toArray below meth c H locs 0 0 Q (F0 m 57 ls [.int x_5]) := by
    intro x_5 S_6 H locs ls hf hP hS hl
    have hf := z_e2 ej_57 hf
    obtain ⟨h1, h2⟩ := z_s2 hf
    subst h1 h2
    exact hret _ _ _ _ hP hS dX4_woodOf_57
  obtain ⟨j_44, ej_44, hf⟩ := z_nm hf
  have J_44 : ∀ (S_7 : zSt) (H : Heap) (locs : List Loc) (ls : Array Slot), j_44  S_7 = some (ro, So) → va_P D vwCl (zX cy ad S_7) H → va_S A s.heap H locs → lv_has ls 5 [] → W p l e ({ frames := 0, cells := 0, slots := 0, locals := 0 }) s m ([.ref (ad 128), .int a_1, .int a_2] : List Value).toArray below meth c H locs 0 0 Q (F0 m 44 ls []) := by
    intro  S_7 H locs ls hf hP hS hl
    have hf := z_e1 ej_44 hf
    refine lv_iconst (v := 0) hx hb dX4_woodOf_44 (by decide) ?_
    refine lv_goto (tgt := 57) hx hb dX4_woodOf_45 (by decide) ?_
    exact J_57 (0 : Int32) S_7 _ _ _ hf hP hS (lv_sub hl [] rfl)
  refine lv_if_eq (tgt := 44) hx hb dX4_woodOf_32 (by decide) (fun c_11 => ?_) (fun c_11 => ?_)
  · have hf := z_it c_11 hf
    exact J_44  S_0 _ _ _ hf hP hS (lv_sub hl [] rfl)
  · have hf := z_if c_11 hf
    refine lv_iload_n hx hb dX4_woodOf_35 rfl (lv_at hl 1 rfl) ?_
    refine lv_if_le (tgt := 44) hx hb dX4_woodOf_36 (by decide) (fun c_10 => ?_) (fun c_10 => ?_)
    · have hf := z_it c_10 hf
      exact J_44  S_0 _ _ _ hf hP hS (lv_sub hl [] rfl)
    · have hf := z_if c_10 hf
      refine lv_iload hx hb dX4_woodOf_39 (lv_at hl 0 rfl) ?_
      refine lv_if_gt (tgt := 48) hx hb dX4_woodOf_41 (by decide) (fun c_9 => ?_) (fun c_9 => ?_)
      · have hf := z_it c_9 hf
        refine lv_iload_n hx hb dX4_woodOf_48 rfl (lv_at hl 1 rfl) ?_
        refine lv_iload hx hb dX4_woodOf_49 (lv_at hl 0 rfl) ?_
        refine lv_iadd hx hb dX4_woodOf_51 ?_
        refine lv_iconst (v := 1) hx hb dX4_woodOf_52 (by decide) ?_
        refine lv_isub hx hb dX4_woodOf_53 ?_
        refine lv_iload hx hb dX4_woodOf_54 (lv_at hl 0 rfl) ?_
        obtain ⟨h_8, hf⟩ := z_nz hf
        refine lv_idiv hx hb dX4_woodOf_56 h_8 ?_
        exact J_57 (((x_2 + x_3) - (1 : Int32)) / x_3) S_0 _ _ _ hf hP hS (lv_sub hl [] rfl)
      · have hf := z_if c_9 hf
        exact J_44  S_0 _ _ _ hf hP hS (lv_sub hl [] rfl)
theorem yd_yX4_heatAfter : (yX4_heatAfter).cls ≠ "java/lang/invoke/MethodHandle" ∧ (yX4_heatAfter).cls ≠ "java/lang/invoke/VarHandle" ∧ (parseMethodDescriptor (yX4_heatAfter).desc).map (fun d => d.parameters.length) = some 2 := by decide +kernel
def fx_Lineup_heatAfter (S_0 : zSt) (a_1 : Int32) (a_2 : Int32) : Option (Int32 × zSt) :=
  zck (zix a_1 9) <|
  if (S_0.1 134 (a_1.toNatClampNeg)) = 0 then (
  some (a_2, S_0)) else (
  zbd (fx_Lineup_woodOf S_0 a_1 a_2) fun r_2 S_3 =>
  znm (a_2 + (r_2 * (S_3.1 19 0))) fun x_5 =>
  zck (zix a_1 9) <|
  some (if (0 : Int32) < (x_5 - ((S_3.1 19 1) * (S_3.1 7 (a_1.toNatClampNeg)))) then (x_5 - ((S_3.1 19 1) * (S_3.1 7 (a_1.toNatClampNeg)))) else (0 : Int32), S_3))
set_option maxHeartbeats 4000000 in
set_option maxRecDepth 100000 in
theorem cx_Lineup_heatAfter (l : Launch) (D : va_G) (K : (Nat → Nat) × (Nat → Nat)) (cy : Nat → ClassId) (ad : Nat → Nat) (S_0 : zSt) (a_1 : Int32) (a_2 : Int32) (ro : Int32) (So : zSt) (hf : fx_Lineup_heatAfter S_0 a_1 a_2 = some (ro, So)) : zMI l yX4_heatAfter (zws yX4_heatAfter cX4_heatAfter 4 (Option.some .int)) ({ frames := 1, cells := 0, slots := 0, locals := 200 }) D (zTy cy) K (zX cy ad) [.ref (ad 128), .int a_1, .int a_2] S_0 ro So := by
  refine z_metI (own := RX4) (lv := [(0, .ref (ad 128)), (1, .int a_1), (2, .int a_2)]) (by decide) rfl rfl (Nat.le_of_ble_eq_true rfl) rfl ?_
  intro p e s m below meth c A Q X hK hE hD hA hret hP hS ls hl
  obtain ⟨hx, hb, hml, hown, hts⟩ := id X
  have k0 := (fun w h => List.mem_cons_of_mem _ (zFX4 w h) : ∀ w ∈ u_ws RX4 TX4 14, w ∈ zws yX4_heatAfter cX4_heatAfter 4 (Option.some .int))
  have k1 := hts _ (List.mem_cons_of_mem _ wt_2_124)
  have k2 := hts _ (List.mem_cons_of_mem _ wt_2_108)
  have k3 := (fun w h => List.mem_cons_of_mem _ (zFX0 w h) : ∀ w ∈ u_ws RX0 TX0 6, w ∈ zws yX4_heatAfter cX4_heatAfter 4 (Option.some .int))
  have k4 := hts _ (List.mem_cons_of_mem _ wt_2_1)
  have k5 := hts _ (List.mem_cons_of_mem _ wt_1_234)
  have k6 := (fun w h => List.mem_cons_of_mem _ (zFX2 w h) : ∀ w ∈ u_ws RX2 TX2 7, w ∈ zws yX4_heatAfter cX4_heatAfter 4 (Option.some .int))
  have k7 := hts _ (List.mem_cons_of_mem _ wt_1_77)
  have k8 := hts _ (List.mem_cons_of_mem _ wt_4_80)
  have k9 := hts _ (List.mem_cons_of_mem _ wt_3_122)
  have k10 := hts _ (List.mem_cons_of_mem _ wt_1_18)
  have k11 := hts _ (List.mem_cons_of_mem _ wt_3_123)
  refine lv_aload_n hx hb dX4_heatAfter_0 rfl (lv_at hl 0 rfl) ?_
  refine va_get (D := D) (ci := 4) (v := .ref (ad 134)) (C := RX4) (T := TX4) (N := 14) hx hb hts k0 hown hK hP 128 (zX_128 cy ad S_0) rfl 10 (by decide) k1 (fun _ h9 => h9) rfl dX4_heatAfter_1 ?_
  refine lv_iload_n hx hb dX4_heatAfter_4 rfl (lv_at hl 1 rfl) ?_
  obtain ⟨h_1, hf⟩ := z_ix hf
  refine z_iald hx hb hK hP 134 0 (zX_134 cy ad S_0) rfl h_1 (k := (a_1.toNatClampNeg)) rfl dX4_heatAfter_5 ?_
  refine lv_if_ne (tgt := 11) hx hb dX4_heatAfter_6 (by decide) (fun c_7 => ?_) (fun c_7 => ?_)
  · have hf := z_if c_7 hf
    refine lv_iload_n hx hb dX4_heatAfter_11 rfl (lv_at hl 2 rfl) ?_
    refine lv_aload_n hx hb dX4_heatAfter_12 rfl (lv_at hl 0 rfl) ?_
    refine lv_iload_n hx hb dX4_heatAfter_13 rfl (lv_at hl 1 rfl) ?_
    refine lv_iload_n hx hb dX4_heatAfter_14 rfl (lv_at hl 2 rfl) ?_
    obtain ⟨r_2, S_3, h_4, hf⟩ := z_bd hf
    refine z_cVI (As := [.int a_1, .int a_2]) (rest := [.int a_2]) X hK hE hD hA hP hS (cx_Lineup_woodOf l D K cy ad S_0 _ _ _ _ h_4) (cwV 2 hts (z_gV wt_4_72 wt_4_74 wp_29 wt_1_11 wt_4_75) rfl rfl rfl ⟨rfl, yd_yX4_woodOf⟩ ⟨Nat.le_of_ble_eq_true rfl, Nat.le_of_ble_eq_true rfl⟩) (va_recv hK hP (ci := 4) (q0 := 128) rfl (zX_128 cy ad S_0)) hl.1 rfl rfl (Nat.le_of_ble_eq_true rfl) dX4_heatAfter_15 (fun H locs hP hS => ?_)
    refine lv_aload_n hx hb dX4_heatAfter_18 rfl (lv_at hl 0 rfl) ?_
    refine va_get (D := D) (ci := 4) (v := .ref (ad 3)) (C := RX4) (T := TX4) (N := 14) hx hb hts k0 hown hK hP 128 (zX_128 cy ad S_3) rfl 0 (by decide) k2 (fun _ h9 => h9) rfl dX4_heatAfter_19 ?_
    refine va_get (D := D) (ci := 0) (v := .ref (ad 19)) (C := RX0) (T := TX0) (N := 6) hx hb hts k3 hown hK hP 3 (zX_3 cy ad S_3) rfl 2 (by decide) k4 (fun _ h9 => h9) rfl dX4_heatAfter_22 ?_
    refine lv_iconst (v := 0) hx hb dX4_heatAfter_25 (by decide) ?_
    refine z_iald hx hb hK hP 19 0 (zX_19 cy ad S_3) rfl (vp_in_iff.mpr (by decide)) (k := 0) (by decide) dX4_heatAfter_26 ?_
    refine lv_imul hx hb dX4_heatAfter_27 ?_
    refine lv_iadd hx hb dX4_heatAfter_28 ?_
    refine lv_topi (fun x_5 ex_5 => ?_)
    have hf := z_nv ex_5 hf
    refine lv_istore_n (lv' := [(3, .int x_5), (0, .ref (ad 128)), (1, .int a_1), (2, .int a_2)]) hx hb dX4_heatAfter_29 rfl hl (by decide) rfl (fun ls hl => ?_)
    refine lv_iconst (v := 0) hx hb dX4_heatAfter_30 (by decide) ?_
    refine lv_iload_n hx hb dX4_heatAfter_31 rfl (lv_at hl 0 rfl) ?_
    refine lv_aload_n hx hb dX4_heatAfter_32 rfl (lv_at hl 1 rfl) ?_
    refine va_get (D := D) (ci := 4) (v := .ref (ad 3)) (C := RX4) (T := TX4) (N := 14) hx hb hts k0 hown hK hP 128 (zX_128 cy ad S_3) rfl 0 (by decide) k2 (fun _ h9 => h9) rfl dX4_heatAfter_33 ?_
    refine va_get (D := D) (ci := 0) (v := .ref (ad 19)) (C := RX0) (T := TX0) (N := 6) hx hb hts k3 hown hK hP 3 (zX_3 cy ad S_3) rfl 2 (by decide) k4 (fun _ h9 => h9) rfl dX4_heatAfter_36 ?_
    refine lv_iconst (v := 1) hx hb dX4_heatAfter_39 (by decide) ?_
    refine z_iald hx hb hK hP 19 0 (zX_19 cy ad S_3) rfl (vp_in_iff.mpr (by decide)) (k := 1) (by decide) dX4_heatAfter_40 ?_
    refine lv_aload_n hx hb dX4_heatAfter_41 rfl (lv_at hl 1 rfl) ?_
    refine va_get (D := D) (ci := 4) (v := .ref (ad 3)) (C := RX4) (T := TX4) (N := 14) hx hb hts k0 hown hK hP 128 (zX_128 cy ad S_3) rfl 0 (by decide) k2 (fun _ h9 => h9) rfl dX4_heatAfter_42 ?_
    refine va_get (D := D) (ci := 0) (v := .ref (ad 4)) (C := RX0) (T := TX0) (N := 6) hx hb hts k3 hown hK hP 3 (zX_3 cy ad S_3) rfl 0 (by decide) k5 (fun _ h9 => h9) rfl dX4_heatAfter_45 ?_
    refine va_get (D := D) (ci := 2) (v := .ref (ad 7)) (C := RX2) (T := TX2) (N := 7) hx hb hts k6 hown hK hP 4 (zX_4 cy ad S_3) rfl 3 (by decide) k7 (fun _ h9 => h9) rfl dX4_heatAfter_48 ?_
    refine lv_iload_n hx hb dX4_heatAfter_51 rfl (lv_at hl 2 rfl) ?_
    obtain ⟨h_6, hf⟩ := z_ix hf
    refine z_iald hx hb hK hP 7 0 (zX_7 cy ad S_3) rfl h_6 (k := (a_1.toNatClampNeg)) rfl dX4_heatAfter_52 ?_
    refine lv_imul hx hb dX4_heatAfter_53 ?_
    refine lv_isub hx hb dX4_heatAfter_54 ?_
    refine va_mmax hx hb (by rw [hml]; exact hl.1.symm) hown k8 k9 k10 k11 (Nat.le_of_ble_eq_true rfl) (Nat.le_of_ble_eq_true rfl) (Nat.zero_le _) (Nat.zero_le _) dX4_heatAfter_55 ?_
    obtain ⟨h1, h2⟩ := z_s2 hf
    subst h1 h2
    exact hret _ _ _ _ hP hS dX4_heatAfter_58
  · have hf := z_it c_7 hf
    refine lv_iload_n hx hb dX4_heatAfter_9 rfl (lv_at hl 2 rfl) ?_
    obtain ⟨h1, h2⟩ := z_s2 hf
    subst h1 h2
    exact hret _ _ _ _ hP hS dX4_heatAfter_10
