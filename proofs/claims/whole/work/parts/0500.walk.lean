def fx_Times_copyFrom (tq : Nat) (tp : Nat) (S_0 : zSt) : Option (Unit × zSt) :=
  znm (zpI S_0 tq 0 (S_0.1 tp 0)) fun S_1 =>
  znm (zpI S_1 tq 1 (S_1.1 tp 1)) fun S_2 =>
  znm (zpI S_2 tq 2 (S_2.1 tp 2)) fun S_3 =>
  znm (zcI S_3 (tq + 1) (va_cpy (S_3.1 (tp + 1)) (S_3.1 (tq + 1)) 0 0 9)) fun S_4 =>
  znm (zcI S_4 (tq + 2) (va_cpy (S_4.1 (tp + 2)) (S_4.1 (tq + 2)) 0 0 9)) fun S_5 =>
  znm (zcI S_5 (tq + 3) (va_cpy (S_5.1 (tp + 3)) (S_5.1 (tq + 3)) 0 0 9)) fun S_6 =>
  znm (zcI S_6 (tq + 4) (va_cpy (S_6.1 (tp + 4)) (S_6.1 (tq + 4)) 0 0 9)) fun S_7 =>
  znm (zcI S_7 (tq + 5) (va_cpy (S_7.1 (tp + 5)) (S_7.1 (tq + 5)) 0 0 9)) fun S_8 =>
  znm (zcI S_8 (tq + 6) (va_cpy (S_8.1 (tp + 6)) (S_8.1 (tq + 6)) 0 0 9)) fun S_9 =>
  znm (zcI S_9 (tq + 7) (va_cpy (S_9.1 (tp + 7)) (S_9.1 (tq + 7)) 0 0 9)) fun S_10 =>
  znm (zpI S_10 tq 10 (S_10.1 tp 10)) fun S_11 =>
  znm (zpI S_11 tq 11 (S_11.1 tp 11)) fun S_12 =>
  some ((), S_12)
set_option maxHeartbeats 4000000 in
set_option maxRecDepth 100000 in
theorem cx_Times_copyFrom (l : Launch) (D : va_G) (K : (Nat → Nat) × (Nat → Nat)) (cy : Nat → ClassId) (ad : Nat → Nat) (tq : Nat) (tp : Nat) (htq : zIsT tq) (htp : zIsT tp) (S_0 : zSt) (So : zSt) (hf : fx_Times_copyFrom tq tp S_0 = some ((), So)) : zMV l yX10_copyFrom (zws yX10_copyFrom cX10_copyFrom 2 none) ({ frames := 1, cells := 0, slots := 0, locals := 200 }) D (zTy cy) K (zX cy ad) [.ref (ad tq), .ref (ad tp)] S_0 So := by
  refine z_metV (own := RX10) (lv := [(0, .ref (ad tq)), (1, .ref (ad tp))]) (by decide) rfl rfl (Nat.le_of_ble_eq_true rfl) rfl ?_
  intro p e s m below meth c A Q X hK hE hD hA hret hP hS ls hl
  obtain ⟨hx, hb, hml, hown, hts⟩ := id X
  have k0 := (fun w h => List.mem_cons_of_mem _ (zFX10 w h) : ∀ w ∈ u_ws RX10 TX10 12, w ∈ zws yX10_copyFrom cX10_copyFrom 2 none)
  have k1 := hts _ (List.mem_cons_of_mem _ wt_1_107)
  have k2 := hts _ (List.mem_cons_of_mem _ wt_1_109)
  have k3 := hts _ (List.mem_cons_of_mem _ wt_1_112)
  have k4 := hts _ (List.mem_cons_of_mem _ wt_1_115)
  have k5 := hts _ (List.mem_cons_of_mem _ wt_4_47)
  have k6 := hts _ (List.mem_cons_of_mem _ wt_3_231)
  have k7 := hts _ (List.mem_cons_of_mem _ wt_3_230)
  have k8 := hts _ (List.mem_cons_of_mem _ wt_1_20)
  have k9 := hts _ (List.mem_cons_of_mem _ wt_1_118)
  have k10 := hts _ (List.mem_cons_of_mem _ wt_1_121)
  have k11 := hts _ (List.mem_cons_of_mem _ wt_1_124)
  have k12 := hts _ (List.mem_cons_of_mem _ wt_1_127)
  have k13 := hts _ (List.mem_cons_of_mem _ wt_1_130)
  have k14 := hts _ (List.mem_cons_of_mem _ wt_1_133)
  have k15 := hts _ (List.mem_cons_of_mem _ wt_1_136)
  have k16 := hts _ (List.mem_cons_of_mem _ wt_1_139)
  refine lv_aload_n hx hb dX10_copyFrom_0 rfl (lv_at hl 0 rfl) ?_
  refine lv_aload_n hx hb dX10_copyFrom_1 rfl (lv_at hl 1 rfl) ?_
  refine va_get (D := D) (ci := 10) (v := .int (S_0.1 tp 0)) (C := RX10) (T := TX10) (N := 12) hx hb hts k0 hown hK hP tp (zXT_o cy ad S_0 htp) rfl 0 (by decide) k1 (fun _ h9 => h9) rfl dX10_copyFrom_2 ?_
  refine va_put (D := D) (ci := 10) (v := .int (S_0.1 tp 0)) (ty := .int) (C := RX10) (T := TX10) (N := 12) hx hb hts k0 tyX10 tyX10_ok nmX10 hown hK hP (hD S_0) hS tq (zXT_o cy ad S_0 htq) rfl 0 (by decide) k1 (fun _ h9 => h9) rfl (tyX10_ok 0 (by decide)) rfl rfl (Nat.le_of_ble_eq_true rfl) dX10_copyFrom_5 (fun H locs hP _ hS => ?_)
  obtain ⟨S_1, eS_1, hf⟩ := z_nm hf
  have hP := zW_putI hP eS_1 (by rcases htq with rfl | rfl | rfl | rfl | rfl | rfl | rfl | rfl | rfl | rfl <;> decide) (by rcases htq with rfl | rfl | rfl | rfl | rfl | rfl | rfl | rfl | rfl | rfl <;> rfl)
  refine lv_aload_n hx hb dX10_copyFrom_8 rfl (lv_at hl 0 rfl) ?_
  refine lv_aload_n hx hb dX10_copyFrom_9 rfl (lv_at hl 1 rfl) ?_
  refine va_get (D := D) (ci := 10) (v := .int (S_1.1 tp 1)) (C := RX10) (T := TX10) (N := 12) hx hb hts k0 hown hK hP tp (zXT_o cy ad S_1 htp) rfl 1 (by decide) k2 (fun _ h9 => h9) rfl dX10_copyFrom_10 ?_
  refine va_put (D := D) (ci := 10) (v := .int (S_1.1 tp 1)) (ty := .int) (C := RX10) (T := TX10) (N := 12) hx hb hts k0 tyX10 tyX10_ok nmX10 hown hK hP (hD S_1) hS tq (zXT_o cy ad S_1 htq) rfl 1 (by decide) k2 (fun _ h9 => h9) rfl (tyX10_ok 1 (by decide)) rfl rfl (Nat.le_of_ble_eq_true rfl) dX10_copyFrom_13 (fun H locs hP _ hS => ?_)
  obtain ⟨S_2, eS_2, hf⟩ := z_nm hf
  have hP := zW_putI hP eS_2 (by rcases htq with rfl | rfl | rfl | rfl | rfl | rfl | rfl | rfl | rfl | rfl <;> decide) (by rcases htq with rfl | rfl | rfl | rfl | rfl | rfl | rfl | rfl | rfl | rfl <;> rfl)
  refine lv_aload_n hx hb dX10_copyFrom_16 rfl (lv_at hl 0 rfl) ?_
  refine lv_aload_n hx hb dX10_copyFrom_17 rfl (lv_at hl 1 rfl) ?_
  refine va_get (D := D) (ci := 10) (v := .int (S_2.1 tp 2)) (C := RX10) (T := TX10) (N := 12) hx hb hts k0 hown hK hP tp (zXT_o cy ad S_2 htp) rfl 2 (by decide) k3 (fun _ h9 => h9) rfl dX10_copyFrom_18 ?_
  refine va_put (D := D) (ci := 10) (v := .int (S_2.1 tp 2)) (ty := .int) (C := RX10) (T := TX10) (N := 12) hx hb hts k0 tyX10 tyX10_ok nmX10 hown hK hP (hD S_2) hS tq (zXT_o cy ad S_2 htq) rfl 2 (by decide) k3 (fun _ h9 => h9) rfl (tyX10_ok 2 (by decide)) rfl rfl (Nat.le_of_ble_eq_true rfl) dX10_copyFrom_21 (fun H locs hP _ hS => ?_)
  obtain ⟨S_3, eS_3, hf⟩ := z_nm hf
  have hP := zW_putI hP eS_3 (by rcases htq with rfl | rfl | rfl | rfl | rfl | rfl | rfl | rfl | rfl | rfl <;> decide) (by rcases htq with rfl | rfl | rfl | rfl | rfl | rfl | rfl | rfl | rfl | rfl <;> rfl)
  refine lv_aload_n hx hb dX10_copyFrom_24 rfl (lv_at hl 1 rfl) ?_
  refine va_get (D := D) (ci := 10) (v := .ref (ad (tp + 1))) (C := RX10) (T := TX10) (N := 12) hx hb hts k0 hown hK hP tp (zXT_o cy ad S_3 htp) rfl 3 (by decide) k4 (fun _ h9 => h9) rfl dX10_copyFrom_25 ?_
  refine lv_iconst (v := 0) hx hb dX10_copyFrom_28 (by decide) ?_
  refine lv_aload_n hx hb dX10_copyFrom_29 rfl (lv_at hl 0 rfl) ?_
  refine va_get (D := D) (ci := 10) (v := .ref (ad (tq + 1))) (C := RX10) (T := TX10) (N := 12) hx hb hts k0 hown hK hP tq (zXT_o cy ad S_3 htq) rfl 3 (by decide) k4 (fun _ h9 => h9) rfl dX10_copyFrom_30 ?_
  refine lv_iconst (v := 0) hx hb dX10_copyFrom_33 (by decide) ?_
  refine lv_bipush (v := 9) hx hb dX10_copyFrom_34 (by decide) ?_
  refine z_copyi hx hb (by rw [hml]; exact hl.1.symm) hown k5 k6 k7 k8 hK hP (hD S_3) hS (tp + 1) (tq + 1) 0 (zXT_1 cy ad S_3 htp) (zXT_1 cy ad S_3 htq) rfl (by decide) (k := 9) (by decide) (by decide) (by decide) (Nat.le_of_ble_eq_true rfl) (Nat.le_of_ble_eq_true rfl) dX10_copyFrom_36 (fun H locs hP hS => ?_)
  obtain ⟨S_4, eS_4, hf⟩ := z_nm hf
  have hP := zW_cpyI hP eS_4 (by rcases htq with rfl | rfl | rfl | rfl | rfl | rfl | rfl | rfl | rfl | rfl <;> decide) (by rcases htq with rfl | rfl | rfl | rfl | rfl | rfl | rfl | rfl | rfl | rfl <;> rfl)
  refine lv_aload_n hx hb dX10_copyFrom_39 rfl (lv_at hl 1 rfl) ?_
  refine va_get (D := D) (ci := 10) (v := .ref (ad (tp + 2))) (C := RX10) (T := TX10) (N := 12) hx hb hts k0 hown hK hP tp (zXT_o cy ad S_4 htp) rfl 4 (by decide) k9 (fun _ h9 => h9) rfl dX10_copyFrom_40 ?_
  refine lv_iconst (v := 0) hx hb dX10_copyFrom_43 (by decide) ?_
  refine lv_aload_n hx hb dX10_copyFrom_44 rfl (lv_at hl 0 rfl) ?_
  refine va_get (D := D) (ci := 10) (v := .ref (ad (tq + 2))) (C := RX10) (T := TX10) (N := 12) hx hb hts k0 hown hK hP tq (zXT_o cy ad S_4 htq) rfl 4 (by decide) k9 (fun _ h9 => h9) rfl dX10_copyFrom_45 ?_
  refine lv_iconst (v := 0) hx hb dX10_copyFrom_48 (by decide) ?_
  refine lv_bipush (v := 9) hx hb dX10_copyFrom_49 (by decide) ?_
  refine z_copyi hx hb (by rw [hml]; exact hl.1.symm) hown k5 k6 k7 k8 hK hP (hD S_4) hS (tp + 2) (tq + 2) 0 (zXT_2 cy ad S_4 htp) (zXT_2 cy ad S_4 htq) rfl (by decide) (k := 9) (by decide) (by decide) (by decide) (Nat.le_of_ble_eq_true rfl) (Nat.le_of_ble_eq_true rfl) dX10_copyFrom_51 (fun H locs hP hS => ?_)
  obtain ⟨S_5, eS_5, hf⟩ := z_nm hf
  have hP := zW_cpyI hP eS_5 (by rcases htq with rfl | rfl | rfl | rfl | rfl | rfl | rfl | rfl | rfl | rfl <;> decide) (by rcases htq with rfl | rfl | rfl | rfl | rfl | rfl | rfl | rfl | rfl | rfl <;> rfl)
  refine lv_aload_n hx hb dX10_copyFrom_54 rfl (lv_at hl 1 rfl) ?_
  refine va_get (D := D) (ci := 10) (v := .ref (ad (tp + 3))) (C := RX10) (T := TX10) (N := 12) hx hb hts k0 hown hK hP tp (zXT_o cy ad S_5 htp) rfl 5 (by decide) k10 (fun _ h9 => h9) rfl dX10_copyFrom_55 ?_
  refine lv_iconst (v := 0) hx hb dX10_copyFrom_58 (by decide) ?_
  refine lv_aload_n hx hb dX10_copyFrom_59 rfl (lv_at hl 0 rfl) ?_
  refine va_get (D := D) (ci := 10) (v := .ref (ad (tq + 3))) (C := RX10) (T := TX10) (N := 12) hx hb hts k0 hown hK hP tq (zXT_o cy ad S_5 htq) rfl 5 (by decide) k10 (fun _ h9 => h9) rfl dX10_copyFrom_60 ?_
  refine lv_iconst (v := 0) hx hb dX10_copyFrom_63 (by decide) ?_
  refine lv_bipush (v := 9) hx hb dX10_copyFrom_64 (by decide) ?_
  refine z_copyi hx hb (by rw [hml]; exact hl.1.symm) hown k5 k6 k7 k8 hK hP (hD S_5) hS (tp + 3) (tq + 3) 0 (zXT_3 cy ad S_5 htp) (zXT_3 cy ad S_5 htq) rfl (by decide) (k := 9) (by decide) (by decide) (by decide) (Nat.le_of_ble_eq_true rfl) (Nat.le_of_ble_eq_true rfl) dX10_copyFrom_66 (fun H locs hP hS => ?_)
  obtain ⟨S_6, eS_6, hf⟩ := z_nm hf
  have hP := zW_cpyI hP eS_6 (by rcases htq with rfl | rfl | rfl | rfl | rfl | rfl | rfl | rfl | rfl | rfl <;> decide) (by rcases htq with rfl | rfl | rfl | rfl | rfl | rfl | rfl | rfl | rfl | rfl <;> rfl)
  refine lv_aload_n hx hb dX10_copyFrom_69 rfl (lv_at hl 1 rfl) ?_
  refine va_get (D := D) (ci := 10) (v := .ref (ad (tp + 4))) (C := RX10) (T := TX10) (N := 12) hx hb hts k0 hown hK hP tp (zXT_o cy ad S_6 htp) rfl 6 (by decide) k11 (fun _ h9 => h9) rfl dX10_copyFrom_70 ?_
  refine lv_iconst (v := 0) hx hb dX10_copyFrom_73 (by decide) ?_
  refine lv_aload_n hx hb dX10_copyFrom_74 rfl (lv_at hl 0 rfl) ?_
  refine va_get (D := D) (ci := 10) (v := .ref (ad (tq + 4))) (C := RX10) (T := TX10) (N := 12) hx hb hts k0 hown hK hP tq (zXT_o cy ad S_6 htq) rfl 6 (by decide) k11 (fun _ h9 => h9) rfl dX10_copyFrom_75 ?_
  refine lv_iconst (v := 0) hx hb dX10_copyFrom_78 (by decide) ?_
  refine lv_bipush (v := 9) hx hb dX10_copyFrom_79 (by decide) ?_
  refine z_copyi hx hb (by rw [hml]; exact hl.1.symm) hown k5 k6 k7 k8 hK hP (hD S_6) hS (tp + 4) (tq + 4) 0 (zXT_4 cy ad S_6 htp) (zXT_4 cy ad S_6 htq) rfl (by decide) (k := 9) (by decide) (by decide) (by decide) (Nat.le_of_ble_eq_true rfl) (Nat.le_of_ble_eq_true rfl) dX10_copyFrom_81 (fun H locs hP hS => ?_)
  obtain ⟨S_7, eS_7, hf⟩ := z_nm hf
  have hP := zW_cpyI hP eS_7 (by rcases htq with rfl | rfl | rfl | rfl | rfl | rfl | rfl | rfl | rfl | rfl <;> decide) (by rcases htq with rfl | rfl | rfl | rfl | rfl | rfl | rfl | rfl | rfl | rfl <;> rfl)
  refine lv_aload_n hx hb dX10_copyFrom_84 rfl (lv_at hl 1 rfl) ?_
  refine va_get (D := D) (ci := 10) (v := .ref (ad (tp + 5))) (C := RX10) (T := TX10) (N := 12) hx hb hts k0 hown hK hP tp (zXT_o cy ad S_7 htp) rfl 7 (by decide) k12 (fun _ h9 => h9) rfl dX10_copyFrom_85 ?_
  refine lv_iconst (v := 0) hx hb dX10_copyFrom_88 (by decide) ?_
  refine lv_aload_n hx hb dX10_copyFrom_89 rfl (lv_at hl 0 rfl) ?_
  refine va_get (D := D) (ci := 10) (v := .ref (ad (tq + 5))) (C := RX10) (T := TX10) (N := 12) hx hb hts k0 hown hK hP tq (zXT_o cy ad S_7 htq) rfl 7 (by decide) k12 (fun _ h9 => h9) rfl dX10_copyFrom_90 ?_
  refine lv_iconst (v := 0) hx hb dX10_copyFrom_93 (by decide) ?_
  refine lv_bipush (v := 9) hx hb dX10_copyFrom_94 (by decide) ?_
  refine z_copyi hx hb (by rw [hml]; exact hl.1.symm) hown k5 k6 k7 k8 hK hP (hD S_7) hS (tp + 5) (tq + 5) 0 (zXT_5 cy ad S_7 htp) (zXT_5 cy ad S_7 htq) rfl (by decide) (k := 9) (by decide) (by decide) (by decide) (Nat.le_of_ble_eq_true rfl) (Nat.le_of_ble_eq_true rfl) dX10_copyFrom_96 (fun H locs hP hS => ?_)
  obtain ⟨S_8, eS_8, hf⟩ := z_nm hf
  have hP := zW_cpyI hP eS_8 (by rcases htq with rfl | rfl | rfl | rfl | rfl | rfl | rfl | rfl | rfl | rfl <;> decide) (by rcases htq with rfl | rfl | rfl | rfl | rfl | rfl | rfl | rfl | rfl | rfl <;> rfl)
  refine lv_aload_n hx hb dX10_copyFrom_99 rfl (lv_at hl 1 rfl) ?_
  refine va_get (D := D) (ci := 10) (v := .ref (ad (tp + 6))) (C := RX10) (T := TX10) (N := 12) hx hb hts k0 hown hK hP tp (zXT_o cy ad S_8 htp) rfl 8 (by decide) k13 (fun _ h9 => h9) rfl dX10_copyFrom_100 ?_
  refine lv_iconst (v := 0) hx hb dX10_copyFrom_103 (by decide) ?_
  refine lv_aload_n hx hb dX10_copyFrom_104 rfl (lv_at hl 0 rfl) ?_
  refine va_get (D := D) (ci := 10) (v := .ref (ad (tq + 6))) (C := RX10) (T := TX10) (N := 12) hx hb hts k0 hown hK hP tq (zXT_o cy ad S_8 htq) rfl 8 (by decide) k13 (fun _ h9 => h9) rfl dX10_copyFrom_105 ?_
  refine lv_iconst (v := 0) hx hb dX10_copyFrom_108 (by decide) ?_
  refine lv_bipush (v := 9) hx hb dX10_copyFrom_109 (by decide) ?_
  refine z_copyi hx hb (by rw [hml]; exact hl.1.symm) hown k5 k6 k7 k8 hK hP (hD S_8) hS (tp + 6) (tq + 6) 0 (zXT_6 cy ad S_8 htp) (zXT_6 cy ad S_8 htq) rfl (by decide) (k := 9) (by decide) (by decide) (by decide) (Nat.le_of_ble_eq_true rfl) (Nat.le_of_ble_eq_true rfl) dX10_copyFrom_111 (fun H locs hP hS => ?_)
  obtain ⟨S_9, eS_9, hf⟩ := z_nm hf
  have hP := zW_cpyI hP eS_9 (by rcases htq with rfl | rfl | rfl | rfl | rfl | rfl | rfl | rfl | rfl | rfl <;> decide) (by rcases htq with rfl | rfl | rfl | rfl | rfl | rfl | rfl | rfl | rfl | rfl <;> rfl)
  refine lv_aload_n hx hb dX10_copyFrom_114 rfl (lv_at hl 1 rfl) ?_
  refine va_get (D := D) (ci := 10) (v := .ref (ad (tp + 7))) (C := RX10) (T := TX10) (N := 12) hx hb hts k0 hown hK hP tp (zXT_o cy ad S_9 htp) rfl 9 (by decide) k14 (fun _ h9 => h9) rfl dX10_copyFrom_115 ?_
  refine lv_iconst (v := 0) hx hb dX10_copyFrom_118 (by decide) ?_
  refine lv_aload_n hx hb dX10_copyFrom_119 rfl (lv_at hl 0 rfl) ?_
  refine va_get (D := D) (ci := 10) (v := .ref (ad (tq + 7))) (C := RX10) (T := TX10) (N := 12) hx hb hts k0 hown hK hP tq (zXT_o cy ad S_9 htq) rfl 9 (by decide) k14 (fun _ h9 => h9) rfl dX10_copyFrom_120 ?_
  refine lv_iconst (v := 0) hx hb dX10_copyFrom_123 (by decide) ?_
  refine lv_bipush (v := 9) hx hb dX10_copyFrom_124 (by decide) ?_
  refine z_copyi hx hb (by rw [hml]; exact hl.1.symm) hown k5 k6 k7 k8 hK hP (hD S_9) hS (tp + 7) (tq + 7) 0 (zXT_7 cy ad S_9 htp) (zXT_7 cy ad S_9 htq) rfl (by decide) (k := 9) (by decide) (by decide) (by decide) (Nat.le_of_ble_eq_true rfl) (Nat.le_of_ble_eq_true rfl) dX10_copyFrom_126 (fun H locs hP hS => ?_)
  obtain ⟨S_10, eS_10, hf⟩ := z_nm hf
  have hP := zW_cpyI hP eS_10 (by rcases htq with rfl | rfl | rfl | rfl | rfl | rfl | rfl | rfl | rfl | rfl <;> decide) (by rcases htq with rfl | rfl | rfl | rfl | rfl | rfl | rfl | rfl | rfl | rfl <;> rfl)
  refine lv_aload_n hx hb dX10_copyFrom_129 rfl (lv_at hl 0 rfl) ?_
  refine lv_aload_n hx hb dX10_copyFrom_130 rfl (lv_at hl 1 rfl) ?_
  refine va_get (D := D) (ci := 10) (v := .int (S_10.1 tp 10)) (C := RX10) (T := TX10) (N := 12) hx hb hts k0 hown hK hP tp (zXT_o cy ad S_10 htp) rfl 10 (by decide) k15 (fun _ h9 => h9) rfl dX10_copyFrom_131 ?_
  refine va_put (D := D) (ci := 10) (v := .int (S_10.1 tp 10)) (ty := .int) (C := RX10) (T := TX10) (N := 12) hx hb hts k0 tyX10 tyX10_ok nmX10 hown hK hP (hD S_10) hS tq (zXT_o cy ad S_10 htq) rfl 10 (by decide) k15 (fun _ h9 => h9) rfl (tyX10_ok 10 (by decide)) rfl rfl (Nat.le_of_ble_eq_true rfl) dX10_copyFrom_134 (fun H locs hP _ hS => ?_)
  obtain ⟨S_11, eS_11, hf⟩ := z_nm hf
  have hP := zW_putI hP eS_11 (by rcases htq with rfl | rfl | rfl | rfl | rfl | rfl | rfl | rfl | rfl | rfl <;> decide) (by rcases htq with rfl | rfl | rfl | rfl | rfl | rfl | rfl | rfl | rfl | rfl <;> rfl)
  refine lv_aload_n hx hb dX10_copyFrom_137 rfl (lv_at hl 0 rfl) ?_
  refine lv_aload_n hx hb dX10_copyFrom_138 rfl (lv_at hl 1 rfl) ?_
  refine va_get (D := D) (ci := 10) (v := .int (S_11.1 tp 11)) (C := RX10) (T := TX10) (N := 12) hx hb hts k0 hown hK hP tp (zXT_o cy ad S_11 htp) rfl 11 (by decide) k16 (fun _ h9 => h9) rfl dX10_copyFrom_139 ?_
  refine va_put (D := D) (ci := 10) (v := .int (S_11.1 tp 11)) (ty := .int) (C := RX10) (T := TX10) (N := 12) hx hb hts k0 tyX10 tyX10_ok nmX10 hown hK hP (hD S_11) hS tq (zXT_o cy ad S_11 htq) rfl 11 (by decide) k16 (fun _ h9 => h9) rfl (tyX10_ok 11 (by decide)) rfl rfl (Nat.le_of_ble_eq_true rfl) dX10_copyFrom_142 (fun H locs hP _ hS => ?_)
  obtain ⟨S_12, eS_12, hf⟩ := z_nm hf
  have hP := zW_putI hP eS_12 (by rcases htq with rfl | rfl | rfl | rfl | rfl | rfl | rfl | rfl | rfl | rfl <;> decide) (by rcases htq with rfl | rfl | rfl | rfl | rfl | rfl | rfl | rfl | rfl | rfl <;> rfl)
  obtain ⟨h1, h2⟩ := z_s2 hf
  subst h2
  exact hret _ _ _ _ hP hS dX10_copyFrom_145
def fx_Houses_copyFrom_kn (S_0 : zSt) : Option (Unit × zSt) :=
  znm (zpI S_0 32 0 (S_0.1 4 0)) fun S_1 =>
  znm (zcI S_1 33 (va_cpy (S_1.1 5) (S_1.1 33) 0 0 9)) fun S_2 =>
  znm (zcI S_2 34 (va_cpy (S_2.1 6) (S_2.1 34) 0 0 9)) fun S_3 =>
  znm (zcI S_3 35 (va_cpy (S_3.1 7) (S_3.1 35) 0 0 9)) fun S_4 =>
  znm (zcI S_4 36 (va_cpy (S_4.1 8) (S_4.1 36) 0 0 45)) fun S_5 =>
  znm (zcI S_5 37 (va_cpy (S_5.1 9) (S_5.1 37) 0 0 9)) fun S_6 =>
  znm (zcI S_6 38 (va_cpy (S_6.1 10) (S_6.1 38) 0 0 9)) fun S_7 =>
  some ((), S_7)
set_option maxHeartbeats 4000000 in
set_option maxRecDepth 100000 in
theorem cx_Houses_copyFrom_kn (l : Launch) (D : va_G) (K : (Nat → Nat) × (Nat → Nat)) (cy : Nat → ClassId) (ad : Nat → Nat) (S_0 : zSt) (So : zSt) (hf : fx_Houses_copyFrom_kn S_0 = some ((), So)) : zMV l yX2_copyFrom (zws yX2_copyFrom cX2_copyFrom 2 none) ({ frames := 1, cells := 0, slots := 0, locals := 200 }) D (zTy cy) K (zX cy ad) [.ref (ad 32), .ref (ad 4)] S_0 So := by
  refine z_metV (own := RX2) (lv := [(0, .ref (ad 32)), (1, .ref (ad 4))]) (by decide) rfl rfl (Nat.le_of_ble_eq_true rfl) rfl ?_
  intro p e s m below meth c A Q X hK hE hD hA hret hP hS ls hl
  obtain ⟨hx, hb, hml, hown, hts⟩ := id X
  have k0 := (fun w h => List.mem_cons_of_mem _ (zFX2 w h) : ∀ w ∈ u_ws RX2 TX2 7, w ∈ zws yX2_copyFrom cX2_copyFrom 2 none)
  have k1 := hts _ (List.mem_cons_of_mem _ wt_1_64)
  have k2 := hts _ (List.mem_cons_of_mem _ wt_1_69)
  have k3 := hts _ (List.mem_cons_of_mem _ wt_5_76)
  have k4 := hts _ (List.mem_cons_of_mem _ wt_3_231)
  have k5 := hts _ (List.mem_cons_of_mem _ wt_3_230)
  have k6 := hts _ (List.mem_cons_of_mem _ wt_1_20)
  have k7 := hts _ (List.mem_cons_of_mem _ wt_1_72)
  have k8 := hts _ (List.mem_cons_of_mem _ wt_1_75)
  have k9 := hts _ (List.mem_cons_of_mem _ wt_1_78)
  have k10 := hts _ (List.mem_cons_of_mem _ wt_1_79)
  have k11 := hts _ (List.mem_cons_of_mem _ wt_1_82)
  refine lv_aload_n hx hb dX2_copyFrom_0 rfl (lv_at hl 0 rfl) ?_
  refine lv_aload_n hx hb dX2_copyFrom_1 rfl (lv_at hl 1 rfl) ?_
  refine va_get (D := D) (ci := 2) (v := .int (S_0.1 4 0)) (C := RX2) (T := TX2) (N := 7) hx hb hts k0 hown hK hP 4 (zX_4 cy ad S_0) rfl 0 (by decide) k1 (fun _ h9 => h9) rfl dX2_copyFrom_2 ?_
  refine va_put (D := D) (ci := 2) (v := .int (S_0.1 4 0)) (ty := .int) (C := RX2) (T := TX2) (N := 7) hx hb hts k0 tyX2 tyX2_ok nmX2 hown hK hP (hD S_0) hS 32 (zX_32 cy ad S_0) rfl 0 (by decide) k1 (fun _ h9 => h9) rfl (tyX2_ok 0 (by decide)) rfl rfl (Nat.le_of_ble_eq_true rfl) dX2_copyFrom_5 (fun H locs hP _ hS => ?_)
  obtain ⟨S_1, eS_1, hf⟩ := z_nm hf
  have hP := zW_putI hP eS_1 (by decide) rfl
  refine lv_aload_n hx hb dX2_copyFrom_8 rfl (lv_at hl 1 rfl) ?_
  refine va_get (D := D) (ci := 2) (v := .ref (ad 5)) (C := RX2) (T := TX2) (N := 7) hx hb hts k0 hown hK hP 4 (zX_4 cy ad S_1) rfl 1 (by decide) k2 (fun _ h9 => h9) rfl dX2_copyFrom_9 ?_
  refine lv_iconst (v := 0) hx hb dX2_copyFrom_12 (by decide) ?_
  refine lv_aload_n hx hb dX2_copyFrom_13 rfl (lv_at hl 0 rfl) ?_
  refine va_get (D := D) (ci := 2) (v := .ref (ad 33)) (C := RX2) (T := TX2) (N := 7) hx hb hts k0 hown hK hP 32 (zX_32 cy ad S_1) rfl 1 (by decide) k2 (fun _ h9 => h9) rfl dX2_copyFrom_14 ?_
  refine lv_iconst (v := 0) hx hb dX2_copyFrom_17 (by decide) ?_
  refine lv_bipush (v := 9) hx hb dX2_copyFrom_18 (by decide) ?_
  refine z_copyi hx hb (by rw [hml]; exact hl.1.symm) hown k3 k4 k5 k6 hK hP (hD S_1) hS 5 33 0 (zX_5 cy ad S_1) (zX_33 cy ad S_1) rfl (by decide) (k := 9) (by decide) (by decide) (by decide) (Nat.le_of_ble_eq_true rfl) (Nat.le_of_ble_eq_true rfl) dX2_copyFrom_20 (fun H locs hP hS => ?_)
  obtain ⟨S_2, eS_2, hf⟩ := z_nm hf
  have hP := zW_cpyI hP eS_2 (by decide) rfl
  refine lv_aload_n hx hb dX2_copyFrom_23 rfl (lv_at hl 1 rfl) ?_
  refine va_get (D := D) (ci := 2) (v := .ref (ad 6)) (C := RX2) (T := TX2) (N := 7) hx hb hts k0 hown hK hP 4 (zX_4 cy ad S_2) rfl 2 (by decide) k7 (fun _ h9 => h9) rfl dX2_copyFrom_24 ?_
  refine lv_iconst (v := 0) hx hb dX2_copyFrom_27 (by decide) ?_
  refine lv_aload_n hx hb dX2_copyFrom_28 rfl (lv_at hl 0 rfl) ?_
  refine va_get (D := D) (ci := 2) (v := .ref (ad 34)) (C := RX2) (T := TX2) (N := 7) hx hb hts k0 hown hK hP 32 (zX_32 cy ad S_2) rfl 2 (by decide) k7 (fun _ h9 => h9) rfl dX2_copyFrom_29 ?_
  refine lv_iconst (v := 0) hx hb dX2_copyFrom_32 (by decide) ?_
  refine lv_bipush (v := 9) hx hb dX2_copyFrom_33 (by decide) ?_
  refine z_copyi hx hb (by rw [hml]; exact hl.1.symm) hown k3 k4 k5 k6 hK hP (hD S_2) hS 6 34 0 (zX_6 cy ad S_2) (zX_34 cy ad S_2) rfl (by decide) (k := 9) (by decide) (by decide) (by decide) (Nat.le_of_ble_eq_true rfl) (Nat.le_of_ble_eq_true rfl) dX2_copyFrom_35 (fun H locs hP hS => ?_)
  obtain ⟨S_3, eS_3, hf⟩ := z_nm hf
  have hP := zW_cpyI hP eS_3 (by decide) rfl
  refine lv_aload_n hx hb dX2_copyFrom_38 rfl (lv_at hl 1 rfl) ?_
  refine va_get (D := D) (ci := 2) (v := .ref (ad 7)) (C := RX2) (T := TX2) (N := 7) hx hb hts k0 hown hK hP 4 (zX_4 cy ad S_3) rfl 3 (by decide) k8 (fun _ h9 => h9) rfl dX2_copyFrom_39 ?_
  refine lv_iconst (v := 0) hx hb dX2_copyFrom_42 (by decide) ?_
  refine lv_aload_n hx hb dX2_copyFrom_43 rfl (lv_at hl 0 rfl) ?_
  refine va_get (D := D) (ci := 2) (v := .ref (ad 35)) (C := RX2) (T := TX2) (N := 7) hx hb hts k0 hown hK hP 32 (zX_32 cy ad S_3) rfl 3 (by decide) k8 (fun _ h9 => h9) rfl dX2_copyFrom_44 ?_
  refine lv_iconst (v := 0) hx hb dX2_copyFrom_47 (by decide) ?_
  refine lv_bipush (v := 9) hx hb dX2_copyFrom_48 (by decide) ?_
  refine z_copyi hx hb (by rw [hml]; exact hl.1.symm) hown k3 k4 k5 k6 hK hP (hD S_3) hS 7 35 0 (zX_7 cy ad S_3) (zX_35 cy ad S_3) rfl (by decide) (k := 9) (by decide) (by decide) (by decide) (Nat.le_of_ble_eq_true rfl) (Nat.le_of_ble_eq_true rfl) dX2_copyFrom_50 (fun H locs hP hS => ?_)
  obtain ⟨S_4, eS_4, hf⟩ := z_nm hf
  have hP := zW_cpyI hP eS_4 (by decide) rfl
  refine lv_aload_n hx hb dX2_copyFrom_53 rfl (lv_at hl 1 rfl) ?_
  refine va_get (D := D) (ci := 2) (v := .ref (ad 8)) (C := RX2) (T := TX2) (N := 7) hx hb hts k0 hown hK hP 4 (zX_4 cy ad S_4) rfl 4 (by decide) k9 (fun _ h9 => h9) rfl dX2_copyFrom_54 ?_
  refine lv_iconst (v := 0) hx hb dX2_copyFrom_57 (by decide) ?_
  refine lv_aload_n hx hb dX2_copyFrom_58 rfl (lv_at hl 0 rfl) ?_
  refine va_get (D := D) (ci := 2) (v := .ref (ad 36)) (C := RX2) (T := TX2) (N := 7) hx hb hts k0 hown hK hP 32 (zX_32 cy ad S_4) rfl 4 (by decide) k9 (fun _ h9 => h9) rfl dX2_copyFrom_59 ?_
  refine lv_iconst (v := 0) hx hb dX2_copyFrom_62 (by decide) ?_
  refine lv_bipush (v := 45) hx hb dX2_copyFrom_63 (by decide) ?_
  refine z_copyi hx hb (by rw [hml]; exact hl.1.symm) hown k3 k4 k5 k6 hK hP (hD S_4) hS 8 36 0 (zX_8 cy ad S_4) (zX_36 cy ad S_4) rfl (by decide) (k := 45) (by decide) (by decide) (by decide) (Nat.le_of_ble_eq_true rfl) (Nat.le_of_ble_eq_true rfl) dX2_copyFrom_65 (fun H locs hP hS => ?_)
  obtain ⟨S_5, eS_5, hf⟩ := z_nm hf
  have hP := zW_cpyI hP eS_5 (by decide) rfl
  refine lv_aload_n hx hb dX2_copyFrom_68 rfl (lv_at hl 1 rfl) ?_
  refine va_get (D := D) (ci := 2) (v := .ref (ad 9)) (C := RX2) (T := TX2) (N := 7) hx hb hts k0 hown hK hP 4 (zX_4 cy ad S_5) rfl 5 (by decide) k10 (fun _ h9 => h9) rfl dX2_copyFrom_69 ?_
  refine lv_iconst (v := 0) hx hb dX2_copyFrom_72 (by decide) ?_
  refine lv_aload_n hx hb dX2_copyFrom_73 rfl (lv_at hl 0 rfl) ?_
  refine va_get (D := D) (ci := 2) (v := .ref (ad 37)) (C := RX2) (T := TX2) (N := 7) hx hb hts k0 hown hK hP 32 (zX_32 cy ad S_5) rfl 5 (by decide) k10 (fun _ h9 => h9) rfl dX2_copyFrom_74 ?_
  refine lv_iconst (v := 0) hx hb dX2_copyFrom_77 (by decide) ?_
  refine lv_bipush (v := 9) hx hb dX2_copyFrom_78 (by decide) ?_
  refine z_copyi hx hb (by rw [hml]; exact hl.1.symm) hown k3 k4 k5 k6 hK hP (hD S_5) hS 9 37 0 (zX_9 cy ad S_5) (zX_37 cy ad S_5) rfl (by decide) (k := 9) (by decide) (by decide) (by decide) (Nat.le_of_ble_eq_true rfl) (Nat.le_of_ble_eq_true rfl) dX2_copyFrom_80 (fun H locs hP hS => ?_)
  obtain ⟨S_6, eS_6, hf⟩ := z_nm hf
  have hP := zW_cpyI hP eS_6 (by decide) rfl
  refine lv_aload_n hx hb dX2_copyFrom_83 rfl (lv_at hl 1 rfl) ?_
  refine va_get (D := D) (ci := 2) (v := .ref (ad 10)) (C := RX2) (T := TX2) (N := 7) hx hb hts k0 hown hK hP 4 (zX_4 cy ad S_6) rfl 6 (by decide) k11 (fun _ h9 => h9) rfl dX2_copyFrom_84 ?_
  refine lv_iconst (v := 0) hx hb dX2_copyFrom_87 (by decide) ?_
  refine lv_aload_n hx hb dX2_copyFrom_88 rfl (lv_at hl 0 rfl) ?_
  refine va_get (D := D) (ci := 2) (v := .ref (ad 38)) (C := RX2) (T := TX2) (N := 7) hx hb hts k0 hown hK hP 32 (zX_32 cy ad S_6) rfl 6 (by decide) k11 (fun _ h9 => h9) rfl dX2_copyFrom_89 ?_
  refine lv_iconst (v := 0) hx hb dX2_copyFrom_92 (by decide) ?_
  refine lv_bipush (v := 9) hx hb dX2_copyFrom_93 (by decide) ?_
  refine z_copyi hx hb (by rw [hml]; exact hl.1.symm) hown k3 k4 k5 k6 hK hP (hD S_6) hS 10 38 0 (zX_10 cy ad S_6) (zX_38 cy ad S_6) rfl (by decide) (k := 9) (by decide) (by decide) (by decide) (Nat.le_of_ble_eq_true rfl) (Nat.le_of_ble_eq_true rfl) dX2_copyFrom_95 (fun H locs hP hS => ?_)
  obtain ⟨S_7, eS_7, hf⟩ := z_nm hf
  have hP := zW_cpyI hP eS_7 (by decide) rfl
  obtain ⟨h1, h2⟩ := z_s2 hf
  subst h2
  exact hret _ _ _ _ hP hS dX2_copyFrom_98
def fx_Houses_copyFrom_nk (S_0 : zSt) : Option (Unit × zSt) :=
  znm (zpI S_0 4 0 (S_0.1 32 0)) fun S_1 =>
  znm (zcI S_1 5 (va_cpy (S_1.1 33) (S_1.1 5) 0 0 9)) fun S_2 =>
  znm (zcI S_2 6 (va_cpy (S_2.1 34) (S_2.1 6) 0 0 9)) fun S_3 =>
  znm (zcI S_3 7 (va_cpy (S_3.1 35) (S_3.1 7) 0 0 9)) fun S_4 =>
  znm (zcI S_4 8 (va_cpy (S_4.1 36) (S_4.1 8) 0 0 45)) fun S_5 =>
  znm (zcI S_5 9 (va_cpy (S_5.1 37) (S_5.1 9) 0 0 9)) fun S_6 =>
  znm (zcI S_6 10 (va_cpy (S_6.1 38) (S_6.1 10) 0 0 9)) fun S_7 =>
  some ((), S_7)
set_option maxHeartbeats 4000000 in
set_option maxRecDepth 100000 in
theorem cx_Houses_copyFrom_nk (l : Launch) (D : va_G) (K : (Nat → Nat) × (Nat → Nat)) (cy : Nat → ClassId) (ad : Nat → Nat) (S_0 : zSt) (So : zSt) (hf : fx_Houses_copyFrom_nk S_0 = some ((), So)) : zMV l yX2_copyFrom (zws yX2_copyFrom cX2_copyFrom 2 none) ({ frames := 1, cells := 0, slots := 0, locals := 200 }) D (zTy cy) K (zX cy ad) [.ref (ad 4), .ref (ad 32)] S_0 So := by
  refine z_metV (own := RX2) (lv := [(0, .ref (ad 4)), (1, .ref (ad 32))]) (by decide) rfl rfl (Nat.le_of_ble_eq_true rfl) rfl ?_
  intro p e s m below meth c A Q X hK hE hD hA hret hP hS ls hl
  obtain ⟨hx, hb, hml, hown, hts⟩ := id X
  have k0 := (fun w h => List.mem_cons_of_mem _ (zFX2 w h) : ∀ w ∈ u_ws RX2 TX2 7, w ∈ zws yX2_copyFrom cX2_copyFrom 2 none)
  have k1 := hts _ (List.mem_cons_of_mem _ wt_1_64)
  have k2 := hts _ (List.mem_cons_of_mem _ wt_1_69)
  have k3 := hts _ (List.mem_cons_of_mem _ wt_5_76)
  have k4 := hts _ (List.mem_cons_of_mem _ wt_3_231)
  have k5 := hts _ (List.mem_cons_of_mem _ wt_3_230)
  have k6 := hts _ (List.mem_cons_of_mem _ wt_1_20)
  have k7 := hts _ (List.mem_cons_of_mem _ wt_1_72)
  have k8 := hts _ (List.mem_cons_of_mem _ wt_1_75)
  have k9 := hts _ (List.mem_cons_of_mem _ wt_1_78)
  have k10 := hts _ (List.mem_cons_of_mem _ wt_1_79)
  have k11 := hts _ (List.mem_cons_of_mem _ wt_1_82)
  refine lv_aload_n hx hb dX2_copyFrom_0 rfl (lv_at hl 0 rfl) ?_
  refine lv_aload_n hx hb dX2_copyFrom_1 rfl (lv_at hl 1 rfl) ?_
  refine va_get (D := D) (ci := 2) (v := .int (S_0.1 32 0)) (C := RX2) (T := TX2) (N := 7) hx hb hts k0 hown hK hP 32 (zX_32 cy ad S_0) rfl 0 (by decide) k1 (fun _ h9 => h9) rfl dX2_copyFrom_2 ?_
  refine va_put (D := D) (ci := 2) (v := .int (S_0.1 32 0)) (ty := .int) (C := RX2) (T := TX2) (N := 7) hx hb hts k0 tyX2 tyX2_ok nmX2 hown hK hP (hD S_0) hS 4 (zX_4 cy ad S_0) rfl 0 (by decide) k1 (fun _ h9 => h9) rfl (tyX2_ok 0 (by decide)) rfl rfl (Nat.le_of_ble_eq_true rfl) dX2_copyFrom_5 (fun H locs hP _ hS => ?_)
  obtain ⟨S_1, eS_1, hf⟩ := z_nm hf
  have hP := zW_putI hP eS_1 (by decide) rfl
  refine lv_aload_n hx hb dX2_copyFrom_8 rfl (lv_at hl 1 rfl) ?_
  refine va_get (D := D) (ci := 2) (v := .ref (ad 33)) (C := RX2) (T := TX2) (N := 7) hx hb hts k0 hown hK hP 32 (zX_32 cy ad S_1) rfl 1 (by decide) k2 (fun _ h9 => h9) rfl dX2_copyFrom_9 ?_
  refine lv_iconst (v := 0) hx hb dX2_copyFrom_12 (by decide) ?_
  refine lv_aload_n hx hb dX2_copyFrom_13 rfl (lv_at hl 0 rfl) ?_
  refine va_get (D := D) (ci := 2) (v := .ref (ad 5)) (C := RX2) (T := TX2) (N := 7) hx hb hts k0 hown hK hP 4 (zX_4 cy ad S_1) rfl 1 (by decide) k2 (fun _ h9 => h9) rfl dX2_copyFrom_14 ?_
  refine lv_iconst (v := 0) hx hb dX2_copyFrom_17 (by decide) ?_
  refine lv_bipush (v := 9) hx hb dX2_copyFrom_18 (by decide) ?_
  refine z_copyi hx hb (by rw [hml]; exact hl.1.symm) hown k3 k4 k5 k6 hK hP (hD S_1) hS 33 5 0 (zX_33 cy ad S_1) (zX_5 cy ad S_1) rfl (by decide) (k := 9) (by decide) (by decide) (by decide) (Nat.le_of_ble_eq_true rfl) (Nat.le_of_ble_eq_true rfl) dX2_copyFrom_20 (fun H locs hP hS => ?_)
  obtain ⟨S_2, eS_2, hf⟩ := z_nm hf
  have hP := zW_cpyI hP eS_2 (by decide) rfl
  refine lv_aload_n hx hb dX2_copyFrom_23 rfl (lv_at hl 1 rfl) ?_
  refine va_get (D := D) (ci := 2) (v := .ref (ad 34)) (C := RX2) (T := TX2) (N := 7) hx hb hts k0 hown hK hP 32 (zX_32 cy ad S_2) rfl 2 (by decide) k7 (fun _ h9 => h9) rfl dX2_copyFrom_24 ?_
  refine lv_iconst (v := 0) hx hb dX2_copyFrom_27 (by decide) ?_
  refine lv_aload_n hx hb dX2_copyFrom_28 rfl (lv_at hl 0 rfl) ?_
  refine va_get (D := D) (ci := 2) (v := .ref (ad 6)) (C := RX2) (T := TX2) (N := 7) hx hb hts k0 hown hK hP 4 (zX_4 cy ad S_2) rfl 2 (by decide) k7 (fun _ h9 => h9) rfl dX2_copyFrom_29 ?_
  refine lv_iconst (v := 0) hx hb dX2_copyFrom_32 (by decide) ?_
  refine lv_bipush (v := 9) hx hb dX2_copyFrom_33 (by decide) ?_
  refine z_copyi hx hb (by rw [hml]; exact hl.1.symm) hown k3 k4 k5 k6 hK hP (hD S_2) hS 34 6 0 (zX_34 cy ad S_2) (zX_6 cy ad S_2) rfl (by decide) (k := 9) (by decide) (by decide) (by decide) (Nat.le_of_ble_eq_true rfl) (Nat.le_of_ble_eq_true rfl) dX2_copyFrom_35 (fun H locs hP hS => ?_)
  obtain ⟨S_3, eS_3, hf⟩ := z_nm hf
  have hP := zW_cpyI hP eS_3 (by decide) rfl
  refine lv_aload_n hx hb dX2_copyFrom_38 rfl (lv_at hl 1 rfl) ?_
  refine va_get (D := D) (ci := 2) (v := .ref (ad 35)) (C := RX2) (T := TX2) (N := 7) hx hb hts k0 hown hK hP 32 (zX_32 cy ad S_3) rfl 3 (by decide) k8 (fun _ h9 => h9) rfl dX2_copyFrom_39 ?_
  refine lv_iconst (v := 0) hx hb dX2_copyFrom_42 (by decide) ?_
  refine lv_aload_n hx hb dX2_copyFrom_43 rfl (lv_at hl 0 rfl) ?_
  refine va_get (D := D) (ci := 2) (v := .ref (ad 7)) (C := RX2) (T := TX2) (N := 7) hx hb hts k0 hown hK hP 4 (zX_4 cy ad S_3) rfl 3 (by decide) k8 (fun _ h9 => h9) rfl dX2_copyFrom_44 ?_
  refine lv_iconst (v := 0) hx hb dX2_copyFrom_47 (by decide) ?_
  refine lv_bipush (v := 9) hx hb dX2_copyFrom_48 (by decide) ?_
  refine z_copyi hx hb (by rw [hml]; exact hl.1.symm) hown k3 k4 k5 k6 hK hP (hD S_3) hS 35 7 0 (zX_35 cy ad S_3) (zX_7 cy ad S_3) rfl (by decide) (k := 9) (by decide) (by decide) (by decide) (Nat.le_of_ble_eq_true rfl) (Nat.le_of_ble_eq_true rfl) dX2_copyFrom_50 (fun H locs hP hS => ?_)
  obtain ⟨S_4, eS_4, hf⟩ := z_nm hf
  have hP := zW_cpyI hP eS_4 (by decide) rfl
  refine lv_aload_n hx hb dX2_copyFrom_53 rfl (lv_at hl 1 rfl) ?_
  refine va_get (D := D) (ci := 2) (v := .ref (ad 36)) (C := RX2) (T := TX2) (N := 7) hx hb hts k0 hown hK hP 32 (zX_32 cy ad S_4) rfl 4 (by decide) k9 (fun _ h9 => h9) rfl dX2_copyFrom_54 ?_
  refine lv_iconst (v := 0) hx hb dX2_copyFrom_57 (by decide) ?_
  refine lv_aload_n hx hb dX2_copyFrom_58 rfl (lv_at hl 0 rfl) ?_
  refine va_get (D := D) (ci := 2) (v := .ref (ad 8)) (C := RX2) (T := TX2) (N := 7) hx hb hts k0 hown hK hP 4 (zX_4 cy ad S_4) rfl 4 (by decide) k9 (fun _ h9 => h9) rfl dX2_copyFrom_59 ?_
  refine lv_iconst (v := 0) hx hb dX2_copyFrom_62 (by decide) ?_
  refine lv_bipush (v := 45) hx hb dX2_copyFrom_63 (by decide) ?_
  refine z_copyi hx hb (by rw [hml]; exact hl.1.symm) hown k3 k4 k5 k6 hK hP (hD S_4) hS 36 8 0 (zX_36 cy ad S_4) (zX_8 cy ad S_4) rfl (by decide) (k := 45) (by decide) (by decide) (by decide) (Nat.le_of_ble_eq_true rfl) (Nat.le_of_ble_eq_true rfl) dX2_copyFrom_65 (fun H locs hP hS => ?_)
  obtain ⟨S_5, eS_5, hf⟩ := z_nm hf
  have hP := zW_cpyI hP eS_5 (by decide) rfl
  refine lv_aload_n hx hb dX2_copyFrom_68 rfl (lv_at hl 1 rfl) ?_
  refine va_get (D := D) (ci := 2) (v := .ref (ad 37)) (C := RX2) (T := TX2) (N := 7) hx hb hts k0 hown hK hP 32 (zX_32 cy ad S_5) rfl 5 (by decide) k10 (fun _ h9 => h9) rfl dX2_copyFrom_69 ?_
  refine lv_iconst (v := 0) hx hb dX2_copyFrom_72 (by decide) ?_
  refine lv_aload_n hx hb dX2_copyFrom_73 rfl (lv_at hl 0 rfl) ?_
  refine va_get (D := D) (ci := 2) (v := .ref (ad 9)) (C := RX2) (T := TX2) (N := 7) hx hb hts k0 hown hK hP 4 (zX_4 cy ad S_5) rfl 5 (by decide) k10 (fun _ h9 => h9) rfl dX2_copyFrom_74 ?_
  refine lv_iconst (v := 0) hx hb dX2_copyFrom_77 (by decide) ?_
  refine lv_bipush (v := 9) hx hb dX2_copyFrom_78 (by decide) ?_
  refine z_copyi hx hb (by rw [hml]; exact hl.1.symm) hown k3 k4 k5 k6 hK hP (hD S_5) hS 37 9 0 (zX_37 cy ad S_5) (zX_9 cy ad S_5) rfl (by decide) (k := 9) (by decide) (by decide) (by decide) (Nat.le_of_ble_eq_true rfl) (Nat.le_of_ble_eq_true rfl) dX2_copyFrom_80 (fun H locs hP hS => ?_)
  obtain ⟨S_6, eS_6, hf⟩ := z_nm hf
  have hP := zW_cpyI hP eS_6 (by decide) rfl
  refine lv_aload_n hx hb dX2_copyFrom_83 rfl (lv_at hl 1 rfl) ?_
  refine va_get (D := D) (ci := 2) (v := .ref (ad 38)) (C := RX2) (T := TX2) (N := 7) hx hb hts k0 hown hK hP 32 (zX_32 cy ad S_6) rfl 6 (by decide) k11 (fun _ h9 => h9) rfl dX2_copyFrom_84 ?_
  refine lv_iconst (v := 0) hx hb dX2_copyFrom_87 (by decide) ?_
  refine lv_aload_n hx hb dX2_copyFrom_88 rfl (lv_at hl 0 rfl) ?_
  refine va_get (D := D) (ci := 2) (v := .ref (ad 10)) (C := RX2) (T := TX2) (N := 7) hx hb hts k0 hown hK hP 4 (zX_4 cy ad S_6) rfl 6 (by decide) k11 (fun _ h9 => h9) rfl dX2_copyFrom_89 ?_
  refine lv_iconst (v := 0) hx hb dX2_copyFrom_92 (by decide) ?_
  refine lv_bipush (v := 9) hx hb dX2_copyFrom_93 (by decide) ?_
  refine z_copyi hx hb (by rw [hml]; exact hl.1.symm) hown k3 k4 k5 k6 hK hP (hD S_6) hS 38 10 0 (zX_38 cy ad S_6) (zX_10 cy ad S_6) rfl (by decide) (k := 9) (by decide) (by decide) (by decide) (Nat.le_of_ble_eq_true rfl) (Nat.le_of_ble_eq_true rfl) dX2_copyFrom_95 (fun H locs hP hS => ?_)
  obtain ⟨S_7, eS_7, hf⟩ := z_nm hf
  have hP := zW_cpyI hP eS_7 (by decide) rfl
  obtain ⟨h1, h2⟩ := z_s2 hf
  subst h2
  exact hret _ _ _ _ hP hS dX2_copyFrom_98
def fx_Leavens_copyFrom_kn (S_0 : zSt) : Option (Unit × zSt) :=
  znm (zpI S_0 50 0 (S_0.1 22 0)) fun S_1 =>
  znm (zcI S_1 51 (va_cpy (S_1.1 23) (S_1.1 51) 0 0 60)) fun S_2 =>
  znm (zcI S_2 52 (va_cpy (S_2.1 24) (S_2.1 52) 0 0 60)) fun S_3 =>
  znm (zcI S_3 53 (va_cpy (S_3.1 25) (S_3.1 53) 0 0 60)) fun S_4 =>
  znm (zcI S_4 54 (va_cpy (S_4.1 26) (S_4.1 54) 0 0 60)) fun S_5 =>
  znm (zcL S_5 55 (va_cpy (S_5.2 27) (S_5.2 55) 0 0 60)) fun S_6 =>
  some ((), S_6)
set_option maxHeartbeats 4000000 in
set_option maxRecDepth 100000 in
theorem cx_Leavens_copyFrom_kn (l : Launch) (D : va_G) (K : (Nat → Nat) × (Nat → Nat)) (cy : Nat → ClassId) (ad : Nat → Nat) (S_0 : zSt) (So : zSt) (hf : fx_Leavens_copyFrom_kn S_0 = some ((), So)) : zMV l yX3_copyFrom (zws yX3_copyFrom cX3_copyFrom 2 none) ({ frames := 1, cells := 0, slots := 0, locals := 200 }) D (zTy cy) K (zX cy ad) [.ref (ad 50), .ref (ad 22)] S_0 So := by
  refine z_metV (own := RX3) (lv := [(0, .ref (ad 50)), (1, .ref (ad 22))]) (by decide) rfl rfl (Nat.le_of_ble_eq_true rfl) rfl ?_
  intro p e s m below meth c A Q X hK hE hD hA hret hP hS ls hl
  obtain ⟨hx, hb, hml, hown, hts⟩ := id X
  have k0 := (fun w h => List.mem_cons_of_mem _ (zFX3 w h) : ∀ w ∈ u_ws RX3 TX3 7, w ∈ zws yX3_copyFrom cX3_copyFrom 2 none)
  have k1 := hts _ (List.mem_cons_of_mem _ wt_1_193)
  have k2 := hts _ (List.mem_cons_of_mem _ wt_1_195)
  have k3 := hts _ (List.mem_cons_of_mem _ wt_5_84)
  have k4 := hts _ (List.mem_cons_of_mem _ wt_3_231)
  have k5 := hts _ (List.mem_cons_of_mem _ wt_3_230)
  have k6 := hts _ (List.mem_cons_of_mem _ wt_1_20)
  have k7 := hts _ (List.mem_cons_of_mem _ wt_1_197)
  have k8 := hts _ (List.mem_cons_of_mem _ wt_1_199)
  have k9 := hts _ (List.mem_cons_of_mem _ wt_1_201)
  have k10 := hts _ (List.mem_cons_of_mem _ wt_1_203)
  refine lv_aload_n hx hb dX3_copyFrom_0 rfl (lv_at hl 0 rfl) ?_
  refine lv_aload_n hx hb dX3_copyFrom_1 rfl (lv_at hl 1 rfl) ?_
  refine va_get (D := D) (ci := 3) (v := .int (S_0.1 22 0)) (C := RX3) (T := TX3) (N := 7) hx hb hts k0 hown hK hP 22 (zX_22 cy ad S_0) rfl 0 (by decide) k1 (fun _ h9 => h9) rfl dX3_copyFrom_2 ?_
  refine va_put (D := D) (ci := 3) (v := .int (S_0.1 22 0)) (ty := .int) (C := RX3) (T := TX3) (N := 7) hx hb hts k0 tyX3 tyX3_ok nmX3 hown hK hP (hD S_0) hS 50 (zX_50 cy ad S_0) rfl 0 (by decide) k1 (fun _ h9 => h9) rfl (tyX3_ok 0 (by decide)) rfl rfl (Nat.le_of_ble_eq_true rfl) dX3_copyFrom_5 (fun H locs hP _ hS => ?_)
  obtain ⟨S_1, eS_1, hf⟩ := z_nm hf
  have hP := zW_putI hP eS_1 (by decide) rfl
  refine lv_aload_n hx hb dX3_copyFrom_8 rfl (lv_at hl 1 rfl) ?_
  refine va_get (D := D) (ci := 3) (v := .ref (ad 23)) (C := RX3) (T := TX3) (N := 7) hx hb hts k0 hown hK hP 22 (zX_22 cy ad S_1) rfl 1 (by decide) k2 (fun _ h9 => h9) rfl dX3_copyFrom_9 ?_
  refine lv_iconst (v := 0) hx hb dX3_copyFrom_12 (by decide) ?_
  refine lv_aload_n hx hb dX3_copyFrom_13 rfl (lv_at hl 0 rfl) ?_
  refine va_get (D := D) (ci := 3) (v := .ref (ad 51)) (C := RX3) (T := TX3) (N := 7) hx hb hts k0 hown hK hP 50 (zX_50 cy ad S_1) rfl 1 (by decide) k2 (fun _ h9 => h9) rfl dX3_copyFrom_14 ?_
  refine lv_iconst (v := 0) hx hb dX3_copyFrom_17 (by decide) ?_
  refine lv_bipush (v := 60) hx hb dX3_copyFrom_18 (by decide) ?_
  refine z_copyi hx hb (by rw [hml]; exact hl.1.symm) hown k3 k4 k5 k6 hK hP (hD S_1) hS 23 51 0 (zX_23 cy ad S_1) (zX_51 cy ad S_1) rfl (by decide) (k := 60) (by decide) (by decide) (by decide) (Nat.le_of_ble_eq_true rfl) (Nat.le_of_ble_eq_true rfl) dX3_copyFrom_20 (fun H locs hP hS => ?_)
  obtain ⟨S_2, eS_2, hf⟩ := z_nm hf
  have hP := zW_cpyI hP eS_2 (by decide) rfl
  refine lv_aload_n hx hb dX3_copyFrom_23 rfl (lv_at hl 1 rfl) ?_
  refine va_get (D := D) (ci := 3) (v := .ref (ad 24)) (C := RX3) (T := TX3) (N := 7) hx hb hts k0 hown hK hP 22 (zX_22 cy ad S_2) rfl 2 (by decide) k7 (fun _ h9 => h9) rfl dX3_copyFrom_24 ?_
  refine lv_iconst (v := 0) hx hb dX3_copyFrom_27 (by decide) ?_
  refine lv_aload_n hx hb dX3_copyFrom_28 rfl (lv_at hl 0 rfl) ?_
  refine va_get (D := D) (ci := 3) (v := .ref (ad 52)) (C := RX3) (T := TX3) (N := 7) hx hb hts k0 hown hK hP 50 (zX_50 cy ad S_2) rfl 2 (by decide) k7 (fun _ h9 => h9) rfl dX3_copyFrom_29 ?_
  refine lv_iconst (v := 0) hx hb dX3_copyFrom_32 (by decide) ?_
  refine lv_bipush (v := 60) hx hb dX3_copyFrom_33 (by decide) ?_
  refine z_copyi hx hb (by rw [hml]; exact hl.1.symm) hown k3 k4 k5 k6 hK hP (hD S_2) hS 24 52 0 (zX_24 cy ad S_2) (zX_52 cy ad S_2) rfl (by decide) (k := 60) (by decide) (by decide) (by decide) (Nat.le_of_ble_eq_true rfl) (Nat.le_of_ble_eq_true rfl) dX3_copyFrom_35 (fun H locs hP hS => ?_)
  obtain ⟨S_3, eS_3, hf⟩ := z_nm hf
  have hP := zW_cpyI hP eS_3 (by decide) rfl
  refine lv_aload_n hx hb dX3_copyFrom_38 rfl (lv_at hl 1 rfl) ?_
  refine va_get (D := D) (ci := 3) (v := .ref (ad 25)) (C := RX3) (T := TX3) (N := 7) hx hb hts k0 hown hK hP 22 (zX_22 cy ad S_3) rfl 3 (by decide) k8 (fun _ h9 => h9) rfl dX3_copyFrom_39 ?_
  refine lv_iconst (v := 0) hx hb dX3_copyFrom_42 (by decide) ?_
  refine lv_aload_n hx hb dX3_copyFrom_43 rfl (lv_at hl 0 rfl) ?_
  refine va_get (D := D) (ci := 3) (v := .ref (ad 53)) (C := RX3) (T := TX3) (N := 7) hx hb hts k0 hown hK hP 50 (zX_50 cy ad S_3) rfl 3 (by decide) k8 (fun _ h9 => h9) rfl dX3_copyFrom_44 ?_
  refine lv_iconst (v := 0) hx hb dX3_copyFrom_47 (by decide) ?_
  refine lv_bipush (v := 60) hx hb dX3_copyFrom_48 (by decide) ?_
  refine z_copyi hx hb (by rw [hml]; exact hl.1.symm) hown k3 k4 k5 k6 hK hP (hD S_3) hS 25 53 0 (zX_25 cy ad S_3) (zX_53 cy ad S_3) rfl (by decide) (k := 60) (by decide) (by decide) (by decide) (Nat.le_of_ble_eq_true rfl) (Nat.le_of_ble_eq_true rfl) dX3_copyFrom_50 (fun H locs hP hS => ?_)
  obtain ⟨S_4, eS_4, hf⟩ := z_nm hf
  have hP := zW_cpyI hP eS_4 (by decide) rfl
  refine lv_aload_n hx hb dX3_copyFrom_53 rfl (lv_at hl 1 rfl) ?_
  refine va_get (D := D) (ci := 3) (v := .ref (ad 26)) (C := RX3) (T := TX3) (N := 7) hx hb hts k0 hown hK hP 22 (zX_22 cy ad S_4) rfl 4 (by decide) k9 (fun _ h9 => h9) rfl dX3_copyFrom_54 ?_
  refine lv_iconst (v := 0) hx hb dX3_copyFrom_57 (by decide) ?_
  refine lv_aload_n hx hb dX3_copyFrom_58 rfl (lv_at hl 0 rfl) ?_
  refine va_get (D := D) (ci := 3) (v := .ref (ad 54)) (C := RX3) (T := TX3) (N := 7) hx hb hts k0 hown hK hP 50 (zX_50 cy ad S_4) rfl 4 (by decide) k9 (fun _ h9 => h9) rfl dX3_copyFrom_59 ?_
  refine lv_iconst (v := 0) hx hb dX3_copyFrom_62 (by decide) ?_
  refine lv_bipush (v := 60) hx hb dX3_copyFrom_63 (by decide) ?_
  refine z_copyi hx hb (by rw [hml]; exact hl.1.symm) hown k3 k4 k5 k6 hK hP (hD S_4) hS 26 54 0 (zX_26 cy ad S_4) (zX_54 cy ad S_4) rfl (by decide) (k := 60) (by decide) (by decide) (by decide) (Nat.le_of_ble_eq_true rfl) (Nat.le_of_ble_eq_true rfl) dX3_copyFrom_65 (fun H locs hP hS => ?_)
  obtain ⟨S_5, eS_5, hf⟩ := z_nm hf
  have hP := zW_cpyI hP eS_5 (by decide) rfl
  refine lv_aload_n hx hb dX3_copyFrom_68 rfl (lv_at hl 1 rfl) ?_
  refine va_get (D := D) (ci := 3) (v := .ref (ad 27)) (C := RX3) (T := TX3) (N := 7) hx hb hts k0 hown hK hP 22 (zX_22 cy ad S_5) rfl 5 (by decide) k10 (fun _ h9 => h9) rfl dX3_copyFrom_69 ?_
  refine lv_iconst (v := 0) hx hb dX3_copyFrom_72 (by decide) ?_
  refine lv_aload_n hx hb dX3_copyFrom_73 rfl (lv_at hl 0 rfl) ?_
  refine va_get (D := D) (ci := 3) (v := .ref (ad 55)) (C := RX3) (T := TX3) (N := 7) hx hb hts k0 hown hK hP 50 (zX_50 cy ad S_5) rfl 5 (by decide) k10 (fun _ h9 => h9) rfl dX3_copyFrom_74 ?_
  refine lv_iconst (v := 0) hx hb dX3_copyFrom_77 (by decide) ?_
  refine lv_bipush (v := 60) hx hb dX3_copyFrom_78 (by decide) ?_
  refine z_copyl hx hb (by rw [hml]; exact hl.1.symm) hown k3 k4 k5 k6 hK hP (hD S_5) hS 27 55 1 (zX_27 cy ad S_5) (zX_55 cy ad S_5) rfl (by decide) (k := 60) (by decide) (by decide) (by decide) (Nat.le_of_ble_eq_true rfl) (Nat.le_of_ble_eq_true rfl) dX3_copyFrom_80 (fun H locs hP hS => ?_)
  obtain ⟨S_6, eS_6, hf⟩ := z_nm hf
  have hP := zW_cpyL hP eS_6 (by decide) rfl
  obtain ⟨h1, h2⟩ := z_s2 hf
  subst h2
  exact hret _ _ _ _ hP hS dX3_copyFrom_83
def fx_Leavens_copyFrom_nk (S_0 : zSt) : Option (Unit × zSt) :=
  znm (zpI S_0 22 0 (S_0.1 50 0)) fun S_1 =>
  znm (zcI S_1 23 (va_cpy (S_1.1 51) (S_1.1 23) 0 0 60)) fun S_2 =>
  znm (zcI S_2 24 (va_cpy (S_2.1 52) (S_2.1 24) 0 0 60)) fun S_3 =>
  znm (zcI S_3 25 (va_cpy (S_3.1 53) (S_3.1 25) 0 0 60)) fun S_4 =>
  znm (zcI S_4 26 (va_cpy (S_4.1 54) (S_4.1 26) 0 0 60)) fun S_5 =>
  znm (zcL S_5 27 (va_cpy (S_5.2 55) (S_5.2 27) 0 0 60)) fun S_6 =>
  some ((), S_6)
set_option maxHeartbeats 4000000 in
set_option maxRecDepth 100000 in
theorem cx_Leavens_copyFrom_nk (l : Launch) (D : va_G) (K : (Nat → Nat) × (Nat → Nat)) (cy : Nat → ClassId) (ad : Nat → Nat) (S_0 : zSt) (So : zSt) (hf : fx_Leavens_copyFrom_nk S_0 = some ((), So)) : zMV l yX3_copyFrom (zws yX3_copyFrom cX3_copyFrom 2 none) ({ frames := 1, cells := 0, slots := 0, locals := 200 }) D (zTy cy) K (zX cy ad) [.ref (ad 22), .ref (ad 50)] S_0 So := by
  refine z_metV (own := RX3) (lv := [(0, .ref (ad 22)), (1, .ref (ad 50))]) (by decide) rfl rfl (Nat.le_of_ble_eq_true rfl) rfl ?_
  intro p e s m below meth c A Q X hK hE hD hA hret hP hS ls hl
  obtain ⟨hx, hb, hml, hown, hts⟩ := id X
  have k0 := (fun w h => List.mem_cons_of_mem _ (zFX3 w h) : ∀ w ∈ u_ws RX3 TX3 7, w ∈ zws yX3_copyFrom cX3_copyFrom 2 none)
  have k1 := hts _ (List.mem_cons_of_mem _ wt_1_193)
  have k2 := hts _ (List.mem_cons_of_mem _ wt_1_195)
  have k3 := hts _ (List.mem_cons_of_mem _ wt_5_84)
  have k4 := hts _ (List.mem_cons_of_mem _ wt_3_231)
  have k5 := hts _ (List.mem_cons_of_mem _ wt_3_230)
  have k6 := hts _ (List.mem_cons_of_mem _ wt_1_20)
  have k7 := hts _ (List.mem_cons_of_mem _ wt_1_197)
  have k8 := hts _ (List.mem_cons_of_mem _ wt_1_199)
  have k9 := hts _ (List.mem_cons_of_mem _ wt_1_201)
  have k10 := hts _ (List.mem_cons_of_mem _ wt_1_203)
  refine lv_aload_n hx hb dX3_copyFrom_0 rfl (lv_at hl 0 rfl) ?_
  refine lv_aload_n hx hb dX3_copyFrom_1 rfl (lv_at hl 1 rfl) ?_
  refine va_get (D := D) (ci := 3) (v := .int (S_0.1 50 0)) (C := RX3) (T := TX3) (N := 7) hx hb hts k0 hown hK hP 50 (zX_50 cy ad S_0) rfl 0 (by decide) k1 (fun _ h9 => h9) rfl dX3_copyFrom_2 ?_
  refine va_put (D := D) (ci := 3) (v := .int (S_0.1 50 0)) (ty := .int) (C := RX3) (T := TX3) (N := 7) hx hb hts k0 tyX3 tyX3_ok nmX3 hown hK hP (hD S_0) hS 22 (zX_22 cy ad S_0) rfl 0 (by decide) k1 (fun _ h9 => h9) rfl (tyX3_ok 0 (by decide)) rfl rfl (Nat.le_of_ble_eq_true rfl) dX3_copyFrom_5 (fun H locs hP _ hS => ?_)
  obtain ⟨S_1, eS_1, hf⟩ := z_nm hf
  have hP := zW_putI hP eS_1 (by decide) rfl
  refine lv_aload_n hx hb dX3_copyFrom_8 rfl (lv_at hl 1 rfl) ?_
  refine va_get (D := D) (ci := 3) (v := .ref (ad 51)) (C := RX3) (T := TX3) (N := 7) hx hb hts k0 hown hK hP 50 (zX_50 cy ad S_1) rfl 1 (by decide) k2 (fun _ h9 => h9) rfl dX3_copyFrom_9 ?_
  refine lv_iconst (v := 0) hx hb dX3_copyFrom_12 (by decide) ?_
  refine lv_aload_n hx hb dX3_copyFrom_13 rfl (lv_at hl 0 rfl) ?_
  refine va_get (D := D) (ci := 3) (v := .ref (ad 23)) (C := RX3) (T := TX3) (N := 7) hx hb hts k0 hown hK hP 22 (zX_22 cy ad S_1) rfl 1 (by decide) k2 (fun _ h9 => h9) rfl dX3_copyFrom_14 ?_
  refine lv_iconst (v := 0) hx hb dX3_copyFrom_17 (by decide) ?_
  refine lv_bipush (v := 60) hx hb dX3_copyFrom_18 (by decide) ?_
  refine z_copyi hx hb (by rw [hml]; exact hl.1.symm) hown k3 k4 k5 k6 hK hP (hD S_1) hS 51 23 0 (zX_51 cy ad S_1) (zX_23 cy ad S_1) rfl (by decide) (k := 60) (by decide) (by decide) (by decide) (Nat.le_of_ble_eq_true rfl) (Nat.le_of_ble_eq_true rfl) dX3_copyFrom_20 (fun H locs hP hS => ?_)
  obtain ⟨S_2, eS_2, hf⟩ := z_nm hf
  have hP := zW_cpyI hP eS_2 (by decide) rfl
  refine lv_aload_n hx hb dX3_copyFrom_23 rfl (lv_at hl 1 rfl) ?_
  refine va_get (D := D) (ci := 3) (v := .ref (ad 52)) (C := RX3) (T := TX3) (N := 7) hx hb hts k0 hown hK hP 50 (zX_50 cy ad S_2) rfl 2 (by decide) k7 (fun _ h9 => h9) rfl dX3_copyFrom_24 ?_
  refine lv_iconst (v := 0) hx hb dX3_copyFrom_27 (by decide) ?_
  refine lv_aload_n hx hb dX3_copyFrom_28 rfl (lv_at hl 0 rfl) ?_
  refine va_get (D := D) (ci := 3) (v := .ref (ad 24)) (C := RX3) (T := TX3) (N := 7) hx hb hts k0 hown hK hP 22 (zX_22 cy ad S_2) rfl 2 (by decide) k7 (fun _ h9 => h9) rfl dX3_copyFrom_29 ?_
  refine lv_iconst (v := 0) hx hb dX3_copyFrom_32 (by decide) ?_
  refine lv_bipush (v := 60) hx hb dX3_copyFrom_33 (by decide) ?_
  refine z_copyi hx hb (by rw [hml]; exact hl.1.symm) hown k3 k4 k5 k6 hK hP (hD S_2) hS 52 24 0 (zX_52 cy ad S_2) (zX_24 cy ad S_2) rfl (by decide) (k := 60) (by decide) (by decide) (by decide) (Nat.le_of_ble_eq_true rfl) (Nat.le_of_ble_eq_true rfl) dX3_copyFrom_35 (fun H locs hP hS => ?_)
  obtain ⟨S_3, eS_3, hf⟩ := z_nm hf
  have hP := zW_cpyI hP eS_3 (by decide) rfl
  refine lv_aload_n hx hb dX3_copyFrom_38 rfl (lv_at hl 1 rfl) ?_
  refine va_get (D := D) (ci := 3) (v := .ref (ad 53)) (C := RX3) (T := TX3) (N := 7) hx hb hts k0 hown hK hP 50 (zX_50 cy ad S_3) rfl 3 (by decide) k8 (fun _ h9 => h9) rfl dX3_copyFrom_39 ?_
  refine lv_iconst (v := 0) hx hb dX3_copyFrom_42 (by decide) ?_
  refine lv_aload_n hx hb dX3_copyFrom_43 rfl (lv_at hl 0 rfl) ?_
  refine va_get (D := D) (ci := 3) (v := .ref (ad 25)) (C := RX3) (T := TX3) (N := 7) hx hb hts k0 hown hK hP 22 (zX_22 cy ad S_3) rfl 3 (by decide) k8 (fun _ h9 => h9) rfl dX3_copyFrom_44 ?_
  refine lv_iconst (v := 0) hx hb dX3_copyFrom_47 (by decide) ?_
  refine lv_bipush (v := 60) hx hb dX3_copyFrom_48 (by decide) ?_
  refine z_copyi hx hb (by rw [hml]; exact hl.1.symm) hown k3 k4 k5 k6 hK hP (hD S_3) hS 53 25 0 (zX_53 cy ad S_3) (zX_25 cy ad S_3) rfl (by decide) (k := 60) (by decide) (by decide) (by decide) (Nat.le_of_ble_eq_true rfl) (Nat.le_of_ble_eq_true rfl) dX3_copyFrom_50 (fun H locs hP hS => ?_)
  obtain ⟨S_4, eS_4, hf⟩ := z_nm hf
  have hP := zW_cpyI hP eS_4 (by decide) rfl
  refine lv_aload_n hx hb dX3_copyFrom_53 rfl (lv_at hl 1 rfl) ?_
  refine va_get (D := D) (ci := 3) (v := .ref (ad 54)) (C := RX3) (T := TX3) (N := 7) hx hb hts k0 hown hK hP 50 (zX_50 cy ad S_4) rfl 4 (by decide) k9 (fun _ h9 => h9) rfl dX3_copyFrom_54 ?_
  refine lv_iconst (v := 0) hx hb dX3_copyFrom_57 (by decide) ?_
  refine lv_aload_n hx hb dX3_copyFrom_58 rfl (lv_at hl 0 rfl) ?_
  refine va_get (D := D) (ci := 3) (v := .ref (ad 26)) (C := RX3) (T := TX3) (N := 7) hx hb hts k0 hown hK hP 22 (zX_22 cy ad S_4) rfl 4 (by decide) k9 (fun _ h9 => h9) rfl dX3_copyFrom_59 ?_
  refine lv_iconst (v := 0) hx hb dX3_copyFrom_62 (by decide) ?_
  refine lv_bipush (v := 60) hx hb dX3_copyFrom_63 (by decide) ?_
  refine z_copyi hx hb (by rw [hml]; exact hl.1.symm) hown k3 k4 k5 k6 hK hP (hD S_4) hS 54 26 0 (zX_54 cy ad S_4) (zX_26 cy ad S_4) rfl (by decide) (k := 60) (by decide) (by decide) (by decide) (Nat.le_of_ble_eq_true rfl) (Nat.le_of_ble_eq_true rfl) dX3_copyFrom_65 (fun H locs hP hS => ?_)
  obtain ⟨S_5, eS_5, hf⟩ := z_nm hf
  have hP := zW_cpyI hP eS_5 (by decide) rfl
  refine lv_aload_n hx hb dX3_copyFrom_68 rfl (lv_at hl 1 rfl) ?_
  refine va_get (D := D) (ci := 3) (v := .ref (ad 55)) (C := RX3) (T := TX3) (N := 7) hx hb hts k0 hown hK hP 50 (zX_50 cy ad S_5) rfl 5 (by decide) k10 (fun _ h9 => h9) rfl dX3_copyFrom_69 ?_
  refine lv_iconst (v := 0) hx hb dX3_copyFrom_72 (by decide) ?_
  refine lv_aload_n hx hb dX3_copyFrom_73 rfl (lv_at hl 0 rfl) ?_
  refine va_get (D := D) (ci := 3) (v := .ref (ad 27)) (C := RX3) (T := TX3) (N := 7) hx hb hts k0 hown hK hP 22 (zX_22 cy ad S_5) rfl 5 (by decide) k10 (fun _ h9 => h9) rfl dX3_copyFrom_74 ?_
  refine lv_iconst (v := 0) hx hb dX3_copyFrom_77 (by decide) ?_
  refine lv_bipush (v := 60) hx hb dX3_copyFrom_78 (by decide) ?_
  refine z_copyl hx hb (by rw [hml]; exact hl.1.symm) hown k3 k4 k5 k6 hK hP (hD S_5) hS 55 27 1 (zX_55 cy ad S_5) (zX_27 cy ad S_5) rfl (by decide) (k := 60) (by decide) (by decide) (by decide) (Nat.le_of_ble_eq_true rfl) (Nat.le_of_ble_eq_true rfl) dX3_copyFrom_80 (fun H locs hP hS => ?_)
  obtain ⟨S_6, eS_6, hf⟩ := z_nm hf
  have hP := zW_cpyL hP eS_6 (by decide) rfl
  obtain ⟨h1, h2⟩ := z_s2 hf
  subst h2
  exact hret _ _ _ _ hP hS dX3_copyFrom_83
def fx_Rule_take_rd (S_0 : zSt) (a_1 : Int32) (a_2 : Int32) : Option (Unit × zSt) :=
  znm (zcI S_0 21 (va_cpy (S_0.1 126) (S_0.1 21) 0 0 400)) fun S_1 =>
  znm (zpI S_1 20 1 a_1) fun S_2 =>
  znm (zpI S_2 20 2 a_2) fun S_3 =>
  some ((), S_3)
set_option maxHeartbeats 4000000 in
set_option maxRecDepth 100000 in
theorem cx_Rule_take_rd (l : Launch) (D : va_G) (K : (Nat → Nat) × (Nat → Nat)) (cy : Nat → ClassId) (ad : Nat → Nat) (S_0 : zSt) (a_1 : Int32) (a_2 : Int32) (So : zSt) (hf : fx_Rule_take_rd S_0 a_1 a_2 = some ((), So)) : zMV l yX6_take (zws yX6_take cX6_take 4 none) ({ frames := 1, cells := 0, slots := 0, locals := 200 }) D (zTy cy) K (zX cy ad) [.ref (ad 20), .ref (ad 126), .int a_1, .int a_2] S_0 So := by
  refine z_metV (own := RX6) (lv := [(0, .ref (ad 20)), (1, .ref (ad 126)), (2, .int a_1), (3, .int a_2)]) (by decide) rfl rfl (Nat.le_of_ble_eq_true rfl) rfl ?_
  intro p e s m below meth c A Q X hK hE hD hA hret hP hS ls hl
  obtain ⟨hx, hb, hml, hown, hts⟩ := id X
  have k0 := (fun w h => List.mem_cons_of_mem _ (zFX6 w h) : ∀ w ∈ u_ws RX6 TX6 3, w ∈ zws yX6_take cX6_take 4 none)
  have k1 := hts _ (List.mem_cons_of_mem _ wt_1_173)
  have k2 := hts _ (List.mem_cons_of_mem _ wt_3_229)
  have k3 := hts _ (List.mem_cons_of_mem _ wt_3_231)
  have k4 := hts _ (List.mem_cons_of_mem _ wt_3_230)
  have k5 := hts _ (List.mem_cons_of_mem _ wt_1_20)
  have k6 := hts _ (List.mem_cons_of_mem _ wt_1_175)
  have k7 := hts _ (List.mem_cons_of_mem _ wt_1_177)
  refine lv_aload_n hx hb dX6_take_0 rfl (lv_at hl 1 rfl) ?_
  refine lv_iconst (v := 0) hx hb dX6_take_1 (by decide) ?_
  refine lv_aload_n hx hb dX6_take_2 rfl (lv_at hl 0 rfl) ?_
  refine va_get (D := D) (ci := 6) (v := .ref (ad 21)) (C := RX6) (T := TX6) (N := 3) hx hb hts k0 hown hK hP 20 (zX_20 cy ad S_0) rfl 0 (by decide) k1 (fun _ h9 => h9) rfl dX6_take_3 ?_
  refine lv_iconst (v := 0) hx hb dX6_take_6 (by decide) ?_
  refine lv_sipush (v := 400) hx hb dX6_take_7 (by decide) ?_
  refine z_copyi hx hb (by rw [hml]; exact hl.1.symm) hown k2 k3 k4 k5 hK hP (hD S_0) hS 126 21 0 (zX_126 cy ad S_0) (zX_21 cy ad S_0) rfl (by decide) (k := 400) (by decide) (by decide) (by decide) (Nat.le_of_ble_eq_true rfl) (Nat.le_of_ble_eq_true rfl) dX6_take_10 (fun H locs hP hS => ?_)
  obtain ⟨S_1, eS_1, hf⟩ := z_nm hf
  have hP := zW_cpyI hP eS_1 (by decide) rfl
  refine lv_aload_n hx hb dX6_take_13 rfl (lv_at hl 0 rfl) ?_
  refine lv_iload_n hx hb dX6_take_14 rfl (lv_at hl 2 rfl) ?_
  refine va_put (D := D) (ci := 6) (v := .int a_1) (ty := .int) (C := RX6) (T := TX6) (N := 3) hx hb hts k0 tyX6 tyX6_ok nmX6 hown hK hP (hD S_1) hS 20 (zX_20 cy ad S_1) rfl 1 (by decide) k6 (fun _ h9 => h9) rfl (tyX6_ok 1 (by decide)) rfl rfl (Nat.le_of_ble_eq_true rfl) dX6_take_15 (fun H locs hP _ hS => ?_)
  obtain ⟨S_2, eS_2, hf⟩ := z_nm hf
  have hP := zW_putI hP eS_2 (by decide) rfl
  refine lv_aload_n hx hb dX6_take_18 rfl (lv_at hl 0 rfl) ?_
  refine lv_iload_n hx hb dX6_take_19 rfl (lv_at hl 3 rfl) ?_
  refine va_put (D := D) (ci := 6) (v := .int a_2) (ty := .int) (C := RX6) (T := TX6) (N := 3) hx hb hts k0 tyX6 tyX6_ok nmX6 hown hK hP (hD S_2) hS 20 (zX_20 cy ad S_2) rfl 2 (by decide) k7 (fun _ h9 => h9) rfl (tyX6_ok 2 (by decide)) rfl rfl (Nat.le_of_ble_eq_true rfl) dX6_take_20 (fun H locs hP _ hS => ?_)
  obtain ⟨S_3, eS_3, hf⟩ := z_nm hf
  have hP := zW_putI hP eS_3 (by decide) rfl
  obtain ⟨h1, h2⟩ := z_s2 hf
  subst h2
  exact hret _ _ _ _ hP hS dX6_take_23
def fx_Rule_take_kn (S_0 : zSt) (a_1 : Int32) (a_2 : Int32) : Option (Unit × zSt) :=
  znm (zcI S_0 49 (va_cpy (S_0.1 21) (S_0.1 49) 0 0 400)) fun S_1 =>
  znm (zpI S_1 48 1 a_1) fun S_2 =>
  znm (zpI S_2 48 2 a_2) fun S_3 =>
  some ((), S_3)
set_option maxHeartbeats 4000000 in
set_option maxRecDepth 100000 in
theorem cx_Rule_take_kn (l : Launch) (D : va_G) (K : (Nat → Nat) × (Nat → Nat)) (cy : Nat → ClassId) (ad : Nat → Nat) (S_0 : zSt) (a_1 : Int32) (a_2 : Int32) (So : zSt) (hf : fx_Rule_take_kn S_0 a_1 a_2 = some ((), So)) : zMV l yX6_take (zws yX6_take cX6_take 4 none) ({ frames := 1, cells := 0, slots := 0, locals := 200 }) D (zTy cy) K (zX cy ad) [.ref (ad 48), .ref (ad 21), .int a_1, .int a_2] S_0 So := by
  refine z_metV (own := RX6) (lv := [(0, .ref (ad 48)), (1, .ref (ad 21)), (2, .int a_1), (3, .int a_2)]) (by decide) rfl rfl (Nat.le_of_ble_eq_true rfl) rfl ?_
  intro p e s m below meth c A Q X hK hE hD hA hret hP hS ls hl
  obtain ⟨hx, hb, hml, hown, hts⟩ := id X
  have k0 := (fun w h => List.mem_cons_of_mem _ (zFX6 w h) : ∀ w ∈ u_ws RX6 TX6 3, w ∈ zws yX6_take cX6_take 4 none)
  have k1 := hts _ (List.mem_cons_of_mem _ wt_1_173)
  have k2 := hts _ (List.mem_cons_of_mem _ wt_3_229)
  have k3 := hts _ (List.mem_cons_of_mem _ wt_3_231)
  have k4 := hts _ (List.mem_cons_of_mem _ wt_3_230)
  have k5 := hts _ (List.mem_cons_of_mem _ wt_1_20)
  have k6 := hts _ (List.mem_cons_of_mem _ wt_1_175)
  have k7 := hts _ (List.mem_cons_of_mem _ wt_1_177)
  refine lv_aload_n hx hb dX6_take_0 rfl (lv_at hl 1 rfl) ?_
  refine lv_iconst (v := 0) hx hb dX6_take_1 (by decide) ?_
  refine lv_aload_n hx hb dX6_take_2 rfl (lv_at hl 0 rfl) ?_
  refine va_get (D := D) (ci := 6) (v := .ref (ad 49)) (C := RX6) (T := TX6) (N := 3) hx hb hts k0 hown hK hP 48 (zX_48 cy ad S_0) rfl 0 (by decide) k1 (fun _ h9 => h9) rfl dX6_take_3 ?_
  refine lv_iconst (v := 0) hx hb dX6_take_6 (by decide) ?_
  refine lv_sipush (v := 400) hx hb dX6_take_7 (by decide) ?_
  refine z_copyi hx hb (by rw [hml]; exact hl.1.symm) hown k2 k3 k4 k5 hK hP (hD S_0) hS 21 49 0 (zX_21 cy ad S_0) (zX_49 cy ad S_0) rfl (by decide) (k := 400) (by decide) (by decide) (by decide) (Nat.le_of_ble_eq_true rfl) (Nat.le_of_ble_eq_true rfl) dX6_take_10 (fun H locs hP hS => ?_)
  obtain ⟨S_1, eS_1, hf⟩ := z_nm hf
  have hP := zW_cpyI hP eS_1 (by decide) rfl
  refine lv_aload_n hx hb dX6_take_13 rfl (lv_at hl 0 rfl) ?_
  refine lv_iload_n hx hb dX6_take_14 rfl (lv_at hl 2 rfl) ?_
  refine va_put (D := D) (ci := 6) (v := .int a_1) (ty := .int) (C := RX6) (T := TX6) (N := 3) hx hb hts k0 tyX6 tyX6_ok nmX6 hown hK hP (hD S_1) hS 48 (zX_48 cy ad S_1) rfl 1 (by decide) k6 (fun _ h9 => h9) rfl (tyX6_ok 1 (by decide)) rfl rfl (Nat.le_of_ble_eq_true rfl) dX6_take_15 (fun H locs hP _ hS => ?_)
  obtain ⟨S_2, eS_2, hf⟩ := z_nm hf
  have hP := zW_putI hP eS_2 (by decide) rfl
  refine lv_aload_n hx hb dX6_take_18 rfl (lv_at hl 0 rfl) ?_
  refine lv_iload_n hx hb dX6_take_19 rfl (lv_at hl 3 rfl) ?_
  refine va_put (D := D) (ci := 6) (v := .int a_2) (ty := .int) (C := RX6) (T := TX6) (N := 3) hx hb hts k0 tyX6 tyX6_ok nmX6 hown hK hP (hD S_2) hS 48 (zX_48 cy ad S_2) rfl 2 (by decide) k7 (fun _ h9 => h9) rfl (tyX6_ok 2 (by decide)) rfl rfl (Nat.le_of_ble_eq_true rfl) dX6_take_20 (fun H locs hP _ hS => ?_)
  obtain ⟨S_3, eS_3, hf⟩ := z_nm hf
  have hP := zW_putI hP eS_3 (by decide) rfl
  obtain ⟨h1, h2⟩ := z_s2 hf
  subst h2
  exact hret _ _ _ _ hP hS dX6_take_23
def fx_Rule_take_nk (S_0 : zSt) (a_1 : Int32) (a_2 : Int32) : Option (Unit × zSt) :=
  znm (zcI S_0 21 (va_cpy (S_0.1 49) (S_0.1 21) 0 0 400)) fun S_1 =>
  znm (zpI S_1 20 1 a_1) fun S_2 =>
  znm (zpI S_2 20 2 a_2) fun S_3 =>
  some ((), S_3)
set_option maxHeartbeats 4000000 in
set_option maxRecDepth 100000 in
theorem cx_Rule_take_nk (l : Launch) (D : va_G) (K : (Nat → Nat) × (Nat → Nat)) (cy : Nat → ClassId) (ad : Nat → Nat) (S_0 : zSt) (a_1 : Int32) (a_2 : Int32) (So : zSt) (hf : fx_Rule_take_nk S_0 a_1 a_2 = some ((), So)) : zMV l yX6_take (zws yX6_take cX6_take 4 none) ({ frames := 1, cells := 0, slots := 0, locals := 200 }) D (zTy cy) K (zX cy ad) [.ref (ad 20), .ref (ad 49), .int a_1, .int a_2] S_0 So := by
  refine z_metV (own := RX6) (lv := [(0, .ref (ad 20)), (1, .ref (ad 49)), (2, .int a_1), (3, .int a_2)]) (by decide) rfl rfl (Nat.le_of_ble_eq_true rfl) rfl ?_
  intro p e s m below meth c A Q X hK hE hD hA hret hP hS ls hl
  obtain ⟨hx, hb, hml, hown, hts⟩ := id X
  have k0 := (fun w h => List.mem_cons_of_mem _ (zFX6 w h) : ∀ w ∈ u_ws RX6 TX6 3, w ∈ zws yX6_take cX6_take 4 none)
  have k1 := hts _ (List.mem_cons_of_mem _ wt_1_173)
  have k2 := hts _ (List.mem_cons_of_mem _ wt_3_229)
  have k3 := hts _ (List.mem_cons_of_mem _ wt_3_231)
  have k4 := hts _ (List.mem_cons_of_mem _ wt_3_230)
  have k5 := hts _ (List.mem_cons_of_mem _ wt_1_20)
  have k6 := hts _ (List.mem_cons_of_mem _ wt_1_175)
  have k7 := hts _ (List.mem_cons_of_mem _ wt_1_177)
  refine lv_aload_n hx hb dX6_take_0 rfl (lv_at hl 1 rfl) ?_
  refine lv_iconst (v := 0) hx hb dX6_take_1 (by decide) ?_
  refine lv_aload_n hx hb dX6_take_2 rfl (lv_at hl 0 rfl) ?_
  refine va_get (D := D) (ci := 6) (v := .ref (ad 21)) (C := RX6) (T := TX6) (N := 3) hx hb hts k0 hown hK hP 20 (zX_20 cy ad S_0) rfl 0 (by decide) k1 (fun _ h9 => h9) rfl dX6_take_3 ?_
  refine lv_iconst (v := 0) hx hb dX6_take_6 (by decide) ?_
  refine lv_sipush (v := 400) hx hb dX6_take_7 (by decide) ?_
  refine z_copyi hx hb (by rw [hml]; exact hl.1.symm) hown k2 k3 k4 k5 hK hP (hD S_0) hS 49 21 0 (zX_49 cy ad S_0) (zX_21 cy ad S_0) rfl (by decide) (k := 400) (by decide) (by decide) (by decide) (Nat.le_of_ble_eq_true rfl) (Nat.le_of_ble_eq_true rfl) dX6_take_10 (fun H locs hP hS => ?_)
  obtain ⟨S_1, eS_1, hf⟩ := z_nm hf
  have hP := zW_cpyI hP eS_1 (by decide) rfl
  refine lv_aload_n hx hb dX6_take_13 rfl (lv_at hl 0 rfl) ?_
  refine lv_iload_n hx hb dX6_take_14 rfl (lv_at hl 2 rfl) ?_
  refine va_put (D := D) (ci := 6) (v := .int a_1) (ty := .int) (C := RX6) (T := TX6) (N := 3) hx hb hts k0 tyX6 tyX6_ok nmX6 hown hK hP (hD S_1) hS 20 (zX_20 cy ad S_1) rfl 1 (by decide) k6 (fun _ h9 => h9) rfl (tyX6_ok 1 (by decide)) rfl rfl (Nat.le_of_ble_eq_true rfl) dX6_take_15 (fun H locs hP _ hS => ?_)
  obtain ⟨S_2, eS_2, hf⟩ := z_nm hf
  have hP := zW_putI hP eS_2 (by decide) rfl
  refine lv_aload_n hx hb dX6_take_18 rfl (lv_at hl 0 rfl) ?_
  refine lv_iload_n hx hb dX6_take_19 rfl (lv_at hl 3 rfl) ?_
  refine va_put (D := D) (ci := 6) (v := .int a_2) (ty := .int) (C := RX6) (T := TX6) (N := 3) hx hb hts k0 tyX6 tyX6_ok nmX6 hown hK hP (hD S_2) hS 20 (zX_20 cy ad S_2) rfl 2 (by decide) k7 (fun _ h9 => h9) rfl (tyX6_ok 2 (by decide)) rfl rfl (Nat.le_of_ble_eq_true rfl) dX6_take_20 (fun H locs hP _ hS => ?_)
  obtain ⟨S_3, eS_3, hf⟩ := z_nm hf
  have hP := zW_putI hP eS_3 (by decide) rfl
  obtain ⟨h1, h2⟩ := z_s2 hf
  subst h2
  exact hret _ _ _ _ hP hS dX6_take_23
def fx_Commons_copyFrom_kn (S_0 : zSt) : Option (Unit × zSt) :=
  zbd (fx_Houses_copyFrom_kn S_0) fun _ S_2 =>
  zbd (fx_Times_copyFrom 39 11 S_2) fun _ S_5 =>
  znm (zcI S_5 47 (va_cpy (S_5.1 19) (S_5.1 47) 0 0 4)) fun S_7 =>
  zbd (fx_Rule_take_kn S_7 (S_7.1 20 1) (S_7.1 20 2)) fun _ S_9 =>
  zbd (fx_Leavens_copyFrom_kn S_9) fun _ S_12 =>
  znm (zcI S_12 58 (va_cpy (S_12.1 30) (S_12.1 58) 0 0 64)) fun S_14 =>
  some ((), S_14)
set_option maxHeartbeats 4000000 in
set_option maxRecDepth 100000 in
theorem cx_Commons_copyFrom_kn (l : Launch) (D : va_G) (K : (Nat → Nat) × (Nat → Nat)) (cy : Nat → ClassId) (ad : Nat → Nat) (S_0 : zSt) (So : zSt) (hf : fx_Commons_copyFrom_kn S_0 = some ((), So)) : zMV l yX0_copyFrom (zws yX0_copyFrom cX0_copyFrom 2 none) ({ frames := 2, cells := 0, slots := 0, locals := 223 }) D (zTy cy) K (zX cy ad) [.ref (ad 31), .ref (ad 3)] S_0 So := by
  refine z_metV (own := RX0) (lv := [(0, .ref (ad 31)), (1, .ref (ad 3))]) (by decide) rfl rfl (Nat.le_of_ble_eq_true rfl) rfl ?_
  intro p e s m below meth c A Q X hK hE hD hA hret hP hS ls hl
  obtain ⟨hx, hb, hml, hown, hts⟩ := id X
  have k0 := (fun w h => List.mem_cons_of_mem _ (zFX0 w h) : ∀ w ∈ u_ws RX0 TX0 6, w ∈ zws yX0_copyFrom cX0_copyFrom 2 none)
  have k1 := hts _ (List.mem_cons_of_mem _ wt_1_233)
  have k2 := hts _ (List.mem_cons_of_mem _ wt_1_236)
  have k3 := hts _ (List.mem_cons_of_mem _ wt_1_239)
  have k4 := hts _ (List.mem_cons_of_mem _ wt_5_78)
  have k5 := hts _ (List.mem_cons_of_mem _ wt_3_231)
  have k6 := hts _ (List.mem_cons_of_mem _ wt_3_230)
  have k7 := hts _ (List.mem_cons_of_mem _ wt_1_20)
  have k8 := hts _ (List.mem_cons_of_mem _ wt_2_2)
  have k9 := (fun w h => List.mem_cons_of_mem _ (zFX6 w h) : ∀ w ∈ u_ws RX6 TX6 3, w ∈ zws yX0_copyFrom cX0_copyFrom 2 none)
  have k10 := hts _ (List.mem_cons_of_mem _ wt_1_174)
  have k11 := hts _ (List.mem_cons_of_mem _ wt_1_176)
  have k12 := hts _ (List.mem_cons_of_mem _ wt_1_178)
  have k13 := hts _ (List.mem_cons_of_mem _ wt_2_5)
  have k14 := hts _ (List.mem_cons_of_mem _ wt_2_7)
  have k15 := (fun w h => List.mem_cons_of_mem _ (zFX5 w h) : ∀ w ∈ u_ws RX5 TX5 1, w ∈ zws yX0_copyFrom cX0_copyFrom 2 none)
  have k16 := hts _ (List.mem_cons_of_mem _ wt_1_228)
  refine lv_aload_n hx hb dX0_copyFrom_0 rfl (lv_at hl 0 rfl) ?_
  refine va_get (D := D) (ci := 0) (v := .ref (ad 32)) (C := RX0) (T := TX0) (N := 6) hx hb hts k0 hown hK hP 31 (zX_31 cy ad S_0) rfl 0 (by decide) k1 (fun _ h9 => h9) rfl dX0_copyFrom_1 ?_
  refine lv_aload_n hx hb dX0_copyFrom_4 rfl (lv_at hl 1 rfl) ?_
  refine va_get (D := D) (ci := 0) (v := .ref (ad 4)) (C := RX0) (T := TX0) (N := 6) hx hb hts k0 hown hK hP 3 (zX_3 cy ad S_0) rfl 0 (by decide) k1 (fun _ h9 => h9) rfl dX0_copyFrom_5 ?_
  obtain ⟨r_1, S_2, h_3, hf⟩ := z_bd hf
  refine z_cVV (As := [.ref (ad 4)]) (rest := []) X hK hE hD hA hP hS (cx_Houses_copyFrom_kn l D K cy ad S_0 _ h_3) (cwV 1 hts (z_gV wt_5_72 wt_5_73 wt_5_74 wt_1_4 wt_5_75) rfl rfl rfl ⟨rfl, yd_yX2_copyFrom⟩ ⟨Nat.le_of_ble_eq_true rfl, Nat.le_of_ble_eq_true rfl⟩) (va_recv hK hP (ci := 2) (q0 := 32) rfl (zX_32 cy ad S_0)) hl.1 rfl rfl (Nat.le_of_ble_eq_true rfl) dX0_copyFrom_8 (fun H locs hP hS => ?_)
  refine lv_aload_n hx hb dX0_copyFrom_11 rfl (lv_at hl 0 rfl) ?_
  refine va_get (D := D) (ci := 0) (v := .ref (ad 39)) (C := RX0) (T := TX0) (N := 6) hx hb hts k0 hown hK hP 31 (zX_31 cy ad S_2) rfl 1 (by decide) k2 (fun _ h9 => h9) rfl dX0_copyFrom_12 ?_
  refine lv_aload_n hx hb dX0_copyFrom_15 rfl (lv_at hl 1 rfl) ?_
  refine va_get (D := D) (ci := 0) (v := .ref (ad 11)) (C := RX0) (T := TX0) (N := 6) hx hb hts k0 hown hK hP 3 (zX_3 cy ad S_2) rfl 1 (by decide) k2 (fun _ h9 => h9) rfl dX0_copyFrom_16 ?_
  obtain ⟨r_4, S_5, h_6, hf⟩ := z_bd hf
  refine z_cVV (As := [.ref (ad 11)]) (rest := []) X hK hE hD hA hP hS (cx_Times_copyFrom l D K cy ad 39 11 (z_T39) (z_T11) S_2 _ h_6) (cwV 1 hts (z_gV wt_5_77 wt_4_44 wt_4_45 wt_1_5 wt_4_46) rfl rfl rfl ⟨rfl, yd_yX10_copyFrom⟩ ⟨Nat.le_of_ble_eq_true rfl, Nat.le_of_ble_eq_true rfl⟩) (va_recv hK hP (ci := 10) (q0 := 39) rfl (zX_39 cy ad S_2)) hl.1 rfl rfl (Nat.le_of_ble_eq_true rfl) dX0_copyFrom_19 (fun H locs hP hS => ?_)
  refine lv_aload_n hx hb dX0_copyFrom_22 rfl (lv_at hl 1 rfl) ?_
  refine va_get (D := D) (ci := 0) (v := .ref (ad 19)) (C := RX0) (T := TX0) (N := 6) hx hb hts k0 hown hK hP 3 (zX_3 cy ad S_5) rfl 2 (by decide) k3 (fun _ h9 => h9) rfl dX0_copyFrom_23 ?_
  refine lv_iconst (v := 0) hx hb dX0_copyFrom_26 (by decide) ?_
  refine lv_aload_n hx hb dX0_copyFrom_27 rfl (lv_at hl 0 rfl) ?_
  refine va_get (D := D) (ci := 0) (v := .ref (ad 47)) (C := RX0) (T := TX0) (N := 6) hx hb hts k0 hown hK hP 31 (zX_31 cy ad S_5) rfl 2 (by decide) k3 (fun _ h9 => h9) rfl dX0_copyFrom_28 ?_
  refine lv_iconst (v := 0) hx hb dX0_copyFrom_31 (by decide) ?_
  refine lv_iconst (v := 4) hx hb dX0_copyFrom_32 (by decide) ?_
  refine z_copyi hx hb (by rw [hml]; exact hl.1.symm) hown k4 k5 k6 k7 hK hP (hD S_5) hS 19 47 0 (zX_19 cy ad S_5) (zX_47 cy ad S_5) rfl (by decide) (k := 4) (by decide) (by decide) (by decide) (Nat.le_of_ble_eq_true rfl) (Nat.le_of_ble_eq_true rfl) dX0_copyFrom_33 (fun H locs hP hS => ?_)
  obtain ⟨S_7, eS_7, hf⟩ := z_nm hf
  have hP := zW_cpyI hP eS_7 (by decide) rfl
  refine lv_aload_n hx hb dX0_copyFrom_36 rfl (lv_at hl 0 rfl) ?_
  refine va_get (D := D) (ci := 0) (v := .ref (ad 48)) (C := RX0) (T := TX0) (N := 6) hx hb hts k0 hown hK hP 31 (zX_31 cy ad S_7) rfl 3 (by decide) k8 (fun _ h9 => h9) rfl dX0_copyFrom_37 ?_
  refine lv_aload_n hx hb dX0_copyFrom_40 rfl (lv_at hl 1 rfl) ?_
  refine va_get (D := D) (ci := 0) (v := .ref (ad 20)) (C := RX0) (T := TX0) (N := 6) hx hb hts k0 hown hK hP 3 (zX_3 cy ad S_7) rfl 3 (by decide) k8 (fun _ h9 => h9) rfl dX0_copyFrom_41 ?_
  refine va_get (D := D) (ci := 6) (v := .ref (ad 21)) (C := RX6) (T := TX6) (N := 3) hx hb hts k9 hown hK hP 20 (zX_20 cy ad S_7) rfl 0 (by decide) k10 (fun _ h9 => h9) rfl dX0_copyFrom_44 ?_
  refine lv_aload_n hx hb dX0_copyFrom_47 rfl (lv_at hl 1 rfl) ?_
  refine va_get (D := D) (ci := 0) (v := .ref (ad 20)) (C := RX0) (T := TX0) (N := 6) hx hb hts k0 hown hK hP 3 (zX_3 cy ad S_7) rfl 3 (by decide) k8 (fun _ h9 => h9) rfl dX0_copyFrom_48 ?_
  refine va_get (D := D) (ci := 6) (v := .int (S_7.1 20 1)) (C := RX6) (T := TX6) (N := 3) hx hb hts k9 hown hK hP 20 (zX_20 cy ad S_7) rfl 1 (by decide) k11 (fun _ h9 => h9) rfl dX0_copyFrom_51 ?_
  refine lv_aload_n hx hb dX0_copyFrom_54 rfl (lv_at hl 1 rfl) ?_
  refine va_get (D := D) (ci := 0) (v := .ref (ad 20)) (C := RX0) (T := TX0) (N := 6) hx hb hts k0 hown hK hP 3 (zX_3 cy ad S_7) rfl 3 (by decide) k8 (fun _ h9 => h9) rfl dX0_copyFrom_55 ?_
  refine va_get (D := D) (ci := 6) (v := .int (S_7.1 20 2)) (C := RX6) (T := TX6) (N := 3) hx hb hts k9 hown hK hP 20 (zX_20 cy ad S_7) rfl 2 (by decide) k12 (fun _ h9 => h9) rfl dX0_copyFrom_58 ?_
  obtain ⟨r_8, S_9, h_10, hf⟩ := z_bd hf
  refine z_cVV (As := [.ref (ad 21), .int (S_7.1 20 1), .int (S_7.1 20 2)]) (rest := []) X hK hE hD hA hP hS (cx_Rule_take_kn l D K cy ad S_7 _ _ _ h_10) (cwV 3 hts (z_gV wt_5_79 wt_3_226 wt_3_227 wt_1_6 wt_3_228) rfl rfl rfl ⟨rfl, yd_yX6_take⟩ ⟨Nat.le_of_ble_eq_true rfl, Nat.le_of_ble_eq_true rfl⟩) (va_recv hK hP (ci := 6) (q0 := 48) rfl (zX_48 cy ad S_7)) hl.1 rfl rfl (Nat.le_of_ble_eq_true rfl) dX0_copyFrom_61 (fun H locs hP hS => ?_)
  refine lv_aload_n hx hb dX0_copyFrom_64 rfl (lv_at hl 0 rfl) ?_
  refine va_get (D := D) (ci := 0) (v := .ref (ad 50)) (C := RX0) (T := TX0) (N := 6) hx hb hts k0 hown hK hP 31 (zX_31 cy ad S_9) rfl 4 (by decide) k13 (fun _ h9 => h9) rfl dX0_copyFrom_65 ?_
  refine lv_aload_n hx hb dX0_copyFrom_68 rfl (lv_at hl 1 rfl) ?_
  refine va_get (D := D) (ci := 0) (v := .ref (ad 22)) (C := RX0) (T := TX0) (N := 6) hx hb hts k0 hown hK hP 3 (zX_3 cy ad S_9) rfl 4 (by decide) k13 (fun _ h9 => h9) rfl dX0_copyFrom_69 ?_
  obtain ⟨r_11, S_12, h_13, hf⟩ := z_bd hf
  refine z_cVV (As := [.ref (ad 22)]) (rest := []) X hK hE hD hA hP hS (cx_Leavens_copyFrom_kn l D K cy ad S_9 _ h_13) (cwV 1 hts (z_gV wt_5_80 wt_5_81 wt_5_82 wt_1_7 wt_5_83) rfl rfl rfl ⟨rfl, yd_yX3_copyFrom⟩ ⟨Nat.le_of_ble_eq_true rfl, Nat.le_of_ble_eq_true rfl⟩) (va_recv hK hP (ci := 3) (q0 := 50) rfl (zX_50 cy ad S_9)) hl.1 rfl rfl (Nat.le_of_ble_eq_true rfl) dX0_copyFrom_72 (fun H locs hP hS => ?_)
  refine lv_aload_n hx hb dX0_copyFrom_75 rfl (lv_at hl 1 rfl) ?_
  refine va_get (D := D) (ci := 0) (v := .ref (ad 29)) (C := RX0) (T := TX0) (N := 6) hx hb hts k0 hown hK hP 3 (zX_3 cy ad S_12) rfl 5 (by decide) k14 (fun _ h9 => h9) rfl dX0_copyFrom_76 ?_
  refine va_get (D := D) (ci := 5) (v := .ref (ad 30)) (C := RX5) (T := TX5) (N := 1) hx hb hts k15 hown hK hP 29 (zX_29 cy ad S_12) rfl 0 (by decide) k16 (fun _ h9 => h9) rfl dX0_copyFrom_79 ?_
  refine lv_iconst (v := 0) hx hb dX0_copyFrom_82 (by decide) ?_
  refine lv_aload_n hx hb dX0_copyFrom_83 rfl (lv_at hl 0 rfl) ?_
  refine va_get (D := D) (ci := 0) (v := .ref (ad 57)) (C := RX0) (T := TX0) (N := 6) hx hb hts k0 hown hK hP 31 (zX_31 cy ad S_12) rfl 5 (by decide) k14 (fun _ h9 => h9) rfl dX0_copyFrom_84 ?_
  refine va_get (D := D) (ci := 5) (v := .ref (ad 58)) (C := RX5) (T := TX5) (N := 1) hx hb hts k15 hown hK hP 57 (zX_57 cy ad S_12) rfl 0 (by decide) k16 (fun _ h9 => h9) rfl dX0_copyFrom_87 ?_
  refine lv_iconst (v := 0) hx hb dX0_copyFrom_90 (by decide) ?_
  refine lv_bipush (v := 64) hx hb dX0_copyFrom_91 (by decide) ?_
  refine z_copyi hx hb (by rw [hml]; exact hl.1.symm) hown k4 k5 k6 k7 hK hP (hD S_12) hS 30 58 0 (zX_30 cy ad S_12) (zX_58 cy ad S_12) rfl (by decide) (k := 64) (by decide) (by decide) (by decide) (Nat.le_of_ble_eq_true rfl) (Nat.le_of_ble_eq_true rfl) dX0_copyFrom_93 (fun H locs hP hS => ?_)
  obtain ⟨S_14, eS_14, hf⟩ := z_nm hf
  have hP := zW_cpyI hP eS_14 (by decide) rfl
  obtain ⟨h1, h2⟩ := z_s2 hf
  subst h2
  exact hret _ _ _ _ hP hS dX0_copyFrom_96
def fx_Commons_copyFrom_nk (S_0 : zSt) : Option (Unit × zSt) :=
  zbd (fx_Houses_copyFrom_nk S_0) fun _ S_2 =>
  zbd (fx_Times_copyFrom 11 39 S_2) fun _ S_5 =>
  znm (zcI S_5 19 (va_cpy (S_5.1 47) (S_5.1 19) 0 0 4)) fun S_7 =>
  zbd (fx_Rule_take_nk S_7 (S_7.1 48 1) (S_7.1 48 2)) fun _ S_9 =>
  zbd (fx_Leavens_copyFrom_nk S_9) fun _ S_12 =>
  znm (zcI S_12 30 (va_cpy (S_12.1 58) (S_12.1 30) 0 0 64)) fun S_14 =>
  some ((), S_14)
set_option maxHeartbeats 4000000 in
set_option maxRecDepth 100000 in
theorem cx_Commons_copyFrom_nk (l : Launch) (D : va_G) (K : (Nat → Nat) × (Nat → Nat)) (cy : Nat → ClassId) (ad : Nat → Nat) (S_0 : zSt) (So : zSt) (hf : fx_Commons_copyFrom_nk S_0 = some ((), So)) : zMV l yX0_copyFrom (zws yX0_copyFrom cX0_copyFrom 2 none) ({ frames := 2, cells := 0, slots := 0, locals := 223 }) D (zTy cy) K (zX cy ad) [.ref (ad 3), .ref (ad 31)] S_0 So := by
  refine z_metV (own := RX0) (lv := [(0, .ref (ad 3)), (1, .ref (ad 31))]) (by decide) rfl rfl (Nat.le_of_ble_eq_true rfl) rfl ?_
  intro p e s m below meth c A Q X hK hE hD hA hret hP hS ls hl
  obtain ⟨hx, hb, hml, hown, hts⟩ := id X
  have k0 := (fun w h => List.mem_cons_of_mem _ (zFX0 w h) : ∀ w ∈ u_ws RX0 TX0 6, w ∈ zws yX0_copyFrom cX0_copyFrom 2 none)
  have k1 := hts _ (List.mem_cons_of_mem _ wt_1_233)
  have k2 := hts _ (List.mem_cons_of_mem _ wt_1_236)
  have k3 := hts _ (List.mem_cons_of_mem _ wt_1_239)
  have k4 := hts _ (List.mem_cons_of_mem _ wt_5_78)
  have k5 := hts _ (List.mem_cons_of_mem _ wt_3_231)
  have k6 := hts _ (List.mem_cons_of_mem _ wt_3_230)
  have k7 := hts _ (List.mem_cons_of_mem _ wt_1_20)
  have k8 := hts _ (List.mem_cons_of_mem _ wt_2_2)
  have k9 := (fun w h => List.mem_cons_of_mem _ (zFX6 w h) : ∀ w ∈ u_ws RX6 TX6 3, w ∈ zws yX0_copyFrom cX0_copyFrom 2 none)
  have k10 := hts _ (List.mem_cons_of_mem _ wt_1_174)
  have k11 := hts _ (List.mem_cons_of_mem _ wt_1_176)
  have k12 := hts _ (List.mem_cons_of_mem _ wt_1_178)
  have k13 := hts _ (List.mem_cons_of_mem _ wt_2_5)
  have k14 := hts _ (List.mem_cons_of_mem _ wt_2_7)
  have k15 := (fun w h => List.mem_cons_of_mem _ (zFX5 w h) : ∀ w ∈ u_ws RX5 TX5 1, w ∈ zws yX0_copyFrom cX0_copyFrom 2 none)
  have k16 := hts _ (List.mem_cons_of_mem _ wt_1_228)
  refine lv_aload_n hx hb dX0_copyFrom_0 rfl (lv_at hl 0 rfl) ?_
  refine va_get (D := D) (ci := 0) (v := .ref (ad 4)) (C := RX0) (T := TX0) (N := 6) hx hb hts k0 hown hK hP 3 (zX_3 cy ad S_0) rfl 0 (by decide) k1 (fun _ h9 => h9) rfl dX0_copyFrom_1 ?_
  refine lv_aload_n hx hb dX0_copyFrom_4 rfl (lv_at hl 1 rfl) ?_
  refine va_get (D := D) (ci := 0) (v := .ref (ad 32)) (C := RX0) (T := TX0) (N := 6) hx hb hts k0 hown hK hP 31 (zX_31 cy ad S_0) rfl 0 (by decide) k1 (fun _ h9 => h9) rfl dX0_copyFrom_5 ?_
  obtain ⟨r_1, S_2, h_3, hf⟩ := z_bd hf
  refine z_cVV (As := [.ref (ad 32)]) (rest := []) X hK hE hD hA hP hS (cx_Houses_copyFrom_nk l D K cy ad S_0 _ h_3) (cwV 1 hts (z_gV wt_5_72 wt_5_73 wt_5_74 wt_1_4 wt_5_75) rfl rfl rfl ⟨rfl, yd_yX2_copyFrom⟩ ⟨Nat.le_of_ble_eq_true rfl, Nat.le_of_ble_eq_true rfl⟩) (va_recv hK hP (ci := 2) (q0 := 4) rfl (zX_4 cy ad S_0)) hl.1 rfl rfl (Nat.le_of_ble_eq_true rfl) dX0_copyFrom_8 (fun H locs hP hS => ?_)
  refine lv_aload_n hx hb dX0_copyFrom_11 rfl (lv_at hl 0 rfl) ?_
  refine va_get (D := D) (ci := 0) (v := .ref (ad 11)) (C := RX0) (T := TX0) (N := 6) hx hb hts k0 hown hK hP 3 (zX_3 cy ad S_2) rfl 1 (by decide) k2 (fun _ h9 => h9) rfl dX0_copyFrom_12 ?_
  refine lv_aload_n hx hb dX0_copyFrom_15 rfl (lv_at hl 1 rfl) ?_
  refine va_get (D := D) (ci := 0) (v := .ref (ad 39)) (C := RX0) (T := TX0) (N := 6) hx hb hts k0 hown hK hP 31 (zX_31 cy ad S_2) rfl 1 (by decide) k2 (fun _ h9 => h9) rfl dX0_copyFrom_16 ?_
  obtain ⟨r_4, S_5, h_6, hf⟩ := z_bd hf
  refine z_cVV (As := [.ref (ad 39)]) (rest := []) X hK hE hD hA hP hS (cx_Times_copyFrom l D K cy ad 11 39 (z_T11) (z_T39) S_2 _ h_6) (cwV 1 hts (z_gV wt_5_77 wt_4_44 wt_4_45 wt_1_5 wt_4_46) rfl rfl rfl ⟨rfl, yd_yX10_copyFrom⟩ ⟨Nat.le_of_ble_eq_true rfl, Nat.le_of_ble_eq_true rfl⟩) (va_recv hK hP (ci := 10) (q0 := 11) rfl (zX_11 cy ad S_2)) hl.1 rfl rfl (Nat.le_of_ble_eq_true rfl) dX0_copyFrom_19 (fun H locs hP hS => ?_)
  refine lv_aload_n hx hb dX0_copyFrom_22 rfl (lv_at hl 1 rfl) ?_
  refine va_get (D := D) (ci := 0) (v := .ref (ad 47)) (C := RX0) (T := TX0) (N := 6) hx hb hts k0 hown hK hP 31 (zX_31 cy ad S_5) rfl 2 (by decide) k3 (fun _ h9 => h9) rfl dX0_copyFrom_23 ?_
  refine lv_iconst (v := 0) hx hb dX0_copyFrom_26 (by decide) ?_
  refine lv_aload_n hx hb dX0_copyFrom_27 rfl (lv_at hl 0 rfl) ?_
  refine va_get (D := D) (ci := 0) (v := .ref (ad 19)) (C := RX0) (T := TX0) (N := 6) hx hb hts k0 hown hK hP 3 (zX_3 cy ad S_5) rfl 2 (by decide) k3 (fun _ h9 => h9) rfl dX0_copyFrom_28 ?_
  refine lv_iconst (v := 0) hx hb dX0_copyFrom_31 (by decide) ?_
  refine lv_iconst (v := 4) hx hb dX0_copyFrom_32 (by decide) ?_
  refine z_copyi hx hb (by rw [hml]; exact hl.1.symm) hown k4 k5 k6 k7 hK hP (hD S_5) hS 47 19 0 (zX_47 cy ad S_5) (zX_19 cy ad S_5) rfl (by decide) (k := 4) (by decide) (by decide) (by decide) (Nat.le_of_ble_eq_true rfl) (Nat.le_of_ble_eq_true rfl) dX0_copyFrom_33 (fun H locs hP hS => ?_)
  obtain ⟨S_7, eS_7, hf⟩ := z_nm hf
  have hP := zW_cpyI hP eS_7 (by decide) rfl
  refine lv_aload_n hx hb dX0_copyFrom_36 rfl (lv_at hl 0 rfl) ?_
  refine va_get (D := D) (ci := 0) (v := .ref (ad 20)) (C := RX0) (T := TX0) (N := 6) hx hb hts k0 hown hK hP 3 (zX_3 cy ad S_7) rfl 3 (by decide) k8 (fun _ h9 => h9) rfl dX0_copyFrom_37 ?_
  refine lv_aload_n hx hb dX0_copyFrom_40 rfl (lv_at hl 1 rfl) ?_
  refine va_get (D := D) (ci := 0) (v := .ref (ad 48)) (C := RX0) (T := TX0) (N := 6) hx hb hts k0 hown hK hP 31 (zX_31 cy ad S_7) rfl 3 (by decide) k8 (fun _ h9 => h9) rfl dX0_copyFrom_41 ?_
  refine va_get (D := D) (ci := 6) (v := .ref (ad 49)) (C := RX6) (T := TX6) (N := 3) hx hb hts k9 hown hK hP 48 (zX_48 cy ad S_7) rfl 0 (by decide) k10 (fun _ h9 => h9) rfl dX0_copyFrom_44 ?_
  refine lv_aload_n hx hb dX0_copyFrom_47 rfl (lv_at hl 1 rfl) ?_
  refine va_get (D := D) (ci := 0) (v := .ref (ad 48)) (C := RX0) (T := TX0) (N := 6) hx hb hts k0 hown hK hP 31 (zX_31 cy ad S_7) rfl 3 (by decide) k8 (fun _ h9 => h9) rfl dX0_copyFrom_48 ?_
  refine va_get (D := D) (ci := 6) (v := .int (S_7.1 48 1)) (C := RX6) (T := TX6) (N := 3) hx hb hts k9 hown hK hP 48 (zX_48 cy ad S_7) rfl 1 (by decide) k11 (fun _ h9 => h9) rfl dX0_copyFrom_51 ?_
  refine lv_aload_n hx hb dX0_copyFrom_54 rfl (lv_at hl 1 rfl) ?_
  refine va_get (D := D) (ci := 0) (v := .ref (ad 48)) (C := RX0) (T := TX0) (N := 6) hx hb hts k0 hown hK hP 31 (zX_31 cy ad S_7) rfl 3 (by decide) k8 (fun _ h9 => h9) rfl dX0_copyFrom_55 ?_
  refine va_get (D := D) (ci := 6) (v := .int (S_7.1 48 2)) (C := RX6) (T := TX6) (N := 3) hx hb hts k9 hown hK hP 48 (zX_48 cy ad S_7) rfl 2 (by decide) k12 (fun _ h9 => h9) rfl dX0_copyFrom_58 ?_
  obtain ⟨r_8, S_9, h_10, hf⟩ := z_bd hf
  refine z_cVV (As := [.ref (ad 49), .int (S_7.1 48 1), .int (S_7.1 48 2)]) (rest := []) X hK hE hD hA hP hS (cx_Rule_take_nk l D K cy ad S_7 _ _ _ h_10) (cwV 3 hts (z_gV wt_5_79 wt_3_226 wt_3_227 wt_1_6 wt_3_228) rfl rfl rfl ⟨rfl, yd_yX6_take⟩ ⟨Nat.le_of_ble_eq_true rfl, Nat.le_of_ble_eq_true rfl⟩) (va_recv hK hP (ci := 6) (q0 := 20) rfl (zX_20 cy ad S_7)) hl.1 rfl rfl (Nat.le_of_ble_eq_true rfl) dX0_copyFrom_61 (fun H locs hP hS => ?_)
  refine lv_aload_n hx hb dX0_copyFrom_64 rfl (lv_at hl 0 rfl) ?_
  refine va_get (D := D) (ci := 0) (v := .ref (ad 22)) (C := RX0) (T := TX0) (N := 6) hx hb hts k0 hown hK hP 3 (zX_3 cy ad S_9) rfl 4 (by decide) k13 (fun _ h9 => h9) rfl dX0_copyFrom_65 ?_
  refine lv_aload_n hx hb dX0_copyFrom_68 rfl (lv_at hl 1 rfl) ?_
  refine va_get (D := D) (ci := 0) (v := .ref (ad 50)) (C := RX0) (T := TX0) (N := 6) hx hb hts k0 hown hK hP 31 (zX_31 cy ad S_9) rfl 4 (by decide) k13 (fun _ h9 => h9) rfl dX0_copyFrom_69 ?_
  obtain ⟨r_11, S_12, h_13, hf⟩ := z_bd hf
  refine z_cVV (As := [.ref (ad 50)]) (rest := []) X hK hE hD hA hP hS (cx_Leavens_copyFrom_nk l D K cy ad S_9 _ h_13) (cwV 1 hts (z_gV wt_5_80 wt_5_81 wt_5_82 wt_1_7 wt_5_83) rfl rfl rfl ⟨rfl, yd_yX3_copyFrom⟩ ⟨Nat.le_of_ble_eq_true rfl, Nat.le_of_ble_eq_true rfl⟩) (va_recv hK hP (ci := 3) (q0 := 22) rfl (zX_22 cy ad S_9)) hl.1 rfl rfl (Nat.le_of_ble_eq_true rfl) dX0_copyFrom_72 (fun H locs hP hS => ?_)
  refine lv_aload_n hx hb dX0_copyFrom_75 rfl (lv_at hl 1 rfl) ?_
  refine va_get (D := D) (ci := 0) (v := .ref (ad 57)) (C := RX0) (T := TX0) (N := 6) hx hb hts k0 hown hK hP 31 (zX_31 cy ad S_12) rfl 5 (by decide) k14 (fun _ h9 => h9) rfl dX0_copyFrom_76 ?_
  refine va_get (D := D) (ci := 5) (v := .ref (ad 58)) (C := RX5) (T := TX5) (N := 1) hx hb hts k15 hown hK hP 57 (zX_57 cy ad S_12) rfl 0 (by decide) k16 (fun _ h9 => h9) rfl dX0_copyFrom_79 ?_
  refine lv_iconst (v := 0) hx hb dX0_copyFrom_82 (by decide) ?_
  refine lv_aload_n hx hb dX0_copyFrom_83 rfl (lv_at hl 0 rfl) ?_
  refine va_get (D := D) (ci := 0) (v := .ref (ad 29)) (C := RX0) (T := TX0) (N := 6) hx hb hts k0 hown hK hP 3 (zX_3 cy ad S_12) rfl 5 (by decide) k14 (fun _ h9 => h9) rfl dX0_copyFrom_84 ?_
  refine va_get (D := D) (ci := 5) (v := .ref (ad 30)) (C := RX5) (T := TX5) (N := 1) hx hb hts k15 hown hK hP 29 (zX_29 cy ad S_12) rfl 0 (by decide) k16 (fun _ h9 => h9) rfl dX0_copyFrom_87 ?_
  refine lv_iconst (v := 0) hx hb dX0_copyFrom_90 (by decide) ?_
  refine lv_bipush (v := 64) hx hb dX0_copyFrom_91 (by decide) ?_
  refine z_copyi hx hb (by rw [hml]; exact hl.1.symm) hown k4 k5 k6 k7 hK hP (hD S_12) hS 58 30 0 (zX_58 cy ad S_12) (zX_30 cy ad S_12) rfl (by decide) (k := 64) (by decide) (by decide) (by decide) (Nat.le_of_ble_eq_true rfl) (Nat.le_of_ble_eq_true rfl) dX0_copyFrom_93 (fun H locs hP hS => ?_)
  obtain ⟨S_14, eS_14, hf⟩ := z_nm hf
  have hP := zW_cpyI hP eS_14 (by decide) rfl
  obtain ⟨h1, h2⟩ := z_s2 hf
  subst h2
  exact hret _ _ _ _ hP hS dX0_copyFrom_96
def fx_History_keep (S_0 : zSt) : Option (Unit × zSt) :=
  znm (fun (S_1 : zSt) =>
  zck (zix (((S_1.1 59 1) + (S_1.1 59 2)) - ((S_1.1 59 1) + (S_1.1 59 2)) / (8 : Int32) * (8 : Int32)) 8) <|
  znm ((((S_1.1 59 1) + (S_1.1 59 2)) - ((S_1.1 59 1) + (S_1.1 59 2)) / (8 : Int32) * (8 : Int32)).toNatClampNeg) fun t_3 =>
  zbd (fx_Times_copyFrom (61 + 8 * t_3) 11 S_1) fun _ S_5 =>
  znm (zpI S_5 59 2 ((S_5.1 59 2) + (1 : Int32))) fun S_7 =>
  some ((), S_7)) fun j_28 =>
  if (S_0.1 59 2) < (8 : Int32) then (
  j_28  S_0) else (
  znm (zpI S_0 59 1 (((S_0.1 59 1) + (1 : Int32)) - ((S_0.1 59 1) + (1 : Int32)) / (8 : Int32) * (8 : Int32))) fun S_8 =>
  znm (zpI S_8 59 2 (7 : Int32)) fun S_9 =>
  j_28  S_9)
set_option maxHeartbeats 4000000 in
set_option maxRecDepth 100000 in
theorem cx_History_keep (l : Launch) (D : va_G) (K : (Nat → Nat) × (Nat → Nat)) (cy : Nat → ClassId) (ad : Nat → Nat) (S_0 : zSt) (So : zSt) (hf : fx_History_keep S_0 = some ((), So)) : zMV l yX1_keep (zws yX1_keep cX1_keep 2 none) ({ frames := 2, cells := 0, slots := 0, locals := 221 }) D (zTy cy) K (zX cy ad) [.ref (ad 59), .ref (ad 11)] S_0 So := by
  refine z_metV (own := RX1) (lv := [(0, .ref (ad 59)), (1, .ref (ad 11))]) (by decide) rfl rfl (Nat.le_of_ble_eq_true rfl) rfl ?_
  intro p e s m below meth c A Q X hK hE hD hA hret hP hS ls hl
  obtain ⟨hx, hb, hml, hown, hts⟩ := id X
  have k0 := (fun w h => List.mem_cons_of_mem _ (zFX1 w h) : ∀ w ∈ u_ws RX1 TX1 3, w ∈ zws yX1_keep cX1_keep 2 none)
  have k1 := hts _ (List.mem_cons_of_mem _ wt_2_33)
  have k2 := hts _ (List.mem_cons_of_mem _ wt_2_31)
  have k3 := hts _ (List.mem_cons_of_mem _ wt_2_32)
  refine lv_aload_n hx hb dX1_keep_0 rfl (lv_at hl 0 rfl) ?_
  refine va_get (D := D) (ci := 1) (v := .int (S_0.1 59 2)) (C := RX1) (T := TX1) (N := 3) hx hb hts k0 hown hK hP 59 (zX_59 cy ad S_0) rfl 2 (by decide) k1 (fun _ h9 => h9) rfl dX1_keep_1 ?_
  refine lv_bipush (v := 8) hx hb dX1_keep_4 (by decide) ?_
  obtain ⟨j_28, ej_28, hf⟩ := z_nm hf
  have J_28 : ∀ (S_1 : zSt) (H : Heap) (locs : List Loc) (ls : Array Slot), j_28  S_1 = some ((), So) → va_P D vwCl (zX cy ad S_1) H → va_S A s.heap H locs → lv_has ls 2 [(0, .ref (ad 59)), (1, .ref (ad 11))] → W p l e ({ frames := 2, cells := 0, slots := 0, locals := 221 }) s m ([.ref (ad 59), .ref (ad 11)] : List Value).toArray below meth c H locs 0 0 Q (F0 m 28 ls []) := by
    intro  S_1 H locs ls hf hP hS hl
    have hf := z_e1 ej_28 hf
    refine lv_aload_n hx hb dX1_keep_28 rfl (lv_at hl 0 rfl) ?_
    refine va_get (D := D) (ci := 1) (v := .ref (ad 60)) (C := RX1) (T := TX1) (N := 3) hx hb hts k0 hown hK hP 59 (zX_59 cy ad S_1) rfl 0 (by decide) k2 (fun _ h9 => h9) rfl dX1_keep_29 ?_
    refine lv_aload_n hx hb dX1_keep_32 rfl (lv_at hl 0 rfl) ?_
    refine va_get (D := D) (ci := 1) (v := .int (S_1.1 59 1)) (C := RX1) (T := TX1) (N := 3) hx hb hts k0 hown hK hP 59 (zX_59 cy ad S_1) rfl 1 (by decide) k3 (fun _ h9 => h9) rfl dX1_keep_33 ?_
    refine lv_aload_n hx hb dX1_keep_36 rfl (lv_at hl 0 rfl) ?_
    refine va_get (D := D) (ci := 1) (v := .int (S_1.1 59 2)) (C := RX1) (T := TX1) (N := 3) hx hb hts k0 hown hK hP 59 (zX_59 cy ad S_1) rfl 2 (by decide) k1 (fun _ h9 => h9) rfl dX1_keep_37 ?_
    refine lv_iadd hx hb dX1_keep_40 ?_
    refine lv_bipush (v := 8) hx hb dX1_keep_41 (by decide) ?_
    refine lv_irem hx hb dX1_keep_43 (by decide) ?_
    obtain ⟨h_2, hf⟩ := z_ix hf
    refine va_aldq hx hb hK hP 60 3 (zX_60 cy ad S_1) rfl h_2 dX1_keep_44 ?_
    obtain ⟨t_3, et_3, hf⟩ := z_nm hf
    have hlt_3 : t_3 < 8 := by rw [et_3]; exact z_ixlt h_2
    rw [← et_3]
    have hrt_3 : va_rf (if t_3 < 8 then some (ad (61 + 8 * t_3)) else none) = .ref (ad (61 + 8 * t_3)) := by rw [if_pos hlt_3]; rfl
    rw [hrt_3]
    have htt_3 : zIsT (61 + 8 * t_3) := z_isT hlt_3
    refine lv_aload_n hx hb dX1_keep_45 rfl (lv_at hl 1 rfl) ?_
    obtain ⟨r_4, S_5, h_6, hf⟩ := z_bd hf
    refine z_cVV (As := [.ref (ad 11)]) (rest := []) X hK hE hD hA hP hS (cx_Times_copyFrom l D K cy ad (61 + 8 * t_3) 11 htt_3 (z_T11) S_1 _ h_6) (cwV 1 hts (z_gV wt_4_43 wt_4_44 wt_4_45 wt_1_5 wt_4_46) rfl rfl rfl ⟨rfl, yd_yX10_copyFrom⟩ ⟨Nat.le_of_ble_eq_true rfl, Nat.le_of_ble_eq_true rfl⟩) (va_recv hK hP (ci := 10) (q0 := (61 + 8 * t_3)) rfl (zXT_o cy ad S_1 htt_3)) hl.1 rfl rfl (Nat.le_of_ble_eq_true rfl) dX1_keep_46 (fun H locs hP hS => ?_)
    refine lv_aload_n hx hb dX1_keep_49 rfl (lv_at hl 0 rfl) ?_
    refine lv_dup hx hb dX1_keep_50 rfl ?_
    refine va_get (D := D) (ci := 1) (v := .int (S_5.1 59 2)) (C := RX1) (T := TX1) (N := 3) hx hb hts k0 hown hK hP 59 (zX_59 cy ad S_5) rfl 2 (by decide) k1 (fun _ h9 => h9) rfl dX1_keep_51 ?_
    refine lv_iconst (v := 1) hx hb dX1_keep_54 (by decide) ?_
    refine lv_iadd hx hb dX1_keep_55 ?_
    refine va_put (D := D) (ci := 1) (v := .int ((S_5.1 59 2) + (1 : Int32))) (ty := .int) (C := RX1) (T := TX1) (N := 3) hx hb hts k0 tyX1 tyX1_ok nmX1 hown hK hP (hD S_5) hS 59 (zX_59 cy ad S_5) rfl 2 (by decide) k1 (fun _ h9 => h9) rfl (tyX1_ok 2 (by decide)) rfl rfl (Nat.le_of_ble_eq_true rfl) dX1_keep_56 (fun H locs hP _ hS => ?_)
    obtain ⟨S_7, eS_7, hf⟩ := z_nm hf
    have hP := zW_putI hP eS_7 (by decide) rfl
    obtain ⟨h1, h2⟩ := z_s2 hf
    subst h2
    exact hret _ _ _ _ hP hS dX1_keep_59
  refine lv_icmp_lt (tgt := 28) hx hb dX1_keep_6 (by decide) (fun c_10 => ?_) (fun c_10 => ?_)
  · have hf := z_it c_10 hf
    exact J_28  S_0 _ _ _ hf hP hS (lv_sub hl [0, 1] rfl)
  · have hf := z_if c_10 hf
    refine lv_aload_n hx hb dX1_keep_9 rfl (lv_at hl 0 rfl) ?_
    refine lv_aload_n hx hb dX1_keep_10 rfl (lv_at hl 0 rfl) ?_
    refine va_get (D := D) (ci := 1) (v := .int (S_0.1 59 1)) (C := RX1) (T := TX1) (N := 3) hx hb hts k0 hown hK hP 59 (zX_59 cy ad S_0) rfl 1 (by decide) k3 (fun _ h9 => h9) rfl dX1_keep_11 ?_
    refine lv_iconst (v := 1) hx hb dX1_keep_14 (by decide) ?_
    refine lv_iadd hx hb dX1_keep_15 ?_
    refine lv_bipush (v := 8) hx hb dX1_keep_16 (by decide) ?_
    refine lv_irem hx hb dX1_keep_18 (by decide) ?_
    refine va_put (D := D) (ci := 1) (v := .int (((S_0.1 59 1) + (1 : Int32)) - ((S_0.1 59 1) + (1 : Int32)) / (8 : Int32) * (8 : Int32))) (ty := .int) (C := RX1) (T := TX1) (N := 3) hx hb hts k0 tyX1 tyX1_ok nmX1 hown hK hP (hD S_0) hS 59 (zX_59 cy ad S_0) rfl 1 (by decide) k3 (fun _ h9 => h9) rfl (tyX1_ok 1 (by decide)) rfl rfl (Nat.le_of_ble_eq_true rfl) dX1_keep_19 (fun H locs hP _ hS => ?_)
    obtain ⟨S_8, eS_8, hf⟩ := z_nm hf
    have hP := zW_putI hP eS_8 (by decide) rfl
    refine lv_aload_n hx hb dX1_keep_22 rfl (lv_at hl 0 rfl) ?_
    refine lv_bipush (v := 7) hx hb dX1_keep_23 (by decide) ?_
    refine va_put (D := D) (ci := 1) (v := .int (7 : Int32)) (ty := .int) (C := RX1) (T := TX1) (N := 3) hx hb hts k0 tyX1 tyX1_ok nmX1 hown hK hP (hD S_8) hS 59 (zX_59 cy ad S_8) rfl 2 (by decide) k1 (fun _ h9 => h9) rfl (tyX1_ok 2 (by decide)) rfl rfl (Nat.le_of_ble_eq_true rfl) dX1_keep_25 (fun H locs hP _ hS => ?_)
    obtain ⟨S_9, eS_9, hf⟩ := z_nm hf
    have hP := zW_putI hP eS_9 (by decide) rfl
    exact J_28  S_9 _ _ _ hf hP hS (lv_sub hl [0, 1] rfl)
def fx_History_bringBack (S_0 : zSt) : Option (Int32 × zSt) :=
  if 0 < (S_0.1 59 2) then (
  znm (zpI S_0 59 2 ((S_0.1 59 2) - (1 : Int32))) fun S_1 =>
  zck (zix (((S_1.1 59 1) + (S_1.1 59 2)) - ((S_1.1 59 1) + (S_1.1 59 2)) / (8 : Int32) * (8 : Int32)) 8) <|
  znm ((((S_1.1 59 1) + (S_1.1 59 2)) - ((S_1.1 59 1) + (S_1.1 59 2)) / (8 : Int32) * (8 : Int32)).toNatClampNeg) fun t_3 =>
  zbd (fx_Times_copyFrom 11 (61 + 8 * t_3) S_1) fun _ S_5 =>
  some ((1 : Int32), S_5)) else (
  some ((0 : Int32), S_0))
set_option maxHeartbeats 4000000 in
set_option maxRecDepth 100000 in
theorem cx_History_bringBack (l : Launch) (D : va_G) (K : (Nat → Nat) × (Nat → Nat)) (cy : Nat → ClassId) (ad : Nat → Nat) (S_0 : zSt) (ro : Int32) (So : zSt) (hf : fx_History_bringBack S_0 = some (ro, So)) : zMI l yX1_bringBack (zws yX1_bringBack cX1_bringBack 2 (Option.some .boolean)) ({ frames := 2, cells := 0, slots := 0, locals := 221 }) D (zTy cy) K (zX cy ad) [.ref (ad 59), .ref (ad 11)] S_0 ro So := by
  refine z_metZ (own := RX1) (lv := [(0, .ref (ad 59)), (1, .ref (ad 11))]) (by decide) rfl rfl (Nat.le_of_ble_eq_true rfl) rfl ?_
  intro p e s m below meth c A Q X hK hE hD hA hret hP hS ls hl
  obtain ⟨hx, hb, hml, hown, hts⟩ := id X
  have k0 := (fun w h => List.mem_cons_of_mem _ (zFX1 w h) : ∀ w ∈ u_ws RX1 TX1 3, w ∈ zws yX1_bringBack cX1_bringBack 2 (Option.some .boolean))
  have k1 := hts _ (List.mem_cons_of_mem _ wt_2_33)
  have k2 := hts _ (List.mem_cons_of_mem _ wt_2_31)
  have k3 := hts _ (List.mem_cons_of_mem _ wt_2_32)
  refine lv_aload_n hx hb dX1_bringBack_0 rfl (lv_at hl 0 rfl) ?_
  refine va_get (D := D) (ci := 1) (v := .int (S_0.1 59 2)) (C := RX1) (T := TX1) (N := 3) hx hb hts k0 hown hK hP 59 (zX_59 cy ad S_0) rfl 2 (by decide) k1 (fun _ h9 => h9) rfl dX1_bringBack_1 ?_
  refine lv_if_gt (tgt := 9) hx hb dX1_bringBack_4 (by decide) (fun c_7 => ?_) (fun c_7 => ?_)
  · have hf := z_it c_7 hf
    refine lv_aload_n hx hb dX1_bringBack_9 rfl (lv_at hl 0 rfl) ?_
    refine lv_dup hx hb dX1_bringBack_10 rfl ?_
    refine va_get (D := D) (ci := 1) (v := .int (S_0.1 59 2)) (C := RX1) (T := TX1) (N := 3) hx hb hts k0 hown hK hP 59 (zX_59 cy ad S_0) rfl 2 (by decide) k1 (fun _ h9 => h9) rfl dX1_bringBack_11 ?_
    refine lv_iconst (v := 1) hx hb dX1_bringBack_14 (by decide) ?_
    refine lv_isub hx hb dX1_bringBack_15 ?_
    refine va_put (D := D) (ci := 1) (v := .int ((S_0.1 59 2) - (1 : Int32))) (ty := .int) (C := RX1) (T := TX1) (N := 3) hx hb hts k0 tyX1 tyX1_ok nmX1 hown hK hP (hD S_0) hS 59 (zX_59 cy ad S_0) rfl 2 (by decide) k1 (fun _ h9 => h9) rfl (tyX1_ok 2 (by decide)) rfl rfl (Nat.le_of_ble_eq_true rfl) dX1_bringBack_16 (fun H locs hP _ hS => ?_)
    obtain ⟨S_1, eS_1, hf⟩ := z_nm hf
    have hP := zW_putI hP eS_1 (by decide) rfl
    refine lv_aload_n hx hb dX1_bringBack_19 rfl (lv_at hl 1 rfl) ?_
    refine lv_aload_n hx hb dX1_bringBack_20 rfl (lv_at hl 0 rfl) ?_
    refine va_get (D := D) (ci := 1) (v := .ref (ad 60)) (C := RX1) (T := TX1) (N := 3) hx hb hts k0 hown hK hP 59 (zX_59 cy ad S_1) rfl 0 (by decide) k2 (fun _ h9 => h9) rfl dX1_bringBack_21 ?_
    refine lv_aload_n hx hb dX1_bringBack_24 rfl (lv_at hl 0 rfl) ?_
    refine va_get (D := D) (ci := 1) (v := .int (S_1.1 59 1)) (C := RX1) (T := TX1) (N := 3) hx hb hts k0 hown hK hP 59 (zX_59 cy ad S_1) rfl 1 (by decide) k3 (fun _ h9 => h9) rfl dX1_bringBack_25 ?_
    refine lv_aload_n hx hb dX1_bringBack_28 rfl (lv_at hl 0 rfl) ?_
    refine va_get (D := D) (ci := 1) (v := .int (S_1.1 59 2)) (C := RX1) (T := TX1) (N := 3) hx hb hts k0 hown hK hP 59 (zX_59 cy ad S_1) rfl 2 (by decide) k1 (fun _ h9 => h9) rfl dX1_bringBack_29 ?_
    refine lv_iadd hx hb dX1_bringBack_32 ?_
    refine lv_bipush (v := 8) hx hb dX1_bringBack_33 (by decide) ?_
    refine lv_irem hx hb dX1_bringBack_35 (by decide) ?_
    obtain ⟨h_2, hf⟩ := z_ix hf
    refine va_aldq hx hb hK hP 60 3 (zX_60 cy ad S_1) rfl h_2 dX1_bringBack_36 ?_
    obtain ⟨t_3, et_3, hf⟩ := z_nm hf
    have hlt_3 : t_3 < 8 := by rw [et_3]; exact z_ixlt h_2
    rw [← et_3]
    have hrt_3 : va_rf (if t_3 < 8 then some (ad (61 + 8 * t_3)) else none) = .ref (ad (61 + 8 * t_3)) := by rw [if_pos hlt_3]; rfl
    rw [hrt_3]
    have htt_3 : zIsT (61 + 8 * t_3) := z_isT hlt_3
    obtain ⟨r_4, S_5, h_6, hf⟩ := z_bd hf
    refine z_cVV (As := [.ref (ad (61 + 8 * t_3))]) (rest := []) X hK hE hD hA hP hS (cx_Times_copyFrom l D K cy ad 11 (61 + 8 * t_3) (z_T11) htt_3 S_1 _ h_6) (cwV 1 hts (z_gV wt_4_43 wt_4_44 wt_4_45 wt_1_5 wt_4_46) rfl rfl rfl ⟨rfl, yd_yX10_copyFrom⟩ ⟨Nat.le_of_ble_eq_true rfl, Nat.le_of_ble_eq_true rfl⟩) (va_recv hK hP (ci := 10) (q0 := 11) rfl (zX_11 cy ad S_1)) hl.1 rfl rfl (Nat.le_of_ble_eq_true rfl) dX1_bringBack_37 (fun H locs hP hS => ?_)
    refine lv_iconst (v := 1) hx hb dX1_bringBack_40 (by decide) ?_
    obtain ⟨h1, h2⟩ := z_s2 hf
    subst h1 h2
    exact hret _ _ _ _ rfl hP hS dX1_bringBack_41
  · have hf := z_if c_7 hf
    refine lv_iconst (v := 0) hx hb dX1_bringBack_7 (by decide) ?_
    obtain ⟨h1, h2⟩ := z_s2 hf
    subst h1 h2
    exact hret _ _ _ _ rfl hP hS dX1_bringBack_8
def fx_History_forget (S_0 : zSt) : Option (Unit × zSt) :=
  znm (zpI S_0 59 2 (0 : Int32)) fun S_1 =>
  some ((), S_1)
set_option maxHeartbeats 4000000 in
set_option maxRecDepth 100000 in
theorem cx_History_forget (l : Launch) (D : va_G) (K : (Nat → Nat) × (Nat → Nat)) (cy : Nat → ClassId) (ad : Nat → Nat) (S_0 : zSt) (So : zSt) (hf : fx_History_forget S_0 = some ((), So)) : zMV l yX1_forget (zws yX1_forget cX1_forget 1 none) ({ frames := 0, cells := 0, slots := 0, locals := 0 }) D (zTy cy) K (zX cy ad) [.ref (ad 59)] S_0 So := by
  refine z_metV (own := RX1) (lv := [(0, .ref (ad 59))]) (by decide) rfl rfl (Nat.le_of_ble_eq_true rfl) rfl ?_
  intro p e s m below meth c A Q X hK hE hD hA hret hP hS ls hl
  obtain ⟨hx, hb, hml, hown, hts⟩ := id X
  have k0 := (fun w h => List.mem_cons_of_mem _ (zFX1 w h) : ∀ w ∈ u_ws RX1 TX1 3, w ∈ zws yX1_forget cX1_forget 1 none)
  have k1 := hts _ (List.mem_cons_of_mem _ wt_2_33)
  refine lv_aload_n hx hb dX1_forget_0 rfl (lv_at hl 0 rfl) ?_
  refine lv_iconst (v := 0) hx hb dX1_forget_1 (by decide) ?_
  refine va_put (D := D) (ci := 1) (v := .int (0 : Int32)) (ty := .int) (C := RX1) (T := TX1) (N := 3) hx hb hts k0 tyX1 tyX1_ok nmX1 hown hK hP (hD S_0) hS 59 (zX_59 cy ad S_0) rfl 2 (by decide) k1 (fun _ h9 => h9) rfl (tyX1_ok 2 (by decide)) rfl rfl (Nat.le_of_ble_eq_true rfl) dX1_forget_2 (fun H locs hP _ hS => ?_)
  obtain ⟨S_1, eS_1, hf⟩ := z_nm hf
  have hP := zW_putI hP eS_1 (by decide) rfl
  obtain ⟨h1, h2⟩ := z_s2 hf
  subst h2
  exact hret _ _ _ _ hP hS dX1_forget_5
def fx_Houses_has (S_0 : zSt) (a_1 : Int32) : Option (Int32 × zSt) :=
  znm (fun (x_1 : Int32) (S_2 : zSt) =>
  zck (zbo x_1) <|
  some (x_1, S_2)) fun j_17 =>
  znm (fun (S_4 : zSt) =>
  j_17 (0 : Int32) S_4) fun j_16 =>
  if a_1 < 0 then (
  j_16  S_0) else (
  if (S_0.1 4 0) ≤ a_1 then (
  j_16  S_0) else (
  j_17 (1 : Int32) S_0))
set_option maxHeartbeats 4000000 in
set_option maxRecDepth 100000 in
theorem cx_Houses_has (l : Launch) (D : va_G) (K : (Nat → Nat) × (Nat → Nat)) (cy : Nat → ClassId) (ad : Nat → Nat) (S_0 : zSt) (a_1 : Int32) (ro : Int32) (So : zSt) (hf : fx_Houses_has S_0 a_1 = some (ro, So)) : zMI l yX2_has (zws yX2_has cX2_has 2 (Option.some .boolean)) ({ frames := 0, cells := 0, slots := 0, locals := 0 }) D (zTy cy) K (zX cy ad) [.ref (ad 4), .int a_1] S_0 ro So := by
  refine z_metZ (own := RX2) (lv := [(0, .ref (ad 4)), (1, .int a_1)]) (by decide) rfl rfl (Nat.le_of_ble_eq_true rfl) rfl ?_
  intro p e s m below meth c A Q X hK hE hD hA hret hP hS ls hl
  obtain ⟨hx, hb, hml, hown, hts⟩ := id X
  have k0 := (fun w h => List.mem_cons_of_mem _ (zFX2 w h) : ∀ w ∈ u_ws RX2 TX2 7, w ∈ zws yX2_has cX2_has 2 (Option.some .boolean))
  have k1 := hts _ (List.mem_cons_of_mem _ wt_1_64)
  refine lv_iload_n hx hb dX2_has_0 rfl (lv_at hl 1 rfl) ?_
  obtain ⟨j_17, ej_17, hf⟩ := z_nm hf
  have J_17 : ∀ (x_1 : Int32) (S_2 : zSt) (H : Heap) (locs : List Loc) (ls : Array Slot), j_17 x_1 S_2 = some (ro, So) → va_P D vwCl (zX cy ad S_2) H → va_S A s.heap H locs → lv_has ls 2 [] → W p l e ({ frames := 0, cells := 0, slots := 0, locals := 0 }) s m ([.ref (ad 4), .int a_1] : List Value).toArray below meth c H locs 0 0 Q (F0 m 17 ls [.int x_1]) := by
    intro x_1 S_2 H locs ls hf hP hS hl
    have hf := z_e2 ej_17 hf
    obtain ⟨h_3, hf⟩ := z_bo hf
    obtain ⟨h1, h2⟩ := z_s2 hf
    subst h1 h2
    exact hret _ _ _ _ h_3 hP hS dX2_has_17
  obtain ⟨j_16, ej_16, hf⟩ := z_nm hf
  have J_16 : ∀ (S_4 : zSt) (H : Heap) (locs : List Loc) (ls : Array Slot), j_16  S_4 = some (ro, So) → va_P D vwCl (zX cy ad S_4) H → va_S A s.heap H locs → lv_has ls 2 [] → W p l e ({ frames := 0, cells := 0, slots := 0, locals := 0 }) s m ([.ref (ad 4), .int a_1] : List Value).toArray below meth c H locs 0 0 Q (F0 m 16 ls []) := by
    intro  S_4 H locs ls hf hP hS hl
    have hf := z_e1 ej_16 hf
    refine lv_iconst (v := 0) hx hb dX2_has_16 (by decide) ?_
    exact J_17 (0 : Int32) S_4 _ _ _ hf hP hS (lv_sub hl [] rfl)
  refine lv_if_lt (tgt := 16) hx hb dX2_has_1 (by decide) (fun c_6 => ?_) (fun c_6 => ?_)
  · have hf := z_it c_6 hf
    exact J_16  S_0 _ _ _ hf hP hS (lv_sub hl [] rfl)
  · have hf := z_if c_6 hf
    refine lv_iload_n hx hb dX2_has_4 rfl (lv_at hl 1 rfl) ?_
    refine lv_aload_n hx hb dX2_has_5 rfl (lv_at hl 0 rfl) ?_
    refine va_get (D := D) (ci := 2) (v := .int (S_0.1 4 0)) (C := RX2) (T := TX2) (N := 7) hx hb hts k0 hown hK hP 4 (zX_4 cy ad S_0) rfl 0 (by decide) k1 (fun _ h9 => h9) rfl dX2_has_6 ?_
    refine lv_icmp_ge (tgt := 16) hx hb dX2_has_9 (by decide) (fun c_5 => ?_) (fun c_5 => ?_)
    · have hf := z_it c_5 hf
      exact J_16  S_0 _ _ _ hf hP hS (lv_sub hl [] rfl)
    · have hf := z_if c_5 hf
      refine lv_iconst (v := 1) hx hb dX2_has_12 (by decide) ?_
      refine lv_goto (tgt := 17) hx hb dX2_has_13 (by decide) ?_
      exact J_17 (1 : Int32) S_0 _ _ _ hf hP hS (lv_sub hl [] rfl)
def fx_Tape_letterAt (S_0 : zSt) (a_1 : Int32) : Option (Int32 × zSt) :=
  zck (zix a_1 400) <|
  some ((S_0.1 2 (a_1.toNatClampNeg)) - (97 : Int32), S_0)
set_option maxHeartbeats 4000000 in
set_option maxRecDepth 100000 in
theorem cx_Tape_letterAt (l : Launch) (D : va_G) (K : (Nat → Nat) × (Nat → Nat)) (cy : Nat → ClassId) (ad : Nat → Nat) (S_0 : zSt) (a_1 : Int32) (ro : Int32) (So : zSt) (hf : fx_Tape_letterAt S_0 a_1 = some (ro, So)) : zMI l yX9_letterAt (zws yX9_letterAt cX9_letterAt 2 (Option.some .int)) ({ frames := 0, cells := 0, slots := 0, locals := 0 }) D (zTy cy) K (zX cy ad) [.ref (ad 1), .int a_1] S_0 ro So := by
  refine z_metI (own := RX9) (lv := [(0, .ref (ad 1)), (1, .int a_1)]) (by decide) rfl rfl (Nat.le_of_ble_eq_true rfl) rfl ?_
  intro p e s m below meth c A Q X hK hE hD hA hret hP hS ls hl
  obtain ⟨hx, hb, hml, hown, hts⟩ := id X
  have k0 := (fun w h => List.mem_cons_of_mem _ (zFX9 w h) : ∀ w ∈ u_ws RX9 TX9 2, w ∈ zws yX9_letterAt cX9_letterAt 2 (Option.some .int))
  have k1 := hts _ (List.mem_cons_of_mem _ wt_1_37)
  refine lv_aload_n hx hb dX9_letterAt_0 rfl (lv_at hl 0 rfl) ?_
  refine va_get (D := D) (ci := 9) (v := .ref (ad 2)) (C := RX9) (T := TX9) (N := 2) hx hb hts k0 hown hK hP 1 (zX_1 cy ad S_0) rfl 0 (by decide) k1 (fun _ h9 => h9) rfl dX9_letterAt_1 ?_
  refine lv_iload_n hx hb dX9_letterAt_4 rfl (lv_at hl 1 rfl) ?_
  obtain ⟨h_1, hf⟩ := z_ix hf
  refine z_iald hx hb hK hP 2 0 (zX_2 cy ad S_0) rfl h_1 (k := (a_1.toNatClampNeg)) rfl dX9_letterAt_5 ?_
  refine lv_bipush (v := 97) hx hb dX9_letterAt_6 (by decide) ?_
  refine lv_isub hx hb dX9_letterAt_8 ?_
  obtain ⟨h1, h2⟩ := z_s2 hf
  subst h1 h2
  exact hret _ _ _ _ hP hS dX9_letterAt_9
def fx_Houses_add_L67 (j_104 : zSt → Option (Int32 × zSt)) : Nat → Int32 → zSt → Option (Int32 × zSt)
  | 0, _, _ => none
  | n_67 + 1, x_12, S_13 =>
    if (S_13.1 1 1) ≤ x_12 then (
    j_104  S_13) else (
    zbd (fx_Tape_letterAt S_13 x_12) fun r_14 S_15 =>
    zck (zix (((S_13.1 4 0) * (5 : Int32)) + x_12) 45) <|
    znm (zpI S_15 8 ((((S_13.1 4 0) * (5 : Int32)) + x_12).toNatClampNeg) r_14) fun S_18 =>
    znm (x_12 + (1 : Int32)) fun x_19 =>
    fx_Houses_add_L67 j_104 n_67 x_19 S_18)
def fx_Houses_add (S_0 : zSt) (a_1 : Int32) (a_2 : Int32) (a_3 : Int32) : Option (Int32 × zSt) :=
  znm (fun (S_1 : zSt) =>
  some ((-1 : Int32), S_1)) fun j_18 =>
  if (9 : Int32) ≤ (S_0.1 4 0) then (
  j_18  S_0) else (
  if (S_0.1 1 1) ≤ (5 : Int32) then (
  zck (zix (S_0.1 4 0) 9) <|
  znm (zpI S_0 5 ((S_0.1 4 0).toNatClampNeg) a_1) fun S_3 =>
  zck (zix (S_3.1 4 0) 9) <|
  znm (zpI S_3 6 ((S_3.1 4 0).toNatClampNeg) a_2) fun S_5 =>
  zck (zix (S_5.1 4 0) 9) <|
  znm (zpI S_5 7 ((S_5.1 4 0).toNatClampNeg) a_3) fun S_7 =>
  zck (zix (S_7.1 4 0) 9) <|
  znm (zpI S_7 9 ((S_7.1 4 0).toNatClampNeg) (S_7.1 1 1)) fun S_9 =>
  znm (fun (S_10 : zSt) =>
  znm (zpI S_10 4 0 ((S_10.1 4 0) + (1 : Int32))) fun S_11 =>
  some ((S_11.1 4 0) - (1 : Int32), S_11)) fun j_104 =>
  fx_Houses_add_L67 j_104 zFU (0 : Int32) S_9) else (
  j_18  S_0))
set_option maxHeartbeats 4000000 in
set_option maxRecDepth 100000 in
theorem cx_Houses_add (l : Launch) (D : va_G) (K : (Nat → Nat) × (Nat → Nat)) (cy : Nat → ClassId) (ad : Nat → Nat) (S_0 : zSt) (a_1 : Int32) (a_2 : Int32) (a_3 : Int32) (ro : Int32) (So : zSt) (hf : fx_Houses_add S_0 a_1 a_2 a_3 = some (ro, So)) : zMI l yX2_add (zws yX2_add cX2_add 6 (Option.some .int)) ({ frames := 1, cells := 0, slots := 0, locals := 21 }) D (zTy cy) K (zX cy ad) [.ref (ad 4), .int a_1, .int a_2, .int a_3, .ref (ad 1)] S_0 ro So := by
  refine z_metI (own := RX2) (lv := [(0, .ref (ad 4)), (1, .int a_1), (2, .int a_2), (3, .int a_3), (4, .ref (ad 1))]) (by decide) rfl rfl (Nat.le_of_ble_eq_true rfl) rfl ?_
  intro p e s m below meth c A Q X hK hE hD hA hret hP hS ls hl
  obtain ⟨hx, hb, hml, hown, hts⟩ := id X
  have k0 := (fun w h => List.mem_cons_of_mem _ (zFX2 w h) : ∀ w ∈ u_ws RX2 TX2 7, w ∈ zws yX2_add cX2_add 6 (Option.some .int))
  have k1 := hts _ (List.mem_cons_of_mem _ wt_1_64)
  have k2 := (fun w h => List.mem_cons_of_mem _ (zFX9 w h) : ∀ w ∈ u_ws RX9 TX9 2, w ∈ zws yX2_add cX2_add 6 (Option.some .int))
  have k3 := hts _ (List.mem_cons_of_mem _ wt_1_45)
  have k4 := hts _ (List.mem_cons_of_mem _ wt_1_69)
  have k5 := hts _ (List.mem_cons_of_mem _ wt_1_72)
  have k6 := hts _ (List.mem_cons_of_mem _ wt_1_75)
  have k7 := hts _ (List.mem_cons_of_mem _ wt_1_79)
  have k8 := hts _ (List.mem_cons_of_mem _ wt_1_78)
  refine lv_aload_n hx hb dX2_add_0 rfl (lv_at hl 0 rfl) ?_
  refine va_get (D := D) (ci := 2) (v := .int (S_0.1 4 0)) (C := RX2) (T := TX2) (N := 7) hx hb hts k0 hown hK hP 4 (zX_4 cy ad S_0) rfl 0 (by decide) k1 (fun _ h9 => h9) rfl dX2_add_1 ?_
  refine lv_bipush (v := 9) hx hb dX2_add_4 (by decide) ?_
  obtain ⟨j_18, ej_18, hf⟩ := z_nm hf
  have J_18 : ∀ (S_1 : zSt) (H : Heap) (locs : List Loc) (ls : Array Slot), j_18  S_1 = some (ro, So) → va_P D vwCl (zX cy ad S_1) H → va_S A s.heap H locs → lv_has ls 6 [] → W p l e ({ frames := 1, cells := 0, slots := 0, locals := 21 }) s m ([.ref (ad 4), .int a_1, .int a_2, .int a_3, .ref (ad 1)] : List Value).toArray below meth c H locs 0 0 Q (F0 m 18 ls []) := by
    intro  S_1 H locs ls hf hP hS hl
    have hf := z_e1 ej_18 hf
    refine lv_iconst (v := -1) hx hb dX2_add_18 (by decide) ?_
    obtain ⟨h1, h2⟩ := z_s2 hf
    subst h1 h2
    exact hret _ _ _ _ hP hS dX2_add_19
  refine lv_icmp_ge (tgt := 18) hx hb dX2_add_6 (by decide) (fun c_22 => ?_) (fun c_22 => ?_)
  · have hf := z_it c_22 hf
    exact J_18  S_0 _ _ _ hf hP hS (lv_sub hl [] rfl)
  · have hf := z_if c_22 hf
    refine lv_aload hx hb dX2_add_9 (lv_at hl 4 rfl) ?_
    refine va_get (D := D) (ci := 9) (v := .int (S_0.1 1 1)) (C := RX9) (T := TX9) (N := 2) hx hb hts k2 hown hK hP 1 (zX_1 cy ad S_0) rfl 1 (by decide) k3 (fun _ h9 => h9) rfl dX2_add_11 ?_
    refine lv_iconst (v := 5) hx hb dX2_add_14 (by decide) ?_
    refine lv_icmp_le (tgt := 20) hx hb dX2_add_15 (by decide) (fun c_21 => ?_) (fun c_21 => ?_)
    · have hf := z_it c_21 hf
      refine lv_aload_n hx hb dX2_add_20 rfl (lv_at hl 0 rfl) ?_
      refine va_get (D := D) (ci := 2) (v := .ref (ad 5)) (C := RX2) (T := TX2) (N := 7) hx hb hts k0 hown hK hP 4 (zX_4 cy ad S_0) rfl 1 (by decide) k4 (fun _ h9 => h9) rfl dX2_add_21 ?_
      refine lv_aload_n hx hb dX2_add_24 rfl (lv_at hl 0 rfl) ?_
      refine va_get (D := D) (ci := 2) (v := .int (S_0.1 4 0)) (C := RX2) (T := TX2) (N := 7) hx hb hts k0 hown hK hP 4 (zX_4 cy ad S_0) rfl 0 (by decide) k1 (fun _ h9 => h9) rfl dX2_add_25 ?_
      refine lv_iload_n hx hb dX2_add_28 rfl (lv_at hl 1 rfl) ?_
      obtain ⟨h_2, hf⟩ := z_ix hf
      refine z_iast hx hb hK hP (hD S_0) hS 5 0 (zX_5 cy ad S_0) rfl h_2 (k := ((S_0.1 4 0).toNatClampNeg)) rfl dX2_add_29 (fun H locs hP hS => ?_)
      obtain ⟨S_3, eS_3, hf⟩ := z_nm hf
      have hP := zW_putI hP eS_3 (by decide) rfl
      refine lv_aload_n hx hb dX2_add_30 rfl (lv_at hl 0 rfl) ?_
      refine va_get (D := D) (ci := 2) (v := .ref (ad 6)) (C := RX2) (T := TX2) (N := 7) hx hb hts k0 hown hK hP 4 (zX_4 cy ad S_3) rfl 2 (by decide) k5 (fun _ h9 => h9) rfl dX2_add_31 ?_
      refine lv_aload_n hx hb dX2_add_34 rfl (lv_at hl 0 rfl) ?_
      refine va_get (D := D) (ci := 2) (v := .int (S_3.1 4 0)) (C := RX2) (T := TX2) (N := 7) hx hb hts k0 hown hK hP 4 (zX_4 cy ad S_3) rfl 0 (by decide) k1 (fun _ h9 => h9) rfl dX2_add_35 ?_
      refine lv_iload_n hx hb dX2_add_38 rfl (lv_at hl 2 rfl) ?_
      obtain ⟨h_4, hf⟩ := z_ix hf
      refine z_iast hx hb hK hP (hD S_3) hS 6 0 (zX_6 cy ad S_3) rfl h_4 (k := ((S_3.1 4 0).toNatClampNeg)) rfl dX2_add_39 (fun H locs hP hS => ?_)
      obtain ⟨S_5, eS_5, hf⟩ := z_nm hf
      have hP := zW_putI hP eS_5 (by decide) rfl
      refine lv_aload_n hx hb dX2_add_40 rfl (lv_at hl 0 rfl) ?_
      refine va_get (D := D) (ci := 2) (v := .ref (ad 7)) (C := RX2) (T := TX2) (N := 7) hx hb hts k0 hown hK hP 4 (zX_4 cy ad S_5) rfl 3 (by decide) k6 (fun _ h9 => h9) rfl dX2_add_41 ?_
      refine lv_aload_n hx hb dX2_add_44 rfl (lv_at hl 0 rfl) ?_
      refine va_get (D := D) (ci := 2) (v := .int (S_5.1 4 0)) (C := RX2) (T := TX2) (N := 7) hx hb hts k0 hown hK hP 4 (zX_4 cy ad S_5) rfl 0 (by decide) k1 (fun _ h9 => h9) rfl dX2_add_45 ?_
      refine lv_iload_n hx hb dX2_add_48 rfl (lv_at hl 3 rfl) ?_
      obtain ⟨h_6, hf⟩ := z_ix hf
      refine z_iast hx hb hK hP (hD S_5) hS 7 0 (zX_7 cy ad S_5) rfl h_6 (k := ((S_5.1 4 0).toNatClampNeg)) rfl dX2_add_49 (fun H locs hP hS => ?_)
      obtain ⟨S_7, eS_7, hf⟩ := z_nm hf
      have hP := zW_putI hP eS_7 (by decide) rfl
      refine lv_aload_n hx hb dX2_add_50 rfl (lv_at hl 0 rfl) ?_
      refine va_get (D := D) (ci := 2) (v := .ref (ad 9)) (C := RX2) (T := TX2) (N := 7) hx hb hts k0 hown hK hP 4 (zX_4 cy ad S_7) rfl 5 (by decide) k7 (fun _ h9 => h9) rfl dX2_add_51 ?_
      refine lv_aload_n hx hb dX2_add_54 rfl (lv_at hl 0 rfl) ?_
      refine va_get (D := D) (ci := 2) (v := .int (S_7.1 4 0)) (C := RX2) (T := TX2) (N := 7) hx hb hts k0 hown hK hP 4 (zX_4 cy ad S_7) rfl 0 (by decide) k1 (fun _ h9 => h9) rfl dX2_add_55 ?_
      refine lv_aload hx hb dX2_add_58 (lv_at hl 4 rfl) ?_
      refine va_get (D := D) (ci := 9) (v := .int (S_7.1 1 1)) (C := RX9) (T := TX9) (N := 2) hx hb hts k2 hown hK hP 1 (zX_1 cy ad S_7) rfl 1 (by decide) k3 (fun _ h9 => h9) rfl dX2_add_60 ?_
      obtain ⟨h_8, hf⟩ := z_ix hf
      refine z_iast hx hb hK hP (hD S_7) hS 9 0 (zX_9 cy ad S_7) rfl h_8 (k := ((S_7.1 4 0).toNatClampNeg)) rfl dX2_add_63 (fun H locs hP hS => ?_)
      obtain ⟨S_9, eS_9, hf⟩ := z_nm hf
      have hP := zW_putI hP eS_9 (by decide) rfl
      refine lv_iconst (v := 0) hx hb dX2_add_64 (by decide) ?_
      refine lv_istore (lv' := [(5, .int (0 : Int32)), (0, .ref (ad 4)), (1, .int a_1), (2, .int a_2), (3, .int a_3), (4, .ref (ad 1))]) hx hb dX2_add_65 hl (by decide) rfl (fun ls hl => ?_)
      obtain ⟨j_104, ej_104, hf⟩ := z_nm hf
      have J_104 : ∀ (S_10 : zSt) (H : Heap) (locs : List Loc) (ls : Array Slot), j_104  S_10 = some (ro, So) → va_P D vwCl (zX cy ad S_10) H → va_S A s.heap H locs → lv_has ls 6 [(0, .ref (ad 4))] → W p l e ({ frames := 1, cells := 0, slots := 0, locals := 21 }) s m ([.ref (ad 4), .int a_1, .int a_2, .int a_3, .ref (ad 1)] : List Value).toArray below meth c H locs 0 0 Q (F0 m 104 ls []) := by
        intro  S_10 H locs ls hf hP hS hl
        have hf := z_e1 ej_104 hf
        refine lv_aload_n hx hb dX2_add_104 rfl (lv_at hl 0 rfl) ?_
        refine lv_dup hx hb dX2_add_105 rfl ?_
        refine va_get (D := D) (ci := 2) (v := .int (S_10.1 4 0)) (C := RX2) (T := TX2) (N := 7) hx hb hts k0 hown hK hP 4 (zX_4 cy ad S_10) rfl 0 (by decide) k1 (fun _ h9 => h9) rfl dX2_add_106 ?_
        refine lv_iconst (v := 1) hx hb dX2_add_109 (by decide) ?_
        refine lv_iadd hx hb dX2_add_110 ?_
        refine va_put (D := D) (ci := 2) (v := .int ((S_10.1 4 0) + (1 : Int32))) (ty := .int) (C := RX2) (T := TX2) (N := 7) hx hb hts k0 tyX2 tyX2_ok nmX2 hown hK hP (hD S_10) hS 4 (zX_4 cy ad S_10) rfl 0 (by decide) k1 (fun _ h9 => h9) rfl (tyX2_ok 0 (by decide)) rfl rfl (Nat.le_of_ble_eq_true rfl) dX2_add_111 (fun H locs hP _ hS => ?_)
        obtain ⟨S_11, eS_11, hf⟩ := z_nm hf
        have hP := zW_putI hP eS_11 (by decide) rfl
        refine lv_aload_n hx hb dX2_add_114 rfl (lv_at hl 0 rfl) ?_
        refine va_get (D := D) (ci := 2) (v := .int (S_11.1 4 0)) (C := RX2) (T := TX2) (N := 7) hx hb hts k0 hown hK hP 4 (zX_4 cy ad S_11) rfl 0 (by decide) k1 (fun _ h9 => h9) rfl dX2_add_115 ?_
        refine lv_iconst (v := 1) hx hb dX2_add_118 (by decide) ?_
        refine lv_isub hx hb dX2_add_119 ?_
        obtain ⟨h1, h2⟩ := z_s2 hf
        subst h1 h2
        exact hret _ _ _ _ hP hS dX2_add_120
      have L_67 : ∀ (n_67 : Nat) (x_12 : Int32) (S_13 : zSt) (H : Heap) (locs : List Loc) (ls : Array Slot), fx_Houses_add_L67 j_104 n_67 x_12 S_13 = some (ro, So) → va_P D vwCl (zX cy ad S_13) H → va_S A s.heap H locs → lv_has ls 6 [(0, .ref (ad 4)), (4, .ref (ad 1)), (5, .int x_12)] → W p l e ({ frames := 1, cells := 0, slots := 0, locals := 21 }) s m ([.ref (ad 4), .int a_1, .int a_2, .int a_3, .ref (ad 1)] : List Value).toArray below meth c H locs 0 0 Q (F0 m 67 ls []) := by
        intro n_67
        induction n_67 with
        | zero =>
          intro x_12 S_13 H locs ls hf hP hS hl
          exact z_no hf
        | succ n_67 ih_67 =>
          intro x_12 S_13 H locs ls hf hP hS hl
          rw [fx_Houses_add_L67] at hf
          refine lv_iload hx hb dX2_add_67 (lv_at hl 2 rfl) ?_
          refine lv_aload hx hb dX2_add_69 (lv_at hl 1 rfl) ?_
          refine va_get (D := D) (ci := 9) (v := .int (S_13.1 1 1)) (C := RX9) (T := TX9) (N := 2) hx hb hts k2 hown hK hP 1 (zX_1 cy ad S_13) rfl 1 (by decide) k3 (fun _ h9 => h9) rfl dX2_add_71 ?_
          refine lv_icmp_ge (tgt := 104) hx hb dX2_add_74 (by decide) (fun c_20 => ?_) (fun c_20 => ?_)
          · have hf := z_it c_20 hf
            exact J_104  S_13 _ _ _ hf hP hS (lv_sub hl [0] rfl)
          · have hf := z_if c_20 hf
            refine lv_aload_n hx hb dX2_add_77 rfl (lv_at hl 0 rfl) ?_
            refine va_get (D := D) (ci := 2) (v := .ref (ad 8)) (C := RX2) (T := TX2) (N := 7) hx hb hts k0 hown hK hP 4 (zX_4 cy ad S_13) rfl 4 (by decide) k8 (fun _ h9 => h9) rfl dX2_add_78 ?_
            refine lv_aload_n hx hb dX2_add_81 rfl (lv_at hl 0 rfl) ?_
            refine va_get (D := D) (ci := 2) (v := .int (S_13.1 4 0)) (C := RX2) (T := TX2) (N := 7) hx hb hts k0 hown hK hP 4 (zX_4 cy ad S_13) rfl 0 (by decide) k1 (fun _ h9 => h9) rfl dX2_add_82 ?_
            refine lv_iconst (v := 5) hx hb dX2_add_85 (by decide) ?_
            refine lv_imul hx hb dX2_add_86 ?_
            refine lv_iload hx hb dX2_add_87 (lv_at hl 2 rfl) ?_
            refine lv_iadd hx hb dX2_add_89 ?_
            refine lv_aload hx hb dX2_add_90 (lv_at hl 1 rfl) ?_
            refine lv_iload hx hb dX2_add_92 (lv_at hl 2 rfl) ?_
            obtain ⟨r_14, S_15, h_16, hf⟩ := z_bd hf
            refine z_cVI (As := [.int x_12]) (rest := [.int (((S_13.1 4 0) * (5 : Int32)) + x_12), .ref (ad 8)]) X hK hE hD hA hP hS (cx_Tape_letterAt l D K cy ad S_13 _ _ _ h_16) (cwV 1 hts (z_gV wt_2_234 wt_2_227 wt_2_228 wt_1_2 wt_2_229) rfl rfl rfl ⟨rfl, yd_yX9_letterAt⟩ ⟨Nat.le_of_ble_eq_true rfl, Nat.le_of_ble_eq_true rfl⟩) (va_recv hK hP (ci := 9) (q0 := 1) rfl (zX_1 cy ad S_13)) hl.1 rfl rfl (Nat.le_of_ble_eq_true rfl) dX2_add_94 (fun H locs hP hS => ?_)
            obtain ⟨h_17, hf⟩ := z_ix hf
            refine z_iast hx hb hK hP (hD S_15) hS 8 0 (zX_8 cy ad S_15) rfl h_17 (k := ((((S_13.1 4 0) * (5 : Int32)) + x_12).toNatClampNeg)) rfl dX2_add_97 (fun H locs hP hS => ?_)
            obtain ⟨S_18, eS_18, hf⟩ := z_nm hf
            have hP := zW_putI hP eS_18 (by decide) rfl
            obtain ⟨x_19, ex_19, hf⟩ := z_nm hf
            refine lv_iinc (v := x_19) (lv' := [(5, .int x_19), (0, .ref (ad 4)), (4, .ref (ad 1))]) hx hb dX2_add_98 hl (k := 2) rfl (by rw [ex_19]; rfl) (by decide) rfl (fun ls hl => ?_)
            refine lv_goto (tgt := 67) hx hb dX2_add_101 (by decide) ?_
            exact ih_67 x_19 S_18 _ _ _ hf hP hS (lv_sub hl [1, 2, 0] rfl)
      exact L_67 zFU (0 : Int32) S_9 _ _ _ hf hP hS (lv_sub hl [1, 5, 0] rfl)
    · have hf := z_if c_21 hf
      exact J_18  S_0 _ _ _ hf hP hS (lv_sub hl [] rfl)
def fx_Houses_letterOf (S_0 : zSt) (a_1 : Int32) (a_2 : Int32) : Option (Int32 × zSt) :=
  zck (zix ((a_1 * (5 : Int32)) + a_2) 45) <|
  some (S_0.1 8 (((a_1 * (5 : Int32)) + a_2).toNatClampNeg), S_0)
set_option maxHeartbeats 4000000 in
set_option maxRecDepth 100000 in
theorem cx_Houses_letterOf (l : Launch) (D : va_G) (K : (Nat → Nat) × (Nat → Nat)) (cy : Nat → ClassId) (ad : Nat → Nat) (S_0 : zSt) (a_1 : Int32) (a_2 : Int32) (ro : Int32) (So : zSt) (hf : fx_Houses_letterOf S_0 a_1 a_2 = some (ro, So)) : zMI l yX2_letterOf (zws yX2_letterOf cX2_letterOf 3 (Option.some .int)) ({ frames := 0, cells := 0, slots := 0, locals := 0 }) D (zTy cy) K (zX cy ad) [.ref (ad 4), .int a_1, .int a_2] S_0 ro So := by
  refine z_metI (own := RX2) (lv := [(0, .ref (ad 4)), (1, .int a_1), (2, .int a_2)]) (by decide) rfl rfl (Nat.le_of_ble_eq_true rfl) rfl ?_
  intro p e s m below meth c A Q X hK hE hD hA hret hP hS ls hl
  obtain ⟨hx, hb, hml, hown, hts⟩ := id X
  have k0 := (fun w h => List.mem_cons_of_mem _ (zFX2 w h) : ∀ w ∈ u_ws RX2 TX2 7, w ∈ zws yX2_letterOf cX2_letterOf 3 (Option.some .int))
  have k1 := hts _ (List.mem_cons_of_mem _ wt_1_78)
  refine lv_aload_n hx hb dX2_letterOf_0 rfl (lv_at hl 0 rfl) ?_
  refine va_get (D := D) (ci := 2) (v := .ref (ad 8)) (C := RX2) (T := TX2) (N := 7) hx hb hts k0 hown hK hP 4 (zX_4 cy ad S_0) rfl 4 (by decide) k1 (fun _ h9 => h9) rfl dX2_letterOf_1 ?_
  refine lv_iload_n hx hb dX2_letterOf_4 rfl (lv_at hl 1 rfl) ?_
  refine lv_iconst (v := 5) hx hb dX2_letterOf_5 (by decide) ?_
  refine lv_imul hx hb dX2_letterOf_6 ?_
  refine lv_iload_n hx hb dX2_letterOf_7 rfl (lv_at hl 2 rfl) ?_
  refine lv_iadd hx hb dX2_letterOf_8 ?_
  obtain ⟨h_1, hf⟩ := z_ix hf
  refine z_iald hx hb hK hP 8 0 (zX_8 cy ad S_0) rfl h_1 (k := (((a_1 * (5 : Int32)) + a_2).toNatClampNeg)) rfl dX2_letterOf_9 ?_
  obtain ⟨h1, h2⟩ := z_s2 hf
  subst h1 h2
  exact hret _ _ _ _ hP hS dX2_letterOf_10
def fx_Leavens_has (S_0 : zSt) (a_1 : Int32) : Option (Int32 × zSt) :=
  znm (fun (x_1 : Int32) (S_2 : zSt) =>
  zck (zbo x_1) <|
  some (x_1, S_2)) fun j_17 =>
  znm (fun (S_4 : zSt) =>
  j_17 (0 : Int32) S_4) fun j_16 =>
  if a_1 < 0 then (
  j_16  S_0) else (
  if (S_0.1 22 0) ≤ a_1 then (
  j_16  S_0) else (
  j_17 (1 : Int32) S_0))
set_option maxHeartbeats 4000000 in
set_option maxRecDepth 100000 in
theorem cx_Leavens_has (l : Launch) (D : va_G) (K : (Nat → Nat) × (Nat → Nat)) (cy : Nat → ClassId) (ad : Nat → Nat) (S_0 : zSt) (a_1 : Int32) (ro : Int32) (So : zSt) (hf : fx_Leavens_has S_0 a_1 = some (ro, So)) : zMI l yX3_has (zws yX3_has cX3_has 2 (Option.some .boolean)) ({ frames := 0, cells := 0, slots := 0, locals := 0 }) D (zTy cy) K (zX cy ad) [.ref (ad 22), .int a_1] S_0 ro So := by
  refine z_metZ (own := RX3) (lv := [(0, .ref (ad 22)), (1, .int a_1)]) (by decide) rfl rfl (Nat.le_of_ble_eq_true rfl) rfl ?_
  intro p e s m below meth c A Q X hK hE hD hA hret hP hS ls hl
  obtain ⟨hx, hb, hml, hown, hts⟩ := id X
  have k0 := (fun w h => List.mem_cons_of_mem _ (zFX3 w h) : ∀ w ∈ u_ws RX3 TX3 7, w ∈ zws yX3_has cX3_has 2 (Option.some .boolean))
  have k1 := hts _ (List.mem_cons_of_mem _ wt_1_193)
  refine lv_iload_n hx hb dX3_has_0 rfl (lv_at hl 1 rfl) ?_
  obtain ⟨j_17, ej_17, hf⟩ := z_nm hf
  have J_17 : ∀ (x_1 : Int32) (S_2 : zSt) (H : Heap) (locs : List Loc) (ls : Array Slot), j_17 x_1 S_2 = some (ro, So) → va_P D vwCl (zX cy ad S_2) H → va_S A s.heap H locs → lv_has ls 2 [] → W p l e ({ frames := 0, cells := 0, slots := 0, locals := 0 }) s m ([.ref (ad 22), .int a_1] : List Value).toArray below meth c H locs 0 0 Q (F0 m 17 ls [.int x_1]) := by
    intro x_1 S_2 H locs ls hf hP hS hl
    have hf := z_e2 ej_17 hf
    obtain ⟨h_3, hf⟩ := z_bo hf
    obtain ⟨h1, h2⟩ := z_s2 hf
    subst h1 h2
    exact hret _ _ _ _ h_3 hP hS dX3_has_17
  obtain ⟨j_16, ej_16, hf⟩ := z_nm hf
  have J_16 : ∀ (S_4 : zSt) (H : Heap) (locs : List Loc) (ls : Array Slot), j_16  S_4 = some (ro, So) → va_P D vwCl (zX cy ad S_4) H → va_S A s.heap H locs → lv_has ls 2 [] → W p l e ({ frames := 0, cells := 0, slots := 0, locals := 0 }) s m ([.ref (ad 22), .int a_1] : List Value).toArray below meth c H locs 0 0 Q (F0 m 16 ls []) := by
    intro  S_4 H locs ls hf hP hS hl
    have hf := z_e1 ej_16 hf
    refine lv_iconst (v := 0) hx hb dX3_has_16 (by decide) ?_
    exact J_17 (0 : Int32) S_4 _ _ _ hf hP hS (lv_sub hl [] rfl)
  refine lv_if_lt (tgt := 16) hx hb dX3_has_1 (by decide) (fun c_6 => ?_) (fun c_6 => ?_)
  · have hf := z_it c_6 hf
    exact J_16  S_0 _ _ _ hf hP hS (lv_sub hl [] rfl)
  · have hf := z_if c_6 hf
    refine lv_iload_n hx hb dX3_has_4 rfl (lv_at hl 1 rfl) ?_
    refine lv_aload_n hx hb dX3_has_5 rfl (lv_at hl 0 rfl) ?_
    refine va_get (D := D) (ci := 3) (v := .int (S_0.1 22 0)) (C := RX3) (T := TX3) (N := 7) hx hb hts k0 hown hK hP 22 (zX_22 cy ad S_0) rfl 0 (by decide) k1 (fun _ h9 => h9) rfl dX3_has_6 ?_
    refine lv_icmp_ge (tgt := 16) hx hb dX3_has_9 (by decide) (fun c_5 => ?_) (fun c_5 => ?_)
    · have hf := z_it c_5 hf
      exact J_16  S_0 _ _ _ hf hP hS (lv_sub hl [] rfl)
    · have hf := z_if c_5 hf
      refine lv_iconst (v := 1) hx hb dX3_has_12 (by decide) ?_
      refine lv_goto (tgt := 17) hx hb dX3_has_13 (by decide) ?_
      exact J_17 (1 : Int32) S_0 _ _ _ hf hP hS (lv_sub hl [] rfl)
def fx_Leavens_isNew (S_0 : zSt) (a_1 : Int32) : Option (Int32 × zSt) :=
  zck (zix a_1 60) <|
  znm (fun (x_2 : Int32) (S_3 : zSt) =>
  zck (zbo x_2) <|
  some (x_2, S_3)) fun j_15 =>
  if (S_0.1 24 (a_1.toNatClampNeg)) = (-1 : Int32) then (
  j_15 (0 : Int32) S_0) else (
  j_15 (1 : Int32) S_0)
set_option maxHeartbeats 4000000 in
set_option maxRecDepth 100000 in
theorem cx_Leavens_isNew (l : Launch) (D : va_G) (K : (Nat → Nat) × (Nat → Nat)) (cy : Nat → ClassId) (ad : Nat → Nat) (S_0 : zSt) (a_1 : Int32) (ro : Int32) (So : zSt) (hf : fx_Leavens_isNew S_0 a_1 = some (ro, So)) : zMI l yX3_isNew (zws yX3_isNew cX3_isNew 2 (Option.some .boolean)) ({ frames := 0, cells := 0, slots := 0, locals := 0 }) D (zTy cy) K (zX cy ad) [.ref (ad 22), .int a_1] S_0 ro So := by
  refine z_metZ (own := RX3) (lv := [(0, .ref (ad 22)), (1, .int a_1)]) (by decide) rfl rfl (Nat.le_of_ble_eq_true rfl) rfl ?_
  intro p e s m below meth c A Q X hK hE hD hA hret hP hS ls hl
  obtain ⟨hx, hb, hml, hown, hts⟩ := id X
  have k0 := (fun w h => List.mem_cons_of_mem _ (zFX3 w h) : ∀ w ∈ u_ws RX3 TX3 7, w ∈ zws yX3_isNew cX3_isNew 2 (Option.some .boolean))
  have k1 := hts _ (List.mem_cons_of_mem _ wt_1_197)
  refine lv_aload_n hx hb dX3_isNew_0 rfl (lv_at hl 0 rfl) ?_
  refine va_get (D := D) (ci := 3) (v := .ref (ad 24)) (C := RX3) (T := TX3) (N := 7) hx hb hts k0 hown hK hP 22 (zX_22 cy ad S_0) rfl 2 (by decide) k1 (fun _ h9 => h9) rfl dX3_isNew_1 ?_
  refine lv_iload_n hx hb dX3_isNew_4 rfl (lv_at hl 1 rfl) ?_
  obtain ⟨h_1, hf⟩ := z_ix hf
  refine z_iald hx hb hK hP 24 0 (zX_24 cy ad S_0) rfl h_1 (k := (a_1.toNatClampNeg)) rfl dX3_isNew_5 ?_
  refine lv_iconst (v := -1) hx hb dX3_isNew_6 (by decide) ?_
  obtain ⟨j_15, ej_15, hf⟩ := z_nm hf
  have J_15 : ∀ (x_2 : Int32) (S_3 : zSt) (H : Heap) (locs : List Loc) (ls : Array Slot), j_15 x_2 S_3 = some (ro, So) → va_P D vwCl (zX cy ad S_3) H → va_S A s.heap H locs → lv_has ls 2 [] → W p l e ({ frames := 0, cells := 0, slots := 0, locals := 0 }) s m ([.ref (ad 22), .int a_1] : List Value).toArray below meth c H locs 0 0 Q (F0 m 15 ls [.int x_2]) := by
    intro x_2 S_3 H locs ls hf hP hS hl
    have hf := z_e2 ej_15 hf
    obtain ⟨h_4, hf⟩ := z_bo hf
    obtain ⟨h1, h2⟩ := z_s2 hf
    subst h1 h2
    exact hret _ _ _ _ h_4 hP hS dX3_isNew_15
  refine lv_icmp_eq (tgt := 14) hx hb dX3_isNew_7 (by decide) (fun c_5 => ?_) (fun c_5 => ?_)
  · have hf := z_it c_5 hf
    refine lv_iconst (v := 0) hx hb dX3_isNew_14 (by decide) ?_
    exact J_15 (0 : Int32) S_0 _ _ _ hf hP hS (lv_sub hl [] rfl)
  · have hf := z_if c_5 hf
    refine lv_iconst (v := 1) hx hb dX3_isNew_10 (by decide) ?_
    refine lv_goto (tgt := 15) hx hb dX3_isNew_11 (by decide) ?_
    exact J_15 (1 : Int32) S_0 _ _ _ hf hP hS (lv_sub hl [] rfl)
