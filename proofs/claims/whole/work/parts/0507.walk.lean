def fx_lent (S_0 : zSt) (a_1 : Int32) (a_2 : Int32) : Option (Int32 × zSt) :=
  zbd (fx_Leavens_has S_0 a_1) fun r_1 S_2 =>
  if r_1 = 0 then (
  some ((-2 : Int32), S_2)) else (
  if a_2 = (0 : Int32) then (
  zck (zix a_1 60) <|
  some (S_2.1 23 (a_1.toNatClampNeg), S_2)) else (
  if a_2 = (1 : Int32) then (
  zck (zix a_1 60) <|
  some (S_2.1 24 (a_1.toNatClampNeg), S_2)) else (
  if a_2 = (2 : Int32) then (
  zck (zix a_1 60) <|
  some (S_2.1 25 (a_1.toNatClampNeg), S_2)) else (
  if a_2 = (3 : Int32) then (
  zck (zix a_1 60) <|
  some (S_2.1 26 (a_1.toNatClampNeg), S_2)) else (
  if a_2 = (4 : Int32) then (
  zbd (fx_Leavens_ownersWithin S_2 a_1) fun r_16 S_17 =>
  some (r_16, S_17)) else (
  some ((-2 : Int32), S_2)))))))
set_option maxHeartbeats 4000000 in
set_option maxRecDepth 100000 in
theorem cx_lent (l : Launch) (D : va_G) (K : (Nat → Nat) × (Nat → Nat)) (cy : Nat → ClassId) (ad : Nat → Nat) (S_0 : zSt) (a_1 : Int32) (a_2 : Int32) (ro : Int32) (So : zSt) (hf : fx_lent S_0 a_1 a_2 = some (ro, So)) : zMI l yX11_lent (zws yX11_lent cX11_lent 3 (Option.some .int)) ({ frames := 2, cells := 0, slots := 0, locals := 45 }) D (zTy cy) K (zX cy ad) [.ref (ad 0), .int a_1, .int a_2] S_0 ro So := by
  refine z_metI (own := RX11) (lv := [(0, .ref (ad 0)), (1, .int a_1), (2, .int a_2)]) (by decide) rfl rfl (Nat.le_of_ble_eq_true rfl) rfl ?_
  intro p e s m below meth c A Q X hK hE hD hA hret hP hS ls hl
  obtain ⟨hx, hb, hml, hown, hts⟩ := id X
  have k0 := (fun w h => List.mem_cons_of_mem _ (zFX11 w h) : ∀ w ∈ u_ws RX11 TX11 8, w ∈ zws yX11_lent cX11_lent 3 (Option.some .int))
  have k1 := hts _ (List.mem_cons_of_mem _ wt_2_175)
  have k2 := (fun w h => List.mem_cons_of_mem _ (zFX0 w h) : ∀ w ∈ u_ws RX0 TX0 6, w ∈ zws yX11_lent cX11_lent 3 (Option.some .int))
  have k3 := hts _ (List.mem_cons_of_mem _ wt_2_6)
  have k4 := (fun w h => List.mem_cons_of_mem _ (zFX3 w h) : ∀ w ∈ u_ws RX3 TX3 7, w ∈ zws yX11_lent cX11_lent 3 (Option.some .int))
  have k5 := hts _ (List.mem_cons_of_mem _ wt_1_196)
  have k6 := hts _ (List.mem_cons_of_mem _ wt_1_198)
  have k7 := hts _ (List.mem_cons_of_mem _ wt_1_200)
  have k8 := hts _ (List.mem_cons_of_mem _ wt_1_202)
  refine lv_aload_n hx hb dX11_lent_0 rfl (lv_at hl 0 rfl) ?_
  refine va_get (D := D) (ci := 11) (v := .ref (ad 3)) (C := RX11) (T := TX11) (N := 8) hx hb hts k0 hown hK hP 0 (zX_0 cy ad S_0) rfl 1 (by decide) k1 (fun _ h9 => h9) rfl dX11_lent_1 ?_
  refine va_get (D := D) (ci := 0) (v := .ref (ad 22)) (C := RX0) (T := TX0) (N := 6) hx hb hts k2 hown hK hP 3 (zX_3 cy ad S_0) rfl 4 (by decide) k3 (fun _ h9 => h9) rfl dX11_lent_4 ?_
  refine lv_iload_n hx hb dX11_lent_7 rfl (lv_at hl 1 rfl) ?_
  obtain ⟨r_1, S_2, h_3, hf⟩ := z_bd hf
  refine z_cVI (As := [.int a_1]) (rest := []) X hK hE hD hA hP hS (cx_Leavens_has l D K cy ad S_0 _ _ _ h_3) (cwV 1 hts (z_gV wt_4_195 wt_4_196 wt_4_197 wt_1_7 wt_4_198) rfl rfl rfl ⟨rfl, yd_yX3_has⟩ ⟨Nat.le_of_ble_eq_true rfl, Nat.le_of_ble_eq_true rfl⟩) (va_recv hK hP (ci := 3) (q0 := 22) rfl (zX_22 cy ad S_0)) hl.1 rfl rfl (Nat.le_of_ble_eq_true rfl) dX11_lent_8 (fun H locs hP hS => ?_)
  refine lv_if_ne (tgt := 17) hx hb dX11_lent_11 (by decide) (fun c_21 => ?_) (fun c_21 => ?_)
  · have hf := z_if c_21 hf
    refine lv_iload_n hx hb dX11_lent_17 rfl (lv_at hl 2 rfl) ?_
    by_cases c_5 : a_2 = (0 : Int32)
    · have hf := z_it c_5 hf
      refine lv_tableIn (off := 34) (tgt := 52) hx hb dX11_lent_18 (by rw [c_5]; decide) (by rw [c_5]; decide) (by rw [c_5]; rfl) (by decide) ?_
      refine lv_aload_n hx hb dX11_lent_52 rfl (lv_at hl 0 rfl) ?_
      refine va_get (D := D) (ci := 11) (v := .ref (ad 3)) (C := RX11) (T := TX11) (N := 8) hx hb hts k0 hown hK hP 0 (zX_0 cy ad S_2) rfl 1 (by decide) k1 (fun _ h9 => h9) rfl dX11_lent_53 ?_
      refine va_get (D := D) (ci := 0) (v := .ref (ad 22)) (C := RX0) (T := TX0) (N := 6) hx hb hts k2 hown hK hP 3 (zX_3 cy ad S_2) rfl 4 (by decide) k3 (fun _ h9 => h9) rfl dX11_lent_56 ?_
      refine va_get (D := D) (ci := 3) (v := .ref (ad 23)) (C := RX3) (T := TX3) (N := 7) hx hb hts k4 hown hK hP 22 (zX_22 cy ad S_2) rfl 1 (by decide) k5 (fun _ h9 => h9) rfl dX11_lent_59 ?_
      refine lv_iload_n hx hb dX11_lent_62 rfl (lv_at hl 1 rfl) ?_
      obtain ⟨h_4, hf⟩ := z_ix hf
      refine z_iald hx hb hK hP 23 0 (zX_23 cy ad S_2) rfl h_4 (k := (a_1.toNatClampNeg)) rfl dX11_lent_63 ?_
      obtain ⟨h1, h2⟩ := z_s2 hf
      subst h1 h2
      exact hret _ _ _ _ hP hS dX11_lent_64
    have hf := z_if c_5 hf
    have n_6 : a_2.toInt ≠ 0 := z_ne c_5 (by decide)
    by_cases c_8 : a_2 = (1 : Int32)
    · have hf := z_it c_8 hf
      refine lv_tableIn (off := 47) (tgt := 65) hx hb dX11_lent_18 (by rw [c_8]; decide) (by rw [c_8]; decide) (by rw [c_8]; rfl) (by decide) ?_
      refine lv_aload_n hx hb dX11_lent_65 rfl (lv_at hl 0 rfl) ?_
      refine va_get (D := D) (ci := 11) (v := .ref (ad 3)) (C := RX11) (T := TX11) (N := 8) hx hb hts k0 hown hK hP 0 (zX_0 cy ad S_2) rfl 1 (by decide) k1 (fun _ h9 => h9) rfl dX11_lent_66 ?_
      refine va_get (D := D) (ci := 0) (v := .ref (ad 22)) (C := RX0) (T := TX0) (N := 6) hx hb hts k2 hown hK hP 3 (zX_3 cy ad S_2) rfl 4 (by decide) k3 (fun _ h9 => h9) rfl dX11_lent_69 ?_
      refine va_get (D := D) (ci := 3) (v := .ref (ad 24)) (C := RX3) (T := TX3) (N := 7) hx hb hts k4 hown hK hP 22 (zX_22 cy ad S_2) rfl 2 (by decide) k6 (fun _ h9 => h9) rfl dX11_lent_72 ?_
      refine lv_iload_n hx hb dX11_lent_75 rfl (lv_at hl 1 rfl) ?_
      obtain ⟨h_7, hf⟩ := z_ix hf
      refine z_iald hx hb hK hP 24 0 (zX_24 cy ad S_2) rfl h_7 (k := (a_1.toNatClampNeg)) rfl dX11_lent_76 ?_
      obtain ⟨h1, h2⟩ := z_s2 hf
      subst h1 h2
      exact hret _ _ _ _ hP hS dX11_lent_77
    have hf := z_if c_8 hf
    have n_9 : a_2.toInt ≠ 1 := z_ne c_8 (by decide)
    by_cases c_11 : a_2 = (2 : Int32)
    · have hf := z_it c_11 hf
      refine lv_tableIn (off := 60) (tgt := 78) hx hb dX11_lent_18 (by rw [c_11]; decide) (by rw [c_11]; decide) (by rw [c_11]; rfl) (by decide) ?_
      refine lv_aload_n hx hb dX11_lent_78 rfl (lv_at hl 0 rfl) ?_
      refine va_get (D := D) (ci := 11) (v := .ref (ad 3)) (C := RX11) (T := TX11) (N := 8) hx hb hts k0 hown hK hP 0 (zX_0 cy ad S_2) rfl 1 (by decide) k1 (fun _ h9 => h9) rfl dX11_lent_79 ?_
      refine va_get (D := D) (ci := 0) (v := .ref (ad 22)) (C := RX0) (T := TX0) (N := 6) hx hb hts k2 hown hK hP 3 (zX_3 cy ad S_2) rfl 4 (by decide) k3 (fun _ h9 => h9) rfl dX11_lent_82 ?_
      refine va_get (D := D) (ci := 3) (v := .ref (ad 25)) (C := RX3) (T := TX3) (N := 7) hx hb hts k4 hown hK hP 22 (zX_22 cy ad S_2) rfl 3 (by decide) k7 (fun _ h9 => h9) rfl dX11_lent_85 ?_
      refine lv_iload_n hx hb dX11_lent_88 rfl (lv_at hl 1 rfl) ?_
      obtain ⟨h_10, hf⟩ := z_ix hf
      refine z_iald hx hb hK hP 25 0 (zX_25 cy ad S_2) rfl h_10 (k := (a_1.toNatClampNeg)) rfl dX11_lent_89 ?_
      obtain ⟨h1, h2⟩ := z_s2 hf
      subst h1 h2
      exact hret _ _ _ _ hP hS dX11_lent_90
    have hf := z_if c_11 hf
    have n_12 : a_2.toInt ≠ 2 := z_ne c_11 (by decide)
    by_cases c_14 : a_2 = (3 : Int32)
    · have hf := z_it c_14 hf
      refine lv_tableIn (off := 73) (tgt := 91) hx hb dX11_lent_18 (by rw [c_14]; decide) (by rw [c_14]; decide) (by rw [c_14]; rfl) (by decide) ?_
      refine lv_aload_n hx hb dX11_lent_91 rfl (lv_at hl 0 rfl) ?_
      refine va_get (D := D) (ci := 11) (v := .ref (ad 3)) (C := RX11) (T := TX11) (N := 8) hx hb hts k0 hown hK hP 0 (zX_0 cy ad S_2) rfl 1 (by decide) k1 (fun _ h9 => h9) rfl dX11_lent_92 ?_
      refine va_get (D := D) (ci := 0) (v := .ref (ad 22)) (C := RX0) (T := TX0) (N := 6) hx hb hts k2 hown hK hP 3 (zX_3 cy ad S_2) rfl 4 (by decide) k3 (fun _ h9 => h9) rfl dX11_lent_95 ?_
      refine va_get (D := D) (ci := 3) (v := .ref (ad 26)) (C := RX3) (T := TX3) (N := 7) hx hb hts k4 hown hK hP 22 (zX_22 cy ad S_2) rfl 4 (by decide) k8 (fun _ h9 => h9) rfl dX11_lent_98 ?_
      refine lv_iload_n hx hb dX11_lent_101 rfl (lv_at hl 1 rfl) ?_
      obtain ⟨h_13, hf⟩ := z_ix hf
      refine z_iald hx hb hK hP 26 0 (zX_26 cy ad S_2) rfl h_13 (k := (a_1.toNatClampNeg)) rfl dX11_lent_102 ?_
      obtain ⟨h1, h2⟩ := z_s2 hf
      subst h1 h2
      exact hret _ _ _ _ hP hS dX11_lent_103
    have hf := z_if c_14 hf
    have n_15 : a_2.toInt ≠ 3 := z_ne c_14 (by decide)
    by_cases c_19 : a_2 = (4 : Int32)
    · have hf := z_it c_19 hf
      refine lv_tableIn (off := 86) (tgt := 104) hx hb dX11_lent_18 (by rw [c_19]; decide) (by rw [c_19]; decide) (by rw [c_19]; rfl) (by decide) ?_
      refine lv_aload_n hx hb dX11_lent_104 rfl (lv_at hl 0 rfl) ?_
      refine va_get (D := D) (ci := 11) (v := .ref (ad 3)) (C := RX11) (T := TX11) (N := 8) hx hb hts k0 hown hK hP 0 (zX_0 cy ad S_2) rfl 1 (by decide) k1 (fun _ h9 => h9) rfl dX11_lent_105 ?_
      refine va_get (D := D) (ci := 0) (v := .ref (ad 22)) (C := RX0) (T := TX0) (N := 6) hx hb hts k2 hown hK hP 3 (zX_3 cy ad S_2) rfl 4 (by decide) k3 (fun _ h9 => h9) rfl dX11_lent_108 ?_
      refine lv_iload_n hx hb dX11_lent_111 rfl (lv_at hl 1 rfl) ?_
      obtain ⟨r_16, S_17, h_18, hf⟩ := z_bd hf
      refine z_cVI (As := [.int a_1]) (rest := []) X hK hE hD hA hP hS (cx_Leavens_ownersWithin l D K cy ad S_2 _ _ _ h_18) (cwV 1 hts (z_gV wt_4_227 wt_4_228 wt_4_229 wt_1_7 wt_4_230) rfl rfl rfl ⟨rfl, yd_yX3_ownersWithin⟩ ⟨Nat.le_of_ble_eq_true rfl, Nat.le_of_ble_eq_true rfl⟩) (va_recv hK hP (ci := 3) (q0 := 22) rfl (zX_22 cy ad S_2)) hl.1 rfl rfl (Nat.le_of_ble_eq_true rfl) dX11_lent_112 (fun H locs hP hS => ?_)
      obtain ⟨h1, h2⟩ := z_s2 hf
      subst h1 h2
      exact hret _ _ _ _ hP hS dX11_lent_115
    have hf := z_if c_19 hf
    have n_20 : a_2.toInt ≠ 4 := z_ne c_19 (by decide)
    refine lv_tableOut (tgt := 116) hx hb dX11_lent_18 (by omega) (by decide) ?_
    refine lv_bipush (v := -2) hx hb dX11_lent_116 (by decide) ?_
    obtain ⟨h1, h2⟩ := z_s2 hf
    subst h1 h2
    exact hret _ _ _ _ hP hS dX11_lent_118
  · have hf := z_it c_21 hf
    refine lv_bipush (v := -2) hx hb dX11_lent_14 (by decide) ?_
    obtain ⟨h1, h2⟩ := z_s2 hf
    subst h1 h2
    exact hret _ _ _ _ hP hS dX11_lent_16
def fx_led (S_0 : zSt) (a_1 : Int32) (a_2 : Int32) : Option (Int32 × zSt) :=
  zbd (fx_Leavens_has S_0 a_1) fun r_1 S_2 =>
  znm (fun (S_4 : zSt) =>
  some ((-1 : Int32), S_4)) fun j_28 =>
  if r_1 = 0 then (
  j_28  S_2) else (
  zbd (fx_Leavens_has S_2 a_2) fun r_5 S_6 =>
  if r_5 = 0 then (
  j_28  S_6) else (
  zbd (fx_Leavens_isLed S_6 a_1 a_2) fun r_8 S_9 =>
  znm (fun (x_11 : Int32) (S_12 : zSt) =>
  some (x_11, S_12)) fun j_50 =>
  if r_8 = 0 then (
  j_50 (0 : Int32) S_9) else (
  j_50 (1 : Int32) S_9)))
set_option maxHeartbeats 4000000 in
set_option maxRecDepth 100000 in
theorem cx_led (l : Launch) (D : va_G) (K : (Nat → Nat) × (Nat → Nat)) (cy : Nat → ClassId) (ad : Nat → Nat) (S_0 : zSt) (a_1 : Int32) (a_2 : Int32) (ro : Int32) (So : zSt) (hf : fx_led S_0 a_1 a_2 = some (ro, So)) : zMI l yX11_led (zws yX11_led cX11_led 3 (Option.some .int)) ({ frames := 1, cells := 0, slots := 0, locals := 22 }) D (zTy cy) K (zX cy ad) [.ref (ad 0), .int a_1, .int a_2] S_0 ro So := by
  refine z_metI (own := RX11) (lv := [(0, .ref (ad 0)), (1, .int a_1), (2, .int a_2)]) (by decide) rfl rfl (Nat.le_of_ble_eq_true rfl) rfl ?_
  intro p e s m below meth c A Q X hK hE hD hA hret hP hS ls hl
  obtain ⟨hx, hb, hml, hown, hts⟩ := id X
  have k0 := (fun w h => List.mem_cons_of_mem _ (zFX11 w h) : ∀ w ∈ u_ws RX11 TX11 8, w ∈ zws yX11_led cX11_led 3 (Option.some .int))
  have k1 := hts _ (List.mem_cons_of_mem _ wt_2_175)
  have k2 := (fun w h => List.mem_cons_of_mem _ (zFX0 w h) : ∀ w ∈ u_ws RX0 TX0 6, w ∈ zws yX11_led cX11_led 3 (Option.some .int))
  have k3 := hts _ (List.mem_cons_of_mem _ wt_2_6)
  refine lv_aload_n hx hb dX11_led_0 rfl (lv_at hl 0 rfl) ?_
  refine va_get (D := D) (ci := 11) (v := .ref (ad 3)) (C := RX11) (T := TX11) (N := 8) hx hb hts k0 hown hK hP 0 (zX_0 cy ad S_0) rfl 1 (by decide) k1 (fun _ h9 => h9) rfl dX11_led_1 ?_
  refine va_get (D := D) (ci := 0) (v := .ref (ad 22)) (C := RX0) (T := TX0) (N := 6) hx hb hts k2 hown hK hP 3 (zX_3 cy ad S_0) rfl 4 (by decide) k3 (fun _ h9 => h9) rfl dX11_led_4 ?_
  refine lv_iload_n hx hb dX11_led_7 rfl (lv_at hl 1 rfl) ?_
  obtain ⟨r_1, S_2, h_3, hf⟩ := z_bd hf
  refine z_cVI (As := [.int a_1]) (rest := []) X hK hE hD hA hP hS (cx_Leavens_has l D K cy ad S_0 _ _ _ h_3) (cwV 1 hts (z_gV wt_4_195 wt_4_196 wt_4_197 wt_1_7 wt_4_198) rfl rfl rfl ⟨rfl, yd_yX3_has⟩ ⟨Nat.le_of_ble_eq_true rfl, Nat.le_of_ble_eq_true rfl⟩) (va_recv hK hP (ci := 3) (q0 := 22) rfl (zX_22 cy ad S_0)) hl.1 rfl rfl (Nat.le_of_ble_eq_true rfl) dX11_led_8 (fun H locs hP hS => ?_)
  obtain ⟨j_28, ej_28, hf⟩ := z_nm hf
  have J_28 : ∀ (S_4 : zSt) (H : Heap) (locs : List Loc) (ls : Array Slot), j_28  S_4 = some (ro, So) → va_P D vwCl (zX cy ad S_4) H → va_S A s.heap H locs → lv_has ls 3 [] → W p l e ({ frames := 1, cells := 0, slots := 0, locals := 22 }) s m ([.ref (ad 0), .int a_1, .int a_2] : List Value).toArray below meth c H locs 0 0 Q (F0 m 28 ls []) := by
    intro  S_4 H locs ls hf hP hS hl
    have hf := z_e1 ej_28 hf
    refine lv_iconst (v := -1) hx hb dX11_led_28 (by decide) ?_
    obtain ⟨h1, h2⟩ := z_s2 hf
    subst h1 h2
    exact hret _ _ _ _ hP hS dX11_led_29
  refine lv_if_eq (tgt := 28) hx hb dX11_led_11 (by decide) (fun c_15 => ?_) (fun c_15 => ?_)
  · have hf := z_it c_15 hf
    exact J_28  S_2 _ _ _ hf hP hS (lv_sub hl [] rfl)
  · have hf := z_if c_15 hf
    refine lv_aload_n hx hb dX11_led_14 rfl (lv_at hl 0 rfl) ?_
    refine va_get (D := D) (ci := 11) (v := .ref (ad 3)) (C := RX11) (T := TX11) (N := 8) hx hb hts k0 hown hK hP 0 (zX_0 cy ad S_2) rfl 1 (by decide) k1 (fun _ h9 => h9) rfl dX11_led_15 ?_
    refine va_get (D := D) (ci := 0) (v := .ref (ad 22)) (C := RX0) (T := TX0) (N := 6) hx hb hts k2 hown hK hP 3 (zX_3 cy ad S_2) rfl 4 (by decide) k3 (fun _ h9 => h9) rfl dX11_led_18 ?_
    refine lv_iload_n hx hb dX11_led_21 rfl (lv_at hl 2 rfl) ?_
    obtain ⟨r_5, S_6, h_7, hf⟩ := z_bd hf
    refine z_cVI (As := [.int a_2]) (rest := []) X hK hE hD hA hP hS (cx_Leavens_has l D K cy ad S_2 _ _ _ h_7) (cwV 1 hts (z_gV wt_4_195 wt_4_196 wt_4_197 wt_1_7 wt_4_198) rfl rfl rfl ⟨rfl, yd_yX3_has⟩ ⟨Nat.le_of_ble_eq_true rfl, Nat.le_of_ble_eq_true rfl⟩) (va_recv hK hP (ci := 3) (q0 := 22) rfl (zX_22 cy ad S_2)) hl.1 rfl rfl (Nat.le_of_ble_eq_true rfl) dX11_led_22 (fun H locs hP hS => ?_)
    refine lv_if_ne (tgt := 30) hx hb dX11_led_25 (by decide) (fun c_14 => ?_) (fun c_14 => ?_)
    · have hf := z_if c_14 hf
      refine lv_aload_n hx hb dX11_led_30 rfl (lv_at hl 0 rfl) ?_
      refine va_get (D := D) (ci := 11) (v := .ref (ad 3)) (C := RX11) (T := TX11) (N := 8) hx hb hts k0 hown hK hP 0 (zX_0 cy ad S_6) rfl 1 (by decide) k1 (fun _ h9 => h9) rfl dX11_led_31 ?_
      refine va_get (D := D) (ci := 0) (v := .ref (ad 22)) (C := RX0) (T := TX0) (N := 6) hx hb hts k2 hown hK hP 3 (zX_3 cy ad S_6) rfl 4 (by decide) k3 (fun _ h9 => h9) rfl dX11_led_34 ?_
      refine lv_iload_n hx hb dX11_led_37 rfl (lv_at hl 1 rfl) ?_
      refine lv_iload_n hx hb dX11_led_38 rfl (lv_at hl 2 rfl) ?_
      obtain ⟨r_8, S_9, h_10, hf⟩ := z_bd hf
      refine z_cVI (As := [.int a_1, .int a_2]) (rest := []) X hK hE hD hA hP hS (cx_Leavens_isLed l D K cy ad S_6 _ _ _ _ h_10) (cwV 2 hts (z_gV wt_5_5 wt_4_232 wt_4_233 wt_1_7 wt_4_234) rfl rfl rfl ⟨rfl, yd_yX3_isLed⟩ ⟨Nat.le_of_ble_eq_true rfl, Nat.le_of_ble_eq_true rfl⟩) (va_recv hK hP (ci := 3) (q0 := 22) rfl (zX_22 cy ad S_6)) hl.1 rfl rfl (Nat.le_of_ble_eq_true rfl) dX11_led_39 (fun H locs hP hS => ?_)
      obtain ⟨j_50, ej_50, hf⟩ := z_nm hf
      have J_50 : ∀ (x_11 : Int32) (S_12 : zSt) (H : Heap) (locs : List Loc) (ls : Array Slot), j_50 x_11 S_12 = some (ro, So) → va_P D vwCl (zX cy ad S_12) H → va_S A s.heap H locs → lv_has ls 3 [] → W p l e ({ frames := 1, cells := 0, slots := 0, locals := 22 }) s m ([.ref (ad 0), .int a_1, .int a_2] : List Value).toArray below meth c H locs 0 0 Q (F0 m 50 ls [.int x_11]) := by
        intro x_11 S_12 H locs ls hf hP hS hl
        have hf := z_e2 ej_50 hf
        obtain ⟨h1, h2⟩ := z_s2 hf
        subst h1 h2
        exact hret _ _ _ _ hP hS dX11_led_50
      refine lv_if_eq (tgt := 49) hx hb dX11_led_42 (by decide) (fun c_13 => ?_) (fun c_13 => ?_)
      · have hf := z_it c_13 hf
        refine lv_iconst (v := 0) hx hb dX11_led_49 (by decide) ?_
        exact J_50 (0 : Int32) S_9 _ _ _ hf hP hS (lv_sub hl [] rfl)
      · have hf := z_if c_13 hf
        refine lv_iconst (v := 1) hx hb dX11_led_45 (by decide) ?_
        refine lv_goto (tgt := 50) hx hb dX11_led_46 (by decide) ?_
        exact J_50 (1 : Int32) S_9 _ _ _ hf hP hS (lv_sub hl [] rfl)
    · have hf := z_it c_14 hf
      exact J_28  S_6 _ _ _ hf hP hS (lv_sub hl [] rfl)
def fx_rise (S_0 : zSt) (a_1 : Int32) (a_2 : Int32) (a_3 : Int32) : Option (Int32 × zSt) :=
  zbd (fx_isWithin S_0 a_1 (0 : Int32) (7 : Int32)) fun r_1 S_2 =>
  znm (fun (S_4 : zSt) =>
  some ((0 : Int32), S_4)) fun j_30 =>
  if r_1 = 0 then (
  j_30  S_2) else (
  zbd (fx_isWithin S_2 a_2 (0 : Int32) (7 : Int32)) fun r_5 S_6 =>
  if r_5 = 0 then (
  j_30  S_6) else (
  zbd (fx_isWithin S_6 a_3 (0 : Int32) (9 : Int32)) fun r_8 S_9 =>
  if r_8 = 0 then (
  j_30  S_9) else (
  zck (zix ((a_1 * (8 : Int32)) + a_2) 64) <|
  znm (zpI S_9 30 (((a_1 * (8 : Int32)) + a_2).toNatClampNeg) a_3) fun S_12 =>
  some ((1 : Int32), S_12))))
set_option maxHeartbeats 4000000 in
set_option maxRecDepth 100000 in
theorem cx_rise (l : Launch) (D : va_G) (K : (Nat → Nat) × (Nat → Nat)) (cy : Nat → ClassId) (ad : Nat → Nat) (S_0 : zSt) (a_1 : Int32) (a_2 : Int32) (a_3 : Int32) (ro : Int32) (So : zSt) (hf : fx_rise S_0 a_1 a_2 a_3 = some (ro, So)) : zMI l yX11_rise (zws yX11_rise cX11_rise 4 (Option.some .boolean)) ({ frames := 1, cells := 0, slots := 0, locals := 22 }) D (zTy cy) K (zX cy ad) [.ref (ad 0), .int a_1, .int a_2, .int a_3] S_0 ro So := by
  refine z_metZ (own := RX11) (lv := [(0, .ref (ad 0)), (1, .int a_1), (2, .int a_2), (3, .int a_3)]) (by decide) rfl rfl (Nat.le_of_ble_eq_true rfl) rfl ?_
  intro p e s m below meth c A Q X hK hE hD hA hret hP hS ls hl
  obtain ⟨hx, hb, hml, hown, hts⟩ := id X
  have k0 := (fun w h => List.mem_cons_of_mem _ (zFX11 w h) : ∀ w ∈ u_ws RX11 TX11 8, w ∈ zws yX11_rise cX11_rise 4 (Option.some .boolean))
  have k1 := hts _ (List.mem_cons_of_mem _ wt_2_175)
  have k2 := (fun w h => List.mem_cons_of_mem _ (zFX0 w h) : ∀ w ∈ u_ws RX0 TX0 6, w ∈ zws yX11_rise cX11_rise 4 (Option.some .boolean))
  have k3 := hts _ (List.mem_cons_of_mem _ wt_2_8)
  have k4 := (fun w h => List.mem_cons_of_mem _ (zFX5 w h) : ∀ w ∈ u_ws RX5 TX5 1, w ∈ zws yX11_rise cX11_rise 4 (Option.some .boolean))
  have k5 := hts _ (List.mem_cons_of_mem _ wt_1_229)
  refine lv_iload_n hx hb dX11_rise_0 rfl (lv_at hl 1 rfl) ?_
  refine lv_iconst (v := 0) hx hb dX11_rise_1 (by decide) ?_
  refine lv_bipush (v := 7) hx hb dX11_rise_2 (by decide) ?_
  obtain ⟨r_1, S_2, h_3, hf⟩ := z_bd hf
  refine z_cSI (As := [.int a_1, .int (0 : Int32), .int (7 : Int32)]) (rest := []) X hK hE hD hA hP hS (cx_isWithin l D K cy ad S_0 _ _ _ _ _ h_3) (va_cwS 3 hts (z_gS wt_2_219 wt_2_220 wt_1_1 wt_2_221) rfl rfl rfl yd_yX11_isWithin ⟨Nat.le_of_ble_eq_true rfl, Nat.le_of_ble_eq_true rfl⟩) hl.1 rfl rfl (Nat.le_of_ble_eq_true rfl) dX11_rise_4 (fun H locs hP hS => ?_)
  obtain ⟨j_30, ej_30, hf⟩ := z_nm hf
  have J_30 : ∀ (S_4 : zSt) (H : Heap) (locs : List Loc) (ls : Array Slot), j_30  S_4 = some (ro, So) → va_P D vwCl (zX cy ad S_4) H → va_S A s.heap H locs → lv_has ls 4 [] → W p l e ({ frames := 1, cells := 0, slots := 0, locals := 22 }) s m ([.ref (ad 0), .int a_1, .int a_2, .int a_3] : List Value).toArray below meth c H locs 0 0 Q (F0 m 30 ls []) := by
    intro  S_4 H locs ls hf hP hS hl
    have hf := z_e1 ej_30 hf
    refine lv_iconst (v := 0) hx hb dX11_rise_30 (by decide) ?_
    obtain ⟨h1, h2⟩ := z_s2 hf
    subst h1 h2
    exact hret _ _ _ _ rfl hP hS dX11_rise_31
  refine lv_if_eq (tgt := 30) hx hb dX11_rise_7 (by decide) (fun c_15 => ?_) (fun c_15 => ?_)
  · have hf := z_it c_15 hf
    exact J_30  S_2 _ _ _ hf hP hS (lv_sub hl [] rfl)
  · have hf := z_if c_15 hf
    refine lv_iload_n hx hb dX11_rise_10 rfl (lv_at hl 2 rfl) ?_
    refine lv_iconst (v := 0) hx hb dX11_rise_11 (by decide) ?_
    refine lv_bipush (v := 7) hx hb dX11_rise_12 (by decide) ?_
    obtain ⟨r_5, S_6, h_7, hf⟩ := z_bd hf
    refine z_cSI (As := [.int a_2, .int (0 : Int32), .int (7 : Int32)]) (rest := []) X hK hE hD hA hP hS (cx_isWithin l D K cy ad S_2 _ _ _ _ _ h_7) (va_cwS 3 hts (z_gS wt_2_219 wt_2_220 wt_1_1 wt_2_221) rfl rfl rfl yd_yX11_isWithin ⟨Nat.le_of_ble_eq_true rfl, Nat.le_of_ble_eq_true rfl⟩) hl.1 rfl rfl (Nat.le_of_ble_eq_true rfl) dX11_rise_14 (fun H locs hP hS => ?_)
    refine lv_if_eq (tgt := 30) hx hb dX11_rise_17 (by decide) (fun c_14 => ?_) (fun c_14 => ?_)
    · have hf := z_it c_14 hf
      exact J_30  S_6 _ _ _ hf hP hS (lv_sub hl [] rfl)
    · have hf := z_if c_14 hf
      refine lv_iload_n hx hb dX11_rise_20 rfl (lv_at hl 3 rfl) ?_
      refine lv_iconst (v := 0) hx hb dX11_rise_21 (by decide) ?_
      refine lv_bipush (v := 9) hx hb dX11_rise_22 (by decide) ?_
      obtain ⟨r_8, S_9, h_10, hf⟩ := z_bd hf
      refine z_cSI (As := [.int a_3, .int (0 : Int32), .int (9 : Int32)]) (rest := []) X hK hE hD hA hP hS (cx_isWithin l D K cy ad S_6 _ _ _ _ _ h_10) (va_cwS 3 hts (z_gS wt_2_219 wt_2_220 wt_1_1 wt_2_221) rfl rfl rfl yd_yX11_isWithin ⟨Nat.le_of_ble_eq_true rfl, Nat.le_of_ble_eq_true rfl⟩) hl.1 rfl rfl (Nat.le_of_ble_eq_true rfl) dX11_rise_24 (fun H locs hP hS => ?_)
      refine lv_if_ne (tgt := 32) hx hb dX11_rise_27 (by decide) (fun c_13 => ?_) (fun c_13 => ?_)
      · have hf := z_if c_13 hf
        refine lv_aload_n hx hb dX11_rise_32 rfl (lv_at hl 0 rfl) ?_
        refine va_get (D := D) (ci := 11) (v := .ref (ad 3)) (C := RX11) (T := TX11) (N := 8) hx hb hts k0 hown hK hP 0 (zX_0 cy ad S_9) rfl 1 (by decide) k1 (fun _ h9 => h9) rfl dX11_rise_33 ?_
        refine va_get (D := D) (ci := 0) (v := .ref (ad 29)) (C := RX0) (T := TX0) (N := 6) hx hb hts k2 hown hK hP 3 (zX_3 cy ad S_9) rfl 5 (by decide) k3 (fun _ h9 => h9) rfl dX11_rise_36 ?_
        refine va_get (D := D) (ci := 5) (v := .ref (ad 30)) (C := RX5) (T := TX5) (N := 1) hx hb hts k4 hown hK hP 29 (zX_29 cy ad S_9) rfl 0 (by decide) k5 (fun _ h9 => h9) rfl dX11_rise_39 ?_
        refine lv_iload_n hx hb dX11_rise_42 rfl (lv_at hl 1 rfl) ?_
        refine lv_bipush (v := 8) hx hb dX11_rise_43 (by decide) ?_
        refine lv_imul hx hb dX11_rise_45 ?_
        refine lv_iload_n hx hb dX11_rise_46 rfl (lv_at hl 2 rfl) ?_
        refine lv_iadd hx hb dX11_rise_47 ?_
        refine lv_iload_n hx hb dX11_rise_48 rfl (lv_at hl 3 rfl) ?_
        obtain ⟨h_11, hf⟩ := z_ix hf
        refine z_iast hx hb hK hP (hD S_9) hS 30 0 (zX_30 cy ad S_9) rfl h_11 (k := (((a_1 * (8 : Int32)) + a_2).toNatClampNeg)) rfl dX11_rise_49 (fun H locs hP hS => ?_)
        obtain ⟨S_12, eS_12, hf⟩ := z_nm hf
        have hP := zW_putI hP eS_12 (by decide) rfl
        refine lv_iconst (v := 1) hx hb dX11_rise_50 (by decide) ?_
        obtain ⟨h1, h2⟩ := z_s2 hf
        subst h1 h2
        exact hret _ _ _ _ rfl hP hS dX11_rise_51
      · have hf := z_it c_13 hf
        exact J_30  S_9 _ _ _ hf hP hS (lv_sub hl [] rfl)
def fx_odds (S_0 : zSt) (a_1 : Int32) (a_2 : Int32) : Option (Int64 × zSt) :=
  zbd (fx_Tape_isMark S_0) fun r_1 S_2 =>
  znm (fun (x_4 : Int64) (S_5 : zSt) =>
  znm (zpI S_5 1 1 (0 : Int32)) fun S_6 =>
  some (x_4, S_6)) fun j_114 =>
  if r_1 = 0 then (
  j_114 (-1 : Int64) S_2) else (
  zbd (fx_Houses_has S_2 a_1) fun r_7 S_8 =>
  if r_7 = 0 then (
  j_114 (-1 : Int64) S_8) else (
  znm (fun (S_10 : zSt) =>
  zbd (fx_Rises_above S_10 a_1) fun r_11 S_12 =>
  zbd (fx_Rises_below S_12 a_1 r_11) fun r_14 S_15 =>
  zbd (fx_greatestCommonDivisor S_15 r_11 r_14) fun r_17 S_18 =>
  if (lg_cmp r_17 (0 : Int64)) ≤ 0 then (
  j_114 (-1 : Int64) S_18) else (
  znm (fun (x_20 : Int64) (S_21 : zSt) =>
  zck (znzL r_17) <|
  znm (x_20 / r_17) fun x_23 =>
  j_114 x_23 S_21) fun j_110 =>
  if a_2 = 0 then (
  j_110 r_11 S_18) else (
  j_110 r_14 S_18))) fun j_37 =>
  if a_2 = 0 then (
  j_37  S_8) else (
  if a_2 = (1 : Int32) then (
  j_37  S_8) else (
  j_114 (-1 : Int64) S_8))))
set_option maxHeartbeats 4000000 in
set_option maxRecDepth 100000 in
theorem cx_odds (l : Launch) (D : va_G) (K : (Nat → Nat) × (Nat → Nat)) (cy : Nat → ClassId) (ad : Nat → Nat) (S_0 : zSt) (a_1 : Int32) (a_2 : Int32) (ro : Int64) (So : zSt) (hf : fx_odds S_0 a_1 a_2 = some (ro, So)) : zML l yX11_odds (zws yX11_odds cX11_odds 11 (Option.some .long)) ({ frames := 2, cells := 0, slots := 0, locals := 50 }) D (zTy cy) K (zX cy ad) [.ref (ad 0), .int a_1, .int a_2] S_0 ro So := by
  refine z_metL (own := RX11) (lv := [(0, .ref (ad 0)), (1, .int a_1), (2, .int a_2)]) (by decide) rfl rfl (Nat.le_of_ble_eq_true rfl) rfl ?_
  intro p e s m below meth c A Q X hK hE hD hA hret hP hS ls hl
  obtain ⟨hx, hb, hml, hown, hts⟩ := id X
  have k0 := hts _ (List.mem_cons_of_mem _ wt_5_14)
  have k1 := (fun w h => List.mem_cons_of_mem _ (zFX11 w h) : ∀ w ∈ u_ws RX11 TX11 8, w ∈ zws yX11_odds cX11_odds 11 (Option.some .long))
  have k2 := hts _ (List.mem_cons_of_mem _ wt_2_174)
  have k3 := (fun w h => List.mem_cons_of_mem _ (zFX9 w h) : ∀ w ∈ u_ws RX9 TX9 2, w ∈ zws yX11_odds cX11_odds 11 (Option.some .long))
  have k4 := hts _ (List.mem_cons_of_mem _ wt_1_44)
  have k5 := hts _ (List.mem_cons_of_mem _ wt_2_175)
  have k6 := (fun w h => List.mem_cons_of_mem _ (zFX0 w h) : ∀ w ∈ u_ws RX0 TX0 6, w ∈ zws yX11_odds cX11_odds 11 (Option.some .long))
  have k7 := hts _ (List.mem_cons_of_mem _ wt_1_235)
  have k8 := hts _ (List.mem_cons_of_mem _ wt_2_8)
  refine lv_ldc2 hx hb hown k0 dX11_odds_0 ?_
  refine lv_lstore_n (lv' := [(3, .long (-1 : Int64)), (0, .ref (ad 0)), (1, .int a_1), (2, .int a_2)]) hx hb dX11_odds_3 rfl hl (by decide) rfl (fun ls hl => ?_)
  refine lv_aload_n hx hb dX11_odds_4 rfl (lv_at hl 1 rfl) ?_
  refine va_get (D := D) (ci := 11) (v := .ref (ad 1)) (C := RX11) (T := TX11) (N := 8) hx hb hts k1 hown hK hP 0 (zX_0 cy ad S_0) rfl 0 (by decide) k2 (fun _ h9 => h9) rfl dX11_odds_5 ?_
  obtain ⟨r_1, S_2, h_3, hf⟩ := z_bd hf
  refine z_cVI (As := []) (rest := []) X hK hE hD hA hP hS (cx_Tape_isMark l D K cy ad S_0 _ _ h_3) (cwV 0 hts (z_gV wt_2_222 wt_2_223 wt_2_224 wt_1_2 wt_2_225) rfl rfl rfl ⟨rfl, yd_yX9_isMark⟩ ⟨Nat.le_of_ble_eq_true rfl, Nat.le_of_ble_eq_true rfl⟩) (va_recv hK hP (ci := 9) (q0 := 1) rfl (zX_1 cy ad S_0)) hl.1 rfl rfl (Nat.le_of_ble_eq_true rfl) dX11_odds_8 (fun H locs hP hS => ?_)
  obtain ⟨j_114, ej_114, hf⟩ := z_nm hf
  have J_114 : ∀ (x_4 : Int64) (S_5 : zSt) (H : Heap) (locs : List Loc) (ls : Array Slot), j_114 x_4 S_5 = some (ro, So) → va_P D vwCl (zX cy ad S_5) H → va_S A s.heap H locs → lv_has ls 11 [(0, .ref (ad 0)), (3, .long x_4)] → W p l e ({ frames := 2, cells := 0, slots := 0, locals := 50 }) s m ([.ref (ad 0), .int a_1, .int a_2] : List Value).toArray below meth c H locs 0 0 Q (F0 m 114 ls []) := by
    intro x_4 S_5 H locs ls hf hP hS hl
    have hf := z_e2 ej_114 hf
    refine lv_aload_n hx hb dX11_odds_114 rfl (lv_at hl 0 rfl) ?_
    refine va_get (D := D) (ci := 11) (v := .ref (ad 1)) (C := RX11) (T := TX11) (N := 8) hx hb hts k1 hown hK hP 0 (zX_0 cy ad S_5) rfl 0 (by decide) k2 (fun _ h9 => h9) rfl dX11_odds_115 ?_
    refine lv_iconst (v := 0) hx hb dX11_odds_118 (by decide) ?_
    refine va_put (D := D) (ci := 9) (v := .int (0 : Int32)) (ty := .int) (C := RX9) (T := TX9) (N := 2) hx hb hts k3 tyX9 tyX9_ok nmX9 hown hK hP (hD S_5) hS 1 (zX_1 cy ad S_5) rfl 1 (by decide) k4 (fun _ h9 => h9) rfl (tyX9_ok 1 (by decide)) rfl rfl (Nat.le_of_ble_eq_true rfl) dX11_odds_119 (fun H locs hP _ hS => ?_)
    obtain ⟨S_6, eS_6, hf⟩ := z_nm hf
    have hP := zW_putI hP eS_6 (by decide) rfl
    refine lv_lload_n hx hb dX11_odds_122 rfl (lv_at hl 1 rfl) ?_
    obtain ⟨h1, h2⟩ := z_s2 hf
    subst h1 h2
    exact hret _ _ _ _ hP hS dX11_odds_123
  refine lv_if_eq (tgt := 114) hx hb dX11_odds_11 (by decide) (fun c_29 => ?_) (fun c_29 => ?_)
  · have hf := z_it c_29 hf
    exact J_114 (-1 : Int64) S_2 _ _ _ hf hP hS (lv_sub hl [1, 0] rfl)
  · have hf := z_if c_29 hf
    refine lv_aload_n hx hb dX11_odds_14 rfl (lv_at hl 1 rfl) ?_
    refine va_get (D := D) (ci := 11) (v := .ref (ad 3)) (C := RX11) (T := TX11) (N := 8) hx hb hts k1 hown hK hP 0 (zX_0 cy ad S_2) rfl 1 (by decide) k5 (fun _ h9 => h9) rfl dX11_odds_15 ?_
    refine va_get (D := D) (ci := 0) (v := .ref (ad 4)) (C := RX0) (T := TX0) (N := 6) hx hb hts k6 hown hK hP 3 (zX_3 cy ad S_2) rfl 0 (by decide) k7 (fun _ h9 => h9) rfl dX11_odds_18 ?_
    refine lv_iload_n hx hb dX11_odds_21 rfl (lv_at hl 2 rfl) ?_
    obtain ⟨r_7, S_8, h_9, hf⟩ := z_bd hf
    refine z_cVI (As := [.int a_1]) (rest := []) X hK hE hD hA hP hS (cx_Houses_has l D K cy ad S_2 _ _ _ h_9) (cwV 1 hts (z_gV wt_3_3 wt_3_4 wt_3_5 wt_1_4 wt_3_6) rfl rfl rfl ⟨rfl, yd_yX2_has⟩ ⟨Nat.le_of_ble_eq_true rfl, Nat.le_of_ble_eq_true rfl⟩) (va_recv hK hP (ci := 2) (q0 := 4) rfl (zX_4 cy ad S_2)) hl.1 rfl rfl (Nat.le_of_ble_eq_true rfl) dX11_odds_22 (fun H locs hP hS => ?_)
    refine lv_if_eq (tgt := 114) hx hb dX11_odds_25 (by decide) (fun c_28 => ?_) (fun c_28 => ?_)
    · have hf := z_it c_28 hf
      exact J_114 (-1 : Int64) S_8 _ _ _ hf hP hS (lv_sub hl [1, 0] rfl)
    · have hf := z_if c_28 hf
      refine lv_iload_n hx hb dX11_odds_28 rfl (lv_at hl 3 rfl) ?_
      obtain ⟨j_37, ej_37, hf⟩ := z_nm hf
      have J_37 : ∀ (S_10 : zSt) (H : Heap) (locs : List Loc) (ls : Array Slot), j_37  S_10 = some (ro, So) → va_P D vwCl (zX cy ad S_10) H → va_S A s.heap H locs → lv_has ls 11 [(0, .ref (ad 0)), (1, .int a_1), (2, .int a_2), (3, .long (-1 : Int64))] → W p l e ({ frames := 2, cells := 0, slots := 0, locals := 50 }) s m ([.ref (ad 0), .int a_1, .int a_2] : List Value).toArray below meth c H locs 0 0 Q (F0 m 37 ls []) := by
        intro  S_10 H locs ls hf hP hS hl
        have hf := z_e1 ej_37 hf
        refine lv_aload_n hx hb dX11_odds_37 rfl (lv_at hl 0 rfl) ?_
        refine va_get (D := D) (ci := 11) (v := .ref (ad 3)) (C := RX11) (T := TX11) (N := 8) hx hb hts k1 hown hK hP 0 (zX_0 cy ad S_10) rfl 1 (by decide) k5 (fun _ h9 => h9) rfl dX11_odds_38 ?_
        refine va_get (D := D) (ci := 0) (v := .ref (ad 29)) (C := RX0) (T := TX0) (N := 6) hx hb hts k6 hown hK hP 3 (zX_3 cy ad S_10) rfl 5 (by decide) k8 (fun _ h9 => h9) rfl dX11_odds_41 ?_
        refine lv_aload_n hx hb dX11_odds_44 rfl (lv_at hl 0 rfl) ?_
        refine va_get (D := D) (ci := 11) (v := .ref (ad 3)) (C := RX11) (T := TX11) (N := 8) hx hb hts k1 hown hK hP 0 (zX_0 cy ad S_10) rfl 1 (by decide) k5 (fun _ h9 => h9) rfl dX11_odds_45 ?_
        refine va_get (D := D) (ci := 0) (v := .ref (ad 4)) (C := RX0) (T := TX0) (N := 6) hx hb hts k6 hown hK hP 3 (zX_3 cy ad S_10) rfl 0 (by decide) k7 (fun _ h9 => h9) rfl dX11_odds_48 ?_
        refine lv_iload_n hx hb dX11_odds_51 rfl (lv_at hl 1 rfl) ?_
        refine lv_aload_n hx hb dX11_odds_52 rfl (lv_at hl 0 rfl) ?_
        refine va_get (D := D) (ci := 11) (v := .ref (ad 1)) (C := RX11) (T := TX11) (N := 8) hx hb hts k1 hown hK hP 0 (zX_0 cy ad S_10) rfl 0 (by decide) k2 (fun _ h9 => h9) rfl dX11_odds_53 ?_
        obtain ⟨r_11, S_12, h_13, hf⟩ := z_bd hf
        refine z_cVL (As := [.ref (ad 4), .int a_1, .ref (ad 1)]) (rest := []) X hK hE hD hA hP hS (cx_Rises_above l D K cy ad S_10 _ _ _ h_13) (cwV 3 hts (z_gV wt_5_15 wt_5_16 wt_5_17 wt_1_8 wt_5_18) rfl rfl rfl ⟨rfl, yd_yX5_above⟩ ⟨Nat.le_of_ble_eq_true rfl, Nat.le_of_ble_eq_true rfl⟩) (va_recv hK hP (ci := 5) (q0 := 29) rfl (zX_29 cy ad S_10)) hl.1 rfl rfl (Nat.le_of_ble_eq_true rfl) dX11_odds_56 (fun H locs hP hS => ?_)
        refine lv_lstore (lv' := [(5, .long r_11), (0, .ref (ad 0)), (1, .int a_1), (2, .int a_2), (3, .long (-1 : Int64))]) hx hb dX11_odds_59 hl (by decide) rfl (fun ls hl => ?_)
        refine lv_aload_n hx hb dX11_odds_61 rfl (lv_at hl 1 rfl) ?_
        refine va_get (D := D) (ci := 11) (v := .ref (ad 3)) (C := RX11) (T := TX11) (N := 8) hx hb hts k1 hown hK hP 0 (zX_0 cy ad S_12) rfl 1 (by decide) k5 (fun _ h9 => h9) rfl dX11_odds_62 ?_
        refine va_get (D := D) (ci := 0) (v := .ref (ad 29)) (C := RX0) (T := TX0) (N := 6) hx hb hts k6 hown hK hP 3 (zX_3 cy ad S_12) rfl 5 (by decide) k8 (fun _ h9 => h9) rfl dX11_odds_65 ?_
        refine lv_aload_n hx hb dX11_odds_68 rfl (lv_at hl 1 rfl) ?_
        refine va_get (D := D) (ci := 11) (v := .ref (ad 3)) (C := RX11) (T := TX11) (N := 8) hx hb hts k1 hown hK hP 0 (zX_0 cy ad S_12) rfl 1 (by decide) k5 (fun _ h9 => h9) rfl dX11_odds_69 ?_
        refine va_get (D := D) (ci := 0) (v := .ref (ad 4)) (C := RX0) (T := TX0) (N := 6) hx hb hts k6 hown hK hP 3 (zX_3 cy ad S_12) rfl 0 (by decide) k7 (fun _ h9 => h9) rfl dX11_odds_72 ?_
        refine lv_iload_n hx hb dX11_odds_75 rfl (lv_at hl 2 rfl) ?_
        refine lv_lload hx hb dX11_odds_76 (lv_at hl 0 rfl) ?_
        obtain ⟨r_14, S_15, h_16, hf⟩ := z_bd hf
        refine z_cVL (As := [.ref (ad 4), .int a_1, .long r_11]) (rest := []) X hK hE hD hA hP hS (cx_Rises_below l D K cy ad S_12 _ _ _ _ h_16) (cwV 3 hts (z_gV wt_5_21 wt_5_22 wt_5_23 wt_1_8 wt_5_24) rfl rfl rfl ⟨rfl, yd_yX5_below⟩ ⟨Nat.le_of_ble_eq_true rfl, Nat.le_of_ble_eq_true rfl⟩) (va_recv hK hP (ci := 5) (q0 := 29) rfl (zX_29 cy ad S_12)) hl.1 rfl rfl (Nat.le_of_ble_eq_true rfl) dX11_odds_78 (fun H locs hP hS => ?_)
        refine lv_lstore (lv' := [(7, .long r_14), (5, .long r_11), (0, .ref (ad 0)), (1, .int a_1), (2, .int a_2), (3, .long (-1 : Int64))]) hx hb dX11_odds_81 hl (by decide) rfl (fun ls hl => ?_)
        refine lv_lload hx hb dX11_odds_83 (lv_at hl 1 rfl) ?_
        refine lv_lload hx hb dX11_odds_85 (lv_at hl 0 rfl) ?_
        obtain ⟨r_17, S_18, h_19, hf⟩ := z_bd hf
        refine z_cSL (As := [.long r_11, .long r_14]) (rest := []) X hK hE hD hA hP hS (cx_greatestCommonDivisor l D K cy ad S_15 _ _ _ _ h_19) (va_cwS 2 hts (z_gS wt_4_220 wt_4_221 wt_1_1 wt_4_222) rfl rfl rfl yd_yX11_greatestCommonDivisor ⟨Nat.le_of_ble_eq_true rfl, Nat.le_of_ble_eq_true rfl⟩) hl.1 rfl rfl (Nat.le_of_ble_eq_true rfl) dX11_odds_87 (fun H locs hP hS => ?_)
        refine lv_lstore (lv' := [(9, .long r_17), (7, .long r_14), (5, .long r_11), (0, .ref (ad 0)), (1, .int a_1), (2, .int a_2), (3, .long (-1 : Int64))]) hx hb dX11_odds_90 hl (by decide) rfl (fun ls hl => ?_)
        refine lv_lload hx hb dX11_odds_92 (lv_at hl 0 rfl) ?_
        refine lv_lconst (v := 0) hx hb dX11_odds_94 (by decide) ?_
        refine W.lcmp hx hb dX11_odds_95 ?_
        refine lv_if_le (tgt := 114) hx hb dX11_odds_96 (by decide) (fun c_25 => ?_) (fun c_25 => ?_)
        · have hf := z_it c_25 hf
          exact J_114 (-1 : Int64) S_18 _ _ _ hf hP hS (lv_sub hl [3, 6] rfl)
        · have hf := z_if c_25 hf
          refine lv_iload_n hx hb dX11_odds_99 rfl (lv_at hl 5 rfl) ?_
          obtain ⟨j_110, ej_110, hf⟩ := z_nm hf
          have J_110 : ∀ (x_20 : Int64) (S_21 : zSt) (H : Heap) (locs : List Loc) (ls : Array Slot), j_110 x_20 S_21 = some (ro, So) → va_P D vwCl (zX cy ad S_21) H → va_S A s.heap H locs → lv_has ls 11 [(0, .ref (ad 0)), (9, .long r_17)] → W p l e ({ frames := 2, cells := 0, slots := 0, locals := 50 }) s m ([.ref (ad 0), .int a_1, .int a_2] : List Value).toArray below meth c H locs 0 0 Q (F0 m 110 ls [.long x_20]) := by
            intro x_20 S_21 H locs ls hf hP hS hl
            have hf := z_e2 ej_110 hf
            refine lv_lload hx hb dX11_odds_110 (lv_at hl 1 rfl) ?_
            obtain ⟨h_22, hf⟩ := z_nzL hf
            refine lv_ldiv hx hb dX11_odds_112 h_22 ?_
            refine lv_topl (fun x_23 ex_23 => ?_)
            have hf := z_nv ex_23 hf
            refine lv_lstore_n (lv' := [(3, .long x_23), (0, .ref (ad 0)), (9, .long r_17)]) hx hb dX11_odds_113 rfl hl (by decide) rfl (fun ls hl => ?_)
            exact J_114 x_23 S_21 _ _ _ hf hP hS (lv_sub hl [1, 0] rfl)
          refine lv_if_ne (tgt := 108) hx hb dX11_odds_100 (by decide) (fun c_24 => ?_) (fun c_24 => ?_)
          · have hf := z_if c_24 hf
            refine lv_lload hx hb dX11_odds_108 (lv_at hl 1 rfl) ?_
            exact J_110 r_14 S_18 _ _ _ hf hP hS (lv_sub hl [3, 0] rfl)
          · have hf := z_it c_24 hf
            refine lv_lload hx hb dX11_odds_103 (lv_at hl 2 rfl) ?_
            refine lv_goto (tgt := 110) hx hb dX11_odds_105 (by decide) ?_
            exact J_110 r_11 S_18 _ _ _ hf hP hS (lv_sub hl [3, 0] rfl)
      refine lv_if_eq (tgt := 37) hx hb dX11_odds_29 (by decide) (fun c_27 => ?_) (fun c_27 => ?_)
      · have hf := z_it c_27 hf
        exact J_37  S_8 _ _ _ hf hP hS (lv_sub hl [1, 2, 3, 0] rfl)
      · have hf := z_if c_27 hf
        refine lv_iload_n hx hb dX11_odds_32 rfl (lv_at hl 3 rfl) ?_
        refine lv_iconst (v := 1) hx hb dX11_odds_33 (by decide) ?_
        refine lv_icmp_ne (tgt := 114) hx hb dX11_odds_34 (by decide) (fun c_26 => ?_) (fun c_26 => ?_)
        · have hf := z_if c_26 hf
          exact J_114 (-1 : Int64) S_8 _ _ _ hf hP hS (lv_sub hl [1, 0] rfl)
        · have hf := z_it c_26 hf
          exact J_37  S_8 _ _ _ hf hP hS (lv_sub hl [1, 2, 3, 0] rfl)
def fx_whose (S_0 : zSt) (a_1 : Int32) : Option (Int32 × zSt) :=
  zbd (fx_Tape_isMark S_0) fun r_1 S_2 =>
  znm (fun (x_4 : Int32) (S_5 : zSt) =>
  znm (zpI S_5 1 1 (0 : Int32)) fun S_6 =>
  some (x_4, S_6)) fun j_54 =>
  if r_1 = 0 then (
  j_54 (-2 : Int32) S_2) else (
  znm (fun (S_7 : zSt) =>
  znm (fun (x_8 : Int32) (S_9 : zSt) =>
  zbd (fx_Rises_likeliest S_9 x_8) fun r_10 S_11 =>
  j_54 r_10 S_11) fun j_50 =>
  if a_1 = (1 : Int32) then (
  j_50 (1 : Int32) S_7) else (
  j_50 (0 : Int32) S_7)) fun j_22 =>
  if a_1 = 0 then (
  j_22  S_2) else (
  if a_1 = (1 : Int32) then (
  j_22  S_2) else (
  j_54 (-2 : Int32) S_2)))
set_option maxHeartbeats 4000000 in
set_option maxRecDepth 100000 in
theorem cx_whose (l : Launch) (D : va_G) (K : (Nat → Nat) × (Nat → Nat)) (cy : Nat → ClassId) (ad : Nat → Nat) (S_0 : zSt) (a_1 : Int32) (ro : Int32) (So : zSt) (hf : fx_whose S_0 a_1 = some (ro, So)) : zMI l yX11_whose (zws yX11_whose cX11_whose 3 (Option.some .int)) ({ frames := 3, cells := 0, slots := 0, locals := 85 }) D (zTy cy) K (zX cy ad) [.ref (ad 0), .int a_1] S_0 ro So := by
  refine z_metI (own := RX11) (lv := [(0, .ref (ad 0)), (1, .int a_1)]) (by decide) rfl rfl (Nat.le_of_ble_eq_true rfl) rfl ?_
  intro p e s m below meth c A Q X hK hE hD hA hret hP hS ls hl
  obtain ⟨hx, hb, hml, hown, hts⟩ := id X
  have k0 := (fun w h => List.mem_cons_of_mem _ (zFX11 w h) : ∀ w ∈ u_ws RX11 TX11 8, w ∈ zws yX11_whose cX11_whose 3 (Option.some .int))
  have k1 := hts _ (List.mem_cons_of_mem _ wt_2_174)
  have k2 := (fun w h => List.mem_cons_of_mem _ (zFX9 w h) : ∀ w ∈ u_ws RX9 TX9 2, w ∈ zws yX11_whose cX11_whose 3 (Option.some .int))
  have k3 := hts _ (List.mem_cons_of_mem _ wt_1_44)
  have k4 := hts _ (List.mem_cons_of_mem _ wt_2_175)
  have k5 := (fun w h => List.mem_cons_of_mem _ (zFX0 w h) : ∀ w ∈ u_ws RX0 TX0 6, w ∈ zws yX11_whose cX11_whose 3 (Option.some .int))
  have k6 := hts _ (List.mem_cons_of_mem _ wt_2_8)
  have k7 := hts _ (List.mem_cons_of_mem _ wt_1_235)
  refine lv_bipush (v := -2) hx hb dX11_whose_0 (by decide) ?_
  refine lv_istore_n (lv' := [(2, .int (-2 : Int32)), (0, .ref (ad 0)), (1, .int a_1)]) hx hb dX11_whose_2 rfl hl (by decide) rfl (fun ls hl => ?_)
  refine lv_aload_n hx hb dX11_whose_3 rfl (lv_at hl 1 rfl) ?_
  refine va_get (D := D) (ci := 11) (v := .ref (ad 1)) (C := RX11) (T := TX11) (N := 8) hx hb hts k0 hown hK hP 0 (zX_0 cy ad S_0) rfl 0 (by decide) k1 (fun _ h9 => h9) rfl dX11_whose_4 ?_
  obtain ⟨r_1, S_2, h_3, hf⟩ := z_bd hf
  refine z_cVI (As := []) (rest := []) X hK hE hD hA hP hS (cx_Tape_isMark l D K cy ad S_0 _ _ h_3) (cwV 0 hts (z_gV wt_2_222 wt_2_223 wt_2_224 wt_1_2 wt_2_225) rfl rfl rfl ⟨rfl, yd_yX9_isMark⟩ ⟨Nat.le_of_ble_eq_true rfl, Nat.le_of_ble_eq_true rfl⟩) (va_recv hK hP (ci := 9) (q0 := 1) rfl (zX_1 cy ad S_0)) hl.1 rfl rfl (Nat.le_of_ble_eq_true rfl) dX11_whose_7 (fun H locs hP hS => ?_)
  obtain ⟨j_54, ej_54, hf⟩ := z_nm hf
  have J_54 : ∀ (x_4 : Int32) (S_5 : zSt) (H : Heap) (locs : List Loc) (ls : Array Slot), j_54 x_4 S_5 = some (ro, So) → va_P D vwCl (zX cy ad S_5) H → va_S A s.heap H locs → lv_has ls 3 [(0, .ref (ad 0)), (2, .int x_4)] → W p l e ({ frames := 3, cells := 0, slots := 0, locals := 85 }) s m ([.ref (ad 0), .int a_1] : List Value).toArray below meth c H locs 0 0 Q (F0 m 54 ls []) := by
    intro x_4 S_5 H locs ls hf hP hS hl
    have hf := z_e2 ej_54 hf
    refine lv_aload_n hx hb dX11_whose_54 rfl (lv_at hl 0 rfl) ?_
    refine va_get (D := D) (ci := 11) (v := .ref (ad 1)) (C := RX11) (T := TX11) (N := 8) hx hb hts k0 hown hK hP 0 (zX_0 cy ad S_5) rfl 0 (by decide) k1 (fun _ h9 => h9) rfl dX11_whose_55 ?_
    refine lv_iconst (v := 0) hx hb dX11_whose_58 (by decide) ?_
    refine va_put (D := D) (ci := 9) (v := .int (0 : Int32)) (ty := .int) (C := RX9) (T := TX9) (N := 2) hx hb hts k2 tyX9 tyX9_ok nmX9 hown hK hP (hD S_5) hS 1 (zX_1 cy ad S_5) rfl 1 (by decide) k3 (fun _ h9 => h9) rfl (tyX9_ok 1 (by decide)) rfl rfl (Nat.le_of_ble_eq_true rfl) dX11_whose_59 (fun H locs hP _ hS => ?_)
    obtain ⟨S_6, eS_6, hf⟩ := z_nm hf
    have hP := zW_putI hP eS_6 (by decide) rfl
    refine lv_iload_n hx hb dX11_whose_62 rfl (lv_at hl 1 rfl) ?_
    obtain ⟨h1, h2⟩ := z_s2 hf
    subst h1 h2
    exact hret _ _ _ _ hP hS dX11_whose_63
  refine lv_if_eq (tgt := 54) hx hb dX11_whose_10 (by decide) (fun c_16 => ?_) (fun c_16 => ?_)
  · have hf := z_it c_16 hf
    exact J_54 (-2 : Int32) S_2 _ _ _ hf hP hS (lv_sub hl [1, 0] rfl)
  · have hf := z_if c_16 hf
    refine lv_iload_n hx hb dX11_whose_13 rfl (lv_at hl 2 rfl) ?_
    obtain ⟨j_22, ej_22, hf⟩ := z_nm hf
    have J_22 : ∀ (S_7 : zSt) (H : Heap) (locs : List Loc) (ls : Array Slot), j_22  S_7 = some (ro, So) → va_P D vwCl (zX cy ad S_7) H → va_S A s.heap H locs → lv_has ls 3 [(0, .ref (ad 0)), (1, .int a_1)] → W p l e ({ frames := 3, cells := 0, slots := 0, locals := 85 }) s m ([.ref (ad 0), .int a_1] : List Value).toArray below meth c H locs 0 0 Q (F0 m 22 ls []) := by
      intro  S_7 H locs ls hf hP hS hl
      have hf := z_e1 ej_22 hf
      refine lv_aload_n hx hb dX11_whose_22 rfl (lv_at hl 0 rfl) ?_
      refine va_get (D := D) (ci := 11) (v := .ref (ad 3)) (C := RX11) (T := TX11) (N := 8) hx hb hts k0 hown hK hP 0 (zX_0 cy ad S_7) rfl 1 (by decide) k4 (fun _ h9 => h9) rfl dX11_whose_23 ?_
      refine va_get (D := D) (ci := 0) (v := .ref (ad 29)) (C := RX0) (T := TX0) (N := 6) hx hb hts k5 hown hK hP 3 (zX_3 cy ad S_7) rfl 5 (by decide) k6 (fun _ h9 => h9) rfl dX11_whose_26 ?_
      refine lv_aload_n hx hb dX11_whose_29 rfl (lv_at hl 0 rfl) ?_
      refine va_get (D := D) (ci := 11) (v := .ref (ad 3)) (C := RX11) (T := TX11) (N := 8) hx hb hts k0 hown hK hP 0 (zX_0 cy ad S_7) rfl 1 (by decide) k4 (fun _ h9 => h9) rfl dX11_whose_30 ?_
      refine va_get (D := D) (ci := 0) (v := .ref (ad 4)) (C := RX0) (T := TX0) (N := 6) hx hb hts k5 hown hK hP 3 (zX_3 cy ad S_7) rfl 0 (by decide) k7 (fun _ h9 => h9) rfl dX11_whose_33 ?_
      refine lv_aload_n hx hb dX11_whose_36 rfl (lv_at hl 0 rfl) ?_
      refine va_get (D := D) (ci := 11) (v := .ref (ad 1)) (C := RX11) (T := TX11) (N := 8) hx hb hts k0 hown hK hP 0 (zX_0 cy ad S_7) rfl 0 (by decide) k1 (fun _ h9 => h9) rfl dX11_whose_37 ?_
      refine lv_iload_n hx hb dX11_whose_40 rfl (lv_at hl 1 rfl) ?_
      refine lv_iconst (v := 1) hx hb dX11_whose_41 (by decide) ?_
      obtain ⟨j_50, ej_50, hf⟩ := z_nm hf
      have J_50 : ∀ (x_8 : Int32) (S_9 : zSt) (H : Heap) (locs : List Loc) (ls : Array Slot), j_50 x_8 S_9 = some (ro, So) → va_P D vwCl (zX cy ad S_9) H → va_S A s.heap H locs → lv_has ls 3 [(0, .ref (ad 0))] → W p l e ({ frames := 3, cells := 0, slots := 0, locals := 85 }) s m ([.ref (ad 0), .int a_1] : List Value).toArray below meth c H locs 0 0 Q (F0 m 50 ls [.int x_8, .ref (ad 1), .ref (ad 4), .ref (ad 29)]) := by
        intro x_8 S_9 H locs ls hf hP hS hl
        have hf := z_e2 ej_50 hf
        obtain ⟨r_10, S_11, h_12, hf⟩ := z_bd hf
        refine z_cVI (As := [.ref (ad 4), .ref (ad 1), .int x_8]) (rest := []) X hK hE hD hA hP hS (cx_Rises_likeliest l D K cy ad S_9 _ _ _ h_12) (cwV 3 hts (z_gV wt_5_33 wt_5_34 wt_5_35 wt_1_8 wt_5_36) rfl rfl rfl ⟨rfl, yd_yX5_likeliest⟩ ⟨Nat.le_of_ble_eq_true rfl, Nat.le_of_ble_eq_true rfl⟩) (va_recv hK hP (ci := 5) (q0 := 29) rfl (zX_29 cy ad S_9)) hl.1 rfl rfl (Nat.le_of_ble_eq_true rfl) dX11_whose_50 (fun H locs hP hS => ?_)
        refine lv_istore_n (lv' := [(2, .int r_10), (0, .ref (ad 0))]) hx hb dX11_whose_53 rfl hl (by decide) rfl (fun ls hl => ?_)
        exact J_54 r_10 S_11 _ _ _ hf hP hS (lv_sub hl [1, 0] rfl)
      refine lv_icmp_ne (tgt := 49) hx hb dX11_whose_42 (by decide) (fun c_13 => ?_) (fun c_13 => ?_)
      · have hf := z_if c_13 hf
        refine lv_iconst (v := 0) hx hb dX11_whose_49 (by decide) ?_
        exact J_50 (0 : Int32) S_7 _ _ _ hf hP hS (lv_sub hl [0] rfl)
      · have hf := z_it c_13 hf
        refine lv_iconst (v := 1) hx hb dX11_whose_45 (by decide) ?_
        refine lv_goto (tgt := 50) hx hb dX11_whose_46 (by decide) ?_
        exact J_50 (1 : Int32) S_7 _ _ _ hf hP hS (lv_sub hl [0] rfl)
    refine lv_if_eq (tgt := 22) hx hb dX11_whose_14 (by decide) (fun c_15 => ?_) (fun c_15 => ?_)
    · have hf := z_it c_15 hf
      exact J_22  S_2 _ _ _ hf hP hS (lv_sub hl [1, 2] rfl)
    · have hf := z_if c_15 hf
      refine lv_iload_n hx hb dX11_whose_17 rfl (lv_at hl 2 rfl) ?_
      refine lv_iconst (v := 1) hx hb dX11_whose_18 (by decide) ?_
      refine lv_icmp_ne (tgt := 54) hx hb dX11_whose_19 (by decide) (fun c_14 => ?_) (fun c_14 => ?_)
      · have hf := z_if c_14 hf
        exact J_54 (-2 : Int32) S_2 _ _ _ hf hP hS (lv_sub hl [1, 0] rfl)
      · have hf := z_it c_14 hf
        exact J_22  S_2 _ _ _ hf hP hS (lv_sub hl [1, 2] rfl)
def fx_owe (S_0 : zSt) (a_1 : Int32) (a_2 : Int32) (a_3 : Int32) : Option (Int32 × zSt) :=
  zbd (fx_Houses_has S_0 a_1) fun r_1 S_2 =>
  znm (fun (S_4 : zSt) =>
  some ((0 : Int32), S_4)) fun j_45 =>
  if r_1 = 0 then (
  j_45  S_2) else (
  zbd (fx_Houses_has S_2 a_2) fun r_5 S_6 =>
  if r_5 = 0 then (
  j_45  S_6) else (
  if a_1 = a_2 then (
  j_45  S_6) else (
  zbd (fx_isWithin S_6 a_3 (-99999 : Int32) (99999 : Int32)) fun r_8 S_9 =>
  if r_8 = 0 then (
  j_45  S_9) else (
  zck (zix a_1 9) <|
  zck (zix a_1 9) <|
  znm (zpI S_9 10 (a_1.toNatClampNeg) ((S_9.1 10 (a_1.toNatClampNeg)) - a_3)) fun S_13 =>
  zck (zix a_2 9) <|
  zck (zix a_2 9) <|
  znm (zpI S_13 10 (a_2.toNatClampNeg) ((S_13.1 10 (a_2.toNatClampNeg)) + a_3)) fun S_16 =>
  some ((1 : Int32), S_16)))))
set_option maxHeartbeats 4000000 in
set_option maxRecDepth 100000 in
theorem cx_owe (l : Launch) (D : va_G) (K : (Nat → Nat) × (Nat → Nat)) (cy : Nat → ClassId) (ad : Nat → Nat) (S_0 : zSt) (a_1 : Int32) (a_2 : Int32) (a_3 : Int32) (ro : Int32) (So : zSt) (hf : fx_owe S_0 a_1 a_2 a_3 = some (ro, So)) : zMI l yX11_owe (zws yX11_owe cX11_owe 4 (Option.some .boolean)) ({ frames := 1, cells := 0, slots := 0, locals := 22 }) D (zTy cy) K (zX cy ad) [.ref (ad 0), .int a_1, .int a_2, .int a_3] S_0 ro So := by
  refine z_metZ (own := RX11) (lv := [(0, .ref (ad 0)), (1, .int a_1), (2, .int a_2), (3, .int a_3)]) (by decide) rfl rfl (Nat.le_of_ble_eq_true rfl) rfl ?_
  intro p e s m below meth c A Q X hK hE hD hA hret hP hS ls hl
  obtain ⟨hx, hb, hml, hown, hts⟩ := id X
  have k0 := (fun w h => List.mem_cons_of_mem _ (zFX11 w h) : ∀ w ∈ u_ws RX11 TX11 8, w ∈ zws yX11_owe cX11_owe 4 (Option.some .boolean))
  have k1 := hts _ (List.mem_cons_of_mem _ wt_2_175)
  have k2 := (fun w h => List.mem_cons_of_mem _ (zFX0 w h) : ∀ w ∈ u_ws RX0 TX0 6, w ∈ zws yX11_owe cX11_owe 4 (Option.some .boolean))
  have k3 := hts _ (List.mem_cons_of_mem _ wt_1_235)
  have k4 := hts _ (List.mem_cons_of_mem _ wt_5_46)
  have k5 := hts _ (List.mem_cons_of_mem _ wt_3_7)
  have k6 := (fun w h => List.mem_cons_of_mem _ (zFX2 w h) : ∀ w ∈ u_ws RX2 TX2 7, w ∈ zws yX11_owe cX11_owe 4 (Option.some .boolean))
  have k7 := hts _ (List.mem_cons_of_mem _ wt_1_85)
  refine lv_aload_n hx hb dX11_owe_0 rfl (lv_at hl 0 rfl) ?_
  refine va_get (D := D) (ci := 11) (v := .ref (ad 3)) (C := RX11) (T := TX11) (N := 8) hx hb hts k0 hown hK hP 0 (zX_0 cy ad S_0) rfl 1 (by decide) k1 (fun _ h9 => h9) rfl dX11_owe_1 ?_
  refine va_get (D := D) (ci := 0) (v := .ref (ad 4)) (C := RX0) (T := TX0) (N := 6) hx hb hts k2 hown hK hP 3 (zX_3 cy ad S_0) rfl 0 (by decide) k3 (fun _ h9 => h9) rfl dX11_owe_4 ?_
  refine lv_iload_n hx hb dX11_owe_7 rfl (lv_at hl 1 rfl) ?_
  obtain ⟨r_1, S_2, h_3, hf⟩ := z_bd hf
  refine z_cVI (As := [.int a_1]) (rest := []) X hK hE hD hA hP hS (cx_Houses_has l D K cy ad S_0 _ _ _ h_3) (cwV 1 hts (z_gV wt_3_3 wt_3_4 wt_3_5 wt_1_4 wt_3_6) rfl rfl rfl ⟨rfl, yd_yX2_has⟩ ⟨Nat.le_of_ble_eq_true rfl, Nat.le_of_ble_eq_true rfl⟩) (va_recv hK hP (ci := 2) (q0 := 4) rfl (zX_4 cy ad S_0)) hl.1 rfl rfl (Nat.le_of_ble_eq_true rfl) dX11_owe_8 (fun H locs hP hS => ?_)
  obtain ⟨j_45, ej_45, hf⟩ := z_nm hf
  have J_45 : ∀ (S_4 : zSt) (H : Heap) (locs : List Loc) (ls : Array Slot), j_45  S_4 = some (ro, So) → va_P D vwCl (zX cy ad S_4) H → va_S A s.heap H locs → lv_has ls 4 [] → W p l e ({ frames := 1, cells := 0, slots := 0, locals := 22 }) s m ([.ref (ad 0), .int a_1, .int a_2, .int a_3] : List Value).toArray below meth c H locs 0 0 Q (F0 m 45 ls []) := by
    intro  S_4 H locs ls hf hP hS hl
    have hf := z_e1 ej_45 hf
    refine lv_iconst (v := 0) hx hb dX11_owe_45 (by decide) ?_
    obtain ⟨h1, h2⟩ := z_s2 hf
    subst h1 h2
    exact hret _ _ _ _ rfl hP hS dX11_owe_46
  refine lv_if_eq (tgt := 45) hx hb dX11_owe_11 (by decide) (fun c_20 => ?_) (fun c_20 => ?_)
  · have hf := z_it c_20 hf
    exact J_45  S_2 _ _ _ hf hP hS (lv_sub hl [] rfl)
  · have hf := z_if c_20 hf
    refine lv_aload_n hx hb dX11_owe_14 rfl (lv_at hl 0 rfl) ?_
    refine va_get (D := D) (ci := 11) (v := .ref (ad 3)) (C := RX11) (T := TX11) (N := 8) hx hb hts k0 hown hK hP 0 (zX_0 cy ad S_2) rfl 1 (by decide) k1 (fun _ h9 => h9) rfl dX11_owe_15 ?_
    refine va_get (D := D) (ci := 0) (v := .ref (ad 4)) (C := RX0) (T := TX0) (N := 6) hx hb hts k2 hown hK hP 3 (zX_3 cy ad S_2) rfl 0 (by decide) k3 (fun _ h9 => h9) rfl dX11_owe_18 ?_
    refine lv_iload_n hx hb dX11_owe_21 rfl (lv_at hl 2 rfl) ?_
    obtain ⟨r_5, S_6, h_7, hf⟩ := z_bd hf
    refine z_cVI (As := [.int a_2]) (rest := []) X hK hE hD hA hP hS (cx_Houses_has l D K cy ad S_2 _ _ _ h_7) (cwV 1 hts (z_gV wt_3_3 wt_3_4 wt_3_5 wt_1_4 wt_3_6) rfl rfl rfl ⟨rfl, yd_yX2_has⟩ ⟨Nat.le_of_ble_eq_true rfl, Nat.le_of_ble_eq_true rfl⟩) (va_recv hK hP (ci := 2) (q0 := 4) rfl (zX_4 cy ad S_2)) hl.1 rfl rfl (Nat.le_of_ble_eq_true rfl) dX11_owe_22 (fun H locs hP hS => ?_)
    refine lv_if_eq (tgt := 45) hx hb dX11_owe_25 (by decide) (fun c_19 => ?_) (fun c_19 => ?_)
    · have hf := z_it c_19 hf
      exact J_45  S_6 _ _ _ hf hP hS (lv_sub hl [] rfl)
    · have hf := z_if c_19 hf
      refine lv_iload_n hx hb dX11_owe_28 rfl (lv_at hl 1 rfl) ?_
      refine lv_iload_n hx hb dX11_owe_29 rfl (lv_at hl 2 rfl) ?_
      refine lv_icmp_eq (tgt := 45) hx hb dX11_owe_30 (by decide) (fun c_18 => ?_) (fun c_18 => ?_)
      · have hf := z_it c_18 hf
        exact J_45  S_6 _ _ _ hf hP hS (lv_sub hl [] rfl)
      · have hf := z_if c_18 hf
        refine lv_iload_n hx hb dX11_owe_33 rfl (lv_at hl 3 rfl) ?_
        refine lv_ldcw hx hb hown k4 dX11_owe_34 ?_
        refine lv_ldc hx hb hown k5 dX11_owe_37 ?_
        obtain ⟨r_8, S_9, h_10, hf⟩ := z_bd hf
        refine z_cSI (As := [.int a_3, .int (-99999 : Int32), .int (99999 : Int32)]) (rest := []) X hK hE hD hA hP hS (cx_isWithin l D K cy ad S_6 _ _ _ _ _ h_10) (va_cwS 3 hts (z_gS wt_2_219 wt_2_220 wt_1_1 wt_2_221) rfl rfl rfl yd_yX11_isWithin ⟨Nat.le_of_ble_eq_true rfl, Nat.le_of_ble_eq_true rfl⟩) hl.1 rfl rfl (Nat.le_of_ble_eq_true rfl) dX11_owe_39 (fun H locs hP hS => ?_)
        refine lv_if_ne (tgt := 47) hx hb dX11_owe_42 (by decide) (fun c_17 => ?_) (fun c_17 => ?_)
        · have hf := z_if c_17 hf
          refine lv_aload_n hx hb dX11_owe_47 rfl (lv_at hl 0 rfl) ?_
          refine va_get (D := D) (ci := 11) (v := .ref (ad 3)) (C := RX11) (T := TX11) (N := 8) hx hb hts k0 hown hK hP 0 (zX_0 cy ad S_9) rfl 1 (by decide) k1 (fun _ h9 => h9) rfl dX11_owe_48 ?_
          refine va_get (D := D) (ci := 0) (v := .ref (ad 4)) (C := RX0) (T := TX0) (N := 6) hx hb hts k2 hown hK hP 3 (zX_3 cy ad S_9) rfl 0 (by decide) k3 (fun _ h9 => h9) rfl dX11_owe_51 ?_
          refine va_get (D := D) (ci := 2) (v := .ref (ad 10)) (C := RX2) (T := TX2) (N := 7) hx hb hts k6 hown hK hP 4 (zX_4 cy ad S_9) rfl 6 (by decide) k7 (fun _ h9 => h9) rfl dX11_owe_54 ?_
          refine lv_iload_n hx hb dX11_owe_57 rfl (lv_at hl 1 rfl) ?_
          refine lv_dup2_11 hx hb dX11_owe_58 rfl rfl ?_
          obtain ⟨h_11, hf⟩ := z_ix hf
          refine z_iald hx hb hK hP 10 0 (zX_10 cy ad S_9) rfl h_11 (k := (a_1.toNatClampNeg)) rfl dX11_owe_59 ?_
          refine lv_iload_n hx hb dX11_owe_60 rfl (lv_at hl 3 rfl) ?_
          refine lv_isub hx hb dX11_owe_61 ?_
          obtain ⟨h_12, hf⟩ := z_ix hf
          refine z_iast hx hb hK hP (hD S_9) hS 10 0 (zX_10 cy ad S_9) rfl h_12 (k := (a_1.toNatClampNeg)) rfl dX11_owe_62 (fun H locs hP hS => ?_)
          obtain ⟨S_13, eS_13, hf⟩ := z_nm hf
          have hP := zW_putI hP eS_13 (by decide) rfl
          refine lv_aload_n hx hb dX11_owe_63 rfl (lv_at hl 0 rfl) ?_
          refine va_get (D := D) (ci := 11) (v := .ref (ad 3)) (C := RX11) (T := TX11) (N := 8) hx hb hts k0 hown hK hP 0 (zX_0 cy ad S_13) rfl 1 (by decide) k1 (fun _ h9 => h9) rfl dX11_owe_64 ?_
          refine va_get (D := D) (ci := 0) (v := .ref (ad 4)) (C := RX0) (T := TX0) (N := 6) hx hb hts k2 hown hK hP 3 (zX_3 cy ad S_13) rfl 0 (by decide) k3 (fun _ h9 => h9) rfl dX11_owe_67 ?_
          refine va_get (D := D) (ci := 2) (v := .ref (ad 10)) (C := RX2) (T := TX2) (N := 7) hx hb hts k6 hown hK hP 4 (zX_4 cy ad S_13) rfl 6 (by decide) k7 (fun _ h9 => h9) rfl dX11_owe_70 ?_
          refine lv_iload_n hx hb dX11_owe_73 rfl (lv_at hl 2 rfl) ?_
          refine lv_dup2_11 hx hb dX11_owe_74 rfl rfl ?_
          obtain ⟨h_14, hf⟩ := z_ix hf
          refine z_iald hx hb hK hP 10 0 (zX_10 cy ad S_13) rfl h_14 (k := (a_2.toNatClampNeg)) rfl dX11_owe_75 ?_
          refine lv_iload_n hx hb dX11_owe_76 rfl (lv_at hl 3 rfl) ?_
          refine lv_iadd hx hb dX11_owe_77 ?_
          obtain ⟨h_15, hf⟩ := z_ix hf
          refine z_iast hx hb hK hP (hD S_13) hS 10 0 (zX_10 cy ad S_13) rfl h_15 (k := (a_2.toNatClampNeg)) rfl dX11_owe_78 (fun H locs hP hS => ?_)
          obtain ⟨S_16, eS_16, hf⟩ := z_nm hf
          have hP := zW_putI hP eS_16 (by decide) rfl
          refine lv_iconst (v := 1) hx hb dX11_owe_79 (by decide) ?_
          obtain ⟨h1, h2⟩ := z_s2 hf
          subst h1 h2
          exact hret _ _ _ _ rfl hP hS dX11_owe_80
        · have hf := z_it c_17 hf
          exact J_45  S_9 _ _ _ hf hP hS (lv_sub hl [] rfl)
def fx_payments (S_0 : zSt) : Option (Int32 × zSt) :=
  zbd (fx_Settling_fewest S_0) fun r_1 S_2 =>
  some (r_1, S_2)
set_option maxHeartbeats 4000000 in
set_option maxRecDepth 100000 in
theorem cx_payments (l : Launch) (D : va_G) (K : (Nat → Nat) × (Nat → Nat)) (cy : Nat → ClassId) (ad : Nat → Nat) (S_0 : zSt) (ro : Int32) (So : zSt) (hf : fx_payments S_0 = some (ro, So)) : zMI l yX11_payments (zws yX11_payments cX11_payments 1 (Option.some .int)) ({ frames := 2, cells := 0, slots := 0, locals := 226 }) D (zTy cy) K (zX cy ad) [.ref (ad 0)] S_0 ro So := by
  refine z_metI (own := RX11) (lv := [(0, .ref (ad 0))]) (by decide) rfl rfl (Nat.le_of_ble_eq_true rfl) rfl ?_
  intro p e s m below meth c A Q X hK hE hD hA hret hP hS ls hl
  obtain ⟨hx, hb, hml, hown, hts⟩ := id X
  have k0 := (fun w h => List.mem_cons_of_mem _ (zFX11 w h) : ∀ w ∈ u_ws RX11 TX11 8, w ∈ zws yX11_payments cX11_payments 1 (Option.some .int))
  have k1 := hts _ (List.mem_cons_of_mem _ wt_2_181)
  have k2 := hts _ (List.mem_cons_of_mem _ wt_2_175)
  have k3 := (fun w h => List.mem_cons_of_mem _ (zFX0 w h) : ∀ w ∈ u_ws RX0 TX0 6, w ∈ zws yX11_payments cX11_payments 1 (Option.some .int))
  have k4 := hts _ (List.mem_cons_of_mem _ wt_1_235)
  refine lv_aload_n hx hb dX11_payments_0 rfl (lv_at hl 0 rfl) ?_
  refine va_get (D := D) (ci := 11) (v := .ref (ad 138)) (C := RX11) (T := TX11) (N := 8) hx hb hts k0 hown hK hP 0 (zX_0 cy ad S_0) rfl 7 (by decide) k1 (fun _ h9 => h9) rfl dX11_payments_1 ?_
  refine lv_aload_n hx hb dX11_payments_4 rfl (lv_at hl 0 rfl) ?_
  refine va_get (D := D) (ci := 11) (v := .ref (ad 3)) (C := RX11) (T := TX11) (N := 8) hx hb hts k0 hown hK hP 0 (zX_0 cy ad S_0) rfl 1 (by decide) k2 (fun _ h9 => h9) rfl dX11_payments_5 ?_
  refine va_get (D := D) (ci := 0) (v := .ref (ad 4)) (C := RX0) (T := TX0) (N := 6) hx hb hts k3 hown hK hP 3 (zX_3 cy ad S_0) rfl 0 (by decide) k4 (fun _ h9 => h9) rfl dX11_payments_8 ?_
  obtain ⟨r_1, S_2, h_3, hf⟩ := z_bd hf
  refine z_cVI (As := [.ref (ad 4)]) (rest := []) X hK hE hD hA hP hS (cx_Settling_fewest l D K cy ad S_0 _ _ h_3) (cwV 1 hts (z_gV wt_5_51 wt_5_52 wt_5_53 wt_1_12 wt_5_54) rfl rfl rfl ⟨rfl, yd_yX8_fewest⟩ ⟨Nat.le_of_ble_eq_true rfl, Nat.le_of_ble_eq_true rfl⟩) (va_recv hK hP (ci := 8) (q0 := 138) rfl (zX_138 cy ad S_0)) hl.1 rfl rfl (Nat.le_of_ble_eq_true rfl) dX11_payments_11 (fun H locs hP hS => ?_)
  obtain ⟨h1, h2⟩ := z_s2 hf
  subst h1 h2
  exact hret _ _ _ _ hP hS dX11_payments_14
def fx_undo (S_0 : zSt) : Option (Int32 × zSt) :=
  zbd (fx_History_bringBack S_0) fun r_1 S_2 =>
  zck (zbo r_1) <|
  some (r_1, S_2)
set_option maxHeartbeats 4000000 in
set_option maxRecDepth 100000 in
theorem cx_undo (l : Launch) (D : va_G) (K : (Nat → Nat) × (Nat → Nat)) (cy : Nat → ClassId) (ad : Nat → Nat) (S_0 : zSt) (ro : Int32) (So : zSt) (hf : fx_undo S_0 = some (ro, So)) : zMI l yX11_undo (zws yX11_undo cX11_undo 1 (Option.some .boolean)) ({ frames := 3, cells := 0, slots := 0, locals := 242 }) D (zTy cy) K (zX cy ad) [.ref (ad 0)] S_0 ro So := by
  refine z_metZ (own := RX11) (lv := [(0, .ref (ad 0))]) (by decide) rfl rfl (Nat.le_of_ble_eq_true rfl) rfl ?_
  intro p e s m below meth c A Q X hK hE hD hA hret hP hS ls hl
  obtain ⟨hx, hb, hml, hown, hts⟩ := id X
  have k0 := (fun w h => List.mem_cons_of_mem _ (zFX11 w h) : ∀ w ∈ u_ws RX11 TX11 8, w ∈ zws yX11_undo cX11_undo 1 (Option.some .boolean))
  have k1 := hts _ (List.mem_cons_of_mem _ wt_2_178)
  have k2 := hts _ (List.mem_cons_of_mem _ wt_2_175)
  have k3 := (fun w h => List.mem_cons_of_mem _ (zFX0 w h) : ∀ w ∈ u_ws RX0 TX0 6, w ∈ zws yX11_undo cX11_undo 1 (Option.some .boolean))
  have k4 := hts _ (List.mem_cons_of_mem _ wt_1_237)
  refine lv_aload_n hx hb dX11_undo_0 rfl (lv_at hl 0 rfl) ?_
  refine va_get (D := D) (ci := 11) (v := .ref (ad 59)) (C := RX11) (T := TX11) (N := 8) hx hb hts k0 hown hK hP 0 (zX_0 cy ad S_0) rfl 4 (by decide) k1 (fun _ h9 => h9) rfl dX11_undo_1 ?_
  refine lv_aload_n hx hb dX11_undo_4 rfl (lv_at hl 0 rfl) ?_
  refine va_get (D := D) (ci := 11) (v := .ref (ad 3)) (C := RX11) (T := TX11) (N := 8) hx hb hts k0 hown hK hP 0 (zX_0 cy ad S_0) rfl 1 (by decide) k2 (fun _ h9 => h9) rfl dX11_undo_5 ?_
  refine va_get (D := D) (ci := 0) (v := .ref (ad 11)) (C := RX0) (T := TX0) (N := 6) hx hb hts k3 hown hK hP 3 (zX_3 cy ad S_0) rfl 1 (by decide) k4 (fun _ h9 => h9) rfl dX11_undo_8 ?_
  obtain ⟨r_1, S_2, h_3, hf⟩ := z_bd hf
  refine z_cVI (As := [.ref (ad 11)]) (rest := []) X hK hE hD hA hP hS (cx_History_bringBack l D K cy ad S_0 _ _ h_3) (cwV 1 hts (z_gV wt_5_60 wt_5_61 wt_5_62 wt_1_9 wt_5_63) rfl rfl rfl ⟨rfl, yd_yX1_bringBack⟩ ⟨Nat.le_of_ble_eq_true rfl, Nat.le_of_ble_eq_true rfl⟩) (va_recv hK hP (ci := 1) (q0 := 59) rfl (zX_59 cy ad S_0)) hl.1 rfl rfl (Nat.le_of_ble_eq_true rfl) dX11_undo_11 (fun H locs hP hS => ?_)
  obtain ⟨h_4, hf⟩ := z_bo hf
  obtain ⟨h1, h2⟩ := z_s2 hf
  subst h1 h2
  exact hret _ _ _ _ h_4 hP hS dX11_undo_14
def fx_image (S_0 : zSt) (a_1 : Int32) : Option (Int32 × zSt) :=
  znm (fun (S_1 : zSt) =>
  zck (zbo (S_1.1 0 3)) <|
  some (S_1.1 0 3, S_1)) fun j_48 =>
  if a_1 = 0 then (
  if (S_0.1 0 3) = 0 then (
  j_48  S_0) else (
  zbd (fx_Commons_copyFrom_nk S_0) fun _ S_4 =>
  zbd (fx_History_forget S_4) fun _ S_7 =>
  j_48  S_7)) else (
  zbd (fx_Commons_copyFrom_kn S_0) fun _ S_11 =>
  znm (zpI S_11 0 3 (1 : Int32)) fun S_13 =>
  j_48  S_13)
set_option maxHeartbeats 4000000 in
set_option maxRecDepth 100000 in
theorem cx_image (l : Launch) (D : va_G) (K : (Nat → Nat) × (Nat → Nat)) (cy : Nat → ClassId) (ad : Nat → Nat) (S_0 : zSt) (a_1 : Int32) (ro : Int32) (So : zSt) (hf : fx_image S_0 a_1 = some (ro, So)) : zMI l yX11_image (zws yX11_image cX11_image 2 (Option.some .boolean)) ({ frames := 3, cells := 0, slots := 0, locals := 244 }) D (zTy cy) K (zX cy ad) [.ref (ad 0), .int a_1] S_0 ro So := by
  refine z_metZ (own := RX11) (lv := [(0, .ref (ad 0)), (1, .int a_1)]) (by decide) rfl rfl (Nat.le_of_ble_eq_true rfl) rfl ?_
  intro p e s m below meth c A Q X hK hE hD hA hret hP hS ls hl
  obtain ⟨hx, hb, hml, hown, hts⟩ := id X
  have k0 := (fun w h => List.mem_cons_of_mem _ (zFX11 w h) : ∀ w ∈ u_ws RX11 TX11 8, w ∈ zws yX11_image cX11_image 2 (Option.some .boolean))
  have k1 := hts _ (List.mem_cons_of_mem _ wt_2_177)
  have k2 := hts _ (List.mem_cons_of_mem _ wt_2_175)
  have k3 := hts _ (List.mem_cons_of_mem _ wt_2_176)
  have k4 := hts _ (List.mem_cons_of_mem _ wt_2_178)
  refine lv_iload_n hx hb dX11_image_0 rfl (lv_at hl 1 rfl) ?_
  obtain ⟨j_48, ej_48, hf⟩ := z_nm hf
  have J_48 : ∀ (S_1 : zSt) (H : Heap) (locs : List Loc) (ls : Array Slot), j_48  S_1 = some (ro, So) → va_P D vwCl (zX cy ad S_1) H → va_S A s.heap H locs → lv_has ls 2 [(0, .ref (ad 0))] → W p l e ({ frames := 3, cells := 0, slots := 0, locals := 244 }) s m ([.ref (ad 0), .int a_1] : List Value).toArray below meth c H locs 0 0 Q (F0 m 48 ls []) := by
    intro  S_1 H locs ls hf hP hS hl
    have hf := z_e1 ej_48 hf
    refine lv_aload_n hx hb dX11_image_48 rfl (lv_at hl 0 rfl) ?_
    refine va_get (D := D) (ci := 11) (v := .int (S_1.1 0 3)) (C := RX11) (T := TX11) (N := 8) hx hb hts k0 hown hK hP 0 (zX_0 cy ad S_1) rfl 3 (by decide) k1 (fun _ h9 => h9) rfl dX11_image_49 ?_
    obtain ⟨h_2, hf⟩ := z_bo hf
    obtain ⟨h1, h2⟩ := z_s2 hf
    subst h1 h2
    exact hret _ _ _ _ h_2 hP hS dX11_image_52
  refine lv_if_eq (tgt := 23) hx hb dX11_image_1 (by decide) (fun c_14 => ?_) (fun c_14 => ?_)
  · have hf := z_it c_14 hf
    refine lv_aload_n hx hb dX11_image_23 rfl (lv_at hl 0 rfl) ?_
    refine va_get (D := D) (ci := 11) (v := .int (S_0.1 0 3)) (C := RX11) (T := TX11) (N := 8) hx hb hts k0 hown hK hP 0 (zX_0 cy ad S_0) rfl 3 (by decide) k1 (fun _ h9 => h9) rfl dX11_image_24 ?_
    refine lv_if_eq (tgt := 48) hx hb dX11_image_27 (by decide) (fun c_9 => ?_) (fun c_9 => ?_)
    · have hf := z_it c_9 hf
      exact J_48  S_0 _ _ _ hf hP hS (lv_sub hl [0] rfl)
    · have hf := z_if c_9 hf
      refine lv_aload_n hx hb dX11_image_30 rfl (lv_at hl 0 rfl) ?_
      refine va_get (D := D) (ci := 11) (v := .ref (ad 3)) (C := RX11) (T := TX11) (N := 8) hx hb hts k0 hown hK hP 0 (zX_0 cy ad S_0) rfl 1 (by decide) k2 (fun _ h9 => h9) rfl dX11_image_31 ?_
      refine lv_aload_n hx hb dX11_image_34 rfl (lv_at hl 0 rfl) ?_
      refine va_get (D := D) (ci := 11) (v := .ref (ad 31)) (C := RX11) (T := TX11) (N := 8) hx hb hts k0 hown hK hP 0 (zX_0 cy ad S_0) rfl 2 (by decide) k3 (fun _ h9 => h9) rfl dX11_image_35 ?_
      obtain ⟨r_3, S_4, h_5, hf⟩ := z_bd hf
      refine z_cVV (As := [.ref (ad 31)]) (rest := []) X hK hE hD hA hP hS (cx_Commons_copyFrom_nk l D K cy ad S_0 _ h_5) (cwV 1 hts (z_gV wt_5_68 wt_5_69 wt_5_70 wt_1_3 wt_5_71) rfl rfl rfl ⟨rfl, yd_yX0_copyFrom⟩ ⟨Nat.le_of_ble_eq_true rfl, Nat.le_of_ble_eq_true rfl⟩) (va_recv hK hP (ci := 0) (q0 := 3) rfl (zX_3 cy ad S_0)) hl.1 rfl rfl (Nat.le_of_ble_eq_true rfl) dX11_image_38 (fun H locs hP hS => ?_)
      refine lv_aload_n hx hb dX11_image_41 rfl (lv_at hl 0 rfl) ?_
      refine va_get (D := D) (ci := 11) (v := .ref (ad 59)) (C := RX11) (T := TX11) (N := 8) hx hb hts k0 hown hK hP 0 (zX_0 cy ad S_4) rfl 4 (by decide) k4 (fun _ h9 => h9) rfl dX11_image_42 ?_
      obtain ⟨r_6, S_7, h_8, hf⟩ := z_bd hf
      refine z_cVV (As := []) (rest := []) X hK hE hD hA hP hS (cx_History_forget l D K cy ad S_4 _ h_8) (cwV 0 hts (z_gV wt_2_235 wt_2_236 wt_2_237 wt_1_9 wt_2_238) rfl rfl rfl ⟨rfl, yd_yX1_forget⟩ ⟨Nat.le_of_ble_eq_true rfl, Nat.le_of_ble_eq_true rfl⟩) (va_recv hK hP (ci := 1) (q0 := 59) rfl (zX_59 cy ad S_4)) hl.1 rfl rfl (Nat.le_of_ble_eq_true rfl) dX11_image_45 (fun H locs hP hS => ?_)
      exact J_48  S_7 _ _ _ hf hP hS (lv_sub hl [0] rfl)
  · have hf := z_if c_14 hf
    refine lv_aload_n hx hb dX11_image_4 rfl (lv_at hl 0 rfl) ?_
    refine va_get (D := D) (ci := 11) (v := .ref (ad 31)) (C := RX11) (T := TX11) (N := 8) hx hb hts k0 hown hK hP 0 (zX_0 cy ad S_0) rfl 2 (by decide) k3 (fun _ h9 => h9) rfl dX11_image_5 ?_
    refine lv_aload_n hx hb dX11_image_8 rfl (lv_at hl 0 rfl) ?_
    refine va_get (D := D) (ci := 11) (v := .ref (ad 3)) (C := RX11) (T := TX11) (N := 8) hx hb hts k0 hown hK hP 0 (zX_0 cy ad S_0) rfl 1 (by decide) k2 (fun _ h9 => h9) rfl dX11_image_9 ?_
    obtain ⟨r_10, S_11, h_12, hf⟩ := z_bd hf
    refine z_cVV (As := [.ref (ad 3)]) (rest := []) X hK hE hD hA hP hS (cx_Commons_copyFrom_kn l D K cy ad S_0 _ h_12) (cwV 1 hts (z_gV wt_5_68 wt_5_69 wt_5_70 wt_1_3 wt_5_71) rfl rfl rfl ⟨rfl, yd_yX0_copyFrom⟩ ⟨Nat.le_of_ble_eq_true rfl, Nat.le_of_ble_eq_true rfl⟩) (va_recv hK hP (ci := 0) (q0 := 31) rfl (zX_31 cy ad S_0)) hl.1 rfl rfl (Nat.le_of_ble_eq_true rfl) dX11_image_12 (fun H locs hP hS => ?_)
    refine lv_aload_n hx hb dX11_image_15 rfl (lv_at hl 0 rfl) ?_
    refine lv_iconst (v := 1) hx hb dX11_image_16 (by decide) ?_
    refine va_put (D := D) (ci := 11) (v := .int (1 : Int32)) (ty := .boolean) (C := RX11) (T := TX11) (N := 8) hx hb hts k0 tyX11 tyX11_ok nmX11 hown hK hP (hD S_11) hS 0 (zX_0 cy ad S_11) rfl 3 (by decide) k1 (fun _ h9 => h9) rfl (tyX11_ok 3 (by decide)) rfl rfl (Nat.le_of_ble_eq_true rfl) dX11_image_17 (fun H locs hP _ hS => ?_)
    obtain ⟨S_13, eS_13, hf⟩ := z_nm hf
    have hP := zW_putI hP eS_13 (by decide) rfl
    refine lv_goto (tgt := 48) hx hb dX11_image_20 (by decide) ?_
    exact J_48  S_13 _ _ _ hf hP hS (lv_sub hl [0] rfl)
def fx_look (S_0 : zSt) (a_1 : Int32) : Option (Int32 × zSt) :=
  if a_1 = (0 : Int32) then (
  some (S_0.1 4 0, S_0)) else (
  if a_1 = (1 : Int32) then (
  some (S_0.1 11 1, S_0)) else (
  if a_1 = (2 : Int32) then (
  some (S_0.1 11 0, S_0)) else (
  if a_1 = (3 : Int32) then (
  some (S_0.1 22 0, S_0)) else (
  if a_1 = (4 : Int32) then (
  some (S_0.1 20 2, S_0)) else (
  if a_1 = (5 : Int32) then (
  some (S_0.1 59 2, S_0)) else (
  if a_1 = (6 : Int32) then (
  some (S_0.1 11 2, S_0)) else (
  znm (a_1 - (10 : Int32)) fun x_15 =>
  znm (fun (x_16 : Int32) (S_17 : zSt) =>
  some (x_16, S_17)) fun j_145 =>
  znm (fun (S_18 : zSt) =>
  j_145 (-1 : Int32) S_18) fun j_144 =>
  if x_15 < 0 then (
  j_144  S_0) else (
  if (4 : Int32) ≤ x_15 then (
  j_144  S_0) else (
  zck (zix x_15 4) <|
  j_145 (S_0.1 19 (x_15.toNatClampNeg)) S_0)))))))))
set_option maxHeartbeats 4000000 in
set_option maxRecDepth 100000 in
theorem cx_look (l : Launch) (D : va_G) (K : (Nat → Nat) × (Nat → Nat)) (cy : Nat → ClassId) (ad : Nat → Nat) (S_0 : zSt) (a_1 : Int32) (ro : Int32) (So : zSt) (hf : fx_look S_0 a_1 = some (ro, So)) : zMI l yX11_look (zws yX11_look cX11_look 3 (Option.some .int)) ({ frames := 0, cells := 0, slots := 0, locals := 0 }) D (zTy cy) K (zX cy ad) [.ref (ad 0), .int a_1] S_0 ro So := by
  refine z_metI (own := RX11) (lv := [(0, .ref (ad 0)), (1, .int a_1)]) (by decide) rfl rfl (Nat.le_of_ble_eq_true rfl) rfl ?_
  intro p e s m below meth c A Q X hK hE hD hA hret hP hS ls hl
  obtain ⟨hx, hb, hml, hown, hts⟩ := id X
  have k0 := (fun w h => List.mem_cons_of_mem _ (zFX11 w h) : ∀ w ∈ u_ws RX11 TX11 8, w ∈ zws yX11_look cX11_look 3 (Option.some .int))
  have k1 := hts _ (List.mem_cons_of_mem _ wt_2_175)
  have k2 := (fun w h => List.mem_cons_of_mem _ (zFX0 w h) : ∀ w ∈ u_ws RX0 TX0 6, w ∈ zws yX11_look cX11_look 3 (Option.some .int))
  have k3 := hts _ (List.mem_cons_of_mem _ wt_1_235)
  have k4 := (fun w h => List.mem_cons_of_mem _ (zFX2 w h) : ∀ w ∈ u_ws RX2 TX2 7, w ∈ zws yX11_look cX11_look 3 (Option.some .int))
  have k5 := hts _ (List.mem_cons_of_mem _ wt_1_68)
  have k6 := hts _ (List.mem_cons_of_mem _ wt_1_237)
  have k7 := (fun w h => List.mem_cons_of_mem _ (zFX10 w h) : ∀ w ∈ u_ws RX10 TX10 12, w ∈ zws yX11_look cX11_look 3 (Option.some .int))
  have k8 := hts _ (List.mem_cons_of_mem _ wt_1_111)
  have k9 := hts _ (List.mem_cons_of_mem _ wt_1_108)
  have k10 := hts _ (List.mem_cons_of_mem _ wt_2_6)
  have k11 := (fun w h => List.mem_cons_of_mem _ (zFX3 w h) : ∀ w ∈ u_ws RX3 TX3 7, w ∈ zws yX11_look cX11_look 3 (Option.some .int))
  have k12 := hts _ (List.mem_cons_of_mem _ wt_1_194)
  have k13 := hts _ (List.mem_cons_of_mem _ wt_2_4)
  have k14 := (fun w h => List.mem_cons_of_mem _ (zFX6 w h) : ∀ w ∈ u_ws RX6 TX6 3, w ∈ zws yX11_look cX11_look 3 (Option.some .int))
  have k15 := hts _ (List.mem_cons_of_mem _ wt_1_179)
  have k16 := hts _ (List.mem_cons_of_mem _ wt_2_178)
  have k17 := (fun w h => List.mem_cons_of_mem _ (zFX1 w h) : ∀ w ∈ u_ws RX1 TX1 3, w ∈ zws yX11_look cX11_look 3 (Option.some .int))
  have k18 := hts _ (List.mem_cons_of_mem _ wt_2_34)
  have k19 := hts _ (List.mem_cons_of_mem _ wt_1_114)
  have k20 := hts _ (List.mem_cons_of_mem _ wt_2_0)
  refine lv_iload_n hx hb dX11_look_0 rfl (lv_at hl 1 rfl) ?_
  by_cases c_1 : a_1 = (0 : Int32)
  · have hf := z_it c_1 hf
    refine lv_tableIn (off := 43) (tgt := 44) hx hb dX11_look_1 (by rw [c_1]; decide) (by rw [c_1]; decide) (by rw [c_1]; rfl) (by decide) ?_
    refine lv_aload_n hx hb dX11_look_44 rfl (lv_at hl 0 rfl) ?_
    refine va_get (D := D) (ci := 11) (v := .ref (ad 3)) (C := RX11) (T := TX11) (N := 8) hx hb hts k0 hown hK hP 0 (zX_0 cy ad S_0) rfl 1 (by decide) k1 (fun _ h9 => h9) rfl dX11_look_45 ?_
    refine va_get (D := D) (ci := 0) (v := .ref (ad 4)) (C := RX0) (T := TX0) (N := 6) hx hb hts k2 hown hK hP 3 (zX_3 cy ad S_0) rfl 0 (by decide) k3 (fun _ h9 => h9) rfl dX11_look_48 ?_
    refine va_get (D := D) (ci := 2) (v := .int (S_0.1 4 0)) (C := RX2) (T := TX2) (N := 7) hx hb hts k4 hown hK hP 4 (zX_4 cy ad S_0) rfl 0 (by decide) k5 (fun _ h9 => h9) rfl dX11_look_51 ?_
    obtain ⟨h1, h2⟩ := z_s2 hf
    subst h1 h2
    exact hret _ _ _ _ hP hS dX11_look_54
  have hf := z_if c_1 hf
  have n_2 : a_1.toInt ≠ 0 := z_ne c_1 (by decide)
  by_cases c_3 : a_1 = (1 : Int32)
  · have hf := z_it c_3 hf
    refine lv_tableIn (off := 54) (tgt := 55) hx hb dX11_look_1 (by rw [c_3]; decide) (by rw [c_3]; decide) (by rw [c_3]; rfl) (by decide) ?_
    refine lv_aload_n hx hb dX11_look_55 rfl (lv_at hl 0 rfl) ?_
    refine va_get (D := D) (ci := 11) (v := .ref (ad 3)) (C := RX11) (T := TX11) (N := 8) hx hb hts k0 hown hK hP 0 (zX_0 cy ad S_0) rfl 1 (by decide) k1 (fun _ h9 => h9) rfl dX11_look_56 ?_
    refine va_get (D := D) (ci := 0) (v := .ref (ad 11)) (C := RX0) (T := TX0) (N := 6) hx hb hts k2 hown hK hP 3 (zX_3 cy ad S_0) rfl 1 (by decide) k6 (fun _ h9 => h9) rfl dX11_look_59 ?_
    refine va_get (D := D) (ci := 10) (v := .int (S_0.1 11 1)) (C := RX10) (T := TX10) (N := 12) hx hb hts k7 hown hK hP 11 (zX_11 cy ad S_0) rfl 1 (by decide) k8 (fun _ h9 => h9) rfl dX11_look_62 ?_
    obtain ⟨h1, h2⟩ := z_s2 hf
    subst h1 h2
    exact hret _ _ _ _ hP hS dX11_look_65
  have hf := z_if c_3 hf
  have n_4 : a_1.toInt ≠ 1 := z_ne c_3 (by decide)
  by_cases c_5 : a_1 = (2 : Int32)
  · have hf := z_it c_5 hf
    refine lv_tableIn (off := 65) (tgt := 66) hx hb dX11_look_1 (by rw [c_5]; decide) (by rw [c_5]; decide) (by rw [c_5]; rfl) (by decide) ?_
    refine lv_aload_n hx hb dX11_look_66 rfl (lv_at hl 0 rfl) ?_
    refine va_get (D := D) (ci := 11) (v := .ref (ad 3)) (C := RX11) (T := TX11) (N := 8) hx hb hts k0 hown hK hP 0 (zX_0 cy ad S_0) rfl 1 (by decide) k1 (fun _ h9 => h9) rfl dX11_look_67 ?_
    refine va_get (D := D) (ci := 0) (v := .ref (ad 11)) (C := RX0) (T := TX0) (N := 6) hx hb hts k2 hown hK hP 3 (zX_3 cy ad S_0) rfl 1 (by decide) k6 (fun _ h9 => h9) rfl dX11_look_70 ?_
    refine va_get (D := D) (ci := 10) (v := .int (S_0.1 11 0)) (C := RX10) (T := TX10) (N := 12) hx hb hts k7 hown hK hP 11 (zX_11 cy ad S_0) rfl 0 (by decide) k9 (fun _ h9 => h9) rfl dX11_look_73 ?_
    obtain ⟨h1, h2⟩ := z_s2 hf
    subst h1 h2
    exact hret _ _ _ _ hP hS dX11_look_76
  have hf := z_if c_5 hf
  have n_6 : a_1.toInt ≠ 2 := z_ne c_5 (by decide)
  by_cases c_7 : a_1 = (3 : Int32)
  · have hf := z_it c_7 hf
    refine lv_tableIn (off := 76) (tgt := 77) hx hb dX11_look_1 (by rw [c_7]; decide) (by rw [c_7]; decide) (by rw [c_7]; rfl) (by decide) ?_
    refine lv_aload_n hx hb dX11_look_77 rfl (lv_at hl 0 rfl) ?_
    refine va_get (D := D) (ci := 11) (v := .ref (ad 3)) (C := RX11) (T := TX11) (N := 8) hx hb hts k0 hown hK hP 0 (zX_0 cy ad S_0) rfl 1 (by decide) k1 (fun _ h9 => h9) rfl dX11_look_78 ?_
    refine va_get (D := D) (ci := 0) (v := .ref (ad 22)) (C := RX0) (T := TX0) (N := 6) hx hb hts k2 hown hK hP 3 (zX_3 cy ad S_0) rfl 4 (by decide) k10 (fun _ h9 => h9) rfl dX11_look_81 ?_
    refine va_get (D := D) (ci := 3) (v := .int (S_0.1 22 0)) (C := RX3) (T := TX3) (N := 7) hx hb hts k11 hown hK hP 22 (zX_22 cy ad S_0) rfl 0 (by decide) k12 (fun _ h9 => h9) rfl dX11_look_84 ?_
    obtain ⟨h1, h2⟩ := z_s2 hf
    subst h1 h2
    exact hret _ _ _ _ hP hS dX11_look_87
  have hf := z_if c_7 hf
  have n_8 : a_1.toInt ≠ 3 := z_ne c_7 (by decide)
  by_cases c_9 : a_1 = (4 : Int32)
  · have hf := z_it c_9 hf
    refine lv_tableIn (off := 87) (tgt := 88) hx hb dX11_look_1 (by rw [c_9]; decide) (by rw [c_9]; decide) (by rw [c_9]; rfl) (by decide) ?_
    refine lv_aload_n hx hb dX11_look_88 rfl (lv_at hl 0 rfl) ?_
    refine va_get (D := D) (ci := 11) (v := .ref (ad 3)) (C := RX11) (T := TX11) (N := 8) hx hb hts k0 hown hK hP 0 (zX_0 cy ad S_0) rfl 1 (by decide) k1 (fun _ h9 => h9) rfl dX11_look_89 ?_
    refine va_get (D := D) (ci := 0) (v := .ref (ad 20)) (C := RX0) (T := TX0) (N := 6) hx hb hts k2 hown hK hP 3 (zX_3 cy ad S_0) rfl 3 (by decide) k13 (fun _ h9 => h9) rfl dX11_look_92 ?_
    refine va_get (D := D) (ci := 6) (v := .int (S_0.1 20 2)) (C := RX6) (T := TX6) (N := 3) hx hb hts k14 hown hK hP 20 (zX_20 cy ad S_0) rfl 2 (by decide) k15 (fun _ h9 => h9) rfl dX11_look_95 ?_
    obtain ⟨h1, h2⟩ := z_s2 hf
    subst h1 h2
    exact hret _ _ _ _ hP hS dX11_look_98
  have hf := z_if c_9 hf
  have n_10 : a_1.toInt ≠ 4 := z_ne c_9 (by decide)
  by_cases c_11 : a_1 = (5 : Int32)
  · have hf := z_it c_11 hf
    refine lv_tableIn (off := 98) (tgt := 99) hx hb dX11_look_1 (by rw [c_11]; decide) (by rw [c_11]; decide) (by rw [c_11]; rfl) (by decide) ?_
    refine lv_aload_n hx hb dX11_look_99 rfl (lv_at hl 0 rfl) ?_
    refine va_get (D := D) (ci := 11) (v := .ref (ad 59)) (C := RX11) (T := TX11) (N := 8) hx hb hts k0 hown hK hP 0 (zX_0 cy ad S_0) rfl 4 (by decide) k16 (fun _ h9 => h9) rfl dX11_look_100 ?_
    refine va_get (D := D) (ci := 1) (v := .int (S_0.1 59 2)) (C := RX1) (T := TX1) (N := 3) hx hb hts k17 hown hK hP 59 (zX_59 cy ad S_0) rfl 2 (by decide) k18 (fun _ h9 => h9) rfl dX11_look_103 ?_
    obtain ⟨h1, h2⟩ := z_s2 hf
    subst h1 h2
    exact hret _ _ _ _ hP hS dX11_look_106
  have hf := z_if c_11 hf
  have n_12 : a_1.toInt ≠ 5 := z_ne c_11 (by decide)
  by_cases c_13 : a_1 = (6 : Int32)
  · have hf := z_it c_13 hf
    refine lv_tableIn (off := 106) (tgt := 107) hx hb dX11_look_1 (by rw [c_13]; decide) (by rw [c_13]; decide) (by rw [c_13]; rfl) (by decide) ?_
    refine lv_aload_n hx hb dX11_look_107 rfl (lv_at hl 0 rfl) ?_
    refine va_get (D := D) (ci := 11) (v := .ref (ad 3)) (C := RX11) (T := TX11) (N := 8) hx hb hts k0 hown hK hP 0 (zX_0 cy ad S_0) rfl 1 (by decide) k1 (fun _ h9 => h9) rfl dX11_look_108 ?_
    refine va_get (D := D) (ci := 0) (v := .ref (ad 11)) (C := RX0) (T := TX0) (N := 6) hx hb hts k2 hown hK hP 3 (zX_3 cy ad S_0) rfl 1 (by decide) k6 (fun _ h9 => h9) rfl dX11_look_111 ?_
    refine va_get (D := D) (ci := 10) (v := .int (S_0.1 11 2)) (C := RX10) (T := TX10) (N := 12) hx hb hts k7 hown hK hP 11 (zX_11 cy ad S_0) rfl 2 (by decide) k19 (fun _ h9 => h9) rfl dX11_look_114 ?_
    obtain ⟨h1, h2⟩ := z_s2 hf
    subst h1 h2
    exact hret _ _ _ _ hP hS dX11_look_117
  have hf := z_if c_13 hf
  have n_14 : a_1.toInt ≠ 6 := z_ne c_13 (by decide)
  refine lv_tableOut (tgt := 118) hx hb dX11_look_1 (by omega) (by decide) ?_
  refine lv_iload_n hx hb dX11_look_118 rfl (lv_at hl 1 rfl) ?_
  refine lv_bipush (v := 10) hx hb dX11_look_119 (by decide) ?_
  refine lv_isub hx hb dX11_look_121 ?_
  refine lv_topi (fun x_15 ex_15 => ?_)
  have hf := z_nv ex_15 hf
  refine lv_istore_n (lv' := [(2, .int x_15), (0, .ref (ad 0)), (1, .int a_1)]) hx hb dX11_look_122 rfl hl (by decide) rfl (fun ls hl => ?_)
  refine lv_iload_n hx hb dX11_look_123 rfl (lv_at hl 0 rfl) ?_
  obtain ⟨j_145, ej_145, hf⟩ := z_nm hf
  have J_145 : ∀ (x_16 : Int32) (S_17 : zSt) (H : Heap) (locs : List Loc) (ls : Array Slot), j_145 x_16 S_17 = some (ro, So) → va_P D vwCl (zX cy ad S_17) H → va_S A s.heap H locs → lv_has ls 3 [] → W p l e ({ frames := 0, cells := 0, slots := 0, locals := 0 }) s m ([.ref (ad 0), .int a_1] : List Value).toArray below meth c H locs 0 0 Q (F0 m 145 ls [.int x_16]) := by
    intro x_16 S_17 H locs ls hf hP hS hl
    have hf := z_e2 ej_145 hf
    obtain ⟨h1, h2⟩ := z_s2 hf
    subst h1 h2
    exact hret _ _ _ _ hP hS dX11_look_145
  obtain ⟨j_144, ej_144, hf⟩ := z_nm hf
  have J_144 : ∀ (S_18 : zSt) (H : Heap) (locs : List Loc) (ls : Array Slot), j_144  S_18 = some (ro, So) → va_P D vwCl (zX cy ad S_18) H → va_S A s.heap H locs → lv_has ls 3 [] → W p l e ({ frames := 0, cells := 0, slots := 0, locals := 0 }) s m ([.ref (ad 0), .int a_1] : List Value).toArray below meth c H locs 0 0 Q (F0 m 144 ls []) := by
    intro  S_18 H locs ls hf hP hS hl
    have hf := z_e1 ej_144 hf
    refine lv_iconst (v := -1) hx hb dX11_look_144 (by decide) ?_
    exact J_145 (-1 : Int32) S_18 _ _ _ hf hP hS (lv_sub hl [] rfl)
  refine lv_if_lt (tgt := 144) hx hb dX11_look_124 (by decide) (fun c_21 => ?_) (fun c_21 => ?_)
  · have hf := z_it c_21 hf
    exact J_144  S_0 _ _ _ hf hP hS (lv_sub hl [] rfl)
  · have hf := z_if c_21 hf
    refine lv_iload_n hx hb dX11_look_127 rfl (lv_at hl 0 rfl) ?_
    refine lv_iconst (v := 4) hx hb dX11_look_128 (by decide) ?_
    refine lv_icmp_ge (tgt := 144) hx hb dX11_look_129 (by decide) (fun c_20 => ?_) (fun c_20 => ?_)
    · have hf := z_it c_20 hf
      exact J_144  S_0 _ _ _ hf hP hS (lv_sub hl [] rfl)
    · have hf := z_if c_20 hf
      refine lv_aload_n hx hb dX11_look_132 rfl (lv_at hl 1 rfl) ?_
      refine va_get (D := D) (ci := 11) (v := .ref (ad 3)) (C := RX11) (T := TX11) (N := 8) hx hb hts k0 hown hK hP 0 (zX_0 cy ad S_0) rfl 1 (by decide) k1 (fun _ h9 => h9) rfl dX11_look_133 ?_
      refine va_get (D := D) (ci := 0) (v := .ref (ad 19)) (C := RX0) (T := TX0) (N := 6) hx hb hts k2 hown hK hP 3 (zX_3 cy ad S_0) rfl 2 (by decide) k20 (fun _ h9 => h9) rfl dX11_look_136 ?_
      refine lv_iload_n hx hb dX11_look_139 rfl (lv_at hl 0 rfl) ?_
      obtain ⟨h_19, hf⟩ := z_ix hf
      refine z_iald hx hb hK hP 19 0 (zX_19 cy ad S_0) rfl h_19 (k := (x_15.toNatClampNeg)) rfl dX11_look_140 ?_
      refine lv_goto (tgt := 145) hx hb dX11_look_141 (by decide) ?_
      exact J_145 (S_0.1 19 (x_15.toNatClampNeg)) S_0 _ _ _ hf hP hS (lv_sub hl [] rfl)
def fm_isIn (S_0 : zSt) (a_1 : Int32) (a_2 : Int32) (a_3 : Int32) : Option (Int32 × zSt) :=
  znm (fun (x_1 : Int32) (S_2 : zSt) =>
  zck (zbo x_1) <|
  some (x_1, S_2)) fun j_15 =>
  znm (fun (S_4 : zSt) =>
  j_15 (0 : Int32) S_4) fun j_14 =>
  if a_1 < a_2 then (
  j_14  S_0) else (
  if a_3 < a_1 then (
  j_14  S_0) else (
  j_15 (1 : Int32) S_0))
set_option maxHeartbeats 4000000 in
set_option maxRecDepth 100000 in
theorem cm_isIn (l : Launch) (D : va_G) (K : (Nat → Nat) × (Nat → Nat)) (cy : Nat → ClassId) (ad : Nat → Nat) (S_0 : zSt) (a_1 : Int32) (a_2 : Int32) (a_3 : Int32) (ro : Int32) (So : zSt) (hf : fm_isIn S_0 a_1 a_2 a_3 = some (ro, So)) : zMI l yX12_isIn (zws yX12_isIn cX12_isIn 3 (Option.some .boolean)) ({ frames := 0, cells := 0, slots := 0, locals := 0 }) D (zTy cy) K (zM cy ad) [.int a_1, .int a_2, .int a_3] S_0 ro So := by
  refine z_metZ (own := RX12) (lv := [(0, .int a_1), (1, .int a_2), (2, .int a_3)]) (by decide) rfl rfl (Nat.le_of_ble_eq_true rfl) rfl ?_
  intro p e s m below meth c A Q X hK hE hD hA hret hP hS ls hl
  obtain ⟨hx, hb, hml, hown, hts⟩ := id X
  refine lv_iload_n hx hb dX12_isIn_0 rfl (lv_at hl 0 rfl) ?_
  refine lv_iload_n hx hb dX12_isIn_1 rfl (lv_at hl 1 rfl) ?_
  obtain ⟨j_15, ej_15, hf⟩ := z_nm hf
  have J_15 : ∀ (x_1 : Int32) (S_2 : zSt) (H : Heap) (locs : List Loc) (ls : Array Slot), j_15 x_1 S_2 = some (ro, So) → va_P D vwCl (zM cy ad S_2) H → va_S A s.heap H locs → lv_has ls 3 [] → W p l e ({ frames := 0, cells := 0, slots := 0, locals := 0 }) s m ([.int a_1, .int a_2, .int a_3] : List Value).toArray below meth c H locs 0 0 Q (F0 m 15 ls [.int x_1]) := by
    intro x_1 S_2 H locs ls hf hP hS hl
    have hf := z_e2 ej_15 hf
    obtain ⟨h_3, hf⟩ := z_bo hf
    obtain ⟨h1, h2⟩ := z_s2 hf
    subst h1 h2
    exact hret _ _ _ _ h_3 hP hS dX12_isIn_15
  obtain ⟨j_14, ej_14, hf⟩ := z_nm hf
  have J_14 : ∀ (S_4 : zSt) (H : Heap) (locs : List Loc) (ls : Array Slot), j_14  S_4 = some (ro, So) → va_P D vwCl (zM cy ad S_4) H → va_S A s.heap H locs → lv_has ls 3 [] → W p l e ({ frames := 0, cells := 0, slots := 0, locals := 0 }) s m ([.int a_1, .int a_2, .int a_3] : List Value).toArray below meth c H locs 0 0 Q (F0 m 14 ls []) := by
    intro  S_4 H locs ls hf hP hS hl
    have hf := z_e1 ej_14 hf
    refine lv_iconst (v := 0) hx hb dX12_isIn_14 (by decide) ?_
    exact J_15 (0 : Int32) S_4 _ _ _ hf hP hS (lv_sub hl [] rfl)
  refine lv_icmp_lt (tgt := 14) hx hb dX12_isIn_2 (by decide) (fun c_6 => ?_) (fun c_6 => ?_)
  · have hf := z_it c_6 hf
    exact J_14  S_0 _ _ _ hf hP hS (lv_sub hl [] rfl)
  · have hf := z_if c_6 hf
    refine lv_iload_n hx hb dX12_isIn_5 rfl (lv_at hl 0 rfl) ?_
    refine lv_iload_n hx hb dX12_isIn_6 rfl (lv_at hl 2 rfl) ?_
    refine lv_icmp_gt (tgt := 14) hx hb dX12_isIn_7 (by decide) (fun c_5 => ?_) (fun c_5 => ?_)
    · have hf := z_it c_5 hf
      exact J_14  S_0 _ _ _ hf hP hS (lv_sub hl [] rfl)
    · have hf := z_if c_5 hf
      refine lv_iconst (v := 1) hx hb dX12_isIn_10 (by decide) ?_
      refine lv_goto (tgt := 15) hx hb dX12_isIn_11 (by decide) ?_
      exact J_15 (1 : Int32) S_0 _ _ _ hf hP hS (lv_sub hl [] rfl)
def fm_isHouse (S_0 : zSt) (a_1 : Int32) : Option (Int32 × zSt) :=
  zbd (fm_isIn S_0 a_1 (0 : Int32) ((S_0.1 1 4) - (1 : Int32))) fun r_1 S_2 =>
  zck (zbo r_1) <|
  some (r_1, S_2)
set_option maxHeartbeats 4000000 in
set_option maxRecDepth 100000 in
theorem cm_isHouse (l : Launch) (D : va_G) (K : (Nat → Nat) × (Nat → Nat)) (cy : Nat → ClassId) (ad : Nat → Nat) (S_0 : zSt) (a_1 : Int32) (ro : Int32) (So : zSt) (hf : fm_isHouse S_0 a_1 = some (ro, So)) : zMI l yX12_isHouse (zws yX12_isHouse cX12_isHouse 2 (Option.some .boolean)) ({ frames := 1, cells := 0, slots := 0, locals := 22 }) D (zTy cy) K (zM cy ad) [.ref (ad 0), .int a_1] S_0 ro So := by
  refine z_metZ (own := RX12) (lv := [(0, .ref (ad 0)), (1, .int a_1)]) (by decide) rfl rfl (Nat.le_of_ble_eq_true rfl) rfl ?_
  intro p e s m below meth c A Q X hK hE hD hA hret hP hS ls hl
  obtain ⟨hx, hb, hml, hown, hts⟩ := id X
  have k0 := (fun w h => List.mem_cons_of_mem _ (zFX12 w h) : ∀ w ∈ u_ws RX12 TX12 36, w ∈ zws yX12_isHouse cX12_isHouse 2 (Option.some .boolean))
  have k1 := hts _ (List.mem_cons_of_mem _ wt_5_95)
  refine lv_iload_n hx hb dX12_isHouse_0 rfl (lv_at hl 1 rfl) ?_
  refine lv_iconst (v := 0) hx hb dX12_isHouse_1 (by decide) ?_
  refine lv_aload_n hx hb dX12_isHouse_2 rfl (lv_at hl 0 rfl) ?_
  refine va_get (D := D) (ci := 12) (v := .ref (ad 1)) (C := RX12) (T := TX12) (N := 36) hx hb hts k0 hown hK hP 0 (zM_0 cy ad S_0) rfl 0 (by decide) k1 (fun _ h9 => h9) rfl dX12_isHouse_3 ?_
  refine lv_iconst (v := 4) hx hb dX12_isHouse_6 (by decide) ?_
  refine z_iald hx hb hK hP 1 0 (zM_1 cy ad S_0) rfl (vp_in_iff.mpr (by decide)) (k := 4) (by decide) dX12_isHouse_7 ?_
  refine lv_iconst (v := 1) hx hb dX12_isHouse_8 (by decide) ?_
  refine lv_isub hx hb dX12_isHouse_9 ?_
  obtain ⟨r_1, S_2, h_3, hf⟩ := z_bd hf
  refine z_cSI (As := [.int a_1, .int (0 : Int32), .int ((S_0.1 1 4) - (1 : Int32))]) (rest := []) X hK hE hD hA hP hS (cm_isIn l D K cy ad S_0 _ _ _ _ _ h_3) (va_cwS 3 hts (z_gS wt_5_216 wt_5_217 wt_1_13 wt_5_218) rfl rfl rfl yd_yX12_isIn ⟨Nat.le_of_ble_eq_true rfl, Nat.le_of_ble_eq_true rfl⟩) hl.1 rfl rfl (Nat.le_of_ble_eq_true rfl) dX12_isHouse_10 (fun H locs hP hS => ?_)
  obtain ⟨h_4, hf⟩ := z_bo hf
  obtain ⟨h1, h2⟩ := z_s2 hf
  subst h1 h2
  exact hret _ _ _ _ h_4 hP hS dX12_isHouse_13
def fm_own (S_0 : zSt) (a_1 : Int32) (a_2 : Int32) : Option (Int32 × zSt) :=
  zck (zix (((20 : Int32) + ((16 : Int32) * a_1)) + a_2) 1480) <|
  some (S_0.1 1 ((((20 : Int32) + ((16 : Int32) * a_1)) + a_2).toNatClampNeg), S_0)
set_option maxHeartbeats 4000000 in
set_option maxRecDepth 100000 in
theorem cm_own (l : Launch) (D : va_G) (K : (Nat → Nat) × (Nat → Nat)) (cy : Nat → ClassId) (ad : Nat → Nat) (S_0 : zSt) (a_1 : Int32) (a_2 : Int32) (ro : Int32) (So : zSt) (hf : fm_own S_0 a_1 a_2 = some (ro, So)) : zMI l yX12_own (zws yX12_own cX12_own 3 (Option.some .int)) ({ frames := 0, cells := 0, slots := 0, locals := 0 }) D (zTy cy) K (zM cy ad) [.ref (ad 0), .int a_1, .int a_2] S_0 ro So := by
  refine z_metI (own := RX12) (lv := [(0, .ref (ad 0)), (1, .int a_1), (2, .int a_2)]) (by decide) rfl rfl (Nat.le_of_ble_eq_true rfl) rfl ?_
  intro p e s m below meth c A Q X hK hE hD hA hret hP hS ls hl
  obtain ⟨hx, hb, hml, hown, hts⟩ := id X
  have k0 := (fun w h => List.mem_cons_of_mem _ (zFX12 w h) : ∀ w ∈ u_ws RX12 TX12 36, w ∈ zws yX12_own cX12_own 3 (Option.some .int))
  have k1 := hts _ (List.mem_cons_of_mem _ wt_5_95)
  refine lv_aload_n hx hb dX12_own_0 rfl (lv_at hl 0 rfl) ?_
  refine va_get (D := D) (ci := 12) (v := .ref (ad 1)) (C := RX12) (T := TX12) (N := 36) hx hb hts k0 hown hK hP 0 (zM_0 cy ad S_0) rfl 0 (by decide) k1 (fun _ h9 => h9) rfl dX12_own_1 ?_
  refine lv_bipush (v := 20) hx hb dX12_own_4 (by decide) ?_
  refine lv_bipush (v := 16) hx hb dX12_own_6 (by decide) ?_
  refine lv_iload_n hx hb dX12_own_8 rfl (lv_at hl 1 rfl) ?_
  refine lv_imul hx hb dX12_own_9 ?_
  refine lv_iadd hx hb dX12_own_10 ?_
  refine lv_iload_n hx hb dX12_own_11 rfl (lv_at hl 2 rfl) ?_
  refine lv_iadd hx hb dX12_own_12 ?_
  obtain ⟨h_1, hf⟩ := z_ix hf
  refine z_iald hx hb hK hP 1 0 (zM_1 cy ad S_0) rfl h_1 (k := ((((20 : Int32) + ((16 : Int32) * a_1)) + a_2).toNatClampNeg)) rfl dX12_own_13 ?_
  obtain ⟨h1, h2⟩ := z_s2 hf
  subst h1 h2
  exact hret _ _ _ _ hP hS dX12_own_14
def fm_adds (S_0 : zSt) (a_1 : Int32) (a_2 : Int32) (a_3 : Int32) : Option (Unit × zSt) :=
  zck (zix (((20 : Int32) + ((16 : Int32) * a_1)) + a_2) 1480) <|
  zck (zix (((20 : Int32) + ((16 : Int32) * a_1)) + a_2) 1480) <|
  znm (zpI S_0 1 ((((20 : Int32) + ((16 : Int32) * a_1)) + a_2).toNatClampNeg) ((S_0.1 1 ((((20 : Int32) + ((16 : Int32) * a_1)) + a_2).toNatClampNeg)) + a_3)) fun S_3 =>
  some ((), S_3)
set_option maxHeartbeats 4000000 in
set_option maxRecDepth 100000 in
theorem cm_adds (l : Launch) (D : va_G) (K : (Nat → Nat) × (Nat → Nat)) (cy : Nat → ClassId) (ad : Nat → Nat) (S_0 : zSt) (a_1 : Int32) (a_2 : Int32) (a_3 : Int32) (So : zSt) (hf : fm_adds S_0 a_1 a_2 a_3 = some ((), So)) : zMV l yX12_adds (zws yX12_adds cX12_adds 4 none) ({ frames := 0, cells := 0, slots := 0, locals := 0 }) D (zTy cy) K (zM cy ad) [.ref (ad 0), .int a_1, .int a_2, .int a_3] S_0 So := by
  refine z_metV (own := RX12) (lv := [(0, .ref (ad 0)), (1, .int a_1), (2, .int a_2), (3, .int a_3)]) (by decide) rfl rfl (Nat.le_of_ble_eq_true rfl) rfl ?_
  intro p e s m below meth c A Q X hK hE hD hA hret hP hS ls hl
  obtain ⟨hx, hb, hml, hown, hts⟩ := id X
  have k0 := (fun w h => List.mem_cons_of_mem _ (zFX12 w h) : ∀ w ∈ u_ws RX12 TX12 36, w ∈ zws yX12_adds cX12_adds 4 none)
  have k1 := hts _ (List.mem_cons_of_mem _ wt_5_95)
  refine lv_aload_n hx hb dX12_adds_0 rfl (lv_at hl 0 rfl) ?_
  refine va_get (D := D) (ci := 12) (v := .ref (ad 1)) (C := RX12) (T := TX12) (N := 36) hx hb hts k0 hown hK hP 0 (zM_0 cy ad S_0) rfl 0 (by decide) k1 (fun _ h9 => h9) rfl dX12_adds_1 ?_
  refine lv_bipush (v := 20) hx hb dX12_adds_4 (by decide) ?_
  refine lv_bipush (v := 16) hx hb dX12_adds_6 (by decide) ?_
  refine lv_iload_n hx hb dX12_adds_8 rfl (lv_at hl 1 rfl) ?_
  refine lv_imul hx hb dX12_adds_9 ?_
  refine lv_iadd hx hb dX12_adds_10 ?_
  refine lv_iload_n hx hb dX12_adds_11 rfl (lv_at hl 2 rfl) ?_
  refine lv_iadd hx hb dX12_adds_12 ?_
  refine lv_dup2_11 hx hb dX12_adds_13 rfl rfl ?_
  obtain ⟨h_1, hf⟩ := z_ix hf
  refine z_iald hx hb hK hP 1 0 (zM_1 cy ad S_0) rfl h_1 (k := ((((20 : Int32) + ((16 : Int32) * a_1)) + a_2).toNatClampNeg)) rfl dX12_adds_14 ?_
  refine lv_iload_n hx hb dX12_adds_15 rfl (lv_at hl 3 rfl) ?_
  refine lv_iadd hx hb dX12_adds_16 ?_
  obtain ⟨h_2, hf⟩ := z_ix hf
  refine z_iast hx hb hK hP (hD S_0) hS 1 0 (zM_1 cy ad S_0) rfl h_2 (k := ((((20 : Int32) + ((16 : Int32) * a_1)) + a_2).toNatClampNeg)) rfl dX12_adds_17 (fun H locs hP hS => ?_)
  obtain ⟨S_3, eS_3, hf⟩ := z_nm hf
  have hP := zW_putI hP eS_3 (by decide) rfl
  obtain ⟨h1, h2⟩ := z_s2 hf
  subst h2
  exact hret _ _ _ _ hP hS dX12_adds_18
def fm_forgets (S_0 : zSt) : Option (Unit × zSt) :=
  znm (zpI S_0 0 3 (0 : Int32)) fun S_1 =>
  some ((), S_1)
set_option maxHeartbeats 4000000 in
set_option maxRecDepth 100000 in
theorem cm_forgets (l : Launch) (D : va_G) (K : (Nat → Nat) × (Nat → Nat)) (cy : Nat → ClassId) (ad : Nat → Nat) (S_0 : zSt) (So : zSt) (hf : fm_forgets S_0 = some ((), So)) : zMV l yX12_forgets (zws yX12_forgets cX12_forgets 1 none) ({ frames := 0, cells := 0, slots := 0, locals := 0 }) D (zTy cy) K (zM cy ad) [.ref (ad 0)] S_0 So := by
  refine z_metV (own := RX12) (lv := [(0, .ref (ad 0))]) (by decide) rfl rfl (Nat.le_of_ble_eq_true rfl) rfl ?_
  intro p e s m below meth c A Q X hK hE hD hA hret hP hS ls hl
  obtain ⟨hx, hb, hml, hown, hts⟩ := id X
  have k0 := (fun w h => List.mem_cons_of_mem _ (zFX12 w h) : ∀ w ∈ u_ws RX12 TX12 36, w ∈ zws yX12_forgets cX12_forgets 1 none)
  have k1 := hts _ (List.mem_cons_of_mem _ wt_5_98)
  refine lv_aload_n hx hb dX12_forgets_0 rfl (lv_at hl 0 rfl) ?_
  refine lv_iconst (v := 0) hx hb dX12_forgets_1 (by decide) ?_
  refine va_put (D := D) (ci := 12) (v := .int (0 : Int32)) (ty := .int) (C := RX12) (T := TX12) (N := 36) hx hb hts k0 tyX12 tyX12_ok nmX12 hown hK hP (hD S_0) hS 0 (zM_0 cy ad S_0) rfl 3 (by decide) k1 (fun _ h9 => h9) rfl (tyX12_ok 3 (by decide)) rfl rfl (Nat.le_of_ble_eq_true rfl) dX12_forgets_2 (fun H locs hP _ hS => ?_)
  obtain ⟨S_1, eS_1, hf⟩ := z_nm hf
  have hP := zW_putI hP eS_1 (by decide) rfl
  obtain ⟨h1, h2⟩ := z_s2 hf
  subst h2
  exact hret _ _ _ _ hP hS dX12_forgets_5
def fm_state (S_0 : zSt) (a_1 : Int32) : Option (Int32 × zSt) :=
  znm (S_0.1 1 6) fun x_1 =>
  znm (zpI S_0 1 6 a_1) fun S_2 =>
  some (x_1, S_2)
set_option maxHeartbeats 4000000 in
set_option maxRecDepth 100000 in
theorem cm_state (l : Launch) (D : va_G) (K : (Nat → Nat) × (Nat → Nat)) (cy : Nat → ClassId) (ad : Nat → Nat) (S_0 : zSt) (a_1 : Int32) (ro : Int32) (So : zSt) (hf : fm_state S_0 a_1 = some (ro, So)) : zMI l yX12_state (zws yX12_state cX12_state 3 (Option.some .int)) ({ frames := 0, cells := 0, slots := 0, locals := 0 }) D (zTy cy) K (zM cy ad) [.ref (ad 0), .int a_1] S_0 ro So := by
  refine z_metI (own := RX12) (lv := [(0, .ref (ad 0)), (1, .int a_1)]) (by decide) rfl rfl (Nat.le_of_ble_eq_true rfl) rfl ?_
  intro p e s m below meth c A Q X hK hE hD hA hret hP hS ls hl
  obtain ⟨hx, hb, hml, hown, hts⟩ := id X
  have k0 := (fun w h => List.mem_cons_of_mem _ (zFX12 w h) : ∀ w ∈ u_ws RX12 TX12 36, w ∈ zws yX12_state cX12_state 3 (Option.some .int))
  have k1 := hts _ (List.mem_cons_of_mem _ wt_5_95)
  refine lv_aload_n hx hb dX12_state_0 rfl (lv_at hl 0 rfl) ?_
  refine va_get (D := D) (ci := 12) (v := .ref (ad 1)) (C := RX12) (T := TX12) (N := 36) hx hb hts k0 hown hK hP 0 (zM_0 cy ad S_0) rfl 0 (by decide) k1 (fun _ h9 => h9) rfl dX12_state_1 ?_
  refine lv_bipush (v := 6) hx hb dX12_state_4 (by decide) ?_
  refine z_iald hx hb hK hP 1 0 (zM_1 cy ad S_0) rfl (vp_in_iff.mpr (by decide)) (k := 6) (by decide) dX12_state_6 ?_
  refine lv_topi (fun x_1 ex_1 => ?_)
  have hf := z_nv ex_1 hf
  refine lv_istore_n (lv' := [(2, .int x_1), (0, .ref (ad 0)), (1, .int a_1)]) hx hb dX12_state_7 rfl hl (by decide) rfl (fun ls hl => ?_)
  refine lv_aload_n hx hb dX12_state_8 rfl (lv_at hl 1 rfl) ?_
  refine va_get (D := D) (ci := 12) (v := .ref (ad 1)) (C := RX12) (T := TX12) (N := 36) hx hb hts k0 hown hK hP 0 (zM_0 cy ad S_0) rfl 0 (by decide) k1 (fun _ h9 => h9) rfl dX12_state_9 ?_
  refine lv_bipush (v := 6) hx hb dX12_state_12 (by decide) ?_
  refine lv_iload_n hx hb dX12_state_14 rfl (lv_at hl 2 rfl) ?_
  refine z_iast hx hb hK hP (hD S_0) hS 1 0 (zM_1 cy ad S_0) rfl (vp_in_iff.mpr (by decide)) (k := 6) (by decide) dX12_state_15 (fun H locs hP hS => ?_)
  obtain ⟨S_2, eS_2, hf⟩ := z_nm hf
  have hP := zW_putI hP eS_2 (by decide) rfl
  refine lv_iload_n hx hb dX12_state_16 rfl (lv_at hl 0 rfl) ?_
  obtain ⟨h1, h2⟩ := z_s2 hf
  subst h1 h2
  exact hret _ _ _ _ hP hS dX12_state_17
def fm_draw (S_0 : zSt) (a_1 : Int32) : Option (Int32 × zSt) :=
  znm (zpI S_0 1 6 (((1664525 : Int32) * (S_0.1 1 6)) + (1013904223 : Int32))) fun S_1 =>
  zck (znz a_1) <|
  some ((((S_1.1 1 6).toUInt32 >>> ((8 : Int32).toUInt32 &&& Int32.toUInt32 31)).toInt32) - (((S_1.1 1 6).toUInt32 >>> ((8 : Int32).toUInt32 &&& Int32.toUInt32 31)).toInt32) / a_1 * a_1, S_1)
set_option maxHeartbeats 4000000 in
set_option maxRecDepth 100000 in
theorem cm_draw (l : Launch) (D : va_G) (K : (Nat → Nat) × (Nat → Nat)) (cy : Nat → ClassId) (ad : Nat → Nat) (S_0 : zSt) (a_1 : Int32) (ro : Int32) (So : zSt) (hf : fm_draw S_0 a_1 = some (ro, So)) : zMI l yX12_draw (zws yX12_draw cX12_draw 2 (Option.some .int)) ({ frames := 0, cells := 0, slots := 0, locals := 0 }) D (zTy cy) K (zM cy ad) [.ref (ad 0), .int a_1] S_0 ro So := by
  refine z_metI (own := RX12) (lv := [(0, .ref (ad 0)), (1, .int a_1)]) (by decide) rfl rfl (Nat.le_of_ble_eq_true rfl) rfl ?_
  intro p e s m below meth c A Q X hK hE hD hA hret hP hS ls hl
  obtain ⟨hx, hb, hml, hown, hts⟩ := id X
  have k0 := (fun w h => List.mem_cons_of_mem _ (zFX12 w h) : ∀ w ∈ u_ws RX12 TX12 36, w ∈ zws yX12_draw cX12_draw 2 (Option.some .int))
  have k1 := hts _ (List.mem_cons_of_mem _ wt_5_95)
  have k2 := hts _ (List.mem_cons_of_mem _ wt_6_147)
  have k3 := hts _ (List.mem_cons_of_mem _ wt_6_148)
  refine lv_aload_n hx hb dX12_draw_0 rfl (lv_at hl 0 rfl) ?_
  refine va_get (D := D) (ci := 12) (v := .ref (ad 1)) (C := RX12) (T := TX12) (N := 36) hx hb hts k0 hown hK hP 0 (zM_0 cy ad S_0) rfl 0 (by decide) k1 (fun _ h9 => h9) rfl dX12_draw_1 ?_
  refine lv_bipush (v := 6) hx hb dX12_draw_4 (by decide) ?_
  refine lv_ldc hx hb hown k2 dX12_draw_6 ?_
  refine lv_aload_n hx hb dX12_draw_8 rfl (lv_at hl 0 rfl) ?_
  refine va_get (D := D) (ci := 12) (v := .ref (ad 1)) (C := RX12) (T := TX12) (N := 36) hx hb hts k0 hown hK hP 0 (zM_0 cy ad S_0) rfl 0 (by decide) k1 (fun _ h9 => h9) rfl dX12_draw_9 ?_
  refine lv_bipush (v := 6) hx hb dX12_draw_12 (by decide) ?_
  refine z_iald hx hb hK hP 1 0 (zM_1 cy ad S_0) rfl (vp_in_iff.mpr (by decide)) (k := 6) (by decide) dX12_draw_14 ?_
  refine lv_imul hx hb dX12_draw_15 ?_
  refine lv_ldc hx hb hown k3 dX12_draw_16 ?_
  refine lv_iadd hx hb dX12_draw_18 ?_
  refine z_iast hx hb hK hP (hD S_0) hS 1 0 (zM_1 cy ad S_0) rfl (vp_in_iff.mpr (by decide)) (k := 6) (by decide) dX12_draw_19 (fun H locs hP hS => ?_)
  obtain ⟨S_1, eS_1, hf⟩ := z_nm hf
  have hP := zW_putI hP eS_1 (by decide) rfl
  refine lv_aload_n hx hb dX12_draw_20 rfl (lv_at hl 0 rfl) ?_
  refine va_get (D := D) (ci := 12) (v := .ref (ad 1)) (C := RX12) (T := TX12) (N := 36) hx hb hts k0 hown hK hP 0 (zM_0 cy ad S_1) rfl 0 (by decide) k1 (fun _ h9 => h9) rfl dX12_draw_21 ?_
  refine lv_bipush (v := 6) hx hb dX12_draw_24 (by decide) ?_
  refine z_iald hx hb hK hP 1 0 (zM_1 cy ad S_1) rfl (vp_in_iff.mpr (by decide)) (k := 6) (by decide) dX12_draw_26 ?_
  refine lv_bipush (v := 8) hx hb dX12_draw_27 (by decide) ?_
  refine lv_iushr hx hb dX12_draw_29 rfl ?_
  refine lv_iload_n hx hb dX12_draw_30 rfl (lv_at hl 1 rfl) ?_
  obtain ⟨h_2, hf⟩ := z_nz hf
  refine lv_irem hx hb dX12_draw_31 h_2 ?_
  obtain ⟨h1, h2⟩ := z_s2 hf
  subst h1 h2
  exact hret _ _ _ _ hP hS dX12_draw_32
def fm_feed_L18 (a_1 : Int32) (a_2 : Int32) (a_3 : Int32) (a_4 : Int32) (a_5 : Int32) : Nat → Int32 → zSt → Option (Int32 × zSt)
  | 0, _, _ => none
  | n_18 + 1, x_1, S_2 =>
    if (20 : Int32) ≤ x_1 then (
    some (S_2.1 0 12, S_2)) else (
    znm (fun (x_3 : Int32) (S_4 : zSt) =>
    zck (zix (S_4.1 0 12) 400) <|
    znm (zpI S_4 6 ((S_4.1 0 12).toNatClampNeg) ((x_3 >>> (((24 : Int32) - ((8 : Int32) * (x_1 - x_1 / (4 : Int32) * (4 : Int32)))) &&& 31)) &&& (255 : Int32))) fun S_6 =>
    znm (zpI S_6 0 12 ((S_6.1 0 12) + (1 : Int32))) fun S_7 =>
    znm (x_1 + (1 : Int32)) fun x_8 =>
    fm_feed_L18 a_1 a_2 a_3 a_4 a_5 n_18 x_8 S_7) fun j_71 =>
    if (4 : Int32) ≤ x_1 then (
    if (8 : Int32) ≤ x_1 then (
    if (12 : Int32) ≤ x_1 then (
    if (16 : Int32) ≤ x_1 then (
    j_71 a_5 S_2) else (
    j_71 a_4 S_2)) else (
    j_71 a_3 S_2)) else (
    j_71 a_2 S_2)) else (
    j_71 a_1 S_2))
def fm_feed (S_0 : zSt) (a_1 : Int32) (a_2 : Int32) (a_3 : Int32) (a_4 : Int32) (a_5 : Int32) : Option (Int32 × zSt) :=
  if ((S_0.1 0 12) + (20 : Int32)) ≤ (400 : Int32) then (
  fm_feed_L18 a_1 a_2 a_3 a_4 a_5 zFU (0 : Int32) S_0) else (
  some ((-1 : Int32), S_0))
set_option maxHeartbeats 4000000 in
set_option maxRecDepth 100000 in
theorem cm_feed (l : Launch) (D : va_G) (K : (Nat → Nat) × (Nat → Nat)) (cy : Nat → ClassId) (ad : Nat → Nat) (S_0 : zSt) (a_1 : Int32) (a_2 : Int32) (a_3 : Int32) (a_4 : Int32) (a_5 : Int32) (ro : Int32) (So : zSt) (hf : fm_feed S_0 a_1 a_2 a_3 a_4 a_5 = some (ro, So)) : zMI l yX12_feed (zws yX12_feed cX12_feed 8 (Option.some .int)) ({ frames := 0, cells := 0, slots := 0, locals := 0 }) D (zTy cy) K (zM cy ad) [.ref (ad 0), .int a_1, .int a_2, .int a_3, .int a_4, .int a_5] S_0 ro So := by
  refine z_metI (own := RX12) (lv := [(0, .ref (ad 0)), (1, .int a_1), (2, .int a_2), (3, .int a_3), (4, .int a_4), (5, .int a_5)]) (by decide) rfl rfl (Nat.le_of_ble_eq_true rfl) rfl ?_
  intro p e s m below meth c A Q X hK hE hD hA hret hP hS ls hl
  obtain ⟨hx, hb, hml, hown, hts⟩ := id X
  have k0 := (fun w h => List.mem_cons_of_mem _ (zFX12 w h) : ∀ w ∈ u_ws RX12 TX12 36, w ∈ zws yX12_feed cX12_feed 8 (Option.some .int))
  have k1 := hts _ (List.mem_cons_of_mem _ wt_5_107)
  have k2 := hts _ (List.mem_cons_of_mem _ wt_5_102)
  refine lv_aload_n hx hb dX12_feed_0 rfl (lv_at hl 0 rfl) ?_
  refine va_get (D := D) (ci := 12) (v := .int (S_0.1 0 12)) (C := RX12) (T := TX12) (N := 36) hx hb hts k0 hown hK hP 0 (zM_0 cy ad S_0) rfl 12 (by decide) k1 (fun _ h9 => h9) rfl dX12_feed_1 ?_
  refine lv_bipush (v := 20) hx hb dX12_feed_4 (by decide) ?_
  refine lv_iadd hx hb dX12_feed_6 ?_
  refine lv_sipush (v := 400) hx hb dX12_feed_7 (by decide) ?_
  refine lv_icmp_le (tgt := 15) hx hb dX12_feed_10 (by decide) (fun c_14 => ?_) (fun c_14 => ?_)
  · have hf := z_it c_14 hf
    refine lv_iconst (v := 0) hx hb dX12_feed_15 (by decide) ?_
    refine lv_istore (lv' := [(6, .int (0 : Int32)), (0, .ref (ad 0)), (1, .int a_1), (2, .int a_2), (3, .int a_3), (4, .int a_4), (5, .int a_5)]) hx hb dX12_feed_16 hl (by decide) rfl (fun ls hl => ?_)
    have L_18 : ∀ (n_18 : Nat) (x_1 : Int32) (S_2 : zSt) (H : Heap) (locs : List Loc) (ls : Array Slot), fm_feed_L18 a_1 a_2 a_3 a_4 a_5 n_18 x_1 S_2 = some (ro, So) → va_P D vwCl (zM cy ad S_2) H → va_S A s.heap H locs → lv_has ls 8 [(0, .ref (ad 0)), (1, .int a_1), (2, .int a_2), (3, .int a_3), (4, .int a_4), (5, .int a_5), (6, .int x_1)] → W p l e ({ frames := 0, cells := 0, slots := 0, locals := 0 }) s m ([.ref (ad 0), .int a_1, .int a_2, .int a_3, .int a_4, .int a_5] : List Value).toArray below meth c H locs 0 0 Q (F0 m 18 ls []) := by
      intro n_18
      induction n_18 with
      | zero =>
        intro x_1 S_2 H locs ls hf hP hS hl
        exact z_no hf
      | succ n_18 ih_18 =>
        intro x_1 S_2 H locs ls hf hP hS hl
        rw [fm_feed_L18] at hf
        refine lv_iload hx hb dX12_feed_18 (lv_at hl 6 rfl) ?_
        refine lv_bipush (v := 20) hx hb dX12_feed_20 (by decide) ?_
        refine lv_icmp_ge (tgt := 115) hx hb dX12_feed_22 (by decide) (fun c_13 => ?_) (fun c_13 => ?_)
        · have hf := z_it c_13 hf
          refine lv_aload_n hx hb dX12_feed_115 rfl (lv_at hl 0 rfl) ?_
          refine va_get (D := D) (ci := 12) (v := .int (S_2.1 0 12)) (C := RX12) (T := TX12) (N := 36) hx hb hts k0 hown hK hP 0 (zM_0 cy ad S_2) rfl 12 (by decide) k1 (fun _ h9 => h9) rfl dX12_feed_116 ?_
          obtain ⟨h1, h2⟩ := z_s2 hf
          subst h1 h2
          exact hret _ _ _ _ hP hS dX12_feed_119
        · have hf := z_if c_13 hf
          refine lv_iload hx hb dX12_feed_25 (lv_at hl 6 rfl) ?_
          refine lv_iconst (v := 4) hx hb dX12_feed_27 (by decide) ?_
          obtain ⟨j_71, ej_71, hf⟩ := z_nm hf
          have J_71 : ∀ (x_3 : Int32) (S_4 : zSt) (H : Heap) (locs : List Loc) (ls : Array Slot), j_71 x_3 S_4 = some (ro, So) → va_P D vwCl (zM cy ad S_4) H → va_S A s.heap H locs → lv_has ls 8 [(0, .ref (ad 0)), (1, .int a_1), (2, .int a_2), (3, .int a_3), (4, .int a_4), (5, .int a_5), (6, .int x_1)] → W p l e ({ frames := 0, cells := 0, slots := 0, locals := 0 }) s m ([.ref (ad 0), .int a_1, .int a_2, .int a_3, .int a_4, .int a_5] : List Value).toArray below meth c H locs 0 0 Q (F0 m 71 ls [.int x_3]) := by
            intro x_3 S_4 H locs ls hf hP hS hl
            have hf := z_e2 ej_71 hf
            refine lv_istore (lv' := [(7, .int x_3), (0, .ref (ad 0)), (1, .int a_1), (2, .int a_2), (3, .int a_3), (4, .int a_4), (5, .int a_5), (6, .int x_1)]) hx hb dX12_feed_71 hl (by decide) rfl (fun ls hl => ?_)
            refine lv_aload_n hx hb dX12_feed_73 rfl (lv_at hl 1 rfl) ?_
            refine va_get (D := D) (ci := 12) (v := .ref (ad 6)) (C := RX12) (T := TX12) (N := 36) hx hb hts k0 hown hK hP 0 (zM_0 cy ad S_4) rfl 7 (by decide) k2 (fun _ h9 => h9) rfl dX12_feed_74 ?_
            refine lv_aload_n hx hb dX12_feed_77 rfl (lv_at hl 1 rfl) ?_
            refine va_get (D := D) (ci := 12) (v := .int (S_4.1 0 12)) (C := RX12) (T := TX12) (N := 36) hx hb hts k0 hown hK hP 0 (zM_0 cy ad S_4) rfl 12 (by decide) k1 (fun _ h9 => h9) rfl dX12_feed_78 ?_
            refine lv_iload hx hb dX12_feed_81 (lv_at hl 0 rfl) ?_
            refine lv_bipush (v := 24) hx hb dX12_feed_83 (by decide) ?_
            refine lv_bipush (v := 8) hx hb dX12_feed_85 (by decide) ?_
            refine lv_iload hx hb dX12_feed_87 (lv_at hl 7 rfl) ?_
            refine lv_iconst (v := 4) hx hb dX12_feed_89 (by decide) ?_
            refine lv_irem hx hb dX12_feed_90 (by decide) ?_
            refine lv_imul hx hb dX12_feed_91 ?_
            refine lv_isub hx hb dX12_feed_92 ?_
            refine lv_ishr hx hb dX12_feed_93 ?_
            refine lv_sipush (v := 255) hx hb dX12_feed_94 (by decide) ?_
            refine lv_iand hx hb dX12_feed_97 ?_
            obtain ⟨h_5, hf⟩ := z_ix hf
            refine z_iast hx hb hK hP (hD S_4) hS 6 0 (zM_6 cy ad S_4) rfl h_5 (k := ((S_4.1 0 12).toNatClampNeg)) rfl dX12_feed_98 (fun H locs hP hS => ?_)
            obtain ⟨S_6, eS_6, hf⟩ := z_nm hf
            have hP := zW_putI hP eS_6 (by decide) rfl
            refine lv_aload_n hx hb dX12_feed_99 rfl (lv_at hl 1 rfl) ?_
            refine lv_dup hx hb dX12_feed_100 rfl ?_
            refine va_get (D := D) (ci := 12) (v := .int (S_6.1 0 12)) (C := RX12) (T := TX12) (N := 36) hx hb hts k0 hown hK hP 0 (zM_0 cy ad S_6) rfl 12 (by decide) k1 (fun _ h9 => h9) rfl dX12_feed_101 ?_
            refine lv_iconst (v := 1) hx hb dX12_feed_104 (by decide) ?_
            refine lv_iadd hx hb dX12_feed_105 ?_
            refine va_put (D := D) (ci := 12) (v := .int ((S_6.1 0 12) + (1 : Int32))) (ty := .int) (C := RX12) (T := TX12) (N := 36) hx hb hts k0 tyX12 tyX12_ok nmX12 hown hK hP (hD S_6) hS 0 (zM_0 cy ad S_6) rfl 12 (by decide) k1 (fun _ h9 => h9) rfl (tyX12_ok 12 (by decide)) rfl rfl (Nat.le_of_ble_eq_true rfl) dX12_feed_106 (fun H locs hP _ hS => ?_)
            obtain ⟨S_7, eS_7, hf⟩ := z_nm hf
            have hP := zW_putI hP eS_7 (by decide) rfl
            obtain ⟨x_8, ex_8, hf⟩ := z_nm hf
            refine lv_iinc (v := x_8) (lv' := [(6, .int x_8), (7, .int x_3), (0, .ref (ad 0)), (1, .int a_1), (2, .int a_2), (3, .int a_3), (4, .int a_4), (5, .int a_5)]) hx hb dX12_feed_109 hl (k := 7) rfl (by rw [ex_8]; rfl) (by decide) rfl (fun ls hl => ?_)
            refine lv_goto (tgt := 18) hx hb dX12_feed_112 (by decide) ?_
            exact ih_18 x_8 S_7 _ _ _ hf hP hS (lv_sub hl [2, 3, 4, 5, 6, 7, 0] rfl)
          refine lv_icmp_ge (tgt := 35) hx hb dX12_feed_28 (by decide) (fun c_12 => ?_) (fun c_12 => ?_)
          · have hf := z_it c_12 hf
            refine lv_iload hx hb dX12_feed_35 (lv_at hl 6 rfl) ?_
            refine lv_bipush (v := 8) hx hb dX12_feed_37 (by decide) ?_
            refine lv_icmp_ge (tgt := 46) hx hb dX12_feed_39 (by decide) (fun c_11 => ?_) (fun c_11 => ?_)
            · have hf := z_it c_11 hf
              refine lv_iload hx hb dX12_feed_46 (lv_at hl 6 rfl) ?_
              refine lv_bipush (v := 12) hx hb dX12_feed_48 (by decide) ?_
              refine lv_icmp_ge (tgt := 57) hx hb dX12_feed_50 (by decide) (fun c_10 => ?_) (fun c_10 => ?_)
              · have hf := z_it c_10 hf
                refine lv_iload hx hb dX12_feed_57 (lv_at hl 6 rfl) ?_
                refine lv_bipush (v := 16) hx hb dX12_feed_59 (by decide) ?_
                refine lv_icmp_ge (tgt := 69) hx hb dX12_feed_61 (by decide) (fun c_9 => ?_) (fun c_9 => ?_)
                · have hf := z_it c_9 hf
                  refine lv_iload hx hb dX12_feed_69 (lv_at hl 5 rfl) ?_
                  exact J_71 a_5 S_2 _ _ _ hf hP hS (lv_sub hl [0, 1, 2, 3, 4, 5, 6] rfl)
                · have hf := z_if c_9 hf
                  refine lv_iload hx hb dX12_feed_64 (lv_at hl 4 rfl) ?_
                  refine lv_goto (tgt := 71) hx hb dX12_feed_66 (by decide) ?_
                  exact J_71 a_4 S_2 _ _ _ hf hP hS (lv_sub hl [0, 1, 2, 3, 4, 5, 6] rfl)
              · have hf := z_if c_10 hf
                refine lv_iload_n hx hb dX12_feed_53 rfl (lv_at hl 3 rfl) ?_
                refine lv_goto (tgt := 71) hx hb dX12_feed_54 (by decide) ?_
                exact J_71 a_3 S_2 _ _ _ hf hP hS (lv_sub hl [0, 1, 2, 3, 4, 5, 6] rfl)
            · have hf := z_if c_11 hf
              refine lv_iload_n hx hb dX12_feed_42 rfl (lv_at hl 2 rfl) ?_
              refine lv_goto (tgt := 71) hx hb dX12_feed_43 (by decide) ?_
              exact J_71 a_2 S_2 _ _ _ hf hP hS (lv_sub hl [0, 1, 2, 3, 4, 5, 6] rfl)
          · have hf := z_if c_12 hf
            refine lv_iload_n hx hb dX12_feed_31 rfl (lv_at hl 1 rfl) ?_
            refine lv_goto (tgt := 71) hx hb dX12_feed_32 (by decide) ?_
            exact J_71 a_1 S_2 _ _ _ hf hP hS (lv_sub hl [0, 1, 2, 3, 4, 5, 6] rfl)
    exact L_18 zFU (0 : Int32) S_0 _ _ _ hf hP hS (lv_sub hl [1, 2, 3, 4, 5, 6, 0] rfl)
  · have hf := z_if c_14 hf
    refine lv_iconst (v := -1) hx hb dX12_feed_13 (by decide) ?_
    obtain ⟨h1, h2⟩ := z_s2 hf
    subst h1 h2
    exact hret _ _ _ _ hP hS dX12_feed_14
def fm_end (S_0 : zSt) (a_1 : Int32) : Option (Int32 × zSt) :=
  zbd (fm_isIn S_0 a_1 (0 : Int32) (S_0.1 0 12)) fun r_1 S_2 =>
  if r_1 = 0 then (
  some ((0 : Int32), S_2)) else (
  znm (zpI S_2 0 12 a_1) fun S_4 =>
  some ((1 : Int32), S_4))
set_option maxHeartbeats 4000000 in
set_option maxRecDepth 100000 in
theorem cm_end (l : Launch) (D : va_G) (K : (Nat → Nat) × (Nat → Nat)) (cy : Nat → ClassId) (ad : Nat → Nat) (S_0 : zSt) (a_1 : Int32) (ro : Int32) (So : zSt) (hf : fm_end S_0 a_1 = some (ro, So)) : zMI l yX12_end (zws yX12_end cX12_end 2 (Option.some .boolean)) ({ frames := 1, cells := 0, slots := 0, locals := 22 }) D (zTy cy) K (zM cy ad) [.ref (ad 0), .int a_1] S_0 ro So := by
  refine z_metZ (own := RX12) (lv := [(0, .ref (ad 0)), (1, .int a_1)]) (by decide) rfl rfl (Nat.le_of_ble_eq_true rfl) rfl ?_
  intro p e s m below meth c A Q X hK hE hD hA hret hP hS ls hl
  obtain ⟨hx, hb, hml, hown, hts⟩ := id X
  have k0 := (fun w h => List.mem_cons_of_mem _ (zFX12 w h) : ∀ w ∈ u_ws RX12 TX12 36, w ∈ zws yX12_end cX12_end 2 (Option.some .boolean))
  have k1 := hts _ (List.mem_cons_of_mem _ wt_5_107)
  refine lv_iload_n hx hb dX12_end_0 rfl (lv_at hl 1 rfl) ?_
  refine lv_iconst (v := 0) hx hb dX12_end_1 (by decide) ?_
  refine lv_aload_n hx hb dX12_end_2 rfl (lv_at hl 0 rfl) ?_
  refine va_get (D := D) (ci := 12) (v := .int (S_0.1 0 12)) (C := RX12) (T := TX12) (N := 36) hx hb hts k0 hown hK hP 0 (zM_0 cy ad S_0) rfl 12 (by decide) k1 (fun _ h9 => h9) rfl dX12_end_3 ?_
  obtain ⟨r_1, S_2, h_3, hf⟩ := z_bd hf
  refine z_cSI (As := [.int a_1, .int (0 : Int32), .int (S_0.1 0 12)]) (rest := []) X hK hE hD hA hP hS (cm_isIn l D K cy ad S_0 _ _ _ _ _ h_3) (va_cwS 3 hts (z_gS wt_5_216 wt_5_217 wt_1_13 wt_5_218) rfl rfl rfl yd_yX12_isIn ⟨Nat.le_of_ble_eq_true rfl, Nat.le_of_ble_eq_true rfl⟩) hl.1 rfl rfl (Nat.le_of_ble_eq_true rfl) dX12_end_6 (fun H locs hP hS => ?_)
  refine lv_if_ne (tgt := 14) hx hb dX12_end_9 (by decide) (fun c_5 => ?_) (fun c_5 => ?_)
  · have hf := z_if c_5 hf
    refine lv_aload_n hx hb dX12_end_14 rfl (lv_at hl 0 rfl) ?_
    refine lv_iload_n hx hb dX12_end_15 rfl (lv_at hl 1 rfl) ?_
    refine va_put (D := D) (ci := 12) (v := .int a_1) (ty := .int) (C := RX12) (T := TX12) (N := 36) hx hb hts k0 tyX12 tyX12_ok nmX12 hown hK hP (hD S_2) hS 0 (zM_0 cy ad S_2) rfl 12 (by decide) k1 (fun _ h9 => h9) rfl (tyX12_ok 12 (by decide)) rfl rfl (Nat.le_of_ble_eq_true rfl) dX12_end_16 (fun H locs hP _ hS => ?_)
    obtain ⟨S_4, eS_4, hf⟩ := z_nm hf
    have hP := zW_putI hP eS_4 (by decide) rfl
    refine lv_iconst (v := 1) hx hb dX12_end_19 (by decide) ?_
    obtain ⟨h1, h2⟩ := z_s2 hf
    subst h1 h2
    exact hret _ _ _ _ rfl hP hS dX12_end_20
  · have hf := z_it c_5 hf
    refine lv_iconst (v := 0) hx hb dX12_end_12 (by decide) ?_
    obtain ⟨h1, h2⟩ := z_s2 hf
    subst h1 h2
    exact hret _ _ _ _ rfl hP hS dX12_end_13
def fm_see (S_0 : zSt) (a_1 : Int32) : Option (Int32 × zSt) :=
  znm (fun (x_1 : Int32) (S_2 : zSt) =>
  some (x_1, S_2)) fun j_18 =>
  if (S_0.1 0 12) ≤ a_1 then (
  j_18 (-1 : Int32) S_0) else (
  zck (zix a_1 400) <|
  j_18 (S_0.1 6 (a_1.toNatClampNeg)) S_0)
set_option maxHeartbeats 4000000 in
set_option maxRecDepth 100000 in
theorem cm_see (l : Launch) (D : va_G) (K : (Nat → Nat) × (Nat → Nat)) (cy : Nat → ClassId) (ad : Nat → Nat) (S_0 : zSt) (a_1 : Int32) (ro : Int32) (So : zSt) (hf : fm_see S_0 a_1 = some (ro, So)) : zMI l yX12_see (zws yX12_see cX12_see 2 (Option.some .int)) ({ frames := 0, cells := 0, slots := 0, locals := 0 }) D (zTy cy) K (zM cy ad) [.ref (ad 0), .int a_1] S_0 ro So := by
  refine z_metI (own := RX12) (lv := [(0, .ref (ad 0)), (1, .int a_1)]) (by decide) rfl rfl (Nat.le_of_ble_eq_true rfl) rfl ?_
  intro p e s m below meth c A Q X hK hE hD hA hret hP hS ls hl
  obtain ⟨hx, hb, hml, hown, hts⟩ := id X
  have k0 := (fun w h => List.mem_cons_of_mem _ (zFX12 w h) : ∀ w ∈ u_ws RX12 TX12 36, w ∈ zws yX12_see cX12_see 2 (Option.some .int))
  have k1 := hts _ (List.mem_cons_of_mem _ wt_5_107)
  have k2 := hts _ (List.mem_cons_of_mem _ wt_5_102)
  refine lv_iload_n hx hb dX12_see_0 rfl (lv_at hl 1 rfl) ?_
  refine lv_aload_n hx hb dX12_see_1 rfl (lv_at hl 0 rfl) ?_
  refine va_get (D := D) (ci := 12) (v := .int (S_0.1 0 12)) (C := RX12) (T := TX12) (N := 36) hx hb hts k0 hown hK hP 0 (zM_0 cy ad S_0) rfl 12 (by decide) k1 (fun _ h9 => h9) rfl dX12_see_2 ?_
  obtain ⟨j_18, ej_18, hf⟩ := z_nm hf
  have J_18 : ∀ (x_1 : Int32) (S_2 : zSt) (H : Heap) (locs : List Loc) (ls : Array Slot), j_18 x_1 S_2 = some (ro, So) → va_P D vwCl (zM cy ad S_2) H → va_S A s.heap H locs → lv_has ls 2 [] → W p l e ({ frames := 0, cells := 0, slots := 0, locals := 0 }) s m ([.ref (ad 0), .int a_1] : List Value).toArray below meth c H locs 0 0 Q (F0 m 18 ls [.int x_1]) := by
    intro x_1 S_2 H locs ls hf hP hS hl
    have hf := z_e2 ej_18 hf
    obtain ⟨h1, h2⟩ := z_s2 hf
    subst h1 h2
    exact hret _ _ _ _ hP hS dX12_see_18
  refine lv_icmp_ge (tgt := 17) hx hb dX12_see_5 (by decide) (fun c_4 => ?_) (fun c_4 => ?_)
  · have hf := z_it c_4 hf
    refine lv_iconst (v := -1) hx hb dX12_see_17 (by decide) ?_
    exact J_18 (-1 : Int32) S_0 _ _ _ hf hP hS (lv_sub hl [] rfl)
  · have hf := z_if c_4 hf
    refine lv_aload_n hx hb dX12_see_8 rfl (lv_at hl 0 rfl) ?_
    refine va_get (D := D) (ci := 12) (v := .ref (ad 6)) (C := RX12) (T := TX12) (N := 36) hx hb hts k0 hown hK hP 0 (zM_0 cy ad S_0) rfl 7 (by decide) k2 (fun _ h9 => h9) rfl dX12_see_9 ?_
    refine lv_iload_n hx hb dX12_see_12 rfl (lv_at hl 1 rfl) ?_
    obtain ⟨h_3, hf⟩ := z_ix hf
    refine z_iald hx hb hK hP 6 0 (zM_6 cy ad S_0) rfl h_3 (k := (a_1.toNatClampNeg)) rfl dX12_see_13 ?_
    refine lv_goto (tgt := 18) hx hb dX12_see_14 (by decide) ?_
    exact J_18 (S_0.1 6 (a_1.toNatClampNeg)) S_0 _ _ _ hf hP hS (lv_sub hl [] rfl)
def fm_isLetter (S_0 : zSt) (a_1 : Int32) : Option (Int32 × zSt) :=
  zbd (fm_isIn S_0 a_1 (97 : Int32) (122 : Int32)) fun r_1 S_2 =>
  znm (fun (x_4 : Int32) (S_5 : zSt) =>
  zck (zbo x_4) <|
  some (x_4, S_5)) fun j_27 =>
  znm (fun (S_7 : zSt) =>
  j_27 (1 : Int32) S_7) fun j_22 =>
  if r_1 = 0 then (
  zbd (fm_isIn S_2 a_1 (65 : Int32) (90 : Int32)) fun r_8 S_9 =>
  if r_8 = 0 then (
  j_27 (0 : Int32) S_9) else (
  j_22  S_9)) else (
  j_22  S_2)
set_option maxHeartbeats 4000000 in
set_option maxRecDepth 100000 in
theorem cm_isLetter (l : Launch) (D : va_G) (K : (Nat → Nat) × (Nat → Nat)) (cy : Nat → ClassId) (ad : Nat → Nat) (S_0 : zSt) (a_1 : Int32) (ro : Int32) (So : zSt) (hf : fm_isLetter S_0 a_1 = some (ro, So)) : zMI l yX12_isLetter (zws yX12_isLetter cX12_isLetter 1 (Option.some .boolean)) ({ frames := 1, cells := 0, slots := 0, locals := 22 }) D (zTy cy) K (zM cy ad) [.int a_1] S_0 ro So := by
  refine z_metZ (own := RX12) (lv := [(0, .int a_1)]) (by decide) rfl rfl (Nat.le_of_ble_eq_true rfl) rfl ?_
  intro p e s m below meth c A Q X hK hE hD hA hret hP hS ls hl
  obtain ⟨hx, hb, hml, hown, hts⟩ := id X
  refine lv_iload_n hx hb dX12_isLetter_0 rfl (lv_at hl 0 rfl) ?_
  refine lv_bipush (v := 97) hx hb dX12_isLetter_1 (by decide) ?_
  refine lv_bipush (v := 122) hx hb dX12_isLetter_3 (by decide) ?_
  obtain ⟨r_1, S_2, h_3, hf⟩ := z_bd hf
  refine z_cSI (As := [.int a_1, .int (97 : Int32), .int (122 : Int32)]) (rest := []) X hK hE hD hA hP hS (cm_isIn l D K cy ad S_0 _ _ _ _ _ h_3) (va_cwS 3 hts (z_gS wt_5_216 wt_5_217 wt_1_13 wt_5_218) rfl rfl rfl yd_yX12_isIn ⟨Nat.le_of_ble_eq_true rfl, Nat.le_of_ble_eq_true rfl⟩) hl.1 rfl rfl (Nat.le_of_ble_eq_true rfl) dX12_isLetter_5 (fun H locs hP hS => ?_)
  obtain ⟨j_27, ej_27, hf⟩ := z_nm hf
  have J_27 : ∀ (x_4 : Int32) (S_5 : zSt) (H : Heap) (locs : List Loc) (ls : Array Slot), j_27 x_4 S_5 = some (ro, So) → va_P D vwCl (zM cy ad S_5) H → va_S A s.heap H locs → lv_has ls 1 [] → W p l e ({ frames := 1, cells := 0, slots := 0, locals := 22 }) s m ([.int a_1] : List Value).toArray below meth c H locs 0 0 Q (F0 m 27 ls [.int x_4]) := by
    intro x_4 S_5 H locs ls hf hP hS hl
    have hf := z_e2 ej_27 hf
    obtain ⟨h_6, hf⟩ := z_bo hf
    obtain ⟨h1, h2⟩ := z_s2 hf
    subst h1 h2
    exact hret _ _ _ _ h_6 hP hS dX12_isLetter_27
  obtain ⟨j_22, ej_22, hf⟩ := z_nm hf
  have J_22 : ∀ (S_7 : zSt) (H : Heap) (locs : List Loc) (ls : Array Slot), j_22  S_7 = some (ro, So) → va_P D vwCl (zM cy ad S_7) H → va_S A s.heap H locs → lv_has ls 1 [] → W p l e ({ frames := 1, cells := 0, slots := 0, locals := 22 }) s m ([.int a_1] : List Value).toArray below meth c H locs 0 0 Q (F0 m 22 ls []) := by
    intro  S_7 H locs ls hf hP hS hl
    have hf := z_e1 ej_22 hf
    refine lv_iconst (v := 1) hx hb dX12_isLetter_22 (by decide) ?_
    refine lv_goto (tgt := 27) hx hb dX12_isLetter_23 (by decide) ?_
    exact J_27 (1 : Int32) S_7 _ _ _ hf hP hS (lv_sub hl [] rfl)
  refine lv_if_ne (tgt := 22) hx hb dX12_isLetter_8 (by decide) (fun c_12 => ?_) (fun c_12 => ?_)
  · have hf := z_if c_12 hf
    exact J_22  S_2 _ _ _ hf hP hS (lv_sub hl [] rfl)
  · have hf := z_it c_12 hf
    refine lv_iload_n hx hb dX12_isLetter_11 rfl (lv_at hl 0 rfl) ?_
    refine lv_bipush (v := 65) hx hb dX12_isLetter_12 (by decide) ?_
    refine lv_bipush (v := 90) hx hb dX12_isLetter_14 (by decide) ?_
    obtain ⟨r_8, S_9, h_10, hf⟩ := z_bd hf
    refine z_cSI (As := [.int a_1, .int (65 : Int32), .int (90 : Int32)]) (rest := []) X hK hE hD hA hP hS (cm_isIn l D K cy ad S_2 _ _ _ _ _ h_10) (va_cwS 3 hts (z_gS wt_5_216 wt_5_217 wt_1_13 wt_5_218) rfl rfl rfl yd_yX12_isIn ⟨Nat.le_of_ble_eq_true rfl, Nat.le_of_ble_eq_true rfl⟩) hl.1 rfl rfl (Nat.le_of_ble_eq_true rfl) dX12_isLetter_16 (fun H locs hP hS => ?_)
    refine lv_if_eq (tgt := 26) hx hb dX12_isLetter_19 (by decide) (fun c_11 => ?_) (fun c_11 => ?_)
    · have hf := z_it c_11 hf
      refine lv_iconst (v := 0) hx hb dX12_isLetter_26 (by decide) ?_
      exact J_27 (0 : Int32) S_9 _ _ _ hf hP hS (lv_sub hl [] rfl)
    · have hf := z_if c_11 hf
      exact J_22  S_9 _ _ _ hf hP hS (lv_sub hl [] rfl)
def fm_isDigit (S_0 : zSt) (a_1 : Int32) : Option (Int32 × zSt) :=
  zbd (fm_isIn S_0 a_1 (48 : Int32) (57 : Int32)) fun r_1 S_2 =>
  zck (zbo r_1) <|
  some (r_1, S_2)
set_option maxHeartbeats 4000000 in
set_option maxRecDepth 100000 in
theorem cm_isDigit (l : Launch) (D : va_G) (K : (Nat → Nat) × (Nat → Nat)) (cy : Nat → ClassId) (ad : Nat → Nat) (S_0 : zSt) (a_1 : Int32) (ro : Int32) (So : zSt) (hf : fm_isDigit S_0 a_1 = some (ro, So)) : zMI l yX12_isDigit (zws yX12_isDigit cX12_isDigit 1 (Option.some .boolean)) ({ frames := 1, cells := 0, slots := 0, locals := 22 }) D (zTy cy) K (zM cy ad) [.int a_1] S_0 ro So := by
  refine z_metZ (own := RX12) (lv := [(0, .int a_1)]) (by decide) rfl rfl (Nat.le_of_ble_eq_true rfl) rfl ?_
  intro p e s m below meth c A Q X hK hE hD hA hret hP hS ls hl
  obtain ⟨hx, hb, hml, hown, hts⟩ := id X
  refine lv_iload_n hx hb dX12_isDigit_0 rfl (lv_at hl 0 rfl) ?_
  refine lv_bipush (v := 48) hx hb dX12_isDigit_1 (by decide) ?_
  refine lv_bipush (v := 57) hx hb dX12_isDigit_3 (by decide) ?_
  obtain ⟨r_1, S_2, h_3, hf⟩ := z_bd hf
  refine z_cSI (As := [.int a_1, .int (48 : Int32), .int (57 : Int32)]) (rest := []) X hK hE hD hA hP hS (cm_isIn l D K cy ad S_0 _ _ _ _ _ h_3) (va_cwS 3 hts (z_gS wt_5_216 wt_5_217 wt_1_13 wt_5_218) rfl rfl rfl yd_yX12_isIn ⟨Nat.le_of_ble_eq_true rfl, Nat.le_of_ble_eq_true rfl⟩) hl.1 rfl rfl (Nat.le_of_ble_eq_true rfl) dX12_isDigit_5 (fun H locs hP hS => ?_)
  obtain ⟨h_4, hf⟩ := z_bo hf
  obtain ⟨h1, h2⟩ := z_s2 hf
  subst h1 h2
  exact hret _ _ _ _ h_4 hP hS dX12_isDigit_8
def fm_is_L24 (ki : Nat) (j_67 : Int32 → zSt → Option (Int32 × zSt)) : Nat → Int32 → Int32 → zSt → Option (Int32 × zSt)
  | 0, _, _, _ => none
  | n_24 + 1, x_9, x_10, S_11 =>
    zbd (fj0_length ki S_11) fun r_12 S_13 =>
    if r_12 ≤ x_10 then (
    j_67 x_9 S_13) else (
    if x_9 = 0 then (
    j_67 x_9 S_13) else (
    zck (zix ((S_13.1 0 15) + x_10) 400) <|
    zbd (fj0_charAt ki S_13 x_10) fun r_16 S_17 =>
    znm (fun (x_19 : Int32) (S_20 : zSt) =>
    znm (x_10 + (1 : Int32)) fun x_21 =>
    fm_is_L24 ki j_67 n_24 x_19 x_21 S_20) fun j_60 =>
    if (S_13.1 6 (((S_13.1 0 15) + x_10).toNatClampNeg)) = r_16 then (
    j_60 (1 : Int32) S_17) else (
    j_60 (0 : Int32) S_17)))
def fm_is (ki : Nat) (S_0 : zSt) : Option (Int32 × zSt) :=
  zbd (fj0_length ki S_0) fun r_1 S_2 =>
  znm (fun (x_4 : Int32) (S_5 : zSt) =>
  znm (fun (x_6 : Int32) (S_7 : zSt) =>
  zck (zbo x_6) <|
  some (x_6, S_7)) fun j_67 =>
  fm_is_L24 ki j_67 zFU x_4 (0 : Int32) S_5) fun j_21 =>
  if ((S_0.1 0 13) - (S_0.1 0 15)) = r_1 then (
  j_21 (1 : Int32) S_2) else (
  j_21 (0 : Int32) S_2)
set_option maxHeartbeats 4000000 in
set_option maxRecDepth 100000 in
theorem cm_is (l : Launch) (D : va_G) (K : (Nat → Nat) × (Nat → Nat)) (cy : Nat → ClassId) (ad : Nat → Nat) (ki : Nat) (hki : ki < 17) (S_0 : zSt) (ro : Int32) (So : zSt) (hf : fm_is ki S_0 = some (ro, So)) : zMI l yX12_is (zws yX12_is cX12_is 4 (Option.some .boolean)) ({ frames := 4, cells := 0, slots := 0, locals := 85 }) D (zTy cy) K (zM cy ad) [.ref (ad 0), .ref (K.1 ki)] S_0 ro So := by
  refine z_metZ (own := RX12) (lv := [(0, .ref (ad 0)), (1, .ref (K.1 ki))]) (by decide) rfl rfl (Nat.le_of_ble_eq_true rfl) rfl ?_
  intro p e s m below meth c A Q X hK hE hD hA hret hP hS ls hl
  obtain ⟨hx, hb, hml, hown, hts⟩ := id X
  have k0 := (fun w h => List.mem_cons_of_mem _ (zFX12 w h) : ∀ w ∈ u_ws RX12 TX12 36, w ∈ zws yX12_is cX12_is 4 (Option.some .boolean))
  have k1 := hts _ (List.mem_cons_of_mem _ wt_5_108)
  have k2 := hts _ (List.mem_cons_of_mem _ wt_5_110)
  have k3 := hts _ (List.mem_cons_of_mem _ wt_5_102)
  refine lv_aload_n hx hb dX12_is_0 rfl (lv_at hl 0 rfl) ?_
  refine va_get (D := D) (ci := 12) (v := .int (S_0.1 0 13)) (C := RX12) (T := TX12) (N := 36) hx hb hts k0 hown hK hP 0 (zM_0 cy ad S_0) rfl 13 (by decide) k1 (fun _ h9 => h9) rfl dX12_is_1 ?_
  refine lv_aload_n hx hb dX12_is_4 rfl (lv_at hl 0 rfl) ?_
  refine va_get (D := D) (ci := 12) (v := .int (S_0.1 0 15)) (C := RX12) (T := TX12) (N := 36) hx hb hts k0 hown hK hP 0 (zM_0 cy ad S_0) rfl 15 (by decide) k2 (fun _ h9 => h9) rfl dX12_is_5 ?_
  refine lv_isub hx hb dX12_is_8 ?_
  refine lv_aload_n hx hb dX12_is_9 rfl (lv_at hl 1 rfl) ?_
  obtain ⟨r_1, S_2, h_3, hf⟩ := z_bd hf
  refine z_cVI (As := []) (rest := [.int ((S_0.1 0 13) - (S_0.1 0 15))]) X hK hE hD hA hP hS (cj0_length l D K _ _ _ _ ki hki S_0 _ _ h_3) (cwV 0 hts (z_gV wt_6_3 wt_3_108 wt_3_109 wt_1_14 wt_3_110) rfl rfl rfl ⟨rfl, yd_yJ0_length_8abf5⟩ ⟨Nat.le_of_ble_eq_true rfl, Nat.le_of_ble_eq_true rfl⟩) (vk_recv hE.1 hki hS) hl.1 rfl rfl (Nat.le_of_ble_eq_true rfl) dX12_is_10 (fun H locs hP hS => ?_)
  obtain ⟨j_21, ej_21, hf⟩ := z_nm hf
  have J_21 : ∀ (x_4 : Int32) (S_5 : zSt) (H : Heap) (locs : List Loc) (ls : Array Slot), j_21 x_4 S_5 = some (ro, So) → va_P D vwCl (zM cy ad S_5) H → va_S A s.heap H locs → lv_has ls 4 [(0, .ref (ad 0)), (1, .ref (K.1 ki))] → W p l e ({ frames := 4, cells := 0, slots := 0, locals := 85 }) s m ([.ref (ad 0), .ref (K.1 ki)] : List Value).toArray below meth c H locs 0 0 Q (F0 m 21 ls [.int x_4]) := by
    intro x_4 S_5 H locs ls hf hP hS hl
    have hf := z_e2 ej_21 hf
    refine lv_istore_n (lv' := [(2, .int x_4), (0, .ref (ad 0)), (1, .ref (K.1 ki))]) hx hb dX12_is_21 rfl hl (by decide) rfl (fun ls hl => ?_)
    refine lv_iconst (v := 0) hx hb dX12_is_22 (by decide) ?_
    refine lv_istore_n (lv' := [(3, .int (0 : Int32)), (2, .int x_4), (0, .ref (ad 0)), (1, .ref (K.1 ki))]) hx hb dX12_is_23 rfl hl (by decide) rfl (fun ls hl => ?_)
    obtain ⟨j_67, ej_67, hf⟩ := z_nm hf
    have J_67 : ∀ (x_6 : Int32) (S_7 : zSt) (H : Heap) (locs : List Loc) (ls : Array Slot), j_67 x_6 S_7 = some (ro, So) → va_P D vwCl (zM cy ad S_7) H → va_S A s.heap H locs → lv_has ls 4 [(2, .int x_6)] → W p l e ({ frames := 4, cells := 0, slots := 0, locals := 85 }) s m ([.ref (ad 0), .ref (K.1 ki)] : List Value).toArray below meth c H locs 0 0 Q (F0 m 67 ls []) := by
      intro x_6 S_7 H locs ls hf hP hS hl
      have hf := z_e2 ej_67 hf
      refine lv_iload_n hx hb dX12_is_67 rfl (lv_at hl 0 rfl) ?_
      obtain ⟨h_8, hf⟩ := z_bo hf
      obtain ⟨h1, h2⟩ := z_s2 hf
      subst h1 h2
      exact hret _ _ _ _ h_8 hP hS dX12_is_68
    have L_24 : ∀ (n_24 : Nat) (x_9 : Int32) (x_10 : Int32) (S_11 : zSt) (H : Heap) (locs : List Loc) (ls : Array Slot), fm_is_L24 ki j_67 n_24 x_9 x_10 S_11 = some (ro, So) → va_P D vwCl (zM cy ad S_11) H → va_S A s.heap H locs → lv_has ls 4 [(0, .ref (ad 0)), (1, .ref (K.1 ki)), (2, .int x_9), (3, .int x_10)] → W p l e ({ frames := 4, cells := 0, slots := 0, locals := 85 }) s m ([.ref (ad 0), .ref (K.1 ki)] : List Value).toArray below meth c H locs 0 0 Q (F0 m 24 ls []) := by
      intro n_24
      induction n_24 with
      | zero =>
        intro x_9 x_10 S_11 H locs ls hf hP hS hl
        exact z_no hf
      | succ n_24 ih_24 =>
        intro x_9 x_10 S_11 H locs ls hf hP hS hl
        rw [fm_is_L24] at hf
        refine lv_iload_n hx hb dX12_is_24 rfl (lv_at hl 3 rfl) ?_
        refine lv_aload_n hx hb dX12_is_25 rfl (lv_at hl 1 rfl) ?_
        obtain ⟨r_12, S_13, h_14, hf⟩ := z_bd hf
        refine z_cVI (As := []) (rest := [.int x_10]) X hK hE hD hA hP hS (cj0_length l D K _ _ _ _ ki hki S_11 _ _ h_14) (cwV 0 hts (z_gV wt_6_3 wt_3_108 wt_3_109 wt_1_14 wt_3_110) rfl rfl rfl ⟨rfl, yd_yJ0_length_8abf5⟩ ⟨Nat.le_of_ble_eq_true rfl, Nat.le_of_ble_eq_true rfl⟩) (vk_recv hE.1 hki hS) hl.1 rfl rfl (Nat.le_of_ble_eq_true rfl) dX12_is_26 (fun H locs hP hS => ?_)
        refine lv_icmp_ge (tgt := 67) hx hb dX12_is_29 (by decide) (fun c_24 => ?_) (fun c_24 => ?_)
        · have hf := z_it c_24 hf
          exact J_67 x_9 S_13 _ _ _ hf hP hS (lv_sub hl [2] rfl)
        · have hf := z_if c_24 hf
          refine lv_iload_n hx hb dX12_is_32 rfl (lv_at hl 2 rfl) ?_
          refine lv_if_eq (tgt := 67) hx hb dX12_is_33 (by decide) (fun c_23 => ?_) (fun c_23 => ?_)
          · have hf := z_it c_23 hf
            exact J_67 x_9 S_13 _ _ _ hf hP hS (lv_sub hl [2] rfl)
          · have hf := z_if c_23 hf
            refine lv_aload_n hx hb dX12_is_36 rfl (lv_at hl 0 rfl) ?_
            refine va_get (D := D) (ci := 12) (v := .ref (ad 6)) (C := RX12) (T := TX12) (N := 36) hx hb hts k0 hown hK hP 0 (zM_0 cy ad S_13) rfl 7 (by decide) k3 (fun _ h9 => h9) rfl dX12_is_37 ?_
            refine lv_aload_n hx hb dX12_is_40 rfl (lv_at hl 0 rfl) ?_
            refine va_get (D := D) (ci := 12) (v := .int (S_13.1 0 15)) (C := RX12) (T := TX12) (N := 36) hx hb hts k0 hown hK hP 0 (zM_0 cy ad S_13) rfl 15 (by decide) k2 (fun _ h9 => h9) rfl dX12_is_41 ?_
            refine lv_iload_n hx hb dX12_is_44 rfl (lv_at hl 3 rfl) ?_
            refine lv_iadd hx hb dX12_is_45 ?_
            obtain ⟨h_15, hf⟩ := z_ix hf
            refine z_iald hx hb hK hP 6 0 (zM_6 cy ad S_13) rfl h_15 (k := (((S_13.1 0 15) + x_10).toNatClampNeg)) rfl dX12_is_46 ?_
            refine lv_aload_n hx hb dX12_is_47 rfl (lv_at hl 1 rfl) ?_
            refine lv_iload_n hx hb dX12_is_48 rfl (lv_at hl 3 rfl) ?_
            obtain ⟨r_16, S_17, h_18, hf⟩ := z_bd hf
            refine z_cVI (As := [.int x_10]) (rest := [.int (S_13.1 6 (((S_13.1 0 15) + x_10).toNatClampNeg))]) X hK hE hD hA hP hS (cj0_charAt l D K _ _ _ _ ki hki S_13 _ _ _ h_18) (cwV 1 hts (z_gV wt_6_4 wt_3_51 wt_3_52 wt_1_14 wt_3_53) rfl rfl rfl ⟨rfl, yd_yJ0_charAt_5068e⟩ ⟨Nat.le_of_ble_eq_true rfl, Nat.le_of_ble_eq_true rfl⟩) (vk_recv hE.1 hki hS) hl.1 rfl rfl (Nat.le_of_ble_eq_true rfl) dX12_is_49 (fun H locs hP hS => ?_)
            obtain ⟨j_60, ej_60, hf⟩ := z_nm hf
            have J_60 : ∀ (x_19 : Int32) (S_20 : zSt) (H : Heap) (locs : List Loc) (ls : Array Slot), j_60 x_19 S_20 = some (ro, So) → va_P D vwCl (zM cy ad S_20) H → va_S A s.heap H locs → lv_has ls 4 [(0, .ref (ad 0)), (1, .ref (K.1 ki)), (3, .int x_10)] → W p l e ({ frames := 4, cells := 0, slots := 0, locals := 85 }) s m ([.ref (ad 0), .ref (K.1 ki)] : List Value).toArray below meth c H locs 0 0 Q (F0 m 60 ls [.int x_19]) := by
              intro x_19 S_20 H locs ls hf hP hS hl
              have hf := z_e2 ej_60 hf
              refine lv_istore_n (lv' := [(2, .int x_19), (0, .ref (ad 0)), (1, .ref (K.1 ki)), (3, .int x_10)]) hx hb dX12_is_60 rfl hl (by decide) rfl (fun ls hl => ?_)
              obtain ⟨x_21, ex_21, hf⟩ := z_nm hf
              refine lv_iinc (v := x_21) (lv' := [(3, .int x_21), (2, .int x_19), (0, .ref (ad 0)), (1, .ref (K.1 ki))]) hx hb dX12_is_61 hl (k := 3) rfl (by rw [ex_21]; rfl) (by decide) rfl (fun ls hl => ?_)
              refine lv_goto (tgt := 24) hx hb dX12_is_64 (by decide) ?_
              exact ih_24 x_19 x_21 S_20 _ _ _ hf hP hS (lv_sub hl [2, 3, 1, 0] rfl)
            refine lv_icmp_ne (tgt := 59) hx hb dX12_is_52 (by decide) (fun c_22 => ?_) (fun c_22 => ?_)
            · have hf := z_if c_22 hf
              refine lv_iconst (v := 0) hx hb dX12_is_59 (by decide) ?_
              exact J_60 (0 : Int32) S_17 _ _ _ hf hP hS (lv_sub hl [0, 1, 3] rfl)
            · have hf := z_it c_22 hf
              refine lv_iconst (v := 1) hx hb dX12_is_55 (by decide) ?_
              refine lv_goto (tgt := 60) hx hb dX12_is_56 (by decide) ?_
              exact J_60 (1 : Int32) S_17 _ _ _ hf hP hS (lv_sub hl [0, 1, 3] rfl)
    exact L_24 zFU x_4 (0 : Int32) S_5 _ _ _ hf hP hS (lv_sub hl [2, 3, 1, 0] rfl)
  refine lv_icmp_ne (tgt := 20) hx hb dX12_is_13 (by decide) (fun c_25 => ?_) (fun c_25 => ?_)
  · have hf := z_if c_25 hf
    refine lv_iconst (v := 0) hx hb dX12_is_20 (by decide) ?_
    exact J_21 (0 : Int32) S_2 _ _ _ hf hP hS (lv_sub hl [0, 1] rfl)
  · have hf := z_it c_25 hf
    refine lv_iconst (v := 1) hx hb dX12_is_16 (by decide) ?_
    refine lv_goto (tgt := 21) hx hb dX12_is_17 (by decide) ?_
    exact J_21 (1 : Int32) S_2 _ _ _ hf hP hS (lv_sub hl [0, 1] rfl)
