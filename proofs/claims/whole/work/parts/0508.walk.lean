theorem yd_yX11_whose : (yX11_whose).cls ≠ "java/lang/invoke/MethodHandle" ∧ (yX11_whose).cls ≠ "java/lang/invoke/VarHandle" ∧ (parseMethodDescriptor (yX11_whose).desc).map (fun d => d.parameters.length) = some 1 := by decide +kernel
def fx_whose (S_0 : zSt) (a_1 : Int32) : Option (Int32 × zSt) :=
  zbd (fx_Tape_isMark S_0) fun r_1 S_2 =>
  znm (fun (x_4 : Int32) (S_5 : zSt) =>
  znm (zpI S_5 1 1 (0 : Int32)) fun S_6 =>
  some (x_4, S_6)) fun j_54 =>
  if r_1 = 0 then (
  j_54 (-2 : Int32) S_2) else (
  znm (fun (S_7 : zSt) =>
  znm (fun (x_8 : Int32) (S_9 : zSt) =>
  zbd (fx_Rises_likeliest S_9 x_8) fun r_10 S_11 =>
  j_54 r_10 S_11) fun j_50 =>
  if a_1 = (1 : Int32) then (
  j_50 (1 : Int32) S_7) else (
  j_50 (0 : Int32) S_7)) fun j_22 =>
  if a_1 = 0 then (
  j_22  S_2) else (
  if a_1 = (1 : Int32) then (
  j_22  S_2) else (
  j_54 (-2 : Int32) S_2)))
set_option maxHeartbeats 4000000 in
set_option maxRecDepth 100000 in
theorem cx_whose (l : Launch) (D : va_G) (K : (Nat → Nat) × (Nat → Nat)) (cy : Nat → ClassId) (ad : Nat → Nat) (S_0 : zSt) (a_1 : Int32) (ro : Int32) (So : zSt) (hf : fx_whose S_0 a_1 = some (ro, So)) : zMI l yX11_whose (zws yX11_whose cX11_whose 3 (Option.some .int)) ({ frames := 3, cells := 0, slots := 0, locals := 85 }) D (zTy cy) K (zX cy ad) [.ref (ad 0), .int a_1] S_0 ro So := by
  refine z_metI (own := RX11) (lv := [(0, .ref (ad 0)), (1, .int a_1)]) (by decide) rfl rfl (Nat.le_of_ble_eq_true rfl) rfl ?_
  intro p e s m below meth c A Q X hK hE hD hA hret hP hS ls hl
  obtain ⟨hx, hb, hml, hown, hts⟩ := id X
  have k0 := (fun w h => List.mem_cons_of_mem _ (zFX11 w h) : ∀ w ∈ u_ws RX11 TX11 8, w ∈ zws yX11_whose cX11_whose 3 (Option.some .int))
  have k1 := hts _ (List.mem_cons_of_mem _ wt_2_174)
  have k2 := (fun w h => List.mem_cons_of_mem _ (zFX9 w h) : ∀ w ∈ u_ws RX9 TX9 2, w ∈ zws yX11_whose cX11_whose 3 (Option.some .int))
  have k3 := hts _ (List.mem_cons_of_mem _ wt_1_44)
  have k4 := hts _ (List.mem_cons_of_mem _ wt_2_175)
  have k5 := (fun w h => List.mem_cons_of_mem _ (zFX0 w h) : ∀ w ∈ u_ws RX0 TX0 6, w ∈ zws yX11_whose cX11_whose 3 (Option.some .int))
  have k6 := hts _ (List.mem_cons_of_mem _ wt_2_8)
  have k7 := hts _ (List.mem_cons_of_mem _ wt_1_235)
  refine lv_bipush (v := -2) hx hb dX11_whose_0 (by decide) ?_
  refine lv_istore_n (lv' := [(2, .int (-2 : Int32)), (0, .ref (ad 0)), (1, .int a_1)]) hx hb dX11_whose_2 rfl hl (by decide) rfl (fun ls hl => ?_)
  refine lv_aload_n hx hb dX11_whose_3 rfl (lv_at hl 1 rfl) ?_
  refine va_get (D := D) (ci := 11) (v := .ref (ad 1)) (C := RX11) (T := TX11) (N := 8) hx hb hts k0 hown hK hP 0 (zX_0 cy ad S_0) rfl 0 (by decide) k1 (fun _ h9 => h9) rfl dX11_whose_4 ?_
  obtain ⟨r_1, S_2, h_3, hf⟩ := z_bd hf
  refine z_cVI (As := []) (rest := []) X hK hE hD hA hP hS (cx_Tape_isMark l D K cy ad S_0 _ _ h_3) (cwV 0 hts (z_gV wt_2_222 wt_2_223 wt_2_224 wt_1_2 wt_2_225) rfl rfl rfl ⟨rfl, yd_yX9_isMark⟩ ⟨Nat.le_of_ble_eq_true rfl, Nat.le_of_ble_eq_true rfl⟩) (va_recv hK hP (ci := 9) (q0 := 1) rfl (zX_1 cy ad S_0)) hl.1 rfl rfl (Nat.le_of_ble_eq_true rfl) dX11_whose_7 (fun H locs hP hS => ?_)
  obtain ⟨j_54, ej_54, hf⟩ := z_nm hf
  have J_54 : ∀ (x_4 : Int32) (S_5 : zSt) (H : Heap) (locs : List Loc) (ls : Array Slot), j_54 x_4 S_5 = some (ro, So) → va_P D vwCl (zX cy ad S_5) H → va_S A s.heap H locs → lv_has ls 3 [(0, .ref (ad 0)), (2, .int x_4)] → W p l e ({ frames := 3, cells := 0, slots := 0, locals := 85 }) s m ([.ref (ad 0), .int a_1] : List Value).toArray below meth c H locs 0 0 Q (F0 m 54 ls []) := by
    intro x_4 S_5 H locs ls hf hP hS hl
    have hf := z_e2 ej_54 hf
    refine lv_aload_n hx hb dX11_whose_54 rfl (lv_at hl 0 rfl) ?_
    refine va_get (D := D) (ci := 11) (v := .ref (ad 1)) (C := RX11) (T := TX11) (N := 8) hx hb hts k0 hown hK hP 0 (zX_0 cy ad S_5) rfl 0 (by decide) k1 (fun _ h9 => h9) rfl dX11_whose_55 ?_
    refine lv_iconst (v := 0) hx hb dX11_whose_58 (by decide) ?_
    refine va_put (D := D) (ci := 9) (v := .int (0 : Int32)) (ty := .int) (C := RX9) (T := TX9) (N := 2) hx hb hts k2 tyX9 tyX9_ok nmX9 hown hK hP (hD S_5) hS 1 (zX_1 cy ad S_5) rfl 1 (by decide) k3 (fun _ h9 => h9) rfl (tyX9_ok 1 (by decide)) rfl rfl (Nat.le_of_ble_eq_true rfl) dX11_whose_59 (fun H locs hP _ hS => ?_)
    obtain ⟨S_6, eS_6, hf⟩ := z_nm hf
    have hP := zW_putI hP eS_6 (by decide) rfl
    refine lv_iload_n hx hb dX11_whose_62 rfl (lv_at hl 1 rfl) ?_
    obtain ⟨h1, h2⟩ := z_s2 hf
    subst h1 h2
    exact hret _ _ _ _ hP hS dX11_whose_63
  refine lv_if_eq (tgt := 54) hx hb dX11_whose_10 (by decide) (fun c_16 => ?_) (fun c_16 => ?_)
  · have hf := z_it c_16 hf
    exact J_54 (-2 : Int32) S_2 _ _ _ hf hP hS (lv_sub hl [1, 0] rfl)
  · have hf := z_if c_16 hf
    refine lv_iload_n hx hb dX11_whose_13 rfl (lv_at hl 2 rfl) ?_
    obtain ⟨j_22, ej_22, hf⟩ := z_nm hf
    have J_22 : ∀ (S_7 : zSt) (H : Heap) (locs : List Loc) (ls : Array Slot), j_22  S_7 = some (ro, So) → va_P D vwCl (zX cy ad S_7) H → va_S A s.heap H locs → lv_has ls 3 [(0, .ref (ad 0)), (1, .int a_1)] → W p l e ({ frames := 3, cells := 0, slots := 0, locals := 85 }) s m ([.ref (ad 0), .int a_1] : List Value).toArray below meth c H locs 0 0 Q (F0 m 22 ls []) := by
      intro  S_7 H locs ls hf hP hS hl
      have hf := z_e1 ej_22 hf
      refine lv_aload_n hx hb dX11_whose_22 rfl (lv_at hl 0 rfl) ?_
      refine va_get (D := D) (ci := 11) (v := .ref (ad 3)) (C := RX11) (T := TX11) (N := 8) hx hb hts k0 hown hK hP 0 (zX_0 cy ad S_7) rfl 1 (by decide) k4 (fun _ h9 => h9) rfl dX11_whose_23 ?_
      refine va_get (D := D) (ci := 0) (v := .ref (ad 29)) (C := RX0) (T := TX0) (N := 6) hx hb hts k5 hown hK hP 3 (zX_3 cy ad S_7) rfl 5 (by decide) k6 (fun _ h9 => h9) rfl dX11_whose_26 ?_
      refine lv_aload_n hx hb dX11_whose_29 rfl (lv_at hl 0 rfl) ?_
      refine va_get (D := D) (ci := 11) (v := .ref (ad 3)) (C := RX11) (T := TX11) (N := 8) hx hb hts k0 hown hK hP 0 (zX_0 cy ad S_7) rfl 1 (by decide) k4 (fun _ h9 => h9) rfl dX11_whose_30 ?_
      refine va_get (D := D) (ci := 0) (v := .ref (ad 4)) (C := RX0) (T := TX0) (N := 6) hx hb hts k5 hown hK hP 3 (zX_3 cy ad S_7) rfl 0 (by decide) k7 (fun _ h9 => h9) rfl dX11_whose_33 ?_
      refine lv_aload_n hx hb dX11_whose_36 rfl (lv_at hl 0 rfl) ?_
      refine va_get (D := D) (ci := 11) (v := .ref (ad 1)) (C := RX11) (T := TX11) (N := 8) hx hb hts k0 hown hK hP 0 (zX_0 cy ad S_7) rfl 0 (by decide) k1 (fun _ h9 => h9) rfl dX11_whose_37 ?_
      refine lv_iload_n hx hb dX11_whose_40 rfl (lv_at hl 1 rfl) ?_
      refine lv_iconst (v := 1) hx hb dX11_whose_41 (by decide) ?_
      obtain ⟨j_50, ej_50, hf⟩ := z_nm hf
      have J_50 : ∀ (x_8 : Int32) (S_9 : zSt) (H : Heap) (locs : List Loc) (ls : Array Slot), j_50 x_8 S_9 = some (ro, So) → va_P D vwCl (zX cy ad S_9) H → va_S A s.heap H locs → lv_has ls 3 [(0, .ref (ad 0))] → W p l e ({ frames := 3, cells := 0, slots := 0, locals := 85 }) s m ([.ref (ad 0), .int a_1] : List Value).toArray below meth c H locs 0 0 Q (F0 m 50 ls [.int x_8, .ref (ad 1), .ref (ad 4), .ref (ad 29)]) := by
        intro x_8 S_9 H locs ls hf hP hS hl
        have hf := z_e2 ej_50 hf
        obtain ⟨r_10, S_11, h_12, hf⟩ := z_bd hf
        refine z_cVI (As := [.ref (ad 4), .ref (ad 1), .int x_8]) (rest := []) X hK hE hD hA hP hS (cx_Rises_likeliest l D K cy ad S_9 _ _ _ h_12) (cwV 3 hts (z_gV wt_5_33 wt_5_34 wt_5_35 wt_1_8 wt_5_36) rfl rfl rfl ⟨rfl, yd_yX5_likeliest⟩ ⟨Nat.le_of_ble_eq_true rfl, Nat.le_of_ble_eq_true rfl⟩) (va_recv hK hP (ci := 5) (q0 := 29) rfl (zX_29 cy ad S_9)) hl.1 rfl rfl (Nat.le_of_ble_eq_true rfl) dX11_whose_50 (fun H locs hP hS => ?_)
        refine lv_istore_n (lv' := [(2, .int r_10), (0, .ref (ad 0))]) hx hb dX11_whose_53 rfl hl (by decide) rfl (fun ls hl => ?_)
        exact J_54 r_10 S_11 _ _ _ hf hP hS (lv_sub hl [1, 0] rfl)
      refine lv_icmp_ne (tgt := 49) hx hb dX11_whose_42 (by decide) (fun c_13 => ?_) (fun c_13 => ?_)
      · have hf := z_if c_13 hf
        refine lv_iconst (v := 0) hx hb dX11_whose_49 (by decide) ?_
        exact J_50 (0 : Int32) S_7 _ _ _ hf hP hS (lv_sub hl [0] rfl)
      · have hf := z_it c_13 hf
        refine lv_iconst (v := 1) hx hb dX11_whose_45 (by decide) ?_
        refine lv_goto (tgt := 50) hx hb dX11_whose_46 (by decide) ?_
        exact J_50 (1 : Int32) S_7 _ _ _ hf hP hS (lv_sub hl [0] rfl)
    refine lv_if_eq (tgt := 22) hx hb dX11_whose_14 (by decide) (fun c_15 => ?_) (fun c_15 => ?_)
    · have hf := z_it c_15 hf
      exact J_22  S_2 _ _ _ hf hP hS (lv_sub hl [1, 2] rfl)
    · have hf := z_if c_15 hf
      refine lv_iload_n hx hb dX11_whose_17 rfl (lv_at hl 2 rfl) ?_
      refine lv_iconst (v := 1) hx hb dX11_whose_18 (by decide) ?_
      refine lv_icmp_ne (tgt := 54) hx hb dX11_whose_19 (by decide) (fun c_14 => ?_) (fun c_14 => ?_)
      · have hf := z_if c_14 hf
        exact J_54 (-2 : Int32) S_2 _ _ _ hf hP hS (lv_sub hl [1, 0] rfl)
      · have hf := z_it c_14 hf
        exact J_22  S_2 _ _ _ hf hP hS (lv_sub hl [1, 2] rfl)
theorem yd_yX11_owe : (yX11_owe).cls ≠ "java/lang/invoke/MethodHandle" ∧ (yX11_owe).cls ≠ "java/lang/invoke/VarHandle" ∧ (parseMethodDescriptor (yX11_owe).desc).map (fun d => d.parameters.length) = some 3 := by decide +kernel
def fx_owe (S_0 : zSt) (a_1 : Int32) (a_2 : Int32) (a_3 : Int32) : Option (Int32 × zSt) :=
  zbd (fx_Houses_has S_0 a_1) fun r_1 S_2 =>
  znm (fun (S_4 : zSt) =>
  some ((0 : Int32), S_4)) fun j_45 =>
  if r_1 = 0 then (
  j_45  S_2) else (
  zbd (fx_Houses_has S_2 a_2) fun r_5 S_6 =>
  if r_5 = 0 then (
  j_45  S_6) else (
  if a_1 = a_2 then (
  j_45  S_6) else (
  zbd (fx_isWithin S_6 a_3 (-99999 : Int32) (99999 : Int32)) fun r_8 S_9 =>
  if r_8 = 0 then (
  j_45  S_9) else (
  zck (zix a_1 9) <|
  zck (zix a_1 9) <|
  znm (zpI S_9 10 (a_1.toNatClampNeg) ((S_9.1 10 (a_1.toNatClampNeg)) - a_3)) fun S_13 =>
  zck (zix a_2 9) <|
  zck (zix a_2 9) <|
  znm (zpI S_13 10 (a_2.toNatClampNeg) ((S_13.1 10 (a_2.toNatClampNeg)) + a_3)) fun S_16 =>
  some ((1 : Int32), S_16)))))
set_option maxHeartbeats 4000000 in
set_option maxRecDepth 100000 in
theorem cx_owe (l : Launch) (D : va_G) (K : (Nat → Nat) × (Nat → Nat)) (cy : Nat → ClassId) (ad : Nat → Nat) (S_0 : zSt) (a_1 : Int32) (a_2 : Int32) (a_3 : Int32) (ro : Int32) (So : zSt) (hf : fx_owe S_0 a_1 a_2 a_3 = some (ro, So)) : zMI l yX11_owe (zws yX11_owe cX11_owe 4 (Option.some .boolean)) ({ frames := 1, cells := 0, slots := 0, locals := 22 }) D (zTy cy) K (zX cy ad) [.ref (ad 0), .int a_1, .int a_2, .int a_3] S_0 ro So := by
  refine z_metZ (own := RX11) (lv := [(0, .ref (ad 0)), (1, .int a_1), (2, .int a_2), (3, .int a_3)]) (by decide) rfl rfl (Nat.le_of_ble_eq_true rfl) rfl ?_
  intro p e s m below meth c A Q X hK hE hD hA hret hP hS ls hl
  obtain ⟨hx, hb, hml, hown, hts⟩ := id X
  have k0 := (fun w h => List.mem_cons_of_mem _ (zFX11 w h) : ∀ w ∈ u_ws RX11 TX11 8, w ∈ zws yX11_owe cX11_owe 4 (Option.some .boolean))
  have k1 := hts _ (List.mem_cons_of_mem _ wt_2_175)
  have k2 := (fun w h => List.mem_cons_of_mem _ (zFX0 w h) : ∀ w ∈ u_ws RX0 TX0 6, w ∈ zws yX11_owe cX11_owe 4 (Option.some .boolean))
  have k3 := hts _ (List.mem_cons_of_mem _ wt_1_235)
  have k4 := hts _ (List.mem_cons_of_mem _ wt_5_46)
  have k5 := hts _ (List.mem_cons_of_mem _ wt_3_7)
  have k6 := (fun w h => List.mem_cons_of_mem _ (zFX2 w h) : ∀ w ∈ u_ws RX2 TX2 7, w ∈ zws yX11_owe cX11_owe 4 (Option.some .boolean))
  have k7 := hts _ (List.mem_cons_of_mem _ wt_1_85)
  refine lv_aload_n hx hb dX11_owe_0 rfl (lv_at hl 0 rfl) ?_
  refine va_get (D := D) (ci := 11) (v := .ref (ad 3)) (C := RX11) (T := TX11) (N := 8) hx hb hts k0 hown hK hP 0 (zX_0 cy ad S_0) rfl 1 (by decide) k1 (fun _ h9 => h9) rfl dX11_owe_1 ?_
  refine va_get (D := D) (ci := 0) (v := .ref (ad 4)) (C := RX0) (T := TX0) (N := 6) hx hb hts k2 hown hK hP 3 (zX_3 cy ad S_0) rfl 0 (by decide) k3 (fun _ h9 => h9) rfl dX11_owe_4 ?_
  refine lv_iload_n hx hb dX11_owe_7 rfl (lv_at hl 1 rfl) ?_
  obtain ⟨r_1, S_2, h_3, hf⟩ := z_bd hf
  refine z_cVI (As := [.int a_1]) (rest := []) X hK hE hD hA hP hS (cx_Houses_has l D K cy ad S_0 _ _ _ h_3) (cwV 1 hts (z_gV wt_3_3 wt_3_4 wt_3_5 wt_1_4 wt_3_6) rfl rfl rfl ⟨rfl, yd_yX2_has⟩ ⟨Nat.le_of_ble_eq_true rfl, Nat.le_of_ble_eq_true rfl⟩) (va_recv hK hP (ci := 2) (q0 := 4) rfl (zX_4 cy ad S_0)) hl.1 rfl rfl (Nat.le_of_ble_eq_true rfl) dX11_owe_8 (fun H locs hP hS => ?_)
  obtain ⟨j_45, ej_45, hf⟩ := z_nm hf
  have J_45 : ∀ (S_4 : zSt) (H : Heap) (locs : List Loc) (ls : Array Slot), j_45  S_4 = some (ro, So) → va_P D vwCl (zX cy ad S_4) H → va_S A s.heap H locs → lv_has ls 4 [] → W p l e ({ frames := 1, cells := 0, slots := 0, locals := 22 }) s m ([.ref (ad 0), .int a_1, .int a_2, .int a_3] : List Value).toArray below meth c H locs 0 0 Q (F0 m 45 ls []) := by
    intro  S_4 H locs ls hf hP hS hl
    have hf := z_e1 ej_45 hf
    refine lv_iconst (v := 0) hx hb dX11_owe_45 (by decide) ?_
    obtain ⟨h1, h2⟩ := z_s2 hf
    subst h1 h2
    exact hret _ _ _ _ rfl hP hS dX11_owe_46
  refine lv_if_eq (tgt := 45) hx hb dX11_owe_11 (by decide) (fun c_20 => ?_) (fun c_20 => ?_)
  · have hf := z_it c_20 hf
    exact J_45  S_2 _ _ _ hf hP hS (lv_sub hl [] rfl)
  · have hf := z_if c_20 hf
    refine lv_aload_n hx hb dX11_owe_14 rfl (lv_at hl 0 rfl) ?_
    refine va_get (D := D) (ci := 11) (v := .ref (ad 3)) (C := RX11) (T := TX11) (N := 8) hx hb hts k0 hown hK hP 0 (zX_0 cy ad S_2) rfl 1 (by decide) k1 (fun _ h9 => h9) rfl dX11_owe_15 ?_
    refine va_get (D := D) (ci := 0) (v := .ref (ad 4)) (C := RX0) (T := TX0) (N := 6) hx hb hts k2 hown hK hP 3 (zX_3 cy ad S_2) rfl 0 (by decide) k3 (fun _ h9 => h9) rfl dX11_owe_18 ?_
    refine lv_iload_n hx hb dX11_owe_21 rfl (lv_at hl 2 rfl) ?_
    obtain ⟨r_5, S_6, h_7, hf⟩ := z_bd hf
    refine z_cVI (As := [.int a_2]) (rest := []) X hK hE hD hA hP hS (cx_Houses_has l D K cy ad S_2 _ _ _ h_7) (cwV 1 hts (z_gV wt_3_3 wt_3_4 wt_3_5 wt_1_4 wt_3_6) rfl rfl rfl ⟨rfl, yd_yX2_has⟩ ⟨Nat.le_of_ble_eq_true rfl, Nat.le_of_ble_eq_true rfl⟩) (va_recv hK hP (ci := 2) (q0 := 4) rfl (zX_4 cy ad S_2)) hl.1 rfl rfl (Nat.le_of_ble_eq_true rfl) dX11_owe_22 (fun H locs hP hS => ?_)
    refine lv_if_eq (tgt := 45) hx hb dX11_owe_25 (by decide) (fun c_19 => ?_) (fun c_19 => ?_)
    · have hf := z_it c_19 hf
      exact J_45  S_6 _ _ _ hf hP hS (lv_sub hl [] rfl)
    · have hf := z_if c_19 hf
      refine lv_iload_n hx hb dX11_owe_28 rfl (lv_at hl 1 rfl) ?_
      refine lv_iload_n hx hb dX11_owe_29 rfl (lv_at hl 2 rfl) ?_
      refine lv_icmp_eq (tgt := 45) hx hb dX11_owe_30 (by decide) (fun c_18 => ?_) (fun c_18 => ?_)
      · have hf := z_it c_18 hf
        exact J_45  S_6 _ _ _ hf hP hS (lv_sub hl [] rfl)
      · have hf := z_if c_18 hf
        refine lv_iload_n hx hb dX11_owe_33 rfl (lv_at hl 3 rfl) ?_
        refine lv_ldcw hx hb hown k4 dX11_owe_34 ?_
        refine lv_ldc hx hb hown k5 dX11_owe_37 ?_
        obtain ⟨r_8, S_9, h_10, hf⟩ := z_bd hf
        refine z_cSI (As := [.int a_3, .int (-99999 : Int32), .int (99999 : Int32)]) (rest := []) X hK hE hD hA hP hS (cx_isWithin l D K cy ad S_6 _ _ _ _ _ h_10) (va_cwS 3 hts (z_gS wt_2_219 wt_2_220 wt_1_1 wt_2_221) rfl rfl rfl yd_yX11_isWithin ⟨Nat.le_of_ble_eq_true rfl, Nat.le_of_ble_eq_true rfl⟩) hl.1 rfl rfl (Nat.le_of_ble_eq_true rfl) dX11_owe_39 (fun H locs hP hS => ?_)
        refine lv_if_ne (tgt := 47) hx hb dX11_owe_42 (by decide) (fun c_17 => ?_) (fun c_17 => ?_)
        · have hf := z_if c_17 hf
          refine lv_aload_n hx hb dX11_owe_47 rfl (lv_at hl 0 rfl) ?_
          refine va_get (D := D) (ci := 11) (v := .ref (ad 3)) (C := RX11) (T := TX11) (N := 8) hx hb hts k0 hown hK hP 0 (zX_0 cy ad S_9) rfl 1 (by decide) k1 (fun _ h9 => h9) rfl dX11_owe_48 ?_
          refine va_get (D := D) (ci := 0) (v := .ref (ad 4)) (C := RX0) (T := TX0) (N := 6) hx hb hts k2 hown hK hP 3 (zX_3 cy ad S_9) rfl 0 (by decide) k3 (fun _ h9 => h9) rfl dX11_owe_51 ?_
          refine va_get (D := D) (ci := 2) (v := .ref (ad 10)) (C := RX2) (T := TX2) (N := 7) hx hb hts k6 hown hK hP 4 (zX_4 cy ad S_9) rfl 6 (by decide) k7 (fun _ h9 => h9) rfl dX11_owe_54 ?_
          refine lv_iload_n hx hb dX11_owe_57 rfl (lv_at hl 1 rfl) ?_
          refine lv_dup2_11 hx hb dX11_owe_58 rfl rfl ?_
          obtain ⟨h_11, hf⟩ := z_ix hf
          refine z_iald hx hb hK hP 10 0 (zX_10 cy ad S_9) rfl h_11 (k := (a_1.toNatClampNeg)) rfl dX11_owe_59 ?_
          refine lv_iload_n hx hb dX11_owe_60 rfl (lv_at hl 3 rfl) ?_
          refine lv_isub hx hb dX11_owe_61 ?_
          obtain ⟨h_12, hf⟩ := z_ix hf
          refine z_iast hx hb hK hP (hD S_9) hS 10 0 (zX_10 cy ad S_9) rfl h_12 (k := (a_1.toNatClampNeg)) rfl dX11_owe_62 (fun H locs hP hS => ?_)
          obtain ⟨S_13, eS_13, hf⟩ := z_nm hf
          have hP := zW_putI hP eS_13 (by decide) rfl
          refine lv_aload_n hx hb dX11_owe_63 rfl (lv_at hl 0 rfl) ?_
          refine va_get (D := D) (ci := 11) (v := .ref (ad 3)) (C := RX11) (T := TX11) (N := 8) hx hb hts k0 hown hK hP 0 (zX_0 cy ad S_13) rfl 1 (by decide) k1 (fun _ h9 => h9) rfl dX11_owe_64 ?_
          refine va_get (D := D) (ci := 0) (v := .ref (ad 4)) (C := RX0) (T := TX0) (N := 6) hx hb hts k2 hown hK hP 3 (zX_3 cy ad S_13) rfl 0 (by decide) k3 (fun _ h9 => h9) rfl dX11_owe_67 ?_
          refine va_get (D := D) (ci := 2) (v := .ref (ad 10)) (C := RX2) (T := TX2) (N := 7) hx hb hts k6 hown hK hP 4 (zX_4 cy ad S_13) rfl 6 (by decide) k7 (fun _ h9 => h9) rfl dX11_owe_70 ?_
          refine lv_iload_n hx hb dX11_owe_73 rfl (lv_at hl 2 rfl) ?_
          refine lv_dup2_11 hx hb dX11_owe_74 rfl rfl ?_
          obtain ⟨h_14, hf⟩ := z_ix hf
          refine z_iald hx hb hK hP 10 0 (zX_10 cy ad S_13) rfl h_14 (k := (a_2.toNatClampNeg)) rfl dX11_owe_75 ?_
          refine lv_iload_n hx hb dX11_owe_76 rfl (lv_at hl 3 rfl) ?_
          refine lv_iadd hx hb dX11_owe_77 ?_
          obtain ⟨h_15, hf⟩ := z_ix hf
          refine z_iast hx hb hK hP (hD S_13) hS 10 0 (zX_10 cy ad S_13) rfl h_15 (k := (a_2.toNatClampNeg)) rfl dX11_owe_78 (fun H locs hP hS => ?_)
          obtain ⟨S_16, eS_16, hf⟩ := z_nm hf
          have hP := zW_putI hP eS_16 (by decide) rfl
          refine lv_iconst (v := 1) hx hb dX11_owe_79 (by decide) ?_
          obtain ⟨h1, h2⟩ := z_s2 hf
          subst h1 h2
          exact hret _ _ _ _ rfl hP hS dX11_owe_80
        · have hf := z_it c_17 hf
          exact J_45  S_9 _ _ _ hf hP hS (lv_sub hl [] rfl)
theorem yd_yX11_payments : (yX11_payments).cls ≠ "java/lang/invoke/MethodHandle" ∧ (yX11_payments).cls ≠ "java/lang/invoke/VarHandle" ∧ (parseMethodDescriptor (yX11_payments).desc).map (fun d => d.parameters.length) = some 0 := by decide +kernel
def fx_payments (S_0 : zSt) : Option (Int32 × zSt) :=
  zbd (fx_Settling_fewest S_0) fun r_1 S_2 =>
  some (r_1, S_2)
set_option maxHeartbeats 4000000 in
set_option maxRecDepth 100000 in
theorem cx_payments (l : Launch) (D : va_G) (K : (Nat → Nat) × (Nat → Nat)) (cy : Nat → ClassId) (ad : Nat → Nat) (S_0 : zSt) (ro : Int32) (So : zSt) (hf : fx_payments S_0 = some (ro, So)) : zMI l yX11_payments (zws yX11_payments cX11_payments 1 (Option.some .int)) ({ frames := 2, cells := 0, slots := 0, locals := 226 }) D (zTy cy) K (zX cy ad) [.ref (ad 0)] S_0 ro So := by
  refine z_metI (own := RX11) (lv := [(0, .ref (ad 0))]) (by decide) rfl rfl (Nat.le_of_ble_eq_true rfl) rfl ?_
  intro p e s m below meth c A Q X hK hE hD hA hret hP hS ls hl
  obtain ⟨hx, hb, hml, hown, hts⟩ := id X
  have k0 := (fun w h => List.mem_cons_of_mem _ (zFX11 w h) : ∀ w ∈ u_ws RX11 TX11 8, w ∈ zws yX11_payments cX11_payments 1 (Option.some .int))
  have k1 := hts _ (List.mem_cons_of_mem _ wt_2_181)
  have k2 := hts _ (List.mem_cons_of_mem _ wt_2_175)
  have k3 := (fun w h => List.mem_cons_of_mem _ (zFX0 w h) : ∀ w ∈ u_ws RX0 TX0 6, w ∈ zws yX11_payments cX11_payments 1 (Option.some .int))
  have k4 := hts _ (List.mem_cons_of_mem _ wt_1_235)
  refine lv_aload_n hx hb dX11_payments_0 rfl (lv_at hl 0 rfl) ?_
  refine va_get (D := D) (ci := 11) (v := .ref (ad 138)) (C := RX11) (T := TX11) (N := 8) hx hb hts k0 hown hK hP 0 (zX_0 cy ad S_0) rfl 7 (by decide) k1 (fun _ h9 => h9) rfl dX11_payments_1 ?_
  refine lv_aload_n hx hb dX11_payments_4 rfl (lv_at hl 0 rfl) ?_
  refine va_get (D := D) (ci := 11) (v := .ref (ad 3)) (C := RX11) (T := TX11) (N := 8) hx hb hts k0 hown hK hP 0 (zX_0 cy ad S_0) rfl 1 (by decide) k2 (fun _ h9 => h9) rfl dX11_payments_5 ?_
  refine va_get (D := D) (ci := 0) (v := .ref (ad 4)) (C := RX0) (T := TX0) (N := 6) hx hb hts k3 hown hK hP 3 (zX_3 cy ad S_0) rfl 0 (by decide) k4 (fun _ h9 => h9) rfl dX11_payments_8 ?_
  obtain ⟨r_1, S_2, h_3, hf⟩ := z_bd hf
  refine z_cVI (As := [.ref (ad 4)]) (rest := []) X hK hE hD hA hP hS (cx_Settling_fewest l D K cy ad S_0 _ _ h_3) (cwV 1 hts (z_gV wt_5_51 wt_5_52 wt_5_53 wt_1_12 wt_5_54) rfl rfl rfl ⟨rfl, yd_yX8_fewest⟩ ⟨Nat.le_of_ble_eq_true rfl, Nat.le_of_ble_eq_true rfl⟩) (va_recv hK hP (ci := 8) (q0 := 138) rfl (zX_138 cy ad S_0)) hl.1 rfl rfl (Nat.le_of_ble_eq_true rfl) dX11_payments_11 (fun H locs hP hS => ?_)
  obtain ⟨h1, h2⟩ := z_s2 hf
  subst h1 h2
  exact hret _ _ _ _ hP hS dX11_payments_14
theorem yd_yX11_undo : (yX11_undo).cls ≠ "java/lang/invoke/MethodHandle" ∧ (yX11_undo).cls ≠ "java/lang/invoke/VarHandle" ∧ (parseMethodDescriptor (yX11_undo).desc).map (fun d => d.parameters.length) = some 0 := by decide +kernel
def fx_undo (S_0 : zSt) : Option (Int32 × zSt) :=
  zbd (fx_History_bringBack S_0) fun r_1 S_2 =>
  zck (zbo r_1) <|
  some (r_1, S_2)
set_option maxHeartbeats 4000000 in
set_option maxRecDepth 100000 in
theorem cx_undo (l : Launch) (D : va_G) (K : (Nat → Nat) × (Nat → Nat)) (cy : Nat → ClassId) (ad : Nat → Nat) (S_0 : zSt) (ro : Int32) (So : zSt) (hf : fx_undo S_0 = some (ro, So)) : zMI l yX11_undo (zws yX11_undo cX11_undo 1 (Option.some .boolean)) ({ frames := 3, cells := 0, slots := 0, locals := 242 }) D (zTy cy) K (zX cy ad) [.ref (ad 0)] S_0 ro So := by
  refine z_metZ (own := RX11) (lv := [(0, .ref (ad 0))]) (by decide) rfl rfl (Nat.le_of_ble_eq_true rfl) rfl ?_
  intro p e s m below meth c A Q X hK hE hD hA hret hP hS ls hl
  obtain ⟨hx, hb, hml, hown, hts⟩ := id X
  have k0 := (fun w h => List.mem_cons_of_mem _ (zFX11 w h) : ∀ w ∈ u_ws RX11 TX11 8, w ∈ zws yX11_undo cX11_undo 1 (Option.some .boolean))
  have k1 := hts _ (List.mem_cons_of_mem _ wt_2_178)
  have k2 := hts _ (List.mem_cons_of_mem _ wt_2_175)
  have k3 := (fun w h => List.mem_cons_of_mem _ (zFX0 w h) : ∀ w ∈ u_ws RX0 TX0 6, w ∈ zws yX11_undo cX11_undo 1 (Option.some .boolean))
  have k4 := hts _ (List.mem_cons_of_mem _ wt_1_237)
  refine lv_aload_n hx hb dX11_undo_0 rfl (lv_at hl 0 rfl) ?_
  refine va_get (D := D) (ci := 11) (v := .ref (ad 59)) (C := RX11) (T := TX11) (N := 8) hx hb hts k0 hown hK hP 0 (zX_0 cy ad S_0) rfl 4 (by decide) k1 (fun _ h9 => h9) rfl dX11_undo_1 ?_
  refine lv_aload_n hx hb dX11_undo_4 rfl (lv_at hl 0 rfl) ?_
  refine va_get (D := D) (ci := 11) (v := .ref (ad 3)) (C := RX11) (T := TX11) (N := 8) hx hb hts k0 hown hK hP 0 (zX_0 cy ad S_0) rfl 1 (by decide) k2 (fun _ h9 => h9) rfl dX11_undo_5 ?_
  refine va_get (D := D) (ci := 0) (v := .ref (ad 11)) (C := RX0) (T := TX0) (N := 6) hx hb hts k3 hown hK hP 3 (zX_3 cy ad S_0) rfl 1 (by decide) k4 (fun _ h9 => h9) rfl dX11_undo_8 ?_
  obtain ⟨r_1, S_2, h_3, hf⟩ := z_bd hf
  refine z_cVI (As := [.ref (ad 11)]) (rest := []) X hK hE hD hA hP hS (cx_History_bringBack l D K cy ad S_0 _ _ h_3) (cwV 1 hts (z_gV wt_5_60 wt_5_61 wt_5_62 wt_1_9 wt_5_63) rfl rfl rfl ⟨rfl, yd_yX1_bringBack⟩ ⟨Nat.le_of_ble_eq_true rfl, Nat.le_of_ble_eq_true rfl⟩) (va_recv hK hP (ci := 1) (q0 := 59) rfl (zX_59 cy ad S_0)) hl.1 rfl rfl (Nat.le_of_ble_eq_true rfl) dX11_undo_11 (fun H locs hP hS => ?_)
  obtain ⟨h_4, hf⟩ := z_bo hf
  obtain ⟨h1, h2⟩ := z_s2 hf
  subst h1 h2
  exact hret _ _ _ _ h_4 hP hS dX11_undo_14
theorem yd_yX11_image : (yX11_image).cls ≠ "java/lang/invoke/MethodHandle" ∧ (yX11_image).cls ≠ "java/lang/invoke/VarHandle" ∧ (parseMethodDescriptor (yX11_image).desc).map (fun d => d.parameters.length) = some 1 := by decide +kernel
def fx_image (S_0 : zSt) (a_1 : Int32) : Option (Int32 × zSt) :=
  znm (fun (S_1 : zSt) =>
  zck (zbo (S_1.1 0 3)) <|
  some (S_1.1 0 3, S_1)) fun j_48 =>
  if a_1 = 0 then (
  if (S_0.1 0 3) = 0 then (
  j_48  S_0) else (
  zbd (fx_Commons_copyFrom_nk S_0) fun _ S_4 =>
  zbd (fx_History_forget S_4) fun _ S_7 =>
  j_48  S_7)) else (
  zbd (fx_Commons_copyFrom_kn S_0) fun _ S_11 =>
  znm (zpI S_11 0 3 (1 : Int32)) fun S_13 =>
  j_48  S_13)
set_option maxHeartbeats 4000000 in
set_option maxRecDepth 100000 in
theorem cx_image (l : Launch) (D : va_G) (K : (Nat → Nat) × (Nat → Nat)) (cy : Nat → ClassId) (ad : Nat → Nat) (S_0 : zSt) (a_1 : Int32) (ro : Int32) (So : zSt) (hf : fx_image S_0 a_1 = some (ro, So)) : zMI l yX11_image (zws yX11_image cX11_image 2 (Option.some .boolean)) ({ frames := 3, cells := 0, slots := 0, locals := 244 }) D (zTy cy) K (zX cy ad) [.ref (ad 0), .int a_1] S_0 ro So := by
  refine z_metZ (own := RX11) (lv := [(0, .ref (ad 0)), (1, .int a_1)]) (by decide) rfl rfl (Nat.le_of_ble_eq_true rfl) rfl ?_
  intro p e s m below meth c A Q X hK hE hD hA hret hP hS ls hl
  obtain ⟨hx, hb, hml, hown, hts⟩ := id X
  have k0 := (fun w h => List.mem_cons_of_mem _ (zFX11 w h) : ∀ w ∈ u_ws RX11 TX11 8, w ∈ zws yX11_image cX11_image 2 (Option.some .boolean))
  have k1 := hts _ (List.mem_cons_of_mem _ wt_2_177)
  have k2 := hts _ (List.mem_cons_of_mem _ wt_2_175)
  have k3 := hts _ (List.mem_cons_of_mem _ wt_2_176)
  have k4 := hts _ (List.mem_cons_of_mem _ wt_2_178)
  refine lv_iload_n hx hb dX11_image_0 rfl (lv_at hl 1 rfl) ?_
  obtain ⟨j_48, ej_48, hf⟩ := z_nm hf
  have J_48 : ∀ (S_1 : zSt) (H : Heap) (locs : List Loc) (ls : Array Slot), j_48  S_1 = some (ro, So) → va_P D vwCl (zX cy ad S_1) H → va_S A s.heap H locs → lv_has ls 2 [(0, .ref (ad 0))] → W p l e ({ frames := 3, cells := 0, slots := 0, locals := 244 }) s m ([.ref (ad 0), .int a_1] : List Value).toArray below meth c H locs 0 0 Q (F0 m 48 ls []) := by
    intro  S_1 H locs ls hf hP hS hl
    have hf := z_e1 ej_48 hf
    refine lv_aload_n hx hb dX11_image_48 rfl (lv_at hl 0 rfl) ?_
    refine va_get (D := D) (ci := 11) (v := .int (S_1.1 0 3)) (C := RX11) (T := TX11) (N := 8) hx hb hts k0 hown hK hP 0 (zX_0 cy ad S_1) rfl 3 (by decide) k1 (fun _ h9 => h9) rfl dX11_image_49 ?_
    obtain ⟨h_2, hf⟩ := z_bo hf
    obtain ⟨h1, h2⟩ := z_s2 hf
    subst h1 h2
    exact hret _ _ _ _ h_2 hP hS dX11_image_52
  refine lv_if_eq (tgt := 23) hx hb dX11_image_1 (by decide) (fun c_14 => ?_) (fun c_14 => ?_)
  · have hf := z_it c_14 hf
    refine lv_aload_n hx hb dX11_image_23 rfl (lv_at hl 0 rfl) ?_
    refine va_get (D := D) (ci := 11) (v := .int (S_0.1 0 3)) (C := RX11) (T := TX11) (N := 8) hx hb hts k0 hown hK hP 0 (zX_0 cy ad S_0) rfl 3 (by decide) k1 (fun _ h9 => h9) rfl dX11_image_24 ?_
    refine lv_if_eq (tgt := 48) hx hb dX11_image_27 (by decide) (fun c_9 => ?_) (fun c_9 => ?_)
    · have hf := z_it c_9 hf
      exact J_48  S_0 _ _ _ hf hP hS (lv_sub hl [0] rfl)
    · have hf := z_if c_9 hf
      refine lv_aload_n hx hb dX11_image_30 rfl (lv_at hl 0 rfl) ?_
      refine va_get (D := D) (ci := 11) (v := .ref (ad 3)) (C := RX11) (T := TX11) (N := 8) hx hb hts k0 hown hK hP 0 (zX_0 cy ad S_0) rfl 1 (by decide) k2 (fun _ h9 => h9) rfl dX11_image_31 ?_
      refine lv_aload_n hx hb dX11_image_34 rfl (lv_at hl 0 rfl) ?_
      refine va_get (D := D) (ci := 11) (v := .ref (ad 31)) (C := RX11) (T := TX11) (N := 8) hx hb hts k0 hown hK hP 0 (zX_0 cy ad S_0) rfl 2 (by decide) k3 (fun _ h9 => h9) rfl dX11_image_35 ?_
      obtain ⟨r_3, S_4, h_5, hf⟩ := z_bd hf
      refine z_cVV (As := [.ref (ad 31)]) (rest := []) X hK hE hD hA hP hS (cx_Commons_copyFrom_nk l D K cy ad S_0 _ h_5) (cwV 1 hts (z_gV wt_5_68 wt_5_69 wt_5_70 wt_1_3 wt_5_71) rfl rfl rfl ⟨rfl, yd_yX0_copyFrom⟩ ⟨Nat.le_of_ble_eq_true rfl, Nat.le_of_ble_eq_true rfl⟩) (va_recv hK hP (ci := 0) (q0 := 3) rfl (zX_3 cy ad S_0)) hl.1 rfl rfl (Nat.le_of_ble_eq_true rfl) dX11_image_38 (fun H locs hP hS => ?_)
      refine lv_aload_n hx hb dX11_image_41 rfl (lv_at hl 0 rfl) ?_
      refine va_get (D := D) (ci := 11) (v := .ref (ad 59)) (C := RX11) (T := TX11) (N := 8) hx hb hts k0 hown hK hP 0 (zX_0 cy ad S_4) rfl 4 (by decide) k4 (fun _ h9 => h9) rfl dX11_image_42 ?_
      obtain ⟨r_6, S_7, h_8, hf⟩ := z_bd hf
      refine z_cVV (As := []) (rest := []) X hK hE hD hA hP hS (cx_History_forget l D K cy ad S_4 _ h_8) (cwV 0 hts (z_gV wt_2_235 wt_2_236 wt_2_237 wt_1_9 wt_2_238) rfl rfl rfl ⟨rfl, yd_yX1_forget⟩ ⟨Nat.le_of_ble_eq_true rfl, Nat.le_of_ble_eq_true rfl⟩) (va_recv hK hP (ci := 1) (q0 := 59) rfl (zX_59 cy ad S_4)) hl.1 rfl rfl (Nat.le_of_ble_eq_true rfl) dX11_image_45 (fun H locs hP hS => ?_)
      exact J_48  S_7 _ _ _ hf hP hS (lv_sub hl [0] rfl)
  · have hf := z_if c_14 hf
    refine lv_aload_n hx hb dX11_image_4 rfl (lv_at hl 0 rfl) ?_
    refine va_get (D := D) (ci := 11) (v := .ref (ad 31)) (C := RX11) (T := TX11) (N := 8) hx hb hts k0 hown hK hP 0 (zX_0 cy ad S_0) rfl 2 (by decide) k3 (fun _ h9 => h9) rfl dX11_image_5 ?_
    refine lv_aload_n hx hb dX11_image_8 rfl (lv_at hl 0 rfl) ?_
    refine va_get (D := D) (ci := 11) (v := .ref (ad 3)) (C := RX11) (T := TX11) (N := 8) hx hb hts k0 hown hK hP 0 (zX_0 cy ad S_0) rfl 1 (by decide) k2 (fun _ h9 => h9) rfl dX11_image_9 ?_
    obtain ⟨r_10, S_11, h_12, hf⟩ := z_bd hf
    refine z_cVV (As := [.ref (ad 3)]) (rest := []) X hK hE hD hA hP hS (cx_Commons_copyFrom_kn l D K cy ad S_0 _ h_12) (cwV 1 hts (z_gV wt_5_68 wt_5_69 wt_5_70 wt_1_3 wt_5_71) rfl rfl rfl ⟨rfl, yd_yX0_copyFrom⟩ ⟨Nat.le_of_ble_eq_true rfl, Nat.le_of_ble_eq_true rfl⟩) (va_recv hK hP (ci := 0) (q0 := 31) rfl (zX_31 cy ad S_0)) hl.1 rfl rfl (Nat.le_of_ble_eq_true rfl) dX11_image_12 (fun H locs hP hS => ?_)
    refine lv_aload_n hx hb dX11_image_15 rfl (lv_at hl 0 rfl) ?_
    refine lv_iconst (v := 1) hx hb dX11_image_16 (by decide) ?_
    refine va_put (D := D) (ci := 11) (v := .int (1 : Int32)) (ty := .boolean) (C := RX11) (T := TX11) (N := 8) hx hb hts k0 tyX11 tyX11_ok nmX11 hown hK hP (hD S_11) hS 0 (zX_0 cy ad S_11) rfl 3 (by decide) k1 (fun _ h9 => h9) rfl (tyX11_ok 3 (by decide)) rfl rfl (Nat.le_of_ble_eq_true rfl) dX11_image_17 (fun H locs hP _ hS => ?_)
    obtain ⟨S_13, eS_13, hf⟩ := z_nm hf
    have hP := zW_putI hP eS_13 (by decide) rfl
    refine lv_goto (tgt := 48) hx hb dX11_image_20 (by decide) ?_
    exact J_48  S_13 _ _ _ hf hP hS (lv_sub hl [0] rfl)
theorem yd_yX11_look : (yX11_look).cls ≠ "java/lang/invoke/MethodHandle" ∧ (yX11_look).cls ≠ "java/lang/invoke/VarHandle" ∧ (parseMethodDescriptor (yX11_look).desc).map (fun d => d.parameters.length) = some 1 := by decide +kernel
def fx_look (S_0 : zSt) (a_1 : Int32) : Option (Int32 × zSt) :=
  if a_1 = (0 : Int32) then (
  some (S_0.1 4 0, S_0)) else (
  if a_1 = (1 : Int32) then (
  some (S_0.1 11 1, S_0)) else (
  if a_1 = (2 : Int32) then (
  some (S_0.1 11 0, S_0)) else (
  if a_1 = (3 : Int32) then (
  some (S_0.1 22 0, S_0)) else (
  if a_1 = (4 : Int32) then (
  some (S_0.1 20 2, S_0)) else (
  if a_1 = (5 : Int32) then (
  some (S_0.1 59 2, S_0)) else (
  if a_1 = (6 : Int32) then (
  some (S_0.1 11 2, S_0)) else (
  znm (a_1 - (10 : Int32)) fun x_15 =>
  znm (fun (x_16 : Int32) (S_17 : zSt) =>
  some (x_16, S_17)) fun j_145 =>
  znm (fun (S_18 : zSt) =>
  j_145 (-1 : Int32) S_18) fun j_144 =>
  if x_15 < 0 then (
  j_144  S_0) else (
  if (4 : Int32) ≤ x_15 then (
  j_144  S_0) else (
  zck (zix x_15 4) <|
  j_145 (S_0.1 19 (x_15.toNatClampNeg)) S_0)))))))))
set_option maxHeartbeats 4000000 in
set_option maxRecDepth 100000 in
theorem cx_look (l : Launch) (D : va_G) (K : (Nat → Nat) × (Nat → Nat)) (cy : Nat → ClassId) (ad : Nat → Nat) (S_0 : zSt) (a_1 : Int32) (ro : Int32) (So : zSt) (hf : fx_look S_0 a_1 = some (ro, So)) : zMI l yX11_look (zws yX11_look cX11_look 3 (Option.some .int)) ({ frames := 0, cells := 0, slots := 0, locals := 0 }) D (zTy cy) K (zX cy ad) [.ref (ad 0), .int a_1] S_0 ro So := by
  refine z_metI (own := RX11) (lv := [(0, .ref (ad 0)), (1, .int a_1)]) (by decide) rfl rfl (Nat.le_of_ble_eq_true rfl) rfl ?_
  intro p e s m below meth c A Q X hK hE hD hA hret hP hS ls hl
  obtain ⟨hx, hb, hml, hown, hts⟩ := id X
  have k0 := (fun w h => List.mem_cons_of_mem _ (zFX11 w h) : ∀ w ∈ u_ws RX11 TX11 8, w ∈ zws yX11_look cX11_look 3 (Option.some .int))
  have k1 := hts _ (List.mem_cons_of_mem _ wt_2_175)
  have k2 := (fun w h => List.mem_cons_of_mem _ (zFX0 w h) : ∀ w ∈ u_ws RX0 TX0 6, w ∈ zws yX11_look cX11_look 3 (Option.some .int))
  have k3 := hts _ (List.mem_cons_of_mem _ wt_1_235)
  have k4 := (fun w h => List.mem_cons_of_mem _ (zFX2 w h) : ∀ w ∈ u_ws RX2 TX2 7, w ∈ zws yX11_look cX11_look 3 (Option.some .int))
  have k5 := hts _ (List.mem_cons_of_mem _ wt_1_68)
  have k6 := hts _ (List.mem_cons_of_mem _ wt_1_237)
  have k7 := (fun w h => List.mem_cons_of_mem _ (zFX10 w h) : ∀ w ∈ u_ws RX10 TX10 12, w ∈ zws yX11_look cX11_look 3 (Option.some .int))
  have k8 := hts _ (List.mem_cons_of_mem _ wt_1_111)
  have k9 := hts _ (List.mem_cons_of_mem _ wt_1_108)
  have k10 := hts _ (List.mem_cons_of_mem _ wt_2_6)
  have k11 := (fun w h => List.mem_cons_of_mem _ (zFX3 w h) : ∀ w ∈ u_ws RX3 TX3 7, w ∈ zws yX11_look cX11_look 3 (Option.some .int))
  have k12 := hts _ (List.mem_cons_of_mem _ wt_1_194)
  have k13 := hts _ (List.mem_cons_of_mem _ wt_2_4)
  have k14 := (fun w h => List.mem_cons_of_mem _ (zFX6 w h) : ∀ w ∈ u_ws RX6 TX6 3, w ∈ zws yX11_look cX11_look 3 (Option.some .int))
  have k15 := hts _ (List.mem_cons_of_mem _ wt_1_179)
  have k16 := hts _ (List.mem_cons_of_mem _ wt_2_178)
  have k17 := (fun w h => List.mem_cons_of_mem _ (zFX1 w h) : ∀ w ∈ u_ws RX1 TX1 3, w ∈ zws yX11_look cX11_look 3 (Option.some .int))
  have k18 := hts _ (List.mem_cons_of_mem _ wt_2_34)
  have k19 := hts _ (List.mem_cons_of_mem _ wt_1_114)
  have k20 := hts _ (List.mem_cons_of_mem _ wt_2_0)
  refine lv_iload_n hx hb dX11_look_0 rfl (lv_at hl 1 rfl) ?_
  by_cases c_1 : a_1 = (0 : Int32)
  · have hf := z_it c_1 hf
    refine lv_tableIn (off := 43) (tgt := 44) hx hb dX11_look_1 (by rw [c_1]; decide) (by rw [c_1]; decide) (by rw [c_1]; rfl) (by decide) ?_
    refine lv_aload_n hx hb dX11_look_44 rfl (lv_at hl 0 rfl) ?_
    refine va_get (D := D) (ci := 11) (v := .ref (ad 3)) (C := RX11) (T := TX11) (N := 8) hx hb hts k0 hown hK hP 0 (zX_0 cy ad S_0) rfl 1 (by decide) k1 (fun _ h9 => h9) rfl dX11_look_45 ?_
    refine va_get (D := D) (ci := 0) (v := .ref (ad 4)) (C := RX0) (T := TX0) (N := 6) hx hb hts k2 hown hK hP 3 (zX_3 cy ad S_0) rfl 0 (by decide) k3 (fun _ h9 => h9) rfl dX11_look_48 ?_
    refine va_get (D := D) (ci := 2) (v := .int (S_0.1 4 0)) (C := RX2) (T := TX2) (N := 7) hx hb hts k4 hown hK hP 4 (zX_4 cy ad S_0) rfl 0 (by decide) k5 (fun _ h9 => h9) rfl dX11_look_51 ?_
    obtain ⟨h1, h2⟩ := z_s2 hf
    subst h1 h2
    exact hret _ _ _ _ hP hS dX11_look_54
  have hf := z_if c_1 hf
  have n_2 : a_1.toInt ≠ 0 := z_ne c_1 (by decide)
  by_cases c_3 : a_1 = (1 : Int32)
  · have hf := z_it c_3 hf
    refine lv_tableIn (off := 54) (tgt := 55) hx hb dX11_look_1 (by rw [c_3]; decide) (by rw [c_3]; decide) (by rw [c_3]; rfl) (by decide) ?_
    refine lv_aload_n hx hb dX11_look_55 rfl (lv_at hl 0 rfl) ?_
    refine va_get (D := D) (ci := 11) (v := .ref (ad 3)) (C := RX11) (T := TX11) (N := 8) hx hb hts k0 hown hK hP 0 (zX_0 cy ad S_0) rfl 1 (by decide) k1 (fun _ h9 => h9) rfl dX11_look_56 ?_
    refine va_get (D := D) (ci := 0) (v := .ref (ad 11)) (C := RX0) (T := TX0) (N := 6) hx hb hts k2 hown hK hP 3 (zX_3 cy ad S_0) rfl 1 (by decide) k6 (fun _ h9 => h9) rfl dX11_look_59 ?_
    refine va_get (D := D) (ci := 10) (v := .int (S_0.1 11 1)) (C := RX10) (T := TX10) (N := 12) hx hb hts k7 hown hK hP 11 (zX_11 cy ad S_0) rfl 1 (by decide) k8 (fun _ h9 => h9) rfl dX11_look_62 ?_
    obtain ⟨h1, h2⟩ := z_s2 hf
    subst h1 h2
    exact hret _ _ _ _ hP hS dX11_look_65
  have hf := z_if c_3 hf
  have n_4 : a_1.toInt ≠ 1 := z_ne c_3 (by decide)
  by_cases c_5 : a_1 = (2 : Int32)
  · have hf := z_it c_5 hf
    refine lv_tableIn (off := 65) (tgt := 66) hx hb dX11_look_1 (by rw [c_5]; decide) (by rw [c_5]; decide) (by rw [c_5]; rfl) (by decide) ?_
    refine lv_aload_n hx hb dX11_look_66 rfl (lv_at hl 0 rfl) ?_
    refine va_get (D := D) (ci := 11) (v := .ref (ad 3)) (C := RX11) (T := TX11) (N := 8) hx hb hts k0 hown hK hP 0 (zX_0 cy ad S_0) rfl 1 (by decide) k1 (fun _ h9 => h9) rfl dX11_look_67 ?_
    refine va_get (D := D) (ci := 0) (v := .ref (ad 11)) (C := RX0) (T := TX0) (N := 6) hx hb hts k2 hown hK hP 3 (zX_3 cy ad S_0) rfl 1 (by decide) k6 (fun _ h9 => h9) rfl dX11_look_70 ?_
    refine va_get (D := D) (ci := 10) (v := .int (S_0.1 11 0)) (C := RX10) (T := TX10) (N := 12) hx hb hts k7 hown hK hP 11 (zX_11 cy ad S_0) rfl 0 (by decide) k9 (fun _ h9 => h9) rfl dX11_look_73 ?_
    obtain ⟨h1, h2⟩ := z_s2 hf
    subst h1 h2
    exact hret _ _ _ _ hP hS dX11_look_76
  have hf := z_if c_5 hf
  have n_6 : a_1.toInt ≠ 2 := z_ne c_5 (by decide)
  by_cases c_7 : a_1 = (3 : Int32)
  · have hf := z_it c_7 hf
    refine lv_tableIn (off := 76) (tgt := 77) hx hb dX11_look_1 (by rw [c_7]; decide) (by rw [c_7]; decide) (by rw [c_7]; rfl) (by decide) ?_
    refine lv_aload_n hx hb dX11_look_77 rfl (lv_at hl 0 rfl) ?_
    refine va_get (D := D) (ci := 11) (v := .ref (ad 3)) (C := RX11) (T := TX11) (N := 8) hx hb hts k0 hown hK hP 0 (zX_0 cy ad S_0) rfl 1 (by decide) k1 (fun _ h9 => h9) rfl dX11_look_78 ?_
    refine va_get (D := D) (ci := 0) (v := .ref (ad 22)) (C := RX0) (T := TX0) (N := 6) hx hb hts k2 hown hK hP 3 (zX_3 cy ad S_0) rfl 4 (by decide) k10 (fun _ h9 => h9) rfl dX11_look_81 ?_
    refine va_get (D := D) (ci := 3) (v := .int (S_0.1 22 0)) (C := RX3) (T := TX3) (N := 7) hx hb hts k11 hown hK hP 22 (zX_22 cy ad S_0) rfl 0 (by decide) k12 (fun _ h9 => h9) rfl dX11_look_84 ?_
    obtain ⟨h1, h2⟩ := z_s2 hf
    subst h1 h2
    exact hret _ _ _ _ hP hS dX11_look_87
  have hf := z_if c_7 hf
  have n_8 : a_1.toInt ≠ 3 := z_ne c_7 (by decide)
  by_cases c_9 : a_1 = (4 : Int32)
  · have hf := z_it c_9 hf
    refine lv_tableIn (off := 87) (tgt := 88) hx hb dX11_look_1 (by rw [c_9]; decide) (by rw [c_9]; decide) (by rw [c_9]; rfl) (by decide) ?_
    refine lv_aload_n hx hb dX11_look_88 rfl (lv_at hl 0 rfl) ?_
    refine va_get (D := D) (ci := 11) (v := .ref (ad 3)) (C := RX11) (T := TX11) (N := 8) hx hb hts k0 hown hK hP 0 (zX_0 cy ad S_0) rfl 1 (by decide) k1 (fun _ h9 => h9) rfl dX11_look_89 ?_
    refine va_get (D := D) (ci := 0) (v := .ref (ad 20)) (C := RX0) (T := TX0) (N := 6) hx hb hts k2 hown hK hP 3 (zX_3 cy ad S_0) rfl 3 (by decide) k13 (fun _ h9 => h9) rfl dX11_look_92 ?_
    refine va_get (D := D) (ci := 6) (v := .int (S_0.1 20 2)) (C := RX6) (T := TX6) (N := 3) hx hb hts k14 hown hK hP 20 (zX_20 cy ad S_0) rfl 2 (by decide) k15 (fun _ h9 => h9) rfl dX11_look_95 ?_
    obtain ⟨h1, h2⟩ := z_s2 hf
    subst h1 h2
    exact hret _ _ _ _ hP hS dX11_look_98
  have hf := z_if c_9 hf
  have n_10 : a_1.toInt ≠ 4 := z_ne c_9 (by decide)
  by_cases c_11 : a_1 = (5 : Int32)
  · have hf := z_it c_11 hf
    refine lv_tableIn (off := 98) (tgt := 99) hx hb dX11_look_1 (by rw [c_11]; decide) (by rw [c_11]; decide) (by rw [c_11]; rfl) (by decide) ?_
    refine lv_aload_n hx hb dX11_look_99 rfl (lv_at hl 0 rfl) ?_
    refine va_get (D := D) (ci := 11) (v := .ref (ad 59)) (C := RX11) (T := TX11) (N := 8) hx hb hts k0 hown hK hP 0 (zX_0 cy ad S_0) rfl 4 (by decide) k16 (fun _ h9 => h9) rfl dX11_look_100 ?_
    refine va_get (D := D) (ci := 1) (v := .int (S_0.1 59 2)) (C := RX1) (T := TX1) (N := 3) hx hb hts k17 hown hK hP 59 (zX_59 cy ad S_0) rfl 2 (by decide) k18 (fun _ h9 => h9) rfl dX11_look_103 ?_
    obtain ⟨h1, h2⟩ := z_s2 hf
    subst h1 h2
    exact hret _ _ _ _ hP hS dX11_look_106
  have hf := z_if c_11 hf
  have n_12 : a_1.toInt ≠ 5 := z_ne c_11 (by decide)
  by_cases c_13 : a_1 = (6 : Int32)
  · have hf := z_it c_13 hf
    refine lv_tableIn (off := 106) (tgt := 107) hx hb dX11_look_1 (by rw [c_13]; decide) (by rw [c_13]; decide) (by rw [c_13]; rfl) (by decide) ?_
    refine lv_aload_n hx hb dX11_look_107 rfl (lv_at hl 0 rfl) ?_
    refine va_get (D := D) (ci := 11) (v := .ref (ad 3)) (C := RX11) (T := TX11) (N := 8) hx hb hts k0 hown hK hP 0 (zX_0 cy ad S_0) rfl 1 (by decide) k1 (fun _ h9 => h9) rfl dX11_look_108 ?_
    refine va_get (D := D) (ci := 0) (v := .ref (ad 11)) (C := RX0) (T := TX0) (N := 6) hx hb hts k2 hown hK hP 3 (zX_3 cy ad S_0) rfl 1 (by decide) k6 (fun _ h9 => h9) rfl dX11_look_111 ?_
    refine va_get (D := D) (ci := 10) (v := .int (S_0.1 11 2)) (C := RX10) (T := TX10) (N := 12) hx hb hts k7 hown hK hP 11 (zX_11 cy ad S_0) rfl 2 (by decide) k19 (fun _ h9 => h9) rfl dX11_look_114 ?_
    obtain ⟨h1, h2⟩ := z_s2 hf
    subst h1 h2
    exact hret _ _ _ _ hP hS dX11_look_117
  have hf := z_if c_13 hf
  have n_14 : a_1.toInt ≠ 6 := z_ne c_13 (by decide)
  refine lv_tableOut (tgt := 118) hx hb dX11_look_1 (by omega) (by decide) ?_
  refine lv_iload_n hx hb dX11_look_118 rfl (lv_at hl 1 rfl) ?_
  refine lv_bipush (v := 10) hx hb dX11_look_119 (by decide) ?_
  refine lv_isub hx hb dX11_look_121 ?_
  refine lv_topi (fun x_15 ex_15 => ?_)
  have hf := z_nv ex_15 hf
  refine lv_istore_n (lv' := [(2, .int x_15), (0, .ref (ad 0)), (1, .int a_1)]) hx hb dX11_look_122 rfl hl (by decide) rfl (fun ls hl => ?_)
  refine lv_iload_n hx hb dX11_look_123 rfl (lv_at hl 0 rfl) ?_
  obtain ⟨j_145, ej_145, hf⟩ := z_nm hf
  have J_145 : ∀ (x_16 : Int32) (S_17 : zSt) (H : Heap) (locs : List Loc) (ls : Array Slot), j_145 x_16 S_17 = some (ro, So) → va_P D vwCl (zX cy ad S_17) H → va_S A s.heap H locs → lv_has ls 3 [] → W p l e ({ frames := 0, cells := 0, slots := 0, locals := 0 }) s m ([.ref (ad 0), .int a_1] : List Value).toArray below meth c H locs 0 0 Q (F0 m 145 ls [.int x_16]) := by
    intro x_16 S_17 H locs ls hf hP hS hl
    have hf := z_e2 ej_145 hf
    obtain ⟨h1, h2⟩ := z_s2 hf
    subst h1 h2
    exact hret _ _ _ _ hP hS dX11_look_145
  obtain ⟨j_144, ej_144, hf⟩ := z_nm hf
  have J_144 : ∀ (S_18 : zSt) (H : Heap) (locs : List Loc) (ls : Array Slot), j_144  S_18 = some (ro, So) → va_P D vwCl (zX cy ad S_18) H → va_S A s.heap H locs → lv_has ls 3 [] → W p l e ({ frames := 0, cells := 0, slots := 0, locals := 0 }) s m ([.ref (ad 0), .int a_1] : List Value).toArray below meth c H locs 0 0 Q (F0 m 144 ls []) := by
    intro  S_18 H locs ls hf hP hS hl
    have hf := z_e1 ej_144 hf
    refine lv_iconst (v := -1) hx hb dX11_look_144 (by decide) ?_
    exact J_145 (-1 : Int32) S_18 _ _ _ hf hP hS (lv_sub hl [] rfl)
  refine lv_if_lt (tgt := 144) hx hb dX11_look_124 (by decide) (fun c_21 => ?_) (fun c_21 => ?_)
  · have hf := z_it c_21 hf
    exact J_144  S_0 _ _ _ hf hP hS (lv_sub hl [] rfl)
  · have hf := z_if c_21 hf
    refine lv_iload_n hx hb dX11_look_127 rfl (lv_at hl 0 rfl) ?_
    refine lv_iconst (v := 4) hx hb dX11_look_128 (by decide) ?_
    refine lv_icmp_ge (tgt := 144) hx hb dX11_look_129 (by decide) (fun c_20 => ?_) (fun c_20 => ?_)
    · have hf := z_it c_20 hf
      exact J_144  S_0 _ _ _ hf hP hS (lv_sub hl [] rfl)
    · have hf := z_if c_20 hf
      refine lv_aload_n hx hb dX11_look_132 rfl (lv_at hl 1 rfl) ?_
      refine va_get (D := D) (ci := 11) (v := .ref (ad 3)) (C := RX11) (T := TX11) (N := 8) hx hb hts k0 hown hK hP 0 (zX_0 cy ad S_0) rfl 1 (by decide) k1 (fun _ h9 => h9) rfl dX11_look_133 ?_
      refine va_get (D := D) (ci := 0) (v := .ref (ad 19)) (C := RX0) (T := TX0) (N := 6) hx hb hts k2 hown hK hP 3 (zX_3 cy ad S_0) rfl 2 (by decide) k20 (fun _ h9 => h9) rfl dX11_look_136 ?_
      refine lv_iload_n hx hb dX11_look_139 rfl (lv_at hl 0 rfl) ?_
      obtain ⟨h_19, hf⟩ := z_ix hf
      refine z_iald hx hb hK hP 19 0 (zX_19 cy ad S_0) rfl h_19 (k := (x_15.toNatClampNeg)) rfl dX11_look_140 ?_
      refine lv_goto (tgt := 145) hx hb dX11_look_141 (by decide) ?_
      exact J_145 (S_0.1 19 (x_15.toNatClampNeg)) S_0 _ _ _ hf hP hS (lv_sub hl [] rfl)
theorem yd_yX12_isIn : (yX12_isIn).cls ≠ "java/lang/invoke/MethodHandle" ∧ (yX12_isIn).cls ≠ "java/lang/invoke/VarHandle" ∧ (parseMethodDescriptor (yX12_isIn).desc).map (fun d => d.parameters.length) = some 3 := by decide +kernel
def fm_isIn (S_0 : zSt) (a_1 : Int32) (a_2 : Int32) (a_3 : Int32) : Option (Int32 × zSt) :=
  znm (fun (x_1 : Int32) (S_2 : zSt) =>
  zck (zbo x_1) <|
  some (x_1, S_2)) fun j_15 =>
  znm (fun (S_4 : zSt) =>
  j_15 (0 : Int32) S_4) fun j_14 =>
  if a_1 < a_2 then (
  j_14  S_0) else (
  if a_3 < a_1 then (
  j_14  S_0) else (
  j_15 (1 : Int32) S_0))
set_option maxHeartbeats 4000000 in
set_option maxRecDepth 100000 in
theorem cm_isIn (l : Launch) (D : va_G) (K : (Nat → Nat) × (Nat → Nat)) (cy : Nat → ClassId) (ad : Nat → Nat) (S_0 : zSt) (a_1 : Int32) (a_2 : Int32) (a_3 : Int32) (ro : Int32) (So : zSt) (hf : fm_isIn S_0 a_1 a_2 a_3 = some (ro, So)) : zMI l yX12_isIn (zws yX12_isIn cX12_isIn 3 (Option.some .boolean)) ({ frames := 0, cells := 0, slots := 0, locals := 0 }) D (zTy cy) K (zM cy ad) [.int a_1, .int a_2, .int a_3] S_0 ro So := by
  refine z_metZ (own := RX12) (lv := [(0, .int a_1), (1, .int a_2), (2, .int a_3)]) (by decide) rfl rfl (Nat.le_of_ble_eq_true rfl) rfl ?_
  intro p e s m below meth c A Q X hK hE hD hA hret hP hS ls hl
  obtain ⟨hx, hb, hml, hown, hts⟩ := id X
  refine lv_iload_n hx hb dX12_isIn_0 rfl (lv_at hl 0 rfl) ?_
  refine lv_iload_n hx hb dX12_isIn_1 rfl (lv_at hl 1 rfl) ?_
  obtain ⟨j_15, ej_15, hf⟩ := z_nm hf
  have J_15 : ∀ (x_1 : Int32) (S_2 : zSt) (H : Heap) (locs : List Loc) (ls : Array Slot), j_15 x_1 S_2 = some (ro, So) → va_P D vwCl (zM cy ad S_2) H → va_S A s.heap H locs → lv_has ls 3 [] → W p l e ({ frames := 0, cells := 0, slots := 0, locals := 0 }) s m ([.int a_1, .int a_2, .int a_3] : List Value).toArray below meth c H locs 0 0 Q (F0 m 15 ls [.int x_1]) := by
    intro x_1 S_2 H locs ls hf hP hS hl
    have hf := z_e2 ej_15 hf
    obtain ⟨h_3, hf⟩ := z_bo hf
    obtain ⟨h1, h2⟩ := z_s2 hf
    subst h1 h2
    exact hret _ _ _ _ h_3 hP hS dX12_isIn_15
  obtain ⟨j_14, ej_14, hf⟩ := z_nm hf
  have J_14 : ∀ (S_4 : zSt) (H : Heap) (locs : List Loc) (ls : Array Slot), j_14  S_4 = some (ro, So) → va_P D vwCl (zM cy ad S_4) H → va_S A s.heap H locs → lv_has ls 3 [] → W p l e ({ frames := 0, cells := 0, slots := 0, locals := 0 }) s m ([.int a_1, .int a_2, .int a_3] : List Value).toArray below meth c H locs 0 0 Q (F0 m 14 ls []) := by
    intro  S_4 H locs ls hf hP hS hl
    have hf := z_e1 ej_14 hf
    refine lv_iconst (v := 0) hx hb dX12_isIn_14 (by decide) ?_
    exact J_15 (0 : Int32) S_4 _ _ _ hf hP hS (lv_sub hl [] rfl)
  refine lv_icmp_lt (tgt := 14) hx hb dX12_isIn_2 (by decide) (fun c_6 => ?_) (fun c_6 => ?_)
  · have hf := z_it c_6 hf
    exact J_14  S_0 _ _ _ hf hP hS (lv_sub hl [] rfl)
  · have hf := z_if c_6 hf
    refine lv_iload_n hx hb dX12_isIn_5 rfl (lv_at hl 0 rfl) ?_
    refine lv_iload_n hx hb dX12_isIn_6 rfl (lv_at hl 2 rfl) ?_
    refine lv_icmp_gt (tgt := 14) hx hb dX12_isIn_7 (by decide) (fun c_5 => ?_) (fun c_5 => ?_)
    · have hf := z_it c_5 hf
      exact J_14  S_0 _ _ _ hf hP hS (lv_sub hl [] rfl)
    · have hf := z_if c_5 hf
      refine lv_iconst (v := 1) hx hb dX12_isIn_10 (by decide) ?_
      refine lv_goto (tgt := 15) hx hb dX12_isIn_11 (by decide) ?_
      exact J_15 (1 : Int32) S_0 _ _ _ hf hP hS (lv_sub hl [] rfl)
theorem yd_yX12_isHouse : (yX12_isHouse).cls ≠ "java/lang/invoke/MethodHandle" ∧ (yX12_isHouse).cls ≠ "java/lang/invoke/VarHandle" ∧ (parseMethodDescriptor (yX12_isHouse).desc).map (fun d => d.parameters.length) = some 1 := by decide +kernel
def fm_isHouse (S_0 : zSt) (a_1 : Int32) : Option (Int32 × zSt) :=
  zbd (fm_isIn S_0 a_1 (0 : Int32) ((S_0.1 1 4) - (1 : Int32))) fun r_1 S_2 =>
  zck (zbo r_1) <|
  some (r_1, S_2)
set_option maxHeartbeats 4000000 in
set_option maxRecDepth 100000 in
theorem cm_isHouse (l : Launch) (D : va_G) (K : (Nat → Nat) × (Nat → Nat)) (cy : Nat → ClassId) (ad : Nat → Nat) (S_0 : zSt) (a_1 : Int32) (ro : Int32) (So : zSt) (hf : fm_isHouse S_0 a_1 = some (ro, So)) : zMI l yX12_isHouse (zws yX12_isHouse cX12_isHouse 2 (Option.some .boolean)) ({ frames := 1, cells := 0, slots := 0, locals := 22 }) D (zTy cy) K (zM cy ad) [.ref (ad 0), .int a_1] S_0 ro So := by
  refine z_metZ (own := RX12) (lv := [(0, .ref (ad 0)), (1, .int a_1)]) (by decide) rfl rfl (Nat.le_of_ble_eq_true rfl) rfl ?_
  intro p e s m below meth c A Q X hK hE hD hA hret hP hS ls hl
  obtain ⟨hx, hb, hml, hown, hts⟩ := id X
  have k0 := (fun w h => List.mem_cons_of_mem _ (zFX12 w h) : ∀ w ∈ u_ws RX12 TX12 36, w ∈ zws yX12_isHouse cX12_isHouse 2 (Option.some .boolean))
  have k1 := hts _ (List.mem_cons_of_mem _ wt_5_95)
  refine lv_iload_n hx hb dX12_isHouse_0 rfl (lv_at hl 1 rfl) ?_
  refine lv_iconst (v := 0) hx hb dX12_isHouse_1 (by decide) ?_
  refine lv_aload_n hx hb dX12_isHouse_2 rfl (lv_at hl 0 rfl) ?_
  refine va_get (D := D) (ci := 12) (v := .ref (ad 1)) (C := RX12) (T := TX12) (N := 36) hx hb hts k0 hown hK hP 0 (zM_0 cy ad S_0) rfl 0 (by decide) k1 (fun _ h9 => h9) rfl dX12_isHouse_3 ?_
  refine lv_iconst (v := 4) hx hb dX12_isHouse_6 (by decide) ?_
  refine z_iald hx hb hK hP 1 0 (zM_1 cy ad S_0) rfl (vp_in_iff.mpr (by decide)) (k := 4) (by decide) dX12_isHouse_7 ?_
  refine lv_iconst (v := 1) hx hb dX12_isHouse_8 (by decide) ?_
  refine lv_isub hx hb dX12_isHouse_9 ?_
  obtain ⟨r_1, S_2, h_3, hf⟩ := z_bd hf
  refine z_cSI (As := [.int a_1, .int (0 : Int32), .int ((S_0.1 1 4) - (1 : Int32))]) (rest := []) X hK hE hD hA hP hS (cm_isIn l D K cy ad S_0 _ _ _ _ _ h_3) (va_cwS 3 hts (z_gS wt_5_216 wt_5_217 wt_1_13 wt_5_218) rfl rfl rfl yd_yX12_isIn ⟨Nat.le_of_ble_eq_true rfl, Nat.le_of_ble_eq_true rfl⟩) hl.1 rfl rfl (Nat.le_of_ble_eq_true rfl) dX12_isHouse_10 (fun H locs hP hS => ?_)
  obtain ⟨h_4, hf⟩ := z_bo hf
  obtain ⟨h1, h2⟩ := z_s2 hf
  subst h1 h2
  exact hret _ _ _ _ h_4 hP hS dX12_isHouse_13
theorem yd_yX12_own : (yX12_own).cls ≠ "java/lang/invoke/MethodHandle" ∧ (yX12_own).cls ≠ "java/lang/invoke/VarHandle" ∧ (parseMethodDescriptor (yX12_own).desc).map (fun d => d.parameters.length) = some 2 := by decide +kernel
def fm_own (S_0 : zSt) (a_1 : Int32) (a_2 : Int32) : Option (Int32 × zSt) :=
  zck (zix (((20 : Int32) + ((16 : Int32) * a_1)) + a_2) 1480) <|
  some (S_0.1 1 ((((20 : Int32) + ((16 : Int32) * a_1)) + a_2).toNatClampNeg), S_0)
set_option maxHeartbeats 4000000 in
set_option maxRecDepth 100000 in
theorem cm_own (l : Launch) (D : va_G) (K : (Nat → Nat) × (Nat → Nat)) (cy : Nat → ClassId) (ad : Nat → Nat) (S_0 : zSt) (a_1 : Int32) (a_2 : Int32) (ro : Int32) (So : zSt) (hf : fm_own S_0 a_1 a_2 = some (ro, So)) : zMI l yX12_own (zws yX12_own cX12_own 3 (Option.some .int)) ({ frames := 0, cells := 0, slots := 0, locals := 0 }) D (zTy cy) K (zM cy ad) [.ref (ad 0), .int a_1, .int a_2] S_0 ro So := by
  refine z_metI (own := RX12) (lv := [(0, .ref (ad 0)), (1, .int a_1), (2, .int a_2)]) (by decide) rfl rfl (Nat.le_of_ble_eq_true rfl) rfl ?_
  intro p e s m below meth c A Q X hK hE hD hA hret hP hS ls hl
  obtain ⟨hx, hb, hml, hown, hts⟩ := id X
  have k0 := (fun w h => List.mem_cons_of_mem _ (zFX12 w h) : ∀ w ∈ u_ws RX12 TX12 36, w ∈ zws yX12_own cX12_own 3 (Option.some .int))
  have k1 := hts _ (List.mem_cons_of_mem _ wt_5_95)
  refine lv_aload_n hx hb dX12_own_0 rfl (lv_at hl 0 rfl) ?_
  refine va_get (D := D) (ci := 12) (v := .ref (ad 1)) (C := RX12) (T := TX12) (N := 36) hx hb hts k0 hown hK hP 0 (zM_0 cy ad S_0) rfl 0 (by decide) k1 (fun _ h9 => h9) rfl dX12_own_1 ?_
  refine lv_bipush (v := 20) hx hb dX12_own_4 (by decide) ?_
  refine lv_bipush (v := 16) hx hb dX12_own_6 (by decide) ?_
  refine lv_iload_n hx hb dX12_own_8 rfl (lv_at hl 1 rfl) ?_
  refine lv_imul hx hb dX12_own_9 ?_
  refine lv_iadd hx hb dX12_own_10 ?_
  refine lv_iload_n hx hb dX12_own_11 rfl (lv_at hl 2 rfl) ?_
  refine lv_iadd hx hb dX12_own_12 ?_
  obtain ⟨h_1, hf⟩ := z_ix hf
  refine z_iald hx hb hK hP 1 0 (zM_1 cy ad S_0) rfl h_1 (k := ((((20 : Int32) + ((16 : Int32) * a_1)) + a_2).toNatClampNeg)) rfl dX12_own_13 ?_
  obtain ⟨h1, h2⟩ := z_s2 hf
  subst h1 h2
  exact hret _ _ _ _ hP hS dX12_own_14
theorem yd_yX12_adds : (yX12_adds).cls ≠ "java/lang/invoke/MethodHandle" ∧ (yX12_adds).cls ≠ "java/lang/invoke/VarHandle" ∧ (parseMethodDescriptor (yX12_adds).desc).map (fun d => d.parameters.length) = some 3 := by decide +kernel
def fm_adds (S_0 : zSt) (a_1 : Int32) (a_2 : Int32) (a_3 : Int32) : Option (Unit × zSt) :=
  zck (zix (((20 : Int32) + ((16 : Int32) * a_1)) + a_2) 1480) <|
  zck (zix (((20 : Int32) + ((16 : Int32) * a_1)) + a_2) 1480) <|
  znm (zpI S_0 1 ((((20 : Int32) + ((16 : Int32) * a_1)) + a_2).toNatClampNeg) ((S_0.1 1 ((((20 : Int32) + ((16 : Int32) * a_1)) + a_2).toNatClampNeg)) + a_3)) fun S_3 =>
  some ((), S_3)
set_option maxHeartbeats 4000000 in
set_option maxRecDepth 100000 in
theorem cm_adds (l : Launch) (D : va_G) (K : (Nat → Nat) × (Nat → Nat)) (cy : Nat → ClassId) (ad : Nat → Nat) (S_0 : zSt) (a_1 : Int32) (a_2 : Int32) (a_3 : Int32) (So : zSt) (hf : fm_adds S_0 a_1 a_2 a_3 = some ((), So)) : zMV l yX12_adds (zws yX12_adds cX12_adds 4 none) ({ frames := 0, cells := 0, slots := 0, locals := 0 }) D (zTy cy) K (zM cy ad) [.ref (ad 0), .int a_1, .int a_2, .int a_3] S_0 So := by
  refine z_metV (own := RX12) (lv := [(0, .ref (ad 0)), (1, .int a_1), (2, .int a_2), (3, .int a_3)]) (by decide) rfl rfl (Nat.le_of_ble_eq_true rfl) rfl ?_
  intro p e s m below meth c A Q X hK hE hD hA hret hP hS ls hl
  obtain ⟨hx, hb, hml, hown, hts⟩ := id X
  have k0 := (fun w h => List.mem_cons_of_mem _ (zFX12 w h) : ∀ w ∈ u_ws RX12 TX12 36, w ∈ zws yX12_adds cX12_adds 4 none)
  have k1 := hts _ (List.mem_cons_of_mem _ wt_5_95)
  refine lv_aload_n hx hb dX12_adds_0 rfl (lv_at hl 0 rfl) ?_
  refine va_get (D := D) (ci := 12) (v := .ref (ad 1)) (C := RX12) (T := TX12) (N := 36) hx hb hts k0 hown hK hP 0 (zM_0 cy ad S_0) rfl 0 (by decide) k1 (fun _ h9 => h9) rfl dX12_adds_1 ?_
  refine lv_bipush (v := 20) hx hb dX12_adds_4 (by decide) ?_
  refine lv_bipush (v := 16) hx hb dX12_adds_6 (by decide) ?_
  refine lv_iload_n hx hb dX12_adds_8 rfl (lv_at hl 1 rfl) ?_
  refine lv_imul hx hb dX12_adds_9 ?_
  refine lv_iadd hx hb dX12_adds_10 ?_
  refine lv_iload_n hx hb dX12_adds_11 rfl (lv_at hl 2 rfl) ?_
  refine lv_iadd hx hb dX12_adds_12 ?_
  refine lv_dup2_11 hx hb dX12_adds_13 rfl rfl ?_
  obtain ⟨h_1, hf⟩ := z_ix hf
  refine z_iald hx hb hK hP 1 0 (zM_1 cy ad S_0) rfl h_1 (k := ((((20 : Int32) + ((16 : Int32) * a_1)) + a_2).toNatClampNeg)) rfl dX12_adds_14 ?_
  refine lv_iload_n hx hb dX12_adds_15 rfl (lv_at hl 3 rfl) ?_
  refine lv_iadd hx hb dX12_adds_16 ?_
  obtain ⟨h_2, hf⟩ := z_ix hf
  refine z_iast hx hb hK hP (hD S_0) hS 1 0 (zM_1 cy ad S_0) rfl h_2 (k := ((((20 : Int32) + ((16 : Int32) * a_1)) + a_2).toNatClampNeg)) rfl dX12_adds_17 (fun H locs hP hS => ?_)
  obtain ⟨S_3, eS_3, hf⟩ := z_nm hf
  have hP := zW_putI hP eS_3 (by decide) rfl
  obtain ⟨h1, h2⟩ := z_s2 hf
  subst h2
  exact hret _ _ _ _ hP hS dX12_adds_18
theorem yd_yX12_forgets : (yX12_forgets).cls ≠ "java/lang/invoke/MethodHandle" ∧ (yX12_forgets).cls ≠ "java/lang/invoke/VarHandle" ∧ (parseMethodDescriptor (yX12_forgets).desc).map (fun d => d.parameters.length) = some 0 := by decide +kernel
def fm_forgets (S_0 : zSt) : Option (Unit × zSt) :=
  znm (zpI S_0 0 3 (0 : Int32)) fun S_1 =>
  some ((), S_1)
set_option maxHeartbeats 4000000 in
set_option maxRecDepth 100000 in
theorem cm_forgets (l : Launch) (D : va_G) (K : (Nat → Nat) × (Nat → Nat)) (cy : Nat → ClassId) (ad : Nat → Nat) (S_0 : zSt) (So : zSt) (hf : fm_forgets S_0 = some ((), So)) : zMV l yX12_forgets (zws yX12_forgets cX12_forgets 1 none) ({ frames := 0, cells := 0, slots := 0, locals := 0 }) D (zTy cy) K (zM cy ad) [.ref (ad 0)] S_0 So := by
  refine z_metV (own := RX12) (lv := [(0, .ref (ad 0))]) (by decide) rfl rfl (Nat.le_of_ble_eq_true rfl) rfl ?_
  intro p e s m below meth c A Q X hK hE hD hA hret hP hS ls hl
  obtain ⟨hx, hb, hml, hown, hts⟩ := id X
  have k0 := (fun w h => List.mem_cons_of_mem _ (zFX12 w h) : ∀ w ∈ u_ws RX12 TX12 36, w ∈ zws yX12_forgets cX12_forgets 1 none)
  have k1 := hts _ (List.mem_cons_of_mem _ wt_5_98)
  refine lv_aload_n hx hb dX12_forgets_0 rfl (lv_at hl 0 rfl) ?_
  refine lv_iconst (v := 0) hx hb dX12_forgets_1 (by decide) ?_
  refine va_put (D := D) (ci := 12) (v := .int (0 : Int32)) (ty := .int) (C := RX12) (T := TX12) (N := 36) hx hb hts k0 tyX12 tyX12_ok nmX12 hown hK hP (hD S_0) hS 0 (zM_0 cy ad S_0) rfl 3 (by decide) k1 (fun _ h9 => h9) rfl (tyX12_ok 3 (by decide)) rfl rfl (Nat.le_of_ble_eq_true rfl) dX12_forgets_2 (fun H locs hP _ hS => ?_)
  obtain ⟨S_1, eS_1, hf⟩ := z_nm hf
  have hP := zW_putI hP eS_1 (by decide) rfl
  obtain ⟨h1, h2⟩ := z_s2 hf
  subst h2
  exact hret _ _ _ _ hP hS dX12_forgets_5
theorem yd_yX12_state : (yX12_state).cls ≠ "java/lang/invoke/MethodHandle" ∧ (yX12_state).cls ≠ "java/lang/invoke/VarHandle" ∧ (parseMethodDescriptor (yX12_state).desc).map (fun d => d.parameters.length) = some 1 := by decide +kernel
def fm_state (S_0 : zSt) (a_1 : Int32) : Option (Int32 × zSt) :=
  znm (S_0.1 1 6) fun x_1 =>
  znm (zpI S_0 1 6 a_1) fun S_2 =>
  some (x_1, S_2)
set_option maxHeartbeats 4000000 in
set_option maxRecDepth 100000 in
theorem cm_state (l : Launch) (D : va_G) (K : (Nat → Nat) × (Nat → Nat)) (cy : Nat → ClassId) (ad : Nat → Nat) (S_0 : zSt) (a_1 : Int32) (ro : Int32) (So : zSt) (hf : fm_state S_0 a_1 = some (ro, So)) : zMI l yX12_state (zws yX12_state cX12_state 3 (Option.some .int)) ({ frames := 0, cells := 0, slots := 0, locals := 0 }) D (zTy cy) K (zM cy ad) [.ref (ad 0), .int a_1] S_0 ro So := by
  refine z_metI (own := RX12) (lv := [(0, .ref (ad 0)), (1, .int a_1)]) (by decide) rfl rfl (Nat.le_of_ble_eq_true rfl) rfl ?_
  intro p e s m below meth c A Q X hK hE hD hA hret hP hS ls hl
  obtain ⟨hx, hb, hml, hown, hts⟩ := id X
  have k0 := (fun w h => List.mem_cons_of_mem _ (zFX12 w h) : ∀ w ∈ u_ws RX12 TX12 36, w ∈ zws yX12_state cX12_state 3 (Option.some .int))
  have k1 := hts _ (List.mem_cons_of_mem _ wt_5_95)
  refine lv_aload_n hx hb dX12_state_0 rfl (lv_at hl 0 rfl) ?_
  refine va_get (D := D) (ci := 12) (v := .ref (ad 1)) (C := RX12) (T := TX12) (N := 36) hx hb hts k0 hown hK hP 0 (zM_0 cy ad S_0) rfl 0 (by decide) k1 (fun _ h9 => h9) rfl dX12_state_1 ?_
  refine lv_bipush (v := 6) hx hb dX12_state_4 (by decide) ?_
  refine z_iald hx hb hK hP 1 0 (zM_1 cy ad S_0) rfl (vp_in_iff.mpr (by decide)) (k := 6) (by decide) dX12_state_6 ?_
  refine lv_topi (fun x_1 ex_1 => ?_)
  have hf := z_nv ex_1 hf
  refine lv_istore_n (lv' := [(2, .int x_1), (0, .ref (ad 0)), (1, .int a_1)]) hx hb dX12_state_7 rfl hl (by decide) rfl (fun ls hl => ?_)
  refine lv_aload_n hx hb dX12_state_8 rfl (lv_at hl 1 rfl) ?_
  refine va_get (D := D) (ci := 12) (v := .ref (ad 1)) (C := RX12) (T := TX12) (N := 36) hx hb hts k0 hown hK hP 0 (zM_0 cy ad S_0) rfl 0 (by decide) k1 (fun _ h9 => h9) rfl dX12_state_9 ?_
  refine lv_bipush (v := 6) hx hb dX12_state_12 (by decide) ?_
  refine lv_iload_n hx hb dX12_state_14 rfl (lv_at hl 2 rfl) ?_
  refine z_iast hx hb hK hP (hD S_0) hS 1 0 (zM_1 cy ad S_0) rfl (vp_in_iff.mpr (by decide)) (k := 6) (by decide) dX12_state_15 (fun H locs hP hS => ?_)
  obtain ⟨S_2, eS_2, hf⟩ := z_nm hf
  have hP := zW_putI hP eS_2 (by decide) rfl
  refine lv_iload_n hx hb dX12_state_16 rfl (lv_at hl 0 rfl) ?_
  obtain ⟨h1, h2⟩ := z_s2 hf
  subst h1 h2
  exact hret _ _ _ _ hP hS dX12_state_17
theorem yd_yX12_draw : (yX12_draw).cls ≠ "java/lang/invoke/MethodHandle" ∧ (yX12_draw).cls ≠ "java/lang/invoke/VarHandle" ∧ (parseMethodDescriptor (yX12_draw).desc).map (fun d => d.parameters.length) = some 1 := by decide +kernel
def fm_draw (S_0 : zSt) (a_1 : Int32) : Option (Int32 × zSt) :=
  znm (zpI S_0 1 6 (((1664525 : Int32) * (S_0.1 1 6)) + (1013904223 : Int32))) fun S_1 =>
  zck (znz a_1) <|
  some ((((S_1.1 1 6).toUInt32 >>> ((8 : Int32).toUInt32 &&& Int32.toUInt32 31)).toInt32) - (((S_1.1 1 6).toUInt32 >>> ((8 : Int32).toUInt32 &&& Int32.toUInt32 31)).toInt32) / a_1 * a_1, S_1)
set_option maxHeartbeats 4000000 in
set_option maxRecDepth 100000 in
theorem cm_draw (l : Launch) (D : va_G) (K : (Nat → Nat) × (Nat → Nat)) (cy : Nat → ClassId) (ad : Nat → Nat) (S_0 : zSt) (a_1 : Int32) (ro : Int32) (So : zSt) (hf : fm_draw S_0 a_1 = some (ro, So)) : zMI l yX12_draw (zws yX12_draw cX12_draw 2 (Option.some .int)) ({ frames := 0, cells := 0, slots := 0, locals := 0 }) D (zTy cy) K (zM cy ad) [.ref (ad 0), .int a_1] S_0 ro So := by
  refine z_metI (own := RX12) (lv := [(0, .ref (ad 0)), (1, .int a_1)]) (by decide) rfl rfl (Nat.le_of_ble_eq_true rfl) rfl ?_
  intro p e s m below meth c A Q X hK hE hD hA hret hP hS ls hl
  obtain ⟨hx, hb, hml, hown, hts⟩ := id X
  have k0 := (fun w h => List.mem_cons_of_mem _ (zFX12 w h) : ∀ w ∈ u_ws RX12 TX12 36, w ∈ zws yX12_draw cX12_draw 2 (Option.some .int))
  have k1 := hts _ (List.mem_cons_of_mem _ wt_5_95)
  have k2 := hts _ (List.mem_cons_of_mem _ wt_6_147)
  have k3 := hts _ (List.mem_cons_of_mem _ wt_6_148)
  refine lv_aload_n hx hb dX12_draw_0 rfl (lv_at hl 0 rfl) ?_
  refine va_get (D := D) (ci := 12) (v := .ref (ad 1)) (C := RX12) (T := TX12) (N := 36) hx hb hts k0 hown hK hP 0 (zM_0 cy ad S_0) rfl 0 (by decide) k1 (fun _ h9 => h9) rfl dX12_draw_1 ?_
  refine lv_bipush (v := 6) hx hb dX12_draw_4 (by decide) ?_
  refine lv_ldc hx hb hown k2 dX12_draw_6 ?_
  refine lv_aload_n hx hb dX12_draw_8 rfl (lv_at hl 0 rfl) ?_
  refine va_get (D := D) (ci := 12) (v := .ref (ad 1)) (C := RX12) (T := TX12) (N := 36) hx hb hts k0 hown hK hP 0 (zM_0 cy ad S_0) rfl 0 (by decide) k1 (fun _ h9 => h9) rfl dX12_draw_9 ?_
  refine lv_bipush (v := 6) hx hb dX12_draw_12 (by decide) ?_
  refine z_iald hx hb hK hP 1 0 (zM_1 cy ad S_0) rfl (vp_in_iff.mpr (by decide)) (k := 6) (by decide) dX12_draw_14 ?_
  refine lv_imul hx hb dX12_draw_15 ?_
  refine lv_ldc hx hb hown k3 dX12_draw_16 ?_
  refine lv_iadd hx hb dX12_draw_18 ?_
  refine z_iast hx hb hK hP (hD S_0) hS 1 0 (zM_1 cy ad S_0) rfl (vp_in_iff.mpr (by decide)) (k := 6) (by decide) dX12_draw_19 (fun H locs hP hS => ?_)
  obtain ⟨S_1, eS_1, hf⟩ := z_nm hf
  have hP := zW_putI hP eS_1 (by decide) rfl
  refine lv_aload_n hx hb dX12_draw_20 rfl (lv_at hl 0 rfl) ?_
  refine va_get (D := D) (ci := 12) (v := .ref (ad 1)) (C := RX12) (T := TX12) (N := 36) hx hb hts k0 hown hK hP 0 (zM_0 cy ad S_1) rfl 0 (by decide) k1 (fun _ h9 => h9) rfl dX12_draw_21 ?_
  refine lv_bipush (v := 6) hx hb dX12_draw_24 (by decide) ?_
  refine z_iald hx hb hK hP 1 0 (zM_1 cy ad S_1) rfl (vp_in_iff.mpr (by decide)) (k := 6) (by decide) dX12_draw_26 ?_
  refine lv_bipush (v := 8) hx hb dX12_draw_27 (by decide) ?_
  refine lv_iushr hx hb dX12_draw_29 rfl ?_
  refine lv_iload_n hx hb dX12_draw_30 rfl (lv_at hl 1 rfl) ?_
  obtain ⟨h_2, hf⟩ := z_nz hf
  refine lv_irem hx hb dX12_draw_31 h_2 ?_
  obtain ⟨h1, h2⟩ := z_s2 hf
  subst h1 h2
  exact hret _ _ _ _ hP hS dX12_draw_32
theorem yd_yX12_feed : (yX12_feed).cls ≠ "java/lang/invoke/MethodHandle" ∧ (yX12_feed).cls ≠ "java/lang/invoke/VarHandle" ∧ (parseMethodDescriptor (yX12_feed).desc).map (fun d => d.parameters.length) = some 5 := by decide +kernel
def fm_feed_L18 (a_1 : Int32) (a_2 : Int32) (a_3 : Int32) (a_4 : Int32) (a_5 : Int32) : Nat → Int32 → zSt → Option (Int32 × zSt)
  | 0, _, _ => none
  | n_18 + 1, x_1, S_2 =>
    if (20 : Int32) ≤ x_1 then (
    some (S_2.1 0 12, S_2)) else (
    znm (fun (x_3 : Int32) (S_4 : zSt) =>
    zck (zix (S_4.1 0 12) 400) <|
    znm (zpI S_4 6 ((S_4.1 0 12).toNatClampNeg) ((x_3 >>> (((24 : Int32) - ((8 : Int32) * (x_1 - x_1 / (4 : Int32) * (4 : Int32)))) &&& 31)) &&& (255 : Int32))) fun S_6 =>
    znm (zpI S_6 0 12 ((S_6.1 0 12) + (1 : Int32))) fun S_7 =>
    znm (x_1 + (1 : Int32)) fun x_8 =>
    fm_feed_L18 a_1 a_2 a_3 a_4 a_5 n_18 x_8 S_7) fun j_71 =>
    if (4 : Int32) ≤ x_1 then (
    if (8 : Int32) ≤ x_1 then (
    if (12 : Int32) ≤ x_1 then (
    if (16 : Int32) ≤ x_1 then (
    j_71 a_5 S_2) else (
    j_71 a_4 S_2)) else (
    j_71 a_3 S_2)) else (
    j_71 a_2 S_2)) else (
    j_71 a_1 S_2))
def fm_feed (S_0 : zSt) (a_1 : Int32) (a_2 : Int32) (a_3 : Int32) (a_4 : Int32) (a_5 : Int32) : Option (Int32 × zSt) :=
  if ((S_0.1 0 12) + (20 : Int32)) ≤ (400 : Int32) then (
  fm_feed_L18 a_1 a_2 a_3 a_4 a_5 zFU (0 : Int32) S_0) else (
  some ((-1 : Int32), S_0))
set_option maxHeartbeats 4000000 in
set_option maxRecDepth 100000 in
theorem cm_feed (l : Launch) (D : va_G) (K : (Nat → Nat) × (Nat → Nat)) (cy : Nat → ClassId) (ad : Nat → Nat) (S_0 : zSt) (a_1 : Int32) (a_2 : Int32) (a_3 : Int32) (a_4 : Int32) (a_5 : Int32) (ro : Int32) (So : zSt) (hf : fm_feed S_0 a_1 a_2 a_3 a_4 a_5 = some (ro, So)) : zMI l yX12_feed (zws yX12_feed cX12_feed 8 (Option.some .int)) ({ frames := 0, cells := 0, slots := 0, locals := 0 }) D (zTy cy) K (zM cy ad) [.ref (ad 0), .int a_1, .int a_2, .int a_3, .int a_4, .int a_5] S_0 ro So := by
  refine z_metI (own := RX12) (lv := [(0, .ref (ad 0)), (1, .int a_1), (2, .int a_2), (3, .int a_3), (4, .int a_4), (5, .int a_5)]) (by decide) rfl rfl (Nat.le_of_ble_eq_true rfl) rfl ?_
  intro p e s m below meth c A Q X hK hE hD hA hret hP hS ls hl
  obtain ⟨hx, hb, hml, hown, hts⟩ := id X
  have k0 := (fun w h => List.mem_cons_of_mem _ (zFX12 w h) : ∀ w ∈ u_ws RX12 TX12 36, w ∈ zws yX12_feed cX12_feed 8 (Option.some .int))
  have k1 := hts _ (List.mem_cons_of_mem _ wt_5_107)
  have k2 := hts _ (List.mem_cons_of_mem _ wt_5_102)
  refine lv_aload_n hx hb dX12_feed_0 rfl (lv_at hl 0 rfl) ?_
  refine va_get (D := D) (ci := 12) (v := .int (S_0.1 0 12)) (C := RX12) (T := TX12) (N := 36) hx hb hts k0 hown hK hP 0 (zM_0 cy ad S_0) rfl 12 (by decide) k1 (fun _ h9 => h9) rfl dX12_feed_1 ?_
  refine lv_bipush (v := 20) hx hb dX12_feed_4 (by decide) ?_
  refine lv_iadd hx hb dX12_feed_6 ?_
  refine lv_sipush (v := 400) hx hb dX12_feed_7 (by decide) ?_
  refine lv_icmp_le (tgt := 15) hx hb dX12_feed_10 (by decide) (fun c_14 => ?_) (fun c_14 => ?_)
  · have hf := z_it c_14 hf
    refine lv_iconst (v := 0) hx hb dX12_feed_15 (by decide) ?_
    refine lv_istore (lv' := [(6, .int (0 : Int32)), (0, .ref (ad 0)), (1, .int a_1), (2, .int a_2), (3, .int a_3), (4, .int a_4), (5, .int a_5)]) hx hb dX12_feed_16 hl (by decide) rfl (fun ls hl => ?_)
    have L_18 : ∀ (n_18 : Nat) (x_1 : Int32) (S_2 : zSt) (H : Heap) (locs : List Loc) (ls : Array Slot), fm_feed_L18 a_1 a_2 a_3 a_4 a_5 n_18 x_1 S_2 = some (ro, So) → va_P D vwCl (zM cy ad S_2) H → va_S A s.heap H locs → lv_has ls 8 [(0, .ref (ad 0)), (1, .int a_1), (2, .int a_2), (3, .int a_3), (4, .int a_4), (5, .int a_5), (6, .int x_1)] → W p l e ({ frames := 0, cells := 0, slots := 0, locals := 0 }) s m ([.ref (ad 0), .int a_1, .int a_2, .int a_3, .int a_4, .int a_5] : List Value).toArray below meth c H locs 0 0 Q (F0 m 18 ls []) := by
      intro n_18
      induction n_18 with
      | zero =>
        intro x_1 S_2 H locs ls hf hP hS hl
        exact z_no hf
      | succ n_18 ih_18 =>
        intro x_1 S_2 H locs ls hf hP hS hl
        rw [fm_feed_L18] at hf
        refine lv_iload hx hb dX12_feed_18 (lv_at hl 6 rfl) ?_
        refine lv_bipush (v := 20) hx hb dX12_feed_20 (by decide) ?_
        refine lv_icmp_ge (tgt := 115) hx hb dX12_feed_22 (by decide) (fun c_13 => ?_) (fun c_13 => ?_)
        · have hf := z_it c_13 hf
          refine lv_aload_n hx hb dX12_feed_115 rfl (lv_at hl 0 rfl) ?_
          refine va_get (D := D) (ci := 12) (v := .int (S_2.1 0 12)) (C := RX12) (T := TX12) (N := 36) hx hb hts k0 hown hK hP 0 (zM_0 cy ad S_2) rfl 12 (by decide) k1 (fun _ h9 => h9) rfl dX12_feed_116 ?_
          obtain ⟨h1, h2⟩ := z_s2 hf
          subst h1 h2
          exact hret _ _ _ _ hP hS dX12_feed_119
        · have hf := z_if c_13 hf
          refine lv_iload hx hb dX12_feed_25 (lv_at hl 6 rfl) ?_
          refine lv_iconst (v := 4) hx hb dX12_feed_27 (by decide) ?_
          obtain ⟨j_71, ej_71, hf⟩ := z_nm hf
          have J_71 : ∀ (x_3 : Int32) (S_4 : zSt) (H : Heap) (locs : List Loc) (ls : Array Slot), j_71 x_3 S_4 = some (ro, So) → va_P D vwCl (zM cy ad S_4) H → va_S A s.heap H locs → lv_has ls 8 [(0, .ref (ad 0)), (1, .int a_1), (2, .int a_2), (3, .int a_3), (4, .int a_4), (5, .int a_5), (6, .int x_1)] → W p l e ({ frames := 0, cells := 0, slots := 0, locals := 0 }) s m ([.ref (ad 0), .int a_1, .int a_2, .int a_3, .int a_4, .int a_5] : List Value).toArray below meth c H locs 0 0 Q (F0 m 71 ls [.int x_3]) := by
            intro x_3 S_4 H locs ls hf hP hS hl
            have hf := z_e2 ej_71 hf
            refine lv_istore (lv' := [(7, .int x_3), (0, .ref (ad 0)), (1, .int a_1), (2, .int a_2), (3, .int a_3), (4, .int a_4), (5, .int a_5), (6, .int x_1)]) hx hb dX12_feed_71 hl (by decide) rfl (fun ls hl => ?_)
            refine lv_aload_n hx hb dX12_feed_73 rfl (lv_at hl 1 rfl) ?_
            refine va_get (D := D) (ci := 12) (v := .ref (ad 6)) (C := RX12) (T := TX12) (N := 36) hx hb hts k0 hown hK hP 0 (zM_0 cy ad S_4) rfl 7 (by decide) k2 (fun _ h9 => h9) rfl dX12_feed_74 ?_
            refine lv_aload_n hx hb dX12_feed_77 rfl (lv_at hl 1 rfl) ?_
            refine va_get (D := D) (ci := 12) (v := .int (S_4.1 0 12)) (C := RX12) (T := TX12) (N := 36) hx hb hts k0 hown hK hP 0 (zM_0 cy ad S_4) rfl 12 (by decide) k1 (fun _ h9 => h9) rfl dX12_feed_78 ?_
            refine lv_iload hx hb dX12_feed_81 (lv_at hl 0 rfl) ?_
            refine lv_bipush (v := 24) hx hb dX12_feed_83 (by decide) ?_
            refine lv_bipush (v := 8) hx hb dX12_feed_85 (by decide) ?_
            refine lv_iload hx hb dX12_feed_87 (lv_at hl 7 rfl) ?_
            refine lv_iconst (v := 4) hx hb dX12_feed_89 (by decide) ?_
            refine lv_irem hx hb dX12_feed_90 (by decide) ?_
            refine lv_imul hx hb dX12_feed_91 ?_
            refine lv_isub hx hb dX12_feed_92 ?_
            refine lv_ishr hx hb dX12_feed_93 ?_
            refine lv_sipush (v := 255) hx hb dX12_feed_94 (by decide) ?_
            refine lv_iand hx hb dX12_feed_97 ?_
            obtain ⟨h_5, hf⟩ := z_ix hf
            refine z_iast hx hb hK hP (hD S_4) hS 6 0 (zM_6 cy ad S_4) rfl h_5 (k := ((S_4.1 0 12).toNatClampNeg)) rfl dX12_feed_98 (fun H locs hP hS => ?_)
            obtain ⟨S_6, eS_6, hf⟩ := z_nm hf
            have hP := zW_putI hP eS_6 (by decide) rfl
            refine lv_aload_n hx hb dX12_feed_99 rfl (lv_at hl 1 rfl) ?_
            refine lv_dup hx hb dX12_feed_100 rfl ?_
            refine va_get (D := D) (ci := 12) (v := .int (S_6.1 0 12)) (C := RX12) (T := TX12) (N := 36) hx hb hts k0 hown hK hP 0 (zM_0 cy ad S_6) rfl 12 (by decide) k1 (fun _ h9 => h9) rfl dX12_feed_101 ?_
            refine lv_iconst (v := 1) hx hb dX12_feed_104 (by decide) ?_
            refine lv_iadd hx hb dX12_feed_105 ?_
            refine va_put (D := D) (ci := 12) (v := .int ((S_6.1 0 12) + (1 : Int32))) (ty := .int) (C := RX12) (T := TX12) (N := 36) hx hb hts k0 tyX12 tyX12_ok nmX12 hown hK hP (hD S_6) hS 0 (zM_0 cy ad S_6) rfl 12 (by decide) k1 (fun _ h9 => h9) rfl (tyX12_ok 12 (by decide)) rfl rfl (Nat.le_of_ble_eq_true rfl) dX12_feed_106 (fun H locs hP _ hS => ?_)
            obtain ⟨S_7, eS_7, hf⟩ := z_nm hf
            have hP := zW_putI hP eS_7 (by decide) rfl
            obtain ⟨x_8, ex_8, hf⟩ := z_nm hf
            refine lv_iinc (v := x_8) (lv' := [(6, .int x_8), (7, .int x_3), (0, .ref (ad 0)), (1, .int a_1), (2, .int a_2), (3, .int a_3), (4, .int a_4), (5, .int a_5)]) hx hb dX12_feed_109 hl (k := 7) rfl (by rw [ex_8]; rfl) (by decide) rfl (fun ls hl => ?_)
            refine lv_goto (tgt := 18) hx hb dX12_feed_112 (by decide) ?_
            exact ih_18 x_8 S_7 _ _ _ hf hP hS (lv_sub hl [2, 3, 4, 5, 6, 7, 0] rfl)
          refine lv_icmp_ge (tgt := 35) hx hb dX12_feed_28 (by decide) (fun c_12 => ?_) (fun c_12 => ?_)
          · have hf := z_it c_12 hf
            refine lv_iload hx hb dX12_feed_35 (lv_at hl 6 rfl) ?_
            refine lv_bipush (v := 8) hx hb dX12_feed_37 (by decide) ?_
            refine lv_icmp_ge (tgt := 46) hx hb dX12_feed_39 (by decide) (fun c_11 => ?_) (fun c_11 => ?_)
            · have hf := z_it c_11 hf
              refine lv_iload hx hb dX12_feed_46 (lv_at hl 6 rfl) ?_
              refine lv_bipush (v := 12) hx hb dX12_feed_48 (by decide) ?_
              refine lv_icmp_ge (tgt := 57) hx hb dX12_feed_50 (by decide) (fun c_10 => ?_) (fun c_10 => ?_)
              · have hf := z_it c_10 hf
                refine lv_iload hx hb dX12_feed_57 (lv_at hl 6 rfl) ?_
                refine lv_bipush (v := 16) hx hb dX12_feed_59 (by decide) ?_
                refine lv_icmp_ge (tgt := 69) hx hb dX12_feed_61 (by decide) (fun c_9 => ?_) (fun c_9 => ?_)
                · have hf := z_it c_9 hf
                  refine lv_iload hx hb dX12_feed_69 (lv_at hl 5 rfl) ?_
                  exact J_71 a_5 S_2 _ _ _ hf hP hS (lv_sub hl [0, 1, 2, 3, 4, 5, 6] rfl)
                · have hf := z_if c_9 hf
                  refine lv_iload hx hb dX12_feed_64 (lv_at hl 4 rfl) ?_
                  refine lv_goto (tgt := 71) hx hb dX12_feed_66 (by decide) ?_
                  exact J_71 a_4 S_2 _ _ _ hf hP hS (lv_sub hl [0, 1, 2, 3, 4, 5, 6] rfl)
              · have hf := z_if c_10 hf
                refine lv_iload_n hx hb dX12_feed_53 rfl (lv_at hl 3 rfl) ?_
                refine lv_goto (tgt := 71) hx hb dX12_feed_54 (by decide) ?_
                exact J_71 a_3 S_2 _ _ _ hf hP hS (lv_sub hl [0, 1, 2, 3, 4, 5, 6] rfl)
            · have hf := z_if c_11 hf
              refine lv_iload_n hx hb dX12_feed_42 rfl (lv_at hl 2 rfl) ?_
              refine lv_goto (tgt := 71) hx hb dX12_feed_43 (by decide) ?_
              exact J_71 a_2 S_2 _ _ _ hf hP hS (lv_sub hl [0, 1, 2, 3, 4, 5, 6] rfl)
          · have hf := z_if c_12 hf
            refine lv_iload_n hx hb dX12_feed_31 rfl (lv_at hl 1 rfl) ?_
            refine lv_goto (tgt := 71) hx hb dX12_feed_32 (by decide) ?_
            exact J_71 a_1 S_2 _ _ _ hf hP hS (lv_sub hl [0, 1, 2, 3, 4, 5, 6] rfl)
    exact L_18 zFU (0 : Int32) S_0 _ _ _ hf hP hS (lv_sub hl [1, 2, 3, 4, 5, 6, 0] rfl)
  · have hf := z_if c_14 hf
    refine lv_iconst (v := -1) hx hb dX12_feed_13 (by decide) ?_
    obtain ⟨h1, h2⟩ := z_s2 hf
    subst h1 h2
    exact hret _ _ _ _ hP hS dX12_feed_14
theorem yd_yX12_end : (yX12_end).cls ≠ "java/lang/invoke/MethodHandle" ∧ (yX12_end).cls ≠ "java/lang/invoke/VarHandle" ∧ (parseMethodDescriptor (yX12_end).desc).map (fun d => d.parameters.length) = some 1 := by decide +kernel
def fm_end (S_0 : zSt) (a_1 : Int32) : Option (Int32 × zSt) :=
  zbd (fm_isIn S_0 a_1 (0 : Int32) (S_0.1 0 12)) fun r_1 S_2 =>
  if r_1 = 0 then (
  some ((0 : Int32), S_2)) else (
  znm (zpI S_2 0 12 a_1) fun S_4 =>
  some ((1 : Int32), S_4))
set_option maxHeartbeats 4000000 in
set_option maxRecDepth 100000 in
theorem cm_end (l : Launch) (D : va_G) (K : (Nat → Nat) × (Nat → Nat)) (cy : Nat → ClassId) (ad : Nat → Nat) (S_0 : zSt) (a_1 : Int32) (ro : Int32) (So : zSt) (hf : fm_end S_0 a_1 = some (ro, So)) : zMI l yX12_end (zws yX12_end cX12_end 2 (Option.some .boolean)) ({ frames := 1, cells := 0, slots := 0, locals := 22 }) D (zTy cy) K (zM cy ad) [.ref (ad 0), .int a_1] S_0 ro So := by
  refine z_metZ (own := RX12) (lv := [(0, .ref (ad 0)), (1, .int a_1)]) (by decide) rfl rfl (Nat.le_of_ble_eq_true rfl) rfl ?_
  intro p e s m below meth c A Q X hK hE hD hA hret hP hS ls hl
  obtain ⟨hx, hb, hml, hown, hts⟩ := id X
  have k0 := (fun w h => List.mem_cons_of_mem _ (zFX12 w h) : ∀ w ∈ u_ws RX12 TX12 36, w ∈ zws yX12_end cX12_end 2 (Option.some .boolean))
  have k1 := hts _ (List.mem_cons_of_mem _ wt_5_107)
  refine lv_iload_n hx hb dX12_end_0 rfl (lv_at hl 1 rfl) ?_
  refine lv_iconst (v := 0) hx hb dX12_end_1 (by decide) ?_
  refine lv_aload_n hx hb dX12_end_2 rfl (lv_at hl 0 rfl) ?_
  refine va_get (D := D) (ci := 12) (v := .int (S_0.1 0 12)) (C := RX12) (T := TX12) (N := 36) hx hb hts k0 hown hK hP 0 (zM_0 cy ad S_0) rfl 12 (by decide) k1 (fun _ h9 => h9) rfl dX12_end_3 ?_
  obtain ⟨r_1, S_2, h_3, hf⟩ := z_bd hf
  refine z_cSI (As := [.int a_1, .int (0 : Int32), .int (S_0.1 0 12)]) (rest := []) X hK hE hD hA hP hS (cm_isIn l D K cy ad S_0 _ _ _ _ _ h_3) (va_cwS 3 hts (z_gS wt_5_216 wt_5_217 wt_1_13 wt_5_218) rfl rfl rfl yd_yX12_isIn ⟨Nat.le_of_ble_eq_true rfl, Nat.le_of_ble_eq_true rfl⟩) hl.1 rfl rfl (Nat.le_of_ble_eq_true rfl) dX12_end_6 (fun H locs hP hS => ?_)
  refine lv_if_ne (tgt := 14) hx hb dX12_end_9 (by decide) (fun c_5 => ?_) (fun c_5 => ?_)
  · have hf := z_if c_5 hf
    refine lv_aload_n hx hb dX12_end_14 rfl (lv_at hl 0 rfl) ?_
    refine lv_iload_n hx hb dX12_end_15 rfl (lv_at hl 1 rfl) ?_
    refine va_put (D := D) (ci := 12) (v := .int a_1) (ty := .int) (C := RX12) (T := TX12) (N := 36) hx hb hts k0 tyX12 tyX12_ok nmX12 hown hK hP (hD S_2) hS 0 (zM_0 cy ad S_2) rfl 12 (by decide) k1 (fun _ h9 => h9) rfl (tyX12_ok 12 (by decide)) rfl rfl (Nat.le_of_ble_eq_true rfl) dX12_end_16 (fun H locs hP _ hS => ?_)
    obtain ⟨S_4, eS_4, hf⟩ := z_nm hf
    have hP := zW_putI hP eS_4 (by decide) rfl
    refine lv_iconst (v := 1) hx hb dX12_end_19 (by decide) ?_
    obtain ⟨h1, h2⟩ := z_s2 hf
    subst h1 h2
    exact hret _ _ _ _ rfl hP hS dX12_end_20
  · have hf := z_it c_5 hf
    refine lv_iconst (v := 0) hx hb dX12_end_12 (by decide) ?_
    obtain ⟨h1, h2⟩ := z_s2 hf
    subst h1 h2
    exact hret _ _ _ _ rfl hP hS dX12_end_13
theorem yd_yX12_see : (yX12_see).cls ≠ "java/lang/invoke/MethodHandle" ∧ (yX12_see).cls ≠ "java/lang/invoke/VarHandle" ∧ (parseMethodDescriptor (yX12_see).desc).map (fun d => d.parameters.length) = some 1 := by decide +kernel
def fm_see (S_0 : zSt) (a_1 : Int32) : Option (Int32 × zSt) :=
  znm (fun (x_1 : Int32) (S_2 : zSt) =>
  some (x_1, S_2)) fun j_18 =>
  if (S_0.1 0 12) ≤ a_1 then (
  j_18 (-1 : Int32) S_0) else (
  zck (zix a_1 400) <|
  j_18 (S_0.1 6 (a_1.toNatClampNeg)) S_0)
set_option maxHeartbeats 4000000 in
set_option maxRecDepth 100000 in
theorem cm_see (l : Launch) (D : va_G) (K : (Nat → Nat) × (Nat → Nat)) (cy : Nat → ClassId) (ad : Nat → Nat) (S_0 : zSt) (a_1 : Int32) (ro : Int32) (So : zSt) (hf : fm_see S_0 a_1 = some (ro, So)) : zMI l yX12_see (zws yX12_see cX12_see 2 (Option.some .int)) ({ frames := 0, cells := 0, slots := 0, locals := 0 }) D (zTy cy) K (zM cy ad) [.ref (ad 0), .int a_1] S_0 ro So := by
  refine z_metI (own := RX12) (lv := [(0, .ref (ad 0)), (1, .int a_1)]) (by decide) rfl rfl (Nat.le_of_ble_eq_true rfl) rfl ?_
  intro p e s m below meth c A Q X hK hE hD hA hret hP hS ls hl
  obtain ⟨hx, hb, hml, hown, hts⟩ := id X
  have k0 := (fun w h => List.mem_cons_of_mem _ (zFX12 w h) : ∀ w ∈ u_ws RX12 TX12 36, w ∈ zws yX12_see cX12_see 2 (Option.some .int))
  have k1 := hts _ (List.mem_cons_of_mem _ wt_5_107)
  have k2 := hts _ (List.mem_cons_of_mem _ wt_5_102)
  refine lv_iload_n hx hb dX12_see_0 rfl (lv_at hl 1 rfl) ?_
  refine lv_aload_n hx hb dX12_see_1 rfl (lv_at hl 0 rfl) ?_
  refine va_get (D := D) (ci := 12) (v := .int (S_0.1 0 12)) (C := RX12) (T := TX12) (N := 36) hx hb hts k0 hown hK hP 0 (zM_0 cy ad S_0) rfl 12 (by decide) k1 (fun _ h9 => h9) rfl dX12_see_2 ?_
  obtain ⟨j_18, ej_18, hf⟩ := z_nm hf
  have J_18 : ∀ (x_1 : Int32) (S_2 : zSt) (H : Heap) (locs : List Loc) (ls : Array Slot), j_18 x_1 S_2 = some (ro, So) → va_P D vwCl (zM cy ad S_2) H → va_S A s.heap H locs → lv_has ls 2 [] → W p l e ({ frames := 0, cells := 0, slots := 0, locals := 0 }) s m ([.ref (ad 0), .int a_1] : List Value).toArray below meth c H locs 0 0 Q (F0 m 18 ls [.int x_1]) := by
    intro x_1 S_2 H locs ls hf hP hS hl
    have hf := z_e2 ej_18 hf
    obtain ⟨h1, h2⟩ := z_s2 hf
    subst h1 h2
    exact hret _ _ _ _ hP hS dX12_see_18
  refine lv_icmp_ge (tgt := 17) hx hb dX12_see_5 (by decide) (fun c_4 => ?_) (fun c_4 => ?_)
  · have hf := z_it c_4 hf
    refine lv_iconst (v := -1) hx hb dX12_see_17 (by decide) ?_
    exact J_18 (-1 : Int32) S_0 _ _ _ hf hP hS (lv_sub hl [] rfl)
  · have hf := z_if c_4 hf
    refine lv_aload_n hx hb dX12_see_8 rfl (lv_at hl 0 rfl) ?_
    refine va_get (D := D) (ci := 12) (v := .ref (ad 6)) (C := RX12) (T := TX12) (N := 36) hx hb hts k0 hown hK hP 0 (zM_0 cy ad S_0) rfl 7 (by decide) k2 (fun _ h9 => h9) rfl dX12_see_9 ?_
    refine lv_iload_n hx hb dX12_see_12 rfl (lv_at hl 1 rfl) ?_
    obtain ⟨h_3, hf⟩ := z_ix hf
    refine z_iald hx hb hK hP 6 0 (zM_6 cy ad S_0) rfl h_3 (k := (a_1.toNatClampNeg)) rfl dX12_see_13 ?_
    refine lv_goto (tgt := 18) hx hb dX12_see_14 (by decide) ?_
    exact J_18 (S_0.1 6 (a_1.toNatClampNeg)) S_0 _ _ _ hf hP hS (lv_sub hl [] rfl)
theorem yd_yX12_isLetter : (yX12_isLetter).cls ≠ "java/lang/invoke/MethodHandle" ∧ (yX12_isLetter).cls ≠ "java/lang/invoke/VarHandle" ∧ (parseMethodDescriptor (yX12_isLetter).desc).map (fun d => d.parameters.length) = some 1 := by decide +kernel
def fm_isLetter (S_0 : zSt) (a_1 : Int32) : Option (Int32 × zSt) :=
  zbd (fm_isIn S_0 a_1 (97 : Int32) (122 : Int32)) fun r_1 S_2 =>
  znm (fun (x_4 : Int32) (S_5 : zSt) =>
  zck (zbo x_4) <|
  some (x_4, S_5)) fun j_27 =>
  znm (fun (S_7 : zSt) =>
  j_27 (1 : Int32) S_7) fun j_22 =>
  if r_1 = 0 then (
  zbd (fm_isIn S_2 a_1 (65 : Int32) (90 : Int32)) fun r_8 S_9 =>
  if r_8 = 0 then (
  j_27 (0 : Int32) S_9) else (
  j_22  S_9)) else (
  j_22  S_2)
set_option maxHeartbeats 4000000 in
set_option maxRecDepth 100000 in
theorem cm_isLetter (l : Launch) (D : va_G) (K : (Nat → Nat) × (Nat → Nat)) (cy : Nat → ClassId) (ad : Nat → Nat) (S_0 : zSt) (a_1 : Int32) (ro : Int32) (So : zSt) (hf : fm_isLetter S_0 a_1 = some (ro, So)) : zMI l yX12_isLetter (zws yX12_isLetter cX12_isLetter 1 (Option.some .boolean)) ({ frames := 1, cells := 0, slots := 0, locals := 22 }) D (zTy cy) K (zM cy ad) [.int a_1] S_0 ro So := by
  refine z_metZ (own := RX12) (lv := [(0, .int a_1)]) (by decide) rfl rfl (Nat.le_of_ble_eq_true rfl) rfl ?_
  intro p e s m below meth c A Q X hK hE hD hA hret hP hS ls hl
  obtain ⟨hx, hb, hml, hown, hts⟩ := id X
  refine lv_iload_n hx hb dX12_isLetter_0 rfl (lv_at hl 0 rfl) ?_
  refine lv_bipush (v := 97) hx hb dX12_isLetter_1 (by decide) ?_
  refine lv_bipush (v := 122) hx hb dX12_isLetter_3 (by decide) ?_
  obtain ⟨r_1, S_2, h_3, hf⟩ := z_bd hf
  refine z_cSI (As := [.int a_1, .int (97 : Int32), .int (122 : Int32)]) (rest := []) X hK hE hD hA hP hS (cm_isIn l D K cy ad S_0 _ _ _ _ _ h_3) (va_cwS 3 hts (z_gS wt_5_216 wt_5_217 wt_1_13 wt_5_218) rfl rfl rfl yd_yX12_isIn ⟨Nat.le_of_ble_eq_true rfl, Nat.le_of_ble_eq_true rfl⟩) hl.1 rfl rfl (Nat.le_of_ble_eq_true rfl) dX12_isLetter_5 (fun H locs hP hS => ?_)
  obtain ⟨j_27, ej_27, hf⟩ := z_nm hf
  have J_27 : ∀ (x_4 : Int32) (S_5 : zSt) (H : Heap) (locs : List Loc) (ls : Array Slot), j_27 x_4 S_5 = some (ro, So) → va_P D vwCl (zM cy ad S_5) H → va_S A s.heap H locs → lv_has ls 1 [] → W p l e ({ frames := 1, cells := 0, slots := 0, locals := 22 }) s m ([.int a_1] : List Value).toArray below meth c H locs 0 0 Q (F0 m 27 ls [.int x_4]) := by
    intro x_4 S_5 H locs ls hf hP hS hl
    have hf := z_e2 ej_27 hf
    obtain ⟨h_6, hf⟩ := z_bo hf
    obtain ⟨h1, h2⟩ := z_s2 hf
    subst h1 h2
    exact hret _ _ _ _ h_6 hP hS dX12_isLetter_27
  obtain ⟨j_22, ej_22, hf⟩ := z_nm hf
  have J_22 : ∀ (S_7 : zSt) (H : Heap) (locs : List Loc) (ls : Array Slot), j_22  S_7 = some (ro, So) → va_P D vwCl (zM cy ad S_7) H → va_S A s.heap H locs → lv_has ls 1 [] → W p l e ({ frames := 1, cells := 0, slots := 0, locals := 22 }) s m ([.int a_1] : List Value).toArray below meth c H locs 0 0 Q (F0 m 22 ls []) := by
    intro  S_7 H locs ls hf hP hS hl
    have hf := z_e1 ej_22 hf
    refine lv_iconst (v := 1) hx hb dX12_isLetter_22 (by decide) ?_
    refine lv_goto (tgt := 27) hx hb dX12_isLetter_23 (by decide) ?_
    exact J_27 (1 : Int32) S_7 _ _ _ hf hP hS (lv_sub hl [] rfl)
  refine lv_if_ne (tgt := 22) hx hb dX12_isLetter_8 (by decide) (fun c_12 => ?_) (fun c_12 => ?_)
  · have hf := z_if c_12 hf
    exact J_22  S_2 _ _ _ hf hP hS (lv_sub hl [] rfl)
  · have hf := z_it c_12 hf
    refine lv_iload_n hx hb dX12_isLetter_11 rfl (lv_at hl 0 rfl) ?_
    refine lv_bipush (v := 65) hx hb dX12_isLetter_12 (by decide) ?_
    refine lv_bipush (v := 90) hx hb dX12_isLetter_14 (by decide) ?_
    obtain ⟨r_8, S_9, h_10, hf⟩ := z_bd hf
    refine z_cSI (As := [.int a_1, .int (65 : Int32), .int (90 : Int32)]) (rest := []) X hK hE hD hA hP hS (cm_isIn l D K cy ad S_2 _ _ _ _ _ h_10) (va_cwS 3 hts (z_gS wt_5_216 wt_5_217 wt_1_13 wt_5_218) rfl rfl rfl yd_yX12_isIn ⟨Nat.le_of_ble_eq_true rfl, Nat.le_of_ble_eq_true rfl⟩) hl.1 rfl rfl (Nat.le_of_ble_eq_true rfl) dX12_isLetter_16 (fun H locs hP hS => ?_)
    refine lv_if_eq (tgt := 26) hx hb dX12_isLetter_19 (by decide) (fun c_11 => ?_) (fun c_11 => ?_)
    · have hf := z_it c_11 hf
      refine lv_iconst (v := 0) hx hb dX12_isLetter_26 (by decide) ?_
      exact J_27 (0 : Int32) S_9 _ _ _ hf hP hS (lv_sub hl [] rfl)
    · have hf := z_if c_11 hf
      exact J_22  S_9 _ _ _ hf hP hS (lv_sub hl [] rfl)
theorem yd_yX12_isDigit : (yX12_isDigit).cls ≠ "java/lang/invoke/MethodHandle" ∧ (yX12_isDigit).cls ≠ "java/lang/invoke/VarHandle" ∧ (parseMethodDescriptor (yX12_isDigit).desc).map (fun d => d.parameters.length) = some 1 := by decide +kernel
def fm_isDigit (S_0 : zSt) (a_1 : Int32) : Option (Int32 × zSt) :=
  zbd (fm_isIn S_0 a_1 (48 : Int32) (57 : Int32)) fun r_1 S_2 =>
  zck (zbo r_1) <|
  some (r_1, S_2)
set_option maxHeartbeats 4000000 in
set_option maxRecDepth 100000 in
theorem cm_isDigit (l : Launch) (D : va_G) (K : (Nat → Nat) × (Nat → Nat)) (cy : Nat → ClassId) (ad : Nat → Nat) (S_0 : zSt) (a_1 : Int32) (ro : Int32) (So : zSt) (hf : fm_isDigit S_0 a_1 = some (ro, So)) : zMI l yX12_isDigit (zws yX12_isDigit cX12_isDigit 1 (Option.some .boolean)) ({ frames := 1, cells := 0, slots := 0, locals := 22 }) D (zTy cy) K (zM cy ad) [.int a_1] S_0 ro So := by
  refine z_metZ (own := RX12) (lv := [(0, .int a_1)]) (by decide) rfl rfl (Nat.le_of_ble_eq_true rfl) rfl ?_
  intro p e s m below meth c A Q X hK hE hD hA hret hP hS ls hl
  obtain ⟨hx, hb, hml, hown, hts⟩ := id X
  refine lv_iload_n hx hb dX12_isDigit_0 rfl (lv_at hl 0 rfl) ?_
  refine lv_bipush (v := 48) hx hb dX12_isDigit_1 (by decide) ?_
  refine lv_bipush (v := 57) hx hb dX12_isDigit_3 (by decide) ?_
  obtain ⟨r_1, S_2, h_3, hf⟩ := z_bd hf
  refine z_cSI (As := [.int a_1, .int (48 : Int32), .int (57 : Int32)]) (rest := []) X hK hE hD hA hP hS (cm_isIn l D K cy ad S_0 _ _ _ _ _ h_3) (va_cwS 3 hts (z_gS wt_5_216 wt_5_217 wt_1_13 wt_5_218) rfl rfl rfl yd_yX12_isIn ⟨Nat.le_of_ble_eq_true rfl, Nat.le_of_ble_eq_true rfl⟩) hl.1 rfl rfl (Nat.le_of_ble_eq_true rfl) dX12_isDigit_5 (fun H locs hP hS => ?_)
  obtain ⟨h_4, hf⟩ := z_bo hf
  obtain ⟨h1, h2⟩ := z_s2 hf
  subst h1 h2
  exact hret _ _ _ _ h_4 hP hS dX12_isDigit_8
theorem yd_yX12_bad : (yX12_bad).cls ≠ "java/lang/invoke/MethodHandle" ∧ (yX12_bad).cls ≠ "java/lang/invoke/VarHandle" ∧ (parseMethodDescriptor (yX12_bad).desc).map (fun d => d.parameters.length) = some 1 := by decide +kernel
def fm_bad (S_0 : zSt) (a_1 : Int32) : Option (Int32 × zSt) :=
  znm (zpI S_0 0 17 a_1) fun S_1 =>
  znm (zpI S_1 0 18 (S_1.1 0 15)) fun S_2 =>
  some ((0 : Int32), S_2)
set_option maxHeartbeats 4000000 in
set_option maxRecDepth 100000 in
theorem cm_bad (l : Launch) (D : va_G) (K : (Nat → Nat) × (Nat → Nat)) (cy : Nat → ClassId) (ad : Nat → Nat) (S_0 : zSt) (a_1 : Int32) (ro : Int32) (So : zSt) (hf : fm_bad S_0 a_1 = some (ro, So)) : zMI l yX12_bad (zws yX12_bad cX12_bad 2 (Option.some .boolean)) ({ frames := 0, cells := 0, slots := 0, locals := 0 }) D (zTy cy) K (zM cy ad) [.ref (ad 0), .int a_1] S_0 ro So := by
  refine z_metZ (own := RX12) (lv := [(0, .ref (ad 0)), (1, .int a_1)]) (by decide) rfl rfl (Nat.le_of_ble_eq_true rfl) rfl ?_
  intro p e s m below meth c A Q X hK hE hD hA hret hP hS ls hl
  obtain ⟨hx, hb, hml, hown, hts⟩ := id X
  have k0 := (fun w h => List.mem_cons_of_mem _ (zFX12 w h) : ∀ w ∈ u_ws RX12 TX12 36, w ∈ zws yX12_bad cX12_bad 2 (Option.some .boolean))
  have k1 := hts _ (List.mem_cons_of_mem _ wt_5_112)
  have k2 := hts _ (List.mem_cons_of_mem _ wt_5_110)
  have k3 := hts _ (List.mem_cons_of_mem _ wt_5_113)
  refine lv_aload_n hx hb dX12_bad_0 rfl (lv_at hl 0 rfl) ?_
  refine lv_iload_n hx hb dX12_bad_1 rfl (lv_at hl 1 rfl) ?_
  refine va_put (D := D) (ci := 12) (v := .int a_1) (ty := .int) (C := RX12) (T := TX12) (N := 36) hx hb hts k0 tyX12 tyX12_ok nmX12 hown hK hP (hD S_0) hS 0 (zM_0 cy ad S_0) rfl 17 (by decide) k1 (fun _ h9 => h9) rfl (tyX12_ok 17 (by decide)) rfl rfl (Nat.le_of_ble_eq_true rfl) dX12_bad_2 (fun H locs hP _ hS => ?_)
  obtain ⟨S_1, eS_1, hf⟩ := z_nm hf
  have hP := zW_putI hP eS_1 (by decide) rfl
  refine lv_aload_n hx hb dX12_bad_5 rfl (lv_at hl 0 rfl) ?_
  refine lv_aload_n hx hb dX12_bad_6 rfl (lv_at hl 0 rfl) ?_
  refine va_get (D := D) (ci := 12) (v := .int (S_1.1 0 15)) (C := RX12) (T := TX12) (N := 36) hx hb hts k0 hown hK hP 0 (zM_0 cy ad S_1) rfl 15 (by decide) k2 (fun _ h9 => h9) rfl dX12_bad_7 ?_
  refine va_put (D := D) (ci := 12) (v := .int (S_1.1 0 15)) (ty := .int) (C := RX12) (T := TX12) (N := 36) hx hb hts k0 tyX12 tyX12_ok nmX12 hown hK hP (hD S_1) hS 0 (zM_0 cy ad S_1) rfl 18 (by decide) k3 (fun _ h9 => h9) rfl (tyX12_ok 18 (by decide)) rfl rfl (Nat.le_of_ble_eq_true rfl) dX12_bad_10 (fun H locs hP _ hS => ?_)
  obtain ⟨S_2, eS_2, hf⟩ := z_nm hf
  have hP := zW_putI hP eS_2 (by decide) rfl
  refine lv_iconst (v := 0) hx hb dX12_bad_13 (by decide) ?_
  obtain ⟨h1, h2⟩ := z_s2 hf
  subst h1 h2
  exact hret _ _ _ _ rfl hP hS dX12_bad_14
theorem yd_yX12_lay : (yX12_lay).cls ≠ "java/lang/invoke/MethodHandle" ∧ (yX12_lay).cls ≠ "java/lang/invoke/VarHandle" ∧ (parseMethodDescriptor (yX12_lay).desc).map (fun d => d.parameters.length) = some 2 := by decide +kernel
def fm_lay (S_0 : zSt) (a_1 : Int32) (a_2 : Int32) : Option (Unit × zSt) :=
  zck (zix ((2 : Int32) * (S_0.1 0 11)) 820) <|
  znm (zpI S_0 5 (((2 : Int32) * (S_0.1 0 11)).toNatClampNeg) a_1) fun S_2 =>
  zck (zix (((2 : Int32) * (S_2.1 0 11)) + (1 : Int32)) 820) <|
  znm (zpI S_2 5 ((((2 : Int32) * (S_2.1 0 11)) + (1 : Int32)).toNatClampNeg) a_2) fun S_4 =>
  znm (zpI S_4 0 11 ((S_4.1 0 11) + (1 : Int32))) fun S_5 =>
  some ((), S_5)
set_option maxHeartbeats 4000000 in
set_option maxRecDepth 100000 in
theorem cm_lay (l : Launch) (D : va_G) (K : (Nat → Nat) × (Nat → Nat)) (cy : Nat → ClassId) (ad : Nat → Nat) (S_0 : zSt) (a_1 : Int32) (a_2 : Int32) (So : zSt) (hf : fm_lay S_0 a_1 a_2 = some ((), So)) : zMV l yX12_lay (zws yX12_lay cX12_lay 3 none) ({ frames := 0, cells := 0, slots := 0, locals := 0 }) D (zTy cy) K (zM cy ad) [.ref (ad 0), .int a_1, .int a_2] S_0 So := by
  refine z_metV (own := RX12) (lv := [(0, .ref (ad 0)), (1, .int a_1), (2, .int a_2)]) (by decide) rfl rfl (Nat.le_of_ble_eq_true rfl) rfl ?_
  intro p e s m below meth c A Q X hK hE hD hA hret hP hS ls hl
  obtain ⟨hx, hb, hml, hown, hts⟩ := id X
  have k0 := (fun w h => List.mem_cons_of_mem _ (zFX12 w h) : ∀ w ∈ u_ws RX12 TX12 36, w ∈ zws yX12_lay cX12_lay 3 none)
  have k1 := hts _ (List.mem_cons_of_mem _ wt_5_101)
  have k2 := hts _ (List.mem_cons_of_mem _ wt_5_106)
  refine lv_aload_n hx hb dX12_lay_0 rfl (lv_at hl 0 rfl) ?_
  refine va_get (D := D) (ci := 12) (v := .ref (ad 5)) (C := RX12) (T := TX12) (N := 36) hx hb hts k0 hown hK hP 0 (zM_0 cy ad S_0) rfl 6 (by decide) k1 (fun _ h9 => h9) rfl dX12_lay_1 ?_
  refine lv_iconst (v := 2) hx hb dX12_lay_4 (by decide) ?_
  refine lv_aload_n hx hb dX12_lay_5 rfl (lv_at hl 0 rfl) ?_
  refine va_get (D := D) (ci := 12) (v := .int (S_0.1 0 11)) (C := RX12) (T := TX12) (N := 36) hx hb hts k0 hown hK hP 0 (zM_0 cy ad S_0) rfl 11 (by decide) k2 (fun _ h9 => h9) rfl dX12_lay_6 ?_
  refine lv_imul hx hb dX12_lay_9 ?_
  refine lv_iload_n hx hb dX12_lay_10 rfl (lv_at hl 1 rfl) ?_
  obtain ⟨h_1, hf⟩ := z_ix hf
  refine z_iast hx hb hK hP (hD S_0) hS 5 0 (zM_5 cy ad S_0) rfl h_1 (k := (((2 : Int32) * (S_0.1 0 11)).toNatClampNeg)) rfl dX12_lay_11 (fun H locs hP hS => ?_)
  obtain ⟨S_2, eS_2, hf⟩ := z_nm hf
  have hP := zW_putI hP eS_2 (by decide) rfl
  refine lv_aload_n hx hb dX12_lay_12 rfl (lv_at hl 0 rfl) ?_
  refine va_get (D := D) (ci := 12) (v := .ref (ad 5)) (C := RX12) (T := TX12) (N := 36) hx hb hts k0 hown hK hP 0 (zM_0 cy ad S_2) rfl 6 (by decide) k1 (fun _ h9 => h9) rfl dX12_lay_13 ?_
  refine lv_iconst (v := 2) hx hb dX12_lay_16 (by decide) ?_
  refine lv_aload_n hx hb dX12_lay_17 rfl (lv_at hl 0 rfl) ?_
  refine va_get (D := D) (ci := 12) (v := .int (S_2.1 0 11)) (C := RX12) (T := TX12) (N := 36) hx hb hts k0 hown hK hP 0 (zM_0 cy ad S_2) rfl 11 (by decide) k2 (fun _ h9 => h9) rfl dX12_lay_18 ?_
  refine lv_imul hx hb dX12_lay_21 ?_
  refine lv_iconst (v := 1) hx hb dX12_lay_22 (by decide) ?_
  refine lv_iadd hx hb dX12_lay_23 ?_
  refine lv_iload_n hx hb dX12_lay_24 rfl (lv_at hl 2 rfl) ?_
  obtain ⟨h_3, hf⟩ := z_ix hf
  refine z_iast hx hb hK hP (hD S_2) hS 5 0 (zM_5 cy ad S_2) rfl h_3 (k := ((((2 : Int32) * (S_2.1 0 11)) + (1 : Int32)).toNatClampNeg)) rfl dX12_lay_25 (fun H locs hP hS => ?_)
  obtain ⟨S_4, eS_4, hf⟩ := z_nm hf
  have hP := zW_putI hP eS_4 (by decide) rfl
  refine lv_aload_n hx hb dX12_lay_26 rfl (lv_at hl 0 rfl) ?_
  refine lv_dup hx hb dX12_lay_27 rfl ?_
  refine va_get (D := D) (ci := 12) (v := .int (S_4.1 0 11)) (C := RX12) (T := TX12) (N := 36) hx hb hts k0 hown hK hP 0 (zM_0 cy ad S_4) rfl 11 (by decide) k2 (fun _ h9 => h9) rfl dX12_lay_28 ?_
  refine lv_iconst (v := 1) hx hb dX12_lay_31 (by decide) ?_
  refine lv_iadd hx hb dX12_lay_32 ?_
  refine va_put (D := D) (ci := 12) (v := .int ((S_4.1 0 11) + (1 : Int32))) (ty := .int) (C := RX12) (T := TX12) (N := 36) hx hb hts k0 tyX12 tyX12_ok nmX12 hown hK hP (hD S_4) hS 0 (zM_0 cy ad S_4) rfl 11 (by decide) k2 (fun _ h9 => h9) rfl (tyX12_ok 11 (by decide)) rfl rfl (Nat.le_of_ble_eq_true rfl) dX12_lay_33 (fun H locs hP _ hS => ?_)
  obtain ⟨S_5, eS_5, hf⟩ := z_nm hf
  have hP := zW_putI hP eS_5 (by decide) rfl
  obtain ⟨h1, h2⟩ := z_s2 hf
  subst h2
  exact hret _ _ _ _ hP hS dX12_lay_36
theorem yd_yX12_fault : (yX12_fault).cls ≠ "java/lang/invoke/MethodHandle" ∧ (yX12_fault).cls ≠ "java/lang/invoke/VarHandle" ∧ (parseMethodDescriptor (yX12_fault).desc).map (fun d => d.parameters.length) = some 1 := by decide +kernel
def fm_fault (S_0 : zSt) (a_1 : Int32) : Option (Int32 × zSt) :=
  znm (fun (x_1 : Int32) (S_2 : zSt) =>
  some (x_1, S_2)) fun j_24 =>
  if a_1 = 0 then (
  j_24 (S_0.1 0 19) S_0) else (
  if a_1 = (1 : Int32) then (
  j_24 (S_0.1 0 21) S_0) else (
  j_24 (-1 : Int32) S_0))
set_option maxHeartbeats 4000000 in
set_option maxRecDepth 100000 in
theorem cm_fault (l : Launch) (D : va_G) (K : (Nat → Nat) × (Nat → Nat)) (cy : Nat → ClassId) (ad : Nat → Nat) (S_0 : zSt) (a_1 : Int32) (ro : Int32) (So : zSt) (hf : fm_fault S_0 a_1 = some (ro, So)) : zMI l yX12_fault (zws yX12_fault cX12_fault 2 (Option.some .int)) ({ frames := 0, cells := 0, slots := 0, locals := 0 }) D (zTy cy) K (zM cy ad) [.ref (ad 0), .int a_1] S_0 ro So := by
  refine z_metI (own := RX12) (lv := [(0, .ref (ad 0)), (1, .int a_1)]) (by decide) rfl rfl (Nat.le_of_ble_eq_true rfl) rfl ?_
  intro p e s m below meth c A Q X hK hE hD hA hret hP hS ls hl
  obtain ⟨hx, hb, hml, hown, hts⟩ := id X
  have k0 := (fun w h => List.mem_cons_of_mem _ (zFX12 w h) : ∀ w ∈ u_ws RX12 TX12 36, w ∈ zws yX12_fault cX12_fault 2 (Option.some .int))
  have k1 := hts _ (List.mem_cons_of_mem _ wt_5_116)
  have k2 := hts _ (List.mem_cons_of_mem _ wt_5_114)
  refine lv_iload_n hx hb dX12_fault_0 rfl (lv_at hl 1 rfl) ?_
  obtain ⟨j_24, ej_24, hf⟩ := z_nm hf
  have J_24 : ∀ (x_1 : Int32) (S_2 : zSt) (H : Heap) (locs : List Loc) (ls : Array Slot), j_24 x_1 S_2 = some (ro, So) → va_P D vwCl (zM cy ad S_2) H → va_S A s.heap H locs → lv_has ls 2 [] → W p l e ({ frames := 0, cells := 0, slots := 0, locals := 0 }) s m ([.ref (ad 0), .int a_1] : List Value).toArray below meth c H locs 0 0 Q (F0 m 24 ls [.int x_1]) := by
    intro x_1 S_2 H locs ls hf hP hS hl
    have hf := z_e2 ej_24 hf
    obtain ⟨h1, h2⟩ := z_s2 hf
    subst h1 h2
    exact hret _ _ _ _ hP hS dX12_fault_24
  refine lv_if_ne (tgt := 11) hx hb dX12_fault_1 (by decide) (fun c_4 => ?_) (fun c_4 => ?_)
  · have hf := z_if c_4 hf
    refine lv_iload_n hx hb dX12_fault_11 rfl (lv_at hl 1 rfl) ?_
    refine lv_iconst (v := 1) hx hb dX12_fault_12 (by decide) ?_
    refine lv_icmp_ne (tgt := 23) hx hb dX12_fault_13 (by decide) (fun c_3 => ?_) (fun c_3 => ?_)
    · have hf := z_if c_3 hf
      refine lv_iconst (v := -1) hx hb dX12_fault_23 (by decide) ?_
      exact J_24 (-1 : Int32) S_0 _ _ _ hf hP hS (lv_sub hl [] rfl)
    · have hf := z_it c_3 hf
      refine lv_aload_n hx hb dX12_fault_16 rfl (lv_at hl 0 rfl) ?_
      refine va_get (D := D) (ci := 12) (v := .int (S_0.1 0 21)) (C := RX12) (T := TX12) (N := 36) hx hb hts k0 hown hK hP 0 (zM_0 cy ad S_0) rfl 21 (by decide) k1 (fun _ h9 => h9) rfl dX12_fault_17 ?_
      refine lv_goto (tgt := 24) hx hb dX12_fault_20 (by decide) ?_
      exact J_24 (S_0.1 0 21) S_0 _ _ _ hf hP hS (lv_sub hl [] rfl)
  · have hf := z_it c_4 hf
    refine lv_aload_n hx hb dX12_fault_4 rfl (lv_at hl 0 rfl) ?_
    refine va_get (D := D) (ci := 12) (v := .int (S_0.1 0 19)) (C := RX12) (T := TX12) (N := 36) hx hb hts k0 hown hK hP 0 (zM_0 cy ad S_0) rfl 19 (by decide) k2 (fun _ h9 => h9) rfl dX12_fault_5 ?_
    refine lv_goto (tgt := 24) hx hb dX12_fault_8 (by decide) ?_
    exact J_24 (S_0.1 0 19) S_0 _ _ _ hf hP hS (lv_sub hl [] rfl)
theorem yd_yX12_both : (yX12_both).cls ≠ "java/lang/invoke/MethodHandle" ∧ (yX12_both).cls ≠ "java/lang/invoke/VarHandle" ∧ (parseMethodDescriptor (yX12_both).desc).map (fun d => d.parameters.length) = some 3 := by decide +kernel
def fm_both (S_0 : zSt) (a_1 : Int32) (a_2 : Int32) (a_3 : Int32) : Option (Int32 × zSt) :=
  znm (fun (S_1 : zSt) =>
  some (a_2 ||| a_3, S_1)) fun j_101 =>
  if a_1 = (13 : Int32) then (
  some (a_2 + a_3, S_0)) else (
  if a_1 = (14 : Int32) then (
  some (a_2 - a_3, S_0)) else (
  if a_1 = (15 : Int32) then (
  some (a_2 * a_3, S_0)) else (
  if a_1 = (16 : Int32) then (
  j_101  S_0) else (
  if a_1 = (17 : Int32) then (
  znm (fun (x_10 : Int32) (S_11 : zSt) =>
  some (x_10, S_11)) fun j_74 =>
  if a_3 ≤ a_2 then (
  j_74 (0 : Int32) S_0) else (
  j_74 (1 : Int32) S_0)) else (
  if a_1 = (18 : Int32) then (
  znm (fun (x_15 : Int32) (S_16 : zSt) =>
  some (x_15, S_16)) fun j_85 =>
  if a_2 = a_3 then (
  j_85 (1 : Int32) S_0) else (
  j_85 (0 : Int32) S_0)) else (
  if a_1 = (19 : Int32) then (
  znm (fun (x_20 : Int32) (S_21 : zSt) =>
  some (x_20, S_21)) fun j_96 =>
  if a_2 ≤ a_3 then (
  j_96 (0 : Int32) S_0) else (
  j_96 (1 : Int32) S_0)) else (
  if a_1 = (20 : Int32) then (
  j_101  S_0) else (
  if a_1 = (21 : Int32) then (
  some (a_2 &&& a_3, S_0)) else (
  j_101  S_0)))))))))
set_option maxHeartbeats 4000000 in
set_option maxRecDepth 100000 in
theorem cm_both (l : Launch) (D : va_G) (K : (Nat → Nat) × (Nat → Nat)) (cy : Nat → ClassId) (ad : Nat → Nat) (S_0 : zSt) (a_1 : Int32) (a_2 : Int32) (a_3 : Int32) (ro : Int32) (So : zSt) (hf : fm_both S_0 a_1 a_2 a_3 = some (ro, So)) : zMI l yX12_both (zws yX12_both cX12_both 3 (Option.some .int)) ({ frames := 0, cells := 0, slots := 0, locals := 0 }) D (zTy cy) K (zM cy ad) [.int a_1, .int a_2, .int a_3] S_0 ro So := by
  refine z_metI (own := RX12) (lv := [(0, .int a_1), (1, .int a_2), (2, .int a_3)]) (by decide) rfl rfl (Nat.le_of_ble_eq_true rfl) rfl ?_
  intro p e s m below meth c A Q X hK hE hD hA hret hP hS ls hl
  obtain ⟨hx, hb, hml, hown, hts⟩ := id X
  refine lv_iload_n hx hb dX12_both_0 rfl (lv_at hl 0 rfl) ?_
  obtain ⟨j_101, ej_101, hf⟩ := z_nm hf
  have J_101 : ∀ (S_1 : zSt) (H : Heap) (locs : List Loc) (ls : Array Slot), j_101  S_1 = some (ro, So) → va_P D vwCl (zM cy ad S_1) H → va_S A s.heap H locs → lv_has ls 3 [(1, .int a_2), (2, .int a_3)] → W p l e ({ frames := 0, cells := 0, slots := 0, locals := 0 }) s m ([.int a_1, .int a_2, .int a_3] : List Value).toArray below meth c H locs 0 0 Q (F0 m 101 ls []) := by
    intro  S_1 H locs ls hf hP hS hl
    have hf := z_e1 ej_101 hf
    refine lv_iload_n hx hb dX12_both_101 rfl (lv_at hl 0 rfl) ?_
    refine lv_iload_n hx hb dX12_both_102 rfl (lv_at hl 1 rfl) ?_
    refine lv_ior hx hb dX12_both_103 ?_
    obtain ⟨h1, h2⟩ := z_s2 hf
    subst h1 h2
    exact hret _ _ _ _ hP hS dX12_both_104
  by_cases c_2 : a_1 = (13 : Int32)
  · have hf := z_it c_2 hf
    refine lv_tableIn (off := 51) (tgt := 52) hx hb dX12_both_1 (by rw [c_2]; decide) (by rw [c_2]; decide) (by rw [c_2]; rfl) (by decide) ?_
    refine lv_iload_n hx hb dX12_both_52 rfl (lv_at hl 1 rfl) ?_
    refine lv_iload_n hx hb dX12_both_53 rfl (lv_at hl 2 rfl) ?_
    refine lv_iadd hx hb dX12_both_54 ?_
    obtain ⟨h1, h2⟩ := z_s2 hf
    subst h1 h2
    exact hret _ _ _ _ hP hS dX12_both_55
  have hf := z_if c_2 hf
  have n_3 : a_1.toInt ≠ 13 := z_ne c_2 (by decide)
  by_cases c_4 : a_1 = (14 : Int32)
  · have hf := z_it c_4 hf
    refine lv_tableIn (off := 55) (tgt := 56) hx hb dX12_both_1 (by rw [c_4]; decide) (by rw [c_4]; decide) (by rw [c_4]; rfl) (by decide) ?_
    refine lv_iload_n hx hb dX12_both_56 rfl (lv_at hl 1 rfl) ?_
    refine lv_iload_n hx hb dX12_both_57 rfl (lv_at hl 2 rfl) ?_
    refine lv_isub hx hb dX12_both_58 ?_
    obtain ⟨h1, h2⟩ := z_s2 hf
    subst h1 h2
    exact hret _ _ _ _ hP hS dX12_both_59
  have hf := z_if c_4 hf
  have n_5 : a_1.toInt ≠ 14 := z_ne c_4 (by decide)
  by_cases c_6 : a_1 = (15 : Int32)
  · have hf := z_it c_6 hf
    refine lv_tableIn (off := 59) (tgt := 60) hx hb dX12_both_1 (by rw [c_6]; decide) (by rw [c_6]; decide) (by rw [c_6]; rfl) (by decide) ?_
    refine lv_iload_n hx hb dX12_both_60 rfl (lv_at hl 1 rfl) ?_
    refine lv_iload_n hx hb dX12_both_61 rfl (lv_at hl 2 rfl) ?_
    refine lv_imul hx hb dX12_both_62 ?_
    obtain ⟨h1, h2⟩ := z_s2 hf
    subst h1 h2
    exact hret _ _ _ _ hP hS dX12_both_63
  have hf := z_if c_6 hf
  have n_7 : a_1.toInt ≠ 15 := z_ne c_6 (by decide)
  by_cases c_8 : a_1 = (16 : Int32)
  · have hf := z_it c_8 hf
    refine lv_tableIn (off := 100) (tgt := 101) hx hb dX12_both_1 (by rw [c_8]; decide) (by rw [c_8]; decide) (by rw [c_8]; rfl) (by decide) ?_
    exact J_101  S_0 _ _ _ hf hP hS (lv_sub hl [1, 2] rfl)
  have hf := z_if c_8 hf
  have n_9 : a_1.toInt ≠ 16 := z_ne c_8 (by decide)
  by_cases c_13 : a_1 = (17 : Int32)
  · have hf := z_it c_13 hf
    refine lv_tableIn (off := 63) (tgt := 64) hx hb dX12_both_1 (by rw [c_13]; decide) (by rw [c_13]; decide) (by rw [c_13]; rfl) (by decide) ?_
    refine lv_iload_n hx hb dX12_both_64 rfl (lv_at hl 1 rfl) ?_
    refine lv_iload_n hx hb dX12_both_65 rfl (lv_at hl 2 rfl) ?_
    obtain ⟨j_74, ej_74, hf⟩ := z_nm hf
    have J_74 : ∀ (x_10 : Int32) (S_11 : zSt) (H : Heap) (locs : List Loc) (ls : Array Slot), j_74 x_10 S_11 = some (ro, So) → va_P D vwCl (zM cy ad S_11) H → va_S A s.heap H locs → lv_has ls 3 [] → W p l e ({ frames := 0, cells := 0, slots := 0, locals := 0 }) s m ([.int a_1, .int a_2, .int a_3] : List Value).toArray below meth c H locs 0 0 Q (F0 m 74 ls [.int x_10]) := by
      intro x_10 S_11 H locs ls hf hP hS hl
      have hf := z_e2 ej_74 hf
      obtain ⟨h1, h2⟩ := z_s2 hf
      subst h1 h2
      exact hret _ _ _ _ hP hS dX12_both_74
    refine lv_icmp_ge (tgt := 73) hx hb dX12_both_66 (by decide) (fun c_12 => ?_) (fun c_12 => ?_)
    · have hf := z_it c_12 hf
      refine lv_iconst (v := 0) hx hb dX12_both_73 (by decide) ?_
      exact J_74 (0 : Int32) S_0 _ _ _ hf hP hS (lv_sub hl [] rfl)
    · have hf := z_if c_12 hf
      refine lv_iconst (v := 1) hx hb dX12_both_69 (by decide) ?_
      refine lv_goto (tgt := 74) hx hb dX12_both_70 (by decide) ?_
      exact J_74 (1 : Int32) S_0 _ _ _ hf hP hS (lv_sub hl [] rfl)
  have hf := z_if c_13 hf
  have n_14 : a_1.toInt ≠ 17 := z_ne c_13 (by decide)
  by_cases c_18 : a_1 = (18 : Int32)
  · have hf := z_it c_18 hf
    refine lv_tableIn (off := 74) (tgt := 75) hx hb dX12_both_1 (by rw [c_18]; decide) (by rw [c_18]; decide) (by rw [c_18]; rfl) (by decide) ?_
    refine lv_iload_n hx hb dX12_both_75 rfl (lv_at hl 1 rfl) ?_
    refine lv_iload_n hx hb dX12_both_76 rfl (lv_at hl 2 rfl) ?_
    obtain ⟨j_85, ej_85, hf⟩ := z_nm hf
    have J_85 : ∀ (x_15 : Int32) (S_16 : zSt) (H : Heap) (locs : List Loc) (ls : Array Slot), j_85 x_15 S_16 = some (ro, So) → va_P D vwCl (zM cy ad S_16) H → va_S A s.heap H locs → lv_has ls 3 [] → W p l e ({ frames := 0, cells := 0, slots := 0, locals := 0 }) s m ([.int a_1, .int a_2, .int a_3] : List Value).toArray below meth c H locs 0 0 Q (F0 m 85 ls [.int x_15]) := by
      intro x_15 S_16 H locs ls hf hP hS hl
      have hf := z_e2 ej_85 hf
      obtain ⟨h1, h2⟩ := z_s2 hf
      subst h1 h2
      exact hret _ _ _ _ hP hS dX12_both_85
    refine lv_icmp_ne (tgt := 84) hx hb dX12_both_77 (by decide) (fun c_17 => ?_) (fun c_17 => ?_)
    · have hf := z_if c_17 hf
      refine lv_iconst (v := 0) hx hb dX12_both_84 (by decide) ?_
      exact J_85 (0 : Int32) S_0 _ _ _ hf hP hS (lv_sub hl [] rfl)
    · have hf := z_it c_17 hf
      refine lv_iconst (v := 1) hx hb dX12_both_80 (by decide) ?_
      refine lv_goto (tgt := 85) hx hb dX12_both_81 (by decide) ?_
      exact J_85 (1 : Int32) S_0 _ _ _ hf hP hS (lv_sub hl [] rfl)
  have hf := z_if c_18 hf
  have n_19 : a_1.toInt ≠ 18 := z_ne c_18 (by decide)
  by_cases c_23 : a_1 = (19 : Int32)
  · have hf := z_it c_23 hf
    refine lv_tableIn (off := 85) (tgt := 86) hx hb dX12_both_1 (by rw [c_23]; decide) (by rw [c_23]; decide) (by rw [c_23]; rfl) (by decide) ?_
    refine lv_iload_n hx hb dX12_both_86 rfl (lv_at hl 1 rfl) ?_
    refine lv_iload_n hx hb dX12_both_87 rfl (lv_at hl 2 rfl) ?_
    obtain ⟨j_96, ej_96, hf⟩ := z_nm hf
    have J_96 : ∀ (x_20 : Int32) (S_21 : zSt) (H : Heap) (locs : List Loc) (ls : Array Slot), j_96 x_20 S_21 = some (ro, So) → va_P D vwCl (zM cy ad S_21) H → va_S A s.heap H locs → lv_has ls 3 [] → W p l e ({ frames := 0, cells := 0, slots := 0, locals := 0 }) s m ([.int a_1, .int a_2, .int a_3] : List Value).toArray below meth c H locs 0 0 Q (F0 m 96 ls [.int x_20]) := by
      intro x_20 S_21 H locs ls hf hP hS hl
      have hf := z_e2 ej_96 hf
      obtain ⟨h1, h2⟩ := z_s2 hf
      subst h1 h2
      exact hret _ _ _ _ hP hS dX12_both_96
    refine lv_icmp_le (tgt := 95) hx hb dX12_both_88 (by decide) (fun c_22 => ?_) (fun c_22 => ?_)
    · have hf := z_it c_22 hf
      refine lv_iconst (v := 0) hx hb dX12_both_95 (by decide) ?_
      exact J_96 (0 : Int32) S_0 _ _ _ hf hP hS (lv_sub hl [] rfl)
    · have hf := z_if c_22 hf
      refine lv_iconst (v := 1) hx hb dX12_both_91 (by decide) ?_
      refine lv_goto (tgt := 96) hx hb dX12_both_92 (by decide) ?_
      exact J_96 (1 : Int32) S_0 _ _ _ hf hP hS (lv_sub hl [] rfl)
  have hf := z_if c_23 hf
  have n_24 : a_1.toInt ≠ 19 := z_ne c_23 (by decide)
  by_cases c_25 : a_1 = (20 : Int32)
  · have hf := z_it c_25 hf
    refine lv_tableIn (off := 100) (tgt := 101) hx hb dX12_both_1 (by rw [c_25]; decide) (by rw [c_25]; decide) (by rw [c_25]; rfl) (by decide) ?_
    exact J_101  S_0 _ _ _ hf hP hS (lv_sub hl [1, 2] rfl)
  have hf := z_if c_25 hf
  have n_26 : a_1.toInt ≠ 20 := z_ne c_25 (by decide)
  by_cases c_27 : a_1 = (21 : Int32)
  · have hf := z_it c_27 hf
    refine lv_tableIn (off := 96) (tgt := 97) hx hb dX12_both_1 (by rw [c_27]; decide) (by rw [c_27]; decide) (by rw [c_27]; rfl) (by decide) ?_
    refine lv_iload_n hx hb dX12_both_97 rfl (lv_at hl 1 rfl) ?_
    refine lv_iload_n hx hb dX12_both_98 rfl (lv_at hl 2 rfl) ?_
    refine lv_iand hx hb dX12_both_99 ?_
    obtain ⟨h1, h2⟩ := z_s2 hf
    subst h1 h2
    exact hret _ _ _ _ hP hS dX12_both_100
  have hf := z_if c_27 hf
  have n_28 : a_1.toInt ≠ 21 := z_ne c_27 (by decide)
  refine lv_tableOut (tgt := 101) hx hb dX12_both_1 (by omega) (by decide) ?_
  exact J_101  S_0 _ _ _ hf hP hS (lv_sub hl [1, 2] rfl)
