def fx_house (S_0 : zSt) (a_1 : Int32) (a_2 : Int32) (a_3 : Int32) : Option (Int32 × zSt) :=
  zbd (fx_isWithin S_0 a_1 (0 : Int32) (999 : Int32)) fun r_1 S_2 =>
  znm (fun (x_4 : Int32) (S_5 : zSt) =>
  znm (zpI S_5 1 1 (0 : Int32)) fun S_6 =>
  znm (fun (S_7 : zSt) =>
  some (x_4, S_7)) fun j_85 =>
  if x_4 = (-1 : Int32) then (
  j_85  S_6) else (
  zbd (fx_History_forget S_6) fun _ S_9 =>
  j_85  S_9)) fun j_64 =>
  if r_1 = 0 then (
  j_64 (-1 : Int32) S_2) else (
  zbd (fx_isWithin S_2 a_2 (1 : Int32) (999 : Int32)) fun r_12 S_13 =>
  if r_12 = 0 then (
  j_64 (-1 : Int32) S_13) else (
  zbd (fx_isWithin S_13 a_3 (1 : Int32) (99 : Int32)) fun r_15 S_16 =>
  if r_15 = 0 then (
  j_64 (-1 : Int32) S_16) else (
  zbd (fx_Tape_isMark S_16) fun r_18 S_19 =>
  if r_18 = 0 then (
  j_64 (-1 : Int32) S_19) else (
  zbd (fx_Houses_add S_19 a_1 a_2 a_3) fun r_21 S_22 =>
  j_64 r_21 S_22))))
set_option maxHeartbeats 4000000 in
set_option maxRecDepth 100000 in
theorem cx_house (l : Launch) (D : va_G) (K : (Nat → Nat) × (Nat → Nat)) (cy : Nat → ClassId) (ad : Nat → Nat) (S_0 : zSt) (a_1 : Int32) (a_2 : Int32) (a_3 : Int32) (ro : Int32) (So : zSt) (hf : fx_house S_0 a_1 a_2 a_3 = some (ro, So)) : zMI l yX11_house (zws yX11_house cX11_house 5 (Option.some .int)) ({ frames := 2, cells := 0, slots := 0, locals := 46 }) D (zTy cy) K (zX cy ad) [.ref (ad 0), .int a_1, .int a_2, .int a_3] S_0 ro So := by
  refine z_metI (own := RX11) (lv := [(0, .ref (ad 0)), (1, .int a_1), (2, .int a_2), (3, .int a_3)]) (by decide) rfl rfl (Nat.le_of_ble_eq_true rfl) rfl ?_
  intro p e s m below meth c A Q X hK hE hD hA hret hP hS ls hl
  obtain ⟨hx, hb, hml, hown, hts⟩ := id X
  have k0 := (fun w h => List.mem_cons_of_mem _ (zFX11 w h) : ∀ w ∈ u_ws RX11 TX11 8, w ∈ zws yX11_house cX11_house 5 (Option.some .int))
  have k1 := hts _ (List.mem_cons_of_mem _ wt_2_174)
  have k2 := (fun w h => List.mem_cons_of_mem _ (zFX9 w h) : ∀ w ∈ u_ws RX9 TX9 2, w ∈ zws yX11_house cX11_house 5 (Option.some .int))
  have k3 := hts _ (List.mem_cons_of_mem _ wt_1_44)
  have k4 := hts _ (List.mem_cons_of_mem _ wt_2_178)
  have k5 := hts _ (List.mem_cons_of_mem _ wt_2_175)
  have k6 := (fun w h => List.mem_cons_of_mem _ (zFX0 w h) : ∀ w ∈ u_ws RX0 TX0 6, w ∈ zws yX11_house cX11_house 5 (Option.some .int))
  have k7 := hts _ (List.mem_cons_of_mem _ wt_1_235)
  refine lv_iconst (v := -1) hx hb dX11_house_0 (by decide) ?_
  refine lv_istore (lv' := [(4, .int (-1 : Int32)), (0, .ref (ad 0)), (1, .int a_1), (2, .int a_2), (3, .int a_3)]) hx hb dX11_house_1 hl (by decide) rfl (fun ls hl => ?_)
  refine lv_iload_n hx hb dX11_house_3 rfl (lv_at hl 2 rfl) ?_
  refine lv_iconst (v := 0) hx hb dX11_house_4 (by decide) ?_
  refine lv_sipush (v := 999) hx hb dX11_house_5 (by decide) ?_
  obtain ⟨r_1, S_2, h_3, hf⟩ := z_bd hf
  refine z_cSI (As := [.int a_1, .int (0 : Int32), .int (999 : Int32)]) (rest := []) X hK hE hD hA hP hS (cx_isWithin l D K cy ad S_0 _ _ _ _ _ h_3) (va_cwS 3 hts (z_gS wt_2_219 wt_2_220 wt_1_1 wt_2_221) rfl rfl rfl yd_yX11_isWithin ⟨Nat.le_of_ble_eq_true rfl, Nat.le_of_ble_eq_true rfl⟩) hl.1 rfl rfl (Nat.le_of_ble_eq_true rfl) dX11_house_8 (fun H locs hP hS => ?_)
  obtain ⟨j_64, ej_64, hf⟩ := z_nm hf
  have J_64 : ∀ (x_4 : Int32) (S_5 : zSt) (H : Heap) (locs : List Loc) (ls : Array Slot), j_64 x_4 S_5 = some (ro, So) → va_P D vwCl (zX cy ad S_5) H → va_S A s.heap H locs → lv_has ls 5 [(0, .ref (ad 0)), (4, .int x_4)] → W p l e ({ frames := 2, cells := 0, slots := 0, locals := 46 }) s m ([.ref (ad 0), .int a_1, .int a_2, .int a_3] : List Value).toArray below meth c H locs 0 0 Q (F0 m 64 ls []) := by
    intro x_4 S_5 H locs ls hf hP hS hl
    have hf := z_e2 ej_64 hf
    refine lv_aload_n hx hb dX11_house_64 rfl (lv_at hl 0 rfl) ?_
    refine va_get (D := D) (ci := 11) (v := .ref (ad 1)) (C := RX11) (T := TX11) (N := 8) hx hb hts k0 hown hK hP 0 (zX_0 cy ad S_5) rfl 0 (by decide) k1 (fun _ h9 => h9) rfl dX11_house_65 ?_
    refine lv_iconst (v := 0) hx hb dX11_house_68 (by decide) ?_
    refine va_put (D := D) (ci := 9) (v := .int (0 : Int32)) (ty := .int) (C := RX9) (T := TX9) (N := 2) hx hb hts k2 tyX9 tyX9_ok nmX9 hown hK hP (hD S_5) hS 1 (zX_1 cy ad S_5) rfl 1 (by decide) k3 (fun _ h9 => h9) rfl (tyX9_ok 1 (by decide)) rfl rfl (Nat.le_of_ble_eq_true rfl) dX11_house_69 (fun H locs hP _ hS => ?_)
    obtain ⟨S_6, eS_6, hf⟩ := z_nm hf
    have hP := zW_putI hP eS_6 (by decide) rfl
    refine lv_iload hx hb dX11_house_72 (lv_at hl 1 rfl) ?_
    refine lv_iconst (v := -1) hx hb dX11_house_74 (by decide) ?_
    obtain ⟨j_85, ej_85, hf⟩ := z_nm hf
    have J_85 : ∀ (S_7 : zSt) (H : Heap) (locs : List Loc) (ls : Array Slot), j_85  S_7 = some (ro, So) → va_P D vwCl (zX cy ad S_7) H → va_S A s.heap H locs → lv_has ls 5 [(4, .int x_4)] → W p l e ({ frames := 2, cells := 0, slots := 0, locals := 46 }) s m ([.ref (ad 0), .int a_1, .int a_2, .int a_3] : List Value).toArray below meth c H locs 0 0 Q (F0 m 85 ls []) := by
      intro  S_7 H locs ls hf hP hS hl
      have hf := z_e1 ej_85 hf
      refine lv_iload hx hb dX11_house_85 (lv_at hl 0 rfl) ?_
      obtain ⟨h1, h2⟩ := z_s2 hf
      subst h1 h2
      exact hret _ _ _ _ hP hS dX11_house_87
    refine lv_icmp_eq (tgt := 85) hx hb dX11_house_75 (by decide) (fun c_11 => ?_) (fun c_11 => ?_)
    · have hf := z_it c_11 hf
      exact J_85  S_6 _ _ _ hf hP hS (lv_sub hl [1] rfl)
    · have hf := z_if c_11 hf
      refine lv_aload_n hx hb dX11_house_78 rfl (lv_at hl 0 rfl) ?_
      refine va_get (D := D) (ci := 11) (v := .ref (ad 59)) (C := RX11) (T := TX11) (N := 8) hx hb hts k0 hown hK hP 0 (zX_0 cy ad S_6) rfl 4 (by decide) k4 (fun _ h9 => h9) rfl dX11_house_79 ?_
      obtain ⟨r_8, S_9, h_10, hf⟩ := z_bd hf
      refine z_cVV (As := []) (rest := []) X hK hE hD hA hP hS (cx_History_forget l D K cy ad S_6 _ h_10) (cwV 0 hts (z_gV wt_2_235 wt_2_236 wt_2_237 wt_1_9 wt_2_238) rfl rfl rfl ⟨rfl, yd_yX1_forget⟩ ⟨Nat.le_of_ble_eq_true rfl, Nat.le_of_ble_eq_true rfl⟩) (va_recv hK hP (ci := 1) (q0 := 59) rfl (zX_59 cy ad S_6)) hl.1 rfl rfl (Nat.le_of_ble_eq_true rfl) dX11_house_82 (fun H locs hP hS => ?_)
      exact J_85  S_9 _ _ _ hf hP hS (lv_sub hl [1] rfl)
  refine lv_if_eq (tgt := 64) hx hb dX11_house_11 (by decide) (fun c_27 => ?_) (fun c_27 => ?_)
  · have hf := z_it c_27 hf
    exact J_64 (-1 : Int32) S_2 _ _ _ hf hP hS (lv_sub hl [1, 0] rfl)
  · have hf := z_if c_27 hf
    refine lv_iload_n hx hb dX11_house_14 rfl (lv_at hl 3 rfl) ?_
    refine lv_iconst (v := 1) hx hb dX11_house_15 (by decide) ?_
    refine lv_sipush (v := 999) hx hb dX11_house_16 (by decide) ?_
    obtain ⟨r_12, S_13, h_14, hf⟩ := z_bd hf
    refine z_cSI (As := [.int a_2, .int (1 : Int32), .int (999 : Int32)]) (rest := []) X hK hE hD hA hP hS (cx_isWithin l D K cy ad S_2 _ _ _ _ _ h_14) (va_cwS 3 hts (z_gS wt_2_219 wt_2_220 wt_1_1 wt_2_221) rfl rfl rfl yd_yX11_isWithin ⟨Nat.le_of_ble_eq_true rfl, Nat.le_of_ble_eq_true rfl⟩) hl.1 rfl rfl (Nat.le_of_ble_eq_true rfl) dX11_house_19 (fun H locs hP hS => ?_)
    refine lv_if_eq (tgt := 64) hx hb dX11_house_22 (by decide) (fun c_26 => ?_) (fun c_26 => ?_)
    · have hf := z_it c_26 hf
      exact J_64 (-1 : Int32) S_13 _ _ _ hf hP hS (lv_sub hl [1, 0] rfl)
    · have hf := z_if c_26 hf
      refine lv_iload_n hx hb dX11_house_25 rfl (lv_at hl 4 rfl) ?_
      refine lv_iconst (v := 1) hx hb dX11_house_26 (by decide) ?_
      refine lv_bipush (v := 99) hx hb dX11_house_27 (by decide) ?_
      obtain ⟨r_15, S_16, h_17, hf⟩ := z_bd hf
      refine z_cSI (As := [.int a_3, .int (1 : Int32), .int (99 : Int32)]) (rest := []) X hK hE hD hA hP hS (cx_isWithin l D K cy ad S_13 _ _ _ _ _ h_17) (va_cwS 3 hts (z_gS wt_2_219 wt_2_220 wt_1_1 wt_2_221) rfl rfl rfl yd_yX11_isWithin ⟨Nat.le_of_ble_eq_true rfl, Nat.le_of_ble_eq_true rfl⟩) hl.1 rfl rfl (Nat.le_of_ble_eq_true rfl) dX11_house_29 (fun H locs hP hS => ?_)
      refine lv_if_eq (tgt := 64) hx hb dX11_house_32 (by decide) (fun c_25 => ?_) (fun c_25 => ?_)
      · have hf := z_it c_25 hf
        exact J_64 (-1 : Int32) S_16 _ _ _ hf hP hS (lv_sub hl [1, 0] rfl)
      · have hf := z_if c_25 hf
        refine lv_aload_n hx hb dX11_house_35 rfl (lv_at hl 1 rfl) ?_
        refine va_get (D := D) (ci := 11) (v := .ref (ad 1)) (C := RX11) (T := TX11) (N := 8) hx hb hts k0 hown hK hP 0 (zX_0 cy ad S_16) rfl 0 (by decide) k1 (fun _ h9 => h9) rfl dX11_house_36 ?_
        obtain ⟨r_18, S_19, h_20, hf⟩ := z_bd hf
        refine z_cVI (As := []) (rest := []) X hK hE hD hA hP hS (cx_Tape_isMark l D K cy ad S_16 _ _ h_20) (cwV 0 hts (z_gV wt_2_222 wt_2_223 wt_2_224 wt_1_2 wt_2_225) rfl rfl rfl ⟨rfl, yd_yX9_isMark⟩ ⟨Nat.le_of_ble_eq_true rfl, Nat.le_of_ble_eq_true rfl⟩) (va_recv hK hP (ci := 9) (q0 := 1) rfl (zX_1 cy ad S_16)) hl.1 rfl rfl (Nat.le_of_ble_eq_true rfl) dX11_house_39 (fun H locs hP hS => ?_)
        refine lv_if_eq (tgt := 64) hx hb dX11_house_42 (by decide) (fun c_24 => ?_) (fun c_24 => ?_)
        · have hf := z_it c_24 hf
          exact J_64 (-1 : Int32) S_19 _ _ _ hf hP hS (lv_sub hl [1, 0] rfl)
        · have hf := z_if c_24 hf
          refine lv_aload_n hx hb dX11_house_45 rfl (lv_at hl 1 rfl) ?_
          refine va_get (D := D) (ci := 11) (v := .ref (ad 3)) (C := RX11) (T := TX11) (N := 8) hx hb hts k0 hown hK hP 0 (zX_0 cy ad S_19) rfl 1 (by decide) k5 (fun _ h9 => h9) rfl dX11_house_46 ?_
          refine va_get (D := D) (ci := 0) (v := .ref (ad 4)) (C := RX0) (T := TX0) (N := 6) hx hb hts k6 hown hK hP 3 (zX_3 cy ad S_19) rfl 0 (by decide) k7 (fun _ h9 => h9) rfl dX11_house_49 ?_
          refine lv_iload_n hx hb dX11_house_52 rfl (lv_at hl 2 rfl) ?_
          refine lv_iload_n hx hb dX11_house_53 rfl (lv_at hl 3 rfl) ?_
          refine lv_iload_n hx hb dX11_house_54 rfl (lv_at hl 4 rfl) ?_
          refine lv_aload_n hx hb dX11_house_55 rfl (lv_at hl 1 rfl) ?_
          refine va_get (D := D) (ci := 11) (v := .ref (ad 1)) (C := RX11) (T := TX11) (N := 8) hx hb hts k0 hown hK hP 0 (zX_0 cy ad S_19) rfl 0 (by decide) k1 (fun _ h9 => h9) rfl dX11_house_56 ?_
          obtain ⟨r_21, S_22, h_23, hf⟩ := z_bd hf
          refine z_cVI (As := [.int a_1, .int a_2, .int a_3, .ref (ad 1)]) (rest := []) X hK hE hD hA hP hS (cx_Houses_add l D K cy ad S_19 _ _ _ _ _ h_23) (cwV 4 hts (z_gV wt_2_230 wt_2_231 wt_2_232 wt_1_4 wt_2_233) rfl rfl rfl ⟨rfl, yd_yX2_add⟩ ⟨Nat.le_of_ble_eq_true rfl, Nat.le_of_ble_eq_true rfl⟩) (va_recv hK hP (ci := 2) (q0 := 4) rfl (zX_4 cy ad S_19)) hl.1 rfl rfl (Nat.le_of_ble_eq_true rfl) dX11_house_59 (fun H locs hP hS => ?_)
          refine lv_istore (lv' := [(4, .int r_21), (0, .ref (ad 0)), (1, .int a_1), (2, .int a_2), (3, .int a_3)]) hx hb dX11_house_62 hl (by decide) rfl (fun ls hl => ?_)
          exact J_64 r_21 S_22 _ _ _ hf hP hS (lv_sub hl [1, 0] rfl)
def fx_give (S_0 : zSt) (a_1 : Int32) (a_2 : Int32) : Option (Int32 × zSt) :=
  zbd (fx_Houses_has S_0 a_1) fun r_1 S_2 =>
  znm (fun (S_4 : zSt) =>
  some ((0 : Int32), S_4)) fun j_43 =>
  if r_1 = 0 then (
  j_43  S_2) else (
  zbd (fx_isWithin S_2 a_2 (0 : Int32) (99999 : Int32)) fun r_5 S_6 =>
  if r_5 = 0 then (
  j_43  S_6) else (
  zck (zix a_1 9) <|
  if (S_6.1 12 (a_1.toNatClampNeg)) ≤ ((999999 : Int32) - a_2) then (
  zck (zix a_1 9) <|
  zck (zix a_1 9) <|
  znm (zpI S_6 12 (a_1.toNatClampNeg) ((S_6.1 12 (a_1.toNatClampNeg)) + a_2)) fun S_11 =>
  zbd (fx_History_forget S_11) fun _ S_13 =>
  some ((1 : Int32), S_13)) else (
  j_43  S_6)))
set_option maxHeartbeats 4000000 in
set_option maxRecDepth 100000 in
theorem cx_give (l : Launch) (D : va_G) (K : (Nat → Nat) × (Nat → Nat)) (cy : Nat → ClassId) (ad : Nat → Nat) (S_0 : zSt) (a_1 : Int32) (a_2 : Int32) (ro : Int32) (So : zSt) (hf : fx_give S_0 a_1 a_2 = some (ro, So)) : zMI l yX11_give (zws yX11_give cX11_give 3 (Option.some .boolean)) ({ frames := 1, cells := 0, slots := 0, locals := 22 }) D (zTy cy) K (zX cy ad) [.ref (ad 0), .int a_1, .int a_2] S_0 ro So := by
  refine z_metZ (own := RX11) (lv := [(0, .ref (ad 0)), (1, .int a_1), (2, .int a_2)]) (by decide) rfl rfl (Nat.le_of_ble_eq_true rfl) rfl ?_
  intro p e s m below meth c A Q X hK hE hD hA hret hP hS ls hl
  obtain ⟨hx, hb, hml, hown, hts⟩ := id X
  have k0 := (fun w h => List.mem_cons_of_mem _ (zFX11 w h) : ∀ w ∈ u_ws RX11 TX11 8, w ∈ zws yX11_give cX11_give 3 (Option.some .boolean))
  have k1 := hts _ (List.mem_cons_of_mem _ wt_2_175)
  have k2 := (fun w h => List.mem_cons_of_mem _ (zFX0 w h) : ∀ w ∈ u_ws RX0 TX0 6, w ∈ zws yX11_give cX11_give 3 (Option.some .boolean))
  have k3 := hts _ (List.mem_cons_of_mem _ wt_1_235)
  have k4 := hts _ (List.mem_cons_of_mem _ wt_3_7)
  have k5 := hts _ (List.mem_cons_of_mem _ wt_1_237)
  have k6 := (fun w h => List.mem_cons_of_mem _ (zFX10 w h) : ∀ w ∈ u_ws RX10 TX10 12, w ∈ zws yX11_give cX11_give 3 (Option.some .boolean))
  have k7 := hts _ (List.mem_cons_of_mem _ wt_1_117)
  have k8 := hts _ (List.mem_cons_of_mem _ wt_3_8)
  have k9 := hts _ (List.mem_cons_of_mem _ wt_2_178)
  refine lv_aload_n hx hb dX11_give_0 rfl (lv_at hl 0 rfl) ?_
  refine va_get (D := D) (ci := 11) (v := .ref (ad 3)) (C := RX11) (T := TX11) (N := 8) hx hb hts k0 hown hK hP 0 (zX_0 cy ad S_0) rfl 1 (by decide) k1 (fun _ h9 => h9) rfl dX11_give_1 ?_
  refine va_get (D := D) (ci := 0) (v := .ref (ad 4)) (C := RX0) (T := TX0) (N := 6) hx hb hts k2 hown hK hP 3 (zX_3 cy ad S_0) rfl 0 (by decide) k3 (fun _ h9 => h9) rfl dX11_give_4 ?_
  refine lv_iload_n hx hb dX11_give_7 rfl (lv_at hl 1 rfl) ?_
  obtain ⟨r_1, S_2, h_3, hf⟩ := z_bd hf
  refine z_cVI (As := [.int a_1]) (rest := []) X hK hE hD hA hP hS (cx_Houses_has l D K cy ad S_0 _ _ _ h_3) (cwV 1 hts (z_gV wt_3_3 wt_3_4 wt_3_5 wt_1_4 wt_3_6) rfl rfl rfl ⟨rfl, yd_yX2_has⟩ ⟨Nat.le_of_ble_eq_true rfl, Nat.le_of_ble_eq_true rfl⟩) (va_recv hK hP (ci := 2) (q0 := 4) rfl (zX_4 cy ad S_0)) hl.1 rfl rfl (Nat.le_of_ble_eq_true rfl) dX11_give_8 (fun H locs hP hS => ?_)
  obtain ⟨j_43, ej_43, hf⟩ := z_nm hf
  have J_43 : ∀ (S_4 : zSt) (H : Heap) (locs : List Loc) (ls : Array Slot), j_43  S_4 = some (ro, So) → va_P D vwCl (zX cy ad S_4) H → va_S A s.heap H locs → lv_has ls 3 [] → W p l e ({ frames := 1, cells := 0, slots := 0, locals := 22 }) s m ([.ref (ad 0), .int a_1, .int a_2] : List Value).toArray below meth c H locs 0 0 Q (F0 m 43 ls []) := by
    intro  S_4 H locs ls hf hP hS hl
    have hf := z_e1 ej_43 hf
    refine lv_iconst (v := 0) hx hb dX11_give_43 (by decide) ?_
    obtain ⟨h1, h2⟩ := z_s2 hf
    subst h1 h2
    exact hret _ _ _ _ rfl hP hS dX11_give_44
  refine lv_if_eq (tgt := 43) hx hb dX11_give_11 (by decide) (fun c_17 => ?_) (fun c_17 => ?_)
  · have hf := z_it c_17 hf
    exact J_43  S_2 _ _ _ hf hP hS (lv_sub hl [] rfl)
  · have hf := z_if c_17 hf
    refine lv_iload_n hx hb dX11_give_14 rfl (lv_at hl 2 rfl) ?_
    refine lv_iconst (v := 0) hx hb dX11_give_15 (by decide) ?_
    refine lv_ldc hx hb hown k4 dX11_give_16 ?_
    obtain ⟨r_5, S_6, h_7, hf⟩ := z_bd hf
    refine z_cSI (As := [.int a_2, .int (0 : Int32), .int (99999 : Int32)]) (rest := []) X hK hE hD hA hP hS (cx_isWithin l D K cy ad S_2 _ _ _ _ _ h_7) (va_cwS 3 hts (z_gS wt_2_219 wt_2_220 wt_1_1 wt_2_221) rfl rfl rfl yd_yX11_isWithin ⟨Nat.le_of_ble_eq_true rfl, Nat.le_of_ble_eq_true rfl⟩) hl.1 rfl rfl (Nat.le_of_ble_eq_true rfl) dX11_give_18 (fun H locs hP hS => ?_)
    refine lv_if_eq (tgt := 43) hx hb dX11_give_21 (by decide) (fun c_16 => ?_) (fun c_16 => ?_)
    · have hf := z_it c_16 hf
      exact J_43  S_6 _ _ _ hf hP hS (lv_sub hl [] rfl)
    · have hf := z_if c_16 hf
      refine lv_aload_n hx hb dX11_give_24 rfl (lv_at hl 0 rfl) ?_
      refine va_get (D := D) (ci := 11) (v := .ref (ad 3)) (C := RX11) (T := TX11) (N := 8) hx hb hts k0 hown hK hP 0 (zX_0 cy ad S_6) rfl 1 (by decide) k1 (fun _ h9 => h9) rfl dX11_give_25 ?_
      refine va_get (D := D) (ci := 0) (v := .ref (ad 11)) (C := RX0) (T := TX0) (N := 6) hx hb hts k2 hown hK hP 3 (zX_3 cy ad S_6) rfl 1 (by decide) k5 (fun _ h9 => h9) rfl dX11_give_28 ?_
      refine va_get (D := D) (ci := 10) (v := .ref (ad 12)) (C := RX10) (T := TX10) (N := 12) hx hb hts k6 hown hK hP 11 (zX_11 cy ad S_6) rfl 3 (by decide) k7 (fun _ h9 => h9) rfl dX11_give_31 ?_
      refine lv_iload_n hx hb dX11_give_34 rfl (lv_at hl 1 rfl) ?_
      obtain ⟨h_8, hf⟩ := z_ix hf
      refine z_iald hx hb hK hP 12 0 (zX_12 cy ad S_6) rfl h_8 (k := (a_1.toNatClampNeg)) rfl dX11_give_35 ?_
      refine lv_ldc hx hb hown k8 dX11_give_36 ?_
      refine lv_iload_n hx hb dX11_give_38 rfl (lv_at hl 2 rfl) ?_
      refine lv_isub hx hb dX11_give_39 ?_
      refine lv_icmp_le (tgt := 45) hx hb dX11_give_40 (by decide) (fun c_15 => ?_) (fun c_15 => ?_)
      · have hf := z_it c_15 hf
        refine lv_aload_n hx hb dX11_give_45 rfl (lv_at hl 0 rfl) ?_
        refine va_get (D := D) (ci := 11) (v := .ref (ad 3)) (C := RX11) (T := TX11) (N := 8) hx hb hts k0 hown hK hP 0 (zX_0 cy ad S_6) rfl 1 (by decide) k1 (fun _ h9 => h9) rfl dX11_give_46 ?_
        refine va_get (D := D) (ci := 0) (v := .ref (ad 11)) (C := RX0) (T := TX0) (N := 6) hx hb hts k2 hown hK hP 3 (zX_3 cy ad S_6) rfl 1 (by decide) k5 (fun _ h9 => h9) rfl dX11_give_49 ?_
        refine va_get (D := D) (ci := 10) (v := .ref (ad 12)) (C := RX10) (T := TX10) (N := 12) hx hb hts k6 hown hK hP 11 (zX_11 cy ad S_6) rfl 3 (by decide) k7 (fun _ h9 => h9) rfl dX11_give_52 ?_
        refine lv_iload_n hx hb dX11_give_55 rfl (lv_at hl 1 rfl) ?_
        refine lv_dup2_11 hx hb dX11_give_56 rfl rfl ?_
        obtain ⟨h_9, hf⟩ := z_ix hf
        refine z_iald hx hb hK hP 12 0 (zX_12 cy ad S_6) rfl h_9 (k := (a_1.toNatClampNeg)) rfl dX11_give_57 ?_
        refine lv_iload_n hx hb dX11_give_58 rfl (lv_at hl 2 rfl) ?_
        refine lv_iadd hx hb dX11_give_59 ?_
        obtain ⟨h_10, hf⟩ := z_ix hf
        refine z_iast hx hb hK hP (hD S_6) hS 12 0 (zX_12 cy ad S_6) rfl h_10 (k := (a_1.toNatClampNeg)) rfl dX11_give_60 (fun H locs hP hS => ?_)
        obtain ⟨S_11, eS_11, hf⟩ := z_nm hf
        have hP := zW_putI hP eS_11 (by decide) rfl
        refine lv_aload_n hx hb dX11_give_61 rfl (lv_at hl 0 rfl) ?_
        refine va_get (D := D) (ci := 11) (v := .ref (ad 59)) (C := RX11) (T := TX11) (N := 8) hx hb hts k0 hown hK hP 0 (zX_0 cy ad S_11) rfl 4 (by decide) k9 (fun _ h9 => h9) rfl dX11_give_62 ?_
        obtain ⟨r_12, S_13, h_14, hf⟩ := z_bd hf
        refine z_cVV (As := []) (rest := []) X hK hE hD hA hP hS (cx_History_forget l D K cy ad S_11 _ h_14) (cwV 0 hts (z_gV wt_2_235 wt_2_236 wt_2_237 wt_1_9 wt_2_238) rfl rfl rfl ⟨rfl, yd_yX1_forget⟩ ⟨Nat.le_of_ble_eq_true rfl, Nat.le_of_ble_eq_true rfl⟩) (va_recv hK hP (ci := 1) (q0 := 59) rfl (zX_59 cy ad S_11)) hl.1 rfl rfl (Nat.le_of_ble_eq_true rfl) dX11_give_65 (fun H locs hP hS => ?_)
        refine lv_iconst (v := 1) hx hb dX11_give_68 (by decide) ?_
        obtain ⟨h1, h2⟩ := z_s2 hf
        subst h1 h2
        exact hret _ _ _ _ rfl hP hS dX11_give_69
      · have hf := z_if c_15 hf
        exact J_43  S_6 _ _ _ hf hP hS (lv_sub hl [] rfl)
def fx_isSetting (S_0 : zSt) (a_1 : Int32) (a_2 : Int32) : Option (Int32 × zSt) :=
  if a_1 = (0 : Int32) then (
  zbd (fx_isWithin S_0 a_2 (1 : Int32) (99 : Int32)) fun r_1 S_2 =>
  zck (zbo r_1) <|
  some (r_1, S_2)) else (
  if a_1 = (1 : Int32) then (
  zbd (fx_isWithin S_0 a_2 (0 : Int32) (99 : Int32)) fun r_7 S_8 =>
  zck (zbo r_7) <|
  some (r_7, S_8)) else (
  if a_1 = (2 : Int32) then (
  zbd (fx_isWithin S_0 a_2 (0 : Int32) (99 : Int32)) fun r_13 S_14 =>
  zck (zbo r_13) <|
  some (r_13, S_14)) else (
  if a_1 = (3 : Int32) then (
  zbd (fx_isWithin S_0 a_2 (0 : Int32) (100 : Int32)) fun r_19 S_20 =>
  zck (zbo r_19) <|
  some (r_19, S_20)) else (
  some ((0 : Int32), S_0)))))
set_option maxHeartbeats 4000000 in
set_option maxRecDepth 100000 in
theorem cx_isSetting (l : Launch) (D : va_G) (K : (Nat → Nat) × (Nat → Nat)) (cy : Nat → ClassId) (ad : Nat → Nat) (S_0 : zSt) (a_1 : Int32) (a_2 : Int32) (ro : Int32) (So : zSt) (hf : fx_isSetting S_0 a_1 a_2 = some (ro, So)) : zMI l yX11_isSetting (zws yX11_isSetting cX11_isSetting 2 (Option.some .boolean)) ({ frames := 1, cells := 0, slots := 0, locals := 22 }) D (zTy cy) K (zX cy ad) [.int a_1, .int a_2] S_0 ro So := by
  refine z_metZ (own := RX11) (lv := [(0, .int a_1), (1, .int a_2)]) (by decide) rfl rfl (Nat.le_of_ble_eq_true rfl) rfl ?_
  intro p e s m below meth c A Q X hK hE hD hA hret hP hS ls hl
  obtain ⟨hx, hb, hml, hown, hts⟩ := id X
  refine lv_iload_n hx hb dX11_isSetting_0 rfl (lv_at hl 0 rfl) ?_
  by_cases c_5 : a_1 = (0 : Int32)
  · have hf := z_it c_5 hf
    refine lv_tableIn (off := 31) (tgt := 32) hx hb dX11_isSetting_1 (by rw [c_5]; decide) (by rw [c_5]; decide) (by rw [c_5]; rfl) (by decide) ?_
    refine lv_iload_n hx hb dX11_isSetting_32 rfl (lv_at hl 1 rfl) ?_
    refine lv_iconst (v := 1) hx hb dX11_isSetting_33 (by decide) ?_
    refine lv_bipush (v := 99) hx hb dX11_isSetting_34 (by decide) ?_
    obtain ⟨r_1, S_2, h_3, hf⟩ := z_bd hf
    refine z_cSI (As := [.int a_2, .int (1 : Int32), .int (99 : Int32)]) (rest := []) X hK hE hD hA hP hS (cx_isWithin l D K cy ad S_0 _ _ _ _ _ h_3) (va_cwS 3 hts (z_gS wt_2_219 wt_2_220 wt_1_1 wt_2_221) rfl rfl rfl yd_yX11_isWithin ⟨Nat.le_of_ble_eq_true rfl, Nat.le_of_ble_eq_true rfl⟩) hl.1 rfl rfl (Nat.le_of_ble_eq_true rfl) dX11_isSetting_36 (fun H locs hP hS => ?_)
    obtain ⟨h_4, hf⟩ := z_bo hf
    obtain ⟨h1, h2⟩ := z_s2 hf
    subst h1 h2
    exact hret _ _ _ _ h_4 hP hS dX11_isSetting_39
  have hf := z_if c_5 hf
  have n_6 : a_1.toInt ≠ 0 := z_ne c_5 (by decide)
  by_cases c_11 : a_1 = (1 : Int32)
  · have hf := z_it c_11 hf
    refine lv_tableIn (off := 39) (tgt := 40) hx hb dX11_isSetting_1 (by rw [c_11]; decide) (by rw [c_11]; decide) (by rw [c_11]; rfl) (by decide) ?_
    refine lv_iload_n hx hb dX11_isSetting_40 rfl (lv_at hl 1 rfl) ?_
    refine lv_iconst (v := 0) hx hb dX11_isSetting_41 (by decide) ?_
    refine lv_bipush (v := 99) hx hb dX11_isSetting_42 (by decide) ?_
    obtain ⟨r_7, S_8, h_9, hf⟩ := z_bd hf
    refine z_cSI (As := [.int a_2, .int (0 : Int32), .int (99 : Int32)]) (rest := []) X hK hE hD hA hP hS (cx_isWithin l D K cy ad S_0 _ _ _ _ _ h_9) (va_cwS 3 hts (z_gS wt_2_219 wt_2_220 wt_1_1 wt_2_221) rfl rfl rfl yd_yX11_isWithin ⟨Nat.le_of_ble_eq_true rfl, Nat.le_of_ble_eq_true rfl⟩) hl.1 rfl rfl (Nat.le_of_ble_eq_true rfl) dX11_isSetting_44 (fun H locs hP hS => ?_)
    obtain ⟨h_10, hf⟩ := z_bo hf
    obtain ⟨h1, h2⟩ := z_s2 hf
    subst h1 h2
    exact hret _ _ _ _ h_10 hP hS dX11_isSetting_47
  have hf := z_if c_11 hf
  have n_12 : a_1.toInt ≠ 1 := z_ne c_11 (by decide)
  by_cases c_17 : a_1 = (2 : Int32)
  · have hf := z_it c_17 hf
    refine lv_tableIn (off := 47) (tgt := 48) hx hb dX11_isSetting_1 (by rw [c_17]; decide) (by rw [c_17]; decide) (by rw [c_17]; rfl) (by decide) ?_
    refine lv_iload_n hx hb dX11_isSetting_48 rfl (lv_at hl 1 rfl) ?_
    refine lv_iconst (v := 0) hx hb dX11_isSetting_49 (by decide) ?_
    refine lv_bipush (v := 99) hx hb dX11_isSetting_50 (by decide) ?_
    obtain ⟨r_13, S_14, h_15, hf⟩ := z_bd hf
    refine z_cSI (As := [.int a_2, .int (0 : Int32), .int (99 : Int32)]) (rest := []) X hK hE hD hA hP hS (cx_isWithin l D K cy ad S_0 _ _ _ _ _ h_15) (va_cwS 3 hts (z_gS wt_2_219 wt_2_220 wt_1_1 wt_2_221) rfl rfl rfl yd_yX11_isWithin ⟨Nat.le_of_ble_eq_true rfl, Nat.le_of_ble_eq_true rfl⟩) hl.1 rfl rfl (Nat.le_of_ble_eq_true rfl) dX11_isSetting_52 (fun H locs hP hS => ?_)
    obtain ⟨h_16, hf⟩ := z_bo hf
    obtain ⟨h1, h2⟩ := z_s2 hf
    subst h1 h2
    exact hret _ _ _ _ h_16 hP hS dX11_isSetting_55
  have hf := z_if c_17 hf
  have n_18 : a_1.toInt ≠ 2 := z_ne c_17 (by decide)
  by_cases c_23 : a_1 = (3 : Int32)
  · have hf := z_it c_23 hf
    refine lv_tableIn (off := 55) (tgt := 56) hx hb dX11_isSetting_1 (by rw [c_23]; decide) (by rw [c_23]; decide) (by rw [c_23]; rfl) (by decide) ?_
    refine lv_iload_n hx hb dX11_isSetting_56 rfl (lv_at hl 1 rfl) ?_
    refine lv_iconst (v := 0) hx hb dX11_isSetting_57 (by decide) ?_
    refine lv_bipush (v := 100) hx hb dX11_isSetting_58 (by decide) ?_
    obtain ⟨r_19, S_20, h_21, hf⟩ := z_bd hf
    refine z_cSI (As := [.int a_2, .int (0 : Int32), .int (100 : Int32)]) (rest := []) X hK hE hD hA hP hS (cx_isWithin l D K cy ad S_0 _ _ _ _ _ h_21) (va_cwS 3 hts (z_gS wt_2_219 wt_2_220 wt_1_1 wt_2_221) rfl rfl rfl yd_yX11_isWithin ⟨Nat.le_of_ble_eq_true rfl, Nat.le_of_ble_eq_true rfl⟩) hl.1 rfl rfl (Nat.le_of_ble_eq_true rfl) dX11_isSetting_60 (fun H locs hP hS => ?_)
    obtain ⟨h_22, hf⟩ := z_bo hf
    obtain ⟨h1, h2⟩ := z_s2 hf
    subst h1 h2
    exact hret _ _ _ _ h_22 hP hS dX11_isSetting_63
  have hf := z_if c_23 hf
  have n_24 : a_1.toInt ≠ 3 := z_ne c_23 (by decide)
  refine lv_tableOut (tgt := 64) hx hb dX11_isSetting_1 (by omega) (by decide) ?_
  refine lv_iconst (v := 0) hx hb dX11_isSetting_64 (by decide) ?_
  obtain ⟨h1, h2⟩ := z_s2 hf
  subst h1 h2
  exact hret _ _ _ _ rfl hP hS dX11_isSetting_65
def fx_set (S_0 : zSt) (a_1 : Int32) (a_2 : Int32) : Option (Int32 × zSt) :=
  zbd (fx_isSetting S_0 a_1 a_2) fun r_1 S_2 =>
  if r_1 = 0 then (
  some ((0 : Int32), S_2)) else (
  zck (zix a_1 4) <|
  znm (zpI S_2 19 (a_1.toNatClampNeg) a_2) fun S_5 =>
  zbd (fx_History_forget S_5) fun _ S_7 =>
  some ((1 : Int32), S_7))
set_option maxHeartbeats 4000000 in
set_option maxRecDepth 100000 in
theorem cx_set (l : Launch) (D : va_G) (K : (Nat → Nat) × (Nat → Nat)) (cy : Nat → ClassId) (ad : Nat → Nat) (S_0 : zSt) (a_1 : Int32) (a_2 : Int32) (ro : Int32) (So : zSt) (hf : fx_set S_0 a_1 a_2 = some (ro, So)) : zMI l yX11_set (zws yX11_set cX11_set 3 (Option.some .boolean)) ({ frames := 2, cells := 0, slots := 0, locals := 43 }) D (zTy cy) K (zX cy ad) [.ref (ad 0), .int a_1, .int a_2] S_0 ro So := by
  refine z_metZ (own := RX11) (lv := [(0, .ref (ad 0)), (1, .int a_1), (2, .int a_2)]) (by decide) rfl rfl (Nat.le_of_ble_eq_true rfl) rfl ?_
  intro p e s m below meth c A Q X hK hE hD hA hret hP hS ls hl
  obtain ⟨hx, hb, hml, hown, hts⟩ := id X
  have k0 := (fun w h => List.mem_cons_of_mem _ (zFX11 w h) : ∀ w ∈ u_ws RX11 TX11 8, w ∈ zws yX11_set cX11_set 3 (Option.some .boolean))
  have k1 := hts _ (List.mem_cons_of_mem _ wt_2_175)
  have k2 := (fun w h => List.mem_cons_of_mem _ (zFX0 w h) : ∀ w ∈ u_ws RX0 TX0 6, w ∈ zws yX11_set cX11_set 3 (Option.some .boolean))
  have k3 := hts _ (List.mem_cons_of_mem _ wt_2_0)
  have k4 := hts _ (List.mem_cons_of_mem _ wt_2_178)
  refine lv_iload_n hx hb dX11_set_0 rfl (lv_at hl 1 rfl) ?_
  refine lv_iload_n hx hb dX11_set_1 rfl (lv_at hl 2 rfl) ?_
  obtain ⟨r_1, S_2, h_3, hf⟩ := z_bd hf
  refine z_cSI (As := [.int a_1, .int a_2]) (rest := []) X hK hE hD hA hP hS (cx_isSetting l D K cy ad S_0 _ _ _ _ h_3) (va_cwS 2 hts (z_gS wt_3_13 wt_3_14 wt_1_1 wt_3_15) rfl rfl rfl yd_yX11_isSetting ⟨Nat.le_of_ble_eq_true rfl, Nat.le_of_ble_eq_true rfl⟩) hl.1 rfl rfl (Nat.le_of_ble_eq_true rfl) dX11_set_2 (fun H locs hP hS => ?_)
  refine lv_if_ne (tgt := 10) hx hb dX11_set_5 (by decide) (fun c_9 => ?_) (fun c_9 => ?_)
  · have hf := z_if c_9 hf
    refine lv_aload_n hx hb dX11_set_10 rfl (lv_at hl 0 rfl) ?_
    refine va_get (D := D) (ci := 11) (v := .ref (ad 3)) (C := RX11) (T := TX11) (N := 8) hx hb hts k0 hown hK hP 0 (zX_0 cy ad S_2) rfl 1 (by decide) k1 (fun _ h9 => h9) rfl dX11_set_11 ?_
    refine va_get (D := D) (ci := 0) (v := .ref (ad 19)) (C := RX0) (T := TX0) (N := 6) hx hb hts k2 hown hK hP 3 (zX_3 cy ad S_2) rfl 2 (by decide) k3 (fun _ h9 => h9) rfl dX11_set_14 ?_
    refine lv_iload_n hx hb dX11_set_17 rfl (lv_at hl 1 rfl) ?_
    refine lv_iload_n hx hb dX11_set_18 rfl (lv_at hl 2 rfl) ?_
    obtain ⟨h_4, hf⟩ := z_ix hf
    refine z_iast hx hb hK hP (hD S_2) hS 19 0 (zX_19 cy ad S_2) rfl h_4 (k := (a_1.toNatClampNeg)) rfl dX11_set_19 (fun H locs hP hS => ?_)
    obtain ⟨S_5, eS_5, hf⟩ := z_nm hf
    have hP := zW_putI hP eS_5 (by decide) rfl
    refine lv_aload_n hx hb dX11_set_20 rfl (lv_at hl 0 rfl) ?_
    refine va_get (D := D) (ci := 11) (v := .ref (ad 59)) (C := RX11) (T := TX11) (N := 8) hx hb hts k0 hown hK hP 0 (zX_0 cy ad S_5) rfl 4 (by decide) k4 (fun _ h9 => h9) rfl dX11_set_21 ?_
    obtain ⟨r_6, S_7, h_8, hf⟩ := z_bd hf
    refine z_cVV (As := []) (rest := []) X hK hE hD hA hP hS (cx_History_forget l D K cy ad S_5 _ h_8) (cwV 0 hts (z_gV wt_2_235 wt_2_236 wt_2_237 wt_1_9 wt_2_238) rfl rfl rfl ⟨rfl, yd_yX1_forget⟩ ⟨Nat.le_of_ble_eq_true rfl, Nat.le_of_ble_eq_true rfl⟩) (va_recv hK hP (ci := 1) (q0 := 59) rfl (zX_59 cy ad S_5)) hl.1 rfl rfl (Nat.le_of_ble_eq_true rfl) dX11_set_24 (fun H locs hP hS => ?_)
    refine lv_iconst (v := 1) hx hb dX11_set_27 (by decide) ?_
    obtain ⟨h1, h2⟩ := z_s2 hf
    subst h1 h2
    exact hret _ _ _ _ rfl hP hS dX11_set_28
  · have hf := z_it c_9 hf
    refine lv_iconst (v := 0) hx hb dX11_set_8 (by decide) ?_
    obtain ⟨h1, h2⟩ := z_s2 hf
    subst h1 h2
    exact hret _ _ _ _ rfl hP hS dX11_set_9
def fx_text (S_0 : zSt) : Option (Int32 × zSt) :=
  zbd (fx_Reader_read S_0) fun r_1 S_2 =>
  znm (zpI S_2 1 1 (0 : Int32)) fun S_4 =>
  if r_1 = 0 then (
  some ((-1 : Int32), S_4)) else (
  zbd (fx_Rule_take_rd S_4 (S_4.1 125 2) (S_4.1 125 3)) fun _ S_6 =>
  some (S_6.1 20 2, S_6))
set_option maxHeartbeats 4000000 in
set_option maxRecDepth 100000 in
theorem cx_text (l : Launch) (D : va_G) (K : (Nat → Nat) × (Nat → Nat)) (cy : Nat → ClassId) (ad : Nat → Nat) (S_0 : zSt) (ro : Int32) (So : zSt) (hf : fx_text S_0 = some (ro, So)) : zMI l yX11_text (zws yX11_text cX11_text 2 (Option.some .int)) ({ frames := 8, cells := 0, slots := 0, locals := 307 }) D (zTy cy) K (zX cy ad) [.ref (ad 0)] S_0 ro So := by
  refine z_metI (own := RX11) (lv := [(0, .ref (ad 0))]) (by decide) rfl rfl (Nat.le_of_ble_eq_true rfl) rfl ?_
  intro p e s m below meth c A Q X hK hE hD hA hret hP hS ls hl
  obtain ⟨hx, hb, hml, hown, hts⟩ := id X
  have k0 := (fun w h => List.mem_cons_of_mem _ (zFX11 w h) : ∀ w ∈ u_ws RX11 TX11 8, w ∈ zws yX11_text cX11_text 2 (Option.some .int))
  have k1 := hts _ (List.mem_cons_of_mem _ wt_2_179)
  have k2 := hts _ (List.mem_cons_of_mem _ wt_2_174)
  have k3 := (fun w h => List.mem_cons_of_mem _ (zFX9 w h) : ∀ w ∈ u_ws RX9 TX9 2, w ∈ zws yX11_text cX11_text 2 (Option.some .int))
  have k4 := hts _ (List.mem_cons_of_mem _ wt_1_44)
  have k5 := hts _ (List.mem_cons_of_mem _ wt_2_175)
  have k6 := (fun w h => List.mem_cons_of_mem _ (zFX0 w h) : ∀ w ∈ u_ws RX0 TX0 6, w ∈ zws yX11_text cX11_text 2 (Option.some .int))
  have k7 := hts _ (List.mem_cons_of_mem _ wt_2_4)
  have k8 := (fun w h => List.mem_cons_of_mem _ (zFX7 w h) : ∀ w ∈ u_ws RX7 TX7 16, w ∈ zws yX11_text cX11_text 2 (Option.some .int))
  have k9 := hts _ (List.mem_cons_of_mem _ wt_2_50)
  have k10 := hts _ (List.mem_cons_of_mem _ wt_2_52)
  have k11 := hts _ (List.mem_cons_of_mem _ wt_2_54)
  have k12 := (fun w h => List.mem_cons_of_mem _ (zFX6 w h) : ∀ w ∈ u_ws RX6 TX6 3, w ∈ zws yX11_text cX11_text 2 (Option.some .int))
  have k13 := hts _ (List.mem_cons_of_mem _ wt_1_179)
  refine lv_aload_n hx hb dX11_text_0 rfl (lv_at hl 0 rfl) ?_
  refine va_get (D := D) (ci := 11) (v := .ref (ad 125)) (C := RX11) (T := TX11) (N := 8) hx hb hts k0 hown hK hP 0 (zX_0 cy ad S_0) rfl 5 (by decide) k1 (fun _ h9 => h9) rfl dX11_text_1 ?_
  obtain ⟨r_1, S_2, h_3, hf⟩ := z_bd hf
  refine z_cVI (As := []) (rest := []) X hK hE hD hA hP hS (cx_Reader_read l D K cy ad S_0 _ _ h_3) (cwV 0 hts (z_gV wt_3_20 wt_3_21 wt_3_22 wt_1_10 wt_3_23) rfl rfl rfl ⟨rfl, yd_yX7_read⟩ ⟨Nat.le_of_ble_eq_true rfl, Nat.le_of_ble_eq_true rfl⟩) (va_recv hK hP (ci := 7) (q0 := 125) rfl (zX_125 cy ad S_0)) hl.1 rfl rfl (Nat.le_of_ble_eq_true rfl) dX11_text_4 (fun H locs hP hS => ?_)
  refine lv_istore_n (lv' := [(1, .int r_1), (0, .ref (ad 0))]) hx hb dX11_text_7 rfl hl (by decide) rfl (fun ls hl => ?_)
  refine lv_aload_n hx hb dX11_text_8 rfl (lv_at hl 1 rfl) ?_
  refine va_get (D := D) (ci := 11) (v := .ref (ad 1)) (C := RX11) (T := TX11) (N := 8) hx hb hts k0 hown hK hP 0 (zX_0 cy ad S_2) rfl 0 (by decide) k2 (fun _ h9 => h9) rfl dX11_text_9 ?_
  refine lv_iconst (v := 0) hx hb dX11_text_12 (by decide) ?_
  refine va_put (D := D) (ci := 9) (v := .int (0 : Int32)) (ty := .int) (C := RX9) (T := TX9) (N := 2) hx hb hts k3 tyX9 tyX9_ok nmX9 hown hK hP (hD S_2) hS 1 (zX_1 cy ad S_2) rfl 1 (by decide) k4 (fun _ h9 => h9) rfl (tyX9_ok 1 (by decide)) rfl rfl (Nat.le_of_ble_eq_true rfl) dX11_text_13 (fun H locs hP _ hS => ?_)
  obtain ⟨S_4, eS_4, hf⟩ := z_nm hf
  have hP := zW_putI hP eS_4 (by decide) rfl
  refine lv_iload_n hx hb dX11_text_16 rfl (lv_at hl 0 rfl) ?_
  refine lv_if_ne (tgt := 22) hx hb dX11_text_17 (by decide) (fun c_8 => ?_) (fun c_8 => ?_)
  · have hf := z_if c_8 hf
    refine lv_aload_n hx hb dX11_text_22 rfl (lv_at hl 1 rfl) ?_
    refine va_get (D := D) (ci := 11) (v := .ref (ad 3)) (C := RX11) (T := TX11) (N := 8) hx hb hts k0 hown hK hP 0 (zX_0 cy ad S_4) rfl 1 (by decide) k5 (fun _ h9 => h9) rfl dX11_text_23 ?_
    refine va_get (D := D) (ci := 0) (v := .ref (ad 20)) (C := RX0) (T := TX0) (N := 6) hx hb hts k6 hown hK hP 3 (zX_3 cy ad S_4) rfl 3 (by decide) k7 (fun _ h9 => h9) rfl dX11_text_26 ?_
    refine lv_aload_n hx hb dX11_text_29 rfl (lv_at hl 1 rfl) ?_
    refine va_get (D := D) (ci := 11) (v := .ref (ad 125)) (C := RX11) (T := TX11) (N := 8) hx hb hts k0 hown hK hP 0 (zX_0 cy ad S_4) rfl 5 (by decide) k1 (fun _ h9 => h9) rfl dX11_text_30 ?_
    refine va_get (D := D) (ci := 7) (v := .ref (ad 126)) (C := RX7) (T := TX7) (N := 16) hx hb hts k8 hown hK hP 125 (zX_125 cy ad S_4) rfl 1 (by decide) k9 (fun _ h9 => h9) rfl dX11_text_33 ?_
    refine lv_aload_n hx hb dX11_text_36 rfl (lv_at hl 1 rfl) ?_
    refine va_get (D := D) (ci := 11) (v := .ref (ad 125)) (C := RX11) (T := TX11) (N := 8) hx hb hts k0 hown hK hP 0 (zX_0 cy ad S_4) rfl 5 (by decide) k1 (fun _ h9 => h9) rfl dX11_text_37 ?_
    refine va_get (D := D) (ci := 7) (v := .int (S_4.1 125 2)) (C := RX7) (T := TX7) (N := 16) hx hb hts k8 hown hK hP 125 (zX_125 cy ad S_4) rfl 2 (by decide) k10 (fun _ h9 => h9) rfl dX11_text_40 ?_
    refine lv_aload_n hx hb dX11_text_43 rfl (lv_at hl 1 rfl) ?_
    refine va_get (D := D) (ci := 11) (v := .ref (ad 125)) (C := RX11) (T := TX11) (N := 8) hx hb hts k0 hown hK hP 0 (zX_0 cy ad S_4) rfl 5 (by decide) k1 (fun _ h9 => h9) rfl dX11_text_44 ?_
    refine va_get (D := D) (ci := 7) (v := .int (S_4.1 125 3)) (C := RX7) (T := TX7) (N := 16) hx hb hts k8 hown hK hP 125 (zX_125 cy ad S_4) rfl 3 (by decide) k11 (fun _ h9 => h9) rfl dX11_text_47 ?_
    obtain ⟨r_5, S_6, h_7, hf⟩ := z_bd hf
    refine z_cVV (As := [.ref (ad 126), .int (S_4.1 125 2), .int (S_4.1 125 3)]) (rest := []) X hK hE hD hA hP hS (cx_Rule_take_rd l D K cy ad S_4 _ _ _ h_7) (cwV 3 hts (z_gV wt_3_225 wt_3_226 wt_3_227 wt_1_6 wt_3_228) rfl rfl rfl ⟨rfl, yd_yX6_take⟩ ⟨Nat.le_of_ble_eq_true rfl, Nat.le_of_ble_eq_true rfl⟩) (va_recv hK hP (ci := 6) (q0 := 20) rfl (zX_20 cy ad S_4)) hl.1 rfl rfl (Nat.le_of_ble_eq_true rfl) dX11_text_50 (fun H locs hP hS => ?_)
    refine lv_aload_n hx hb dX11_text_53 rfl (lv_at hl 1 rfl) ?_
    refine va_get (D := D) (ci := 11) (v := .ref (ad 3)) (C := RX11) (T := TX11) (N := 8) hx hb hts k0 hown hK hP 0 (zX_0 cy ad S_6) rfl 1 (by decide) k5 (fun _ h9 => h9) rfl dX11_text_54 ?_
    refine va_get (D := D) (ci := 0) (v := .ref (ad 20)) (C := RX0) (T := TX0) (N := 6) hx hb hts k6 hown hK hP 3 (zX_3 cy ad S_6) rfl 3 (by decide) k7 (fun _ h9 => h9) rfl dX11_text_57 ?_
    refine va_get (D := D) (ci := 6) (v := .int (S_6.1 20 2)) (C := RX6) (T := TX6) (N := 3) hx hb hts k12 hown hK hP 20 (zX_20 cy ad S_6) rfl 2 (by decide) k13 (fun _ h9 => h9) rfl dX11_text_60 ?_
    obtain ⟨h1, h2⟩ := z_s2 hf
    subst h1 h2
    exact hret _ _ _ _ hP hS dX11_text_63
  · have hf := z_it c_8 hf
    refine lv_iconst (v := -1) hx hb dX11_text_20 (by decide) ?_
    obtain ⟨h1, h2⟩ := z_s2 hf
    subst h1 h2
    exact hret _ _ _ _ hP hS dX11_text_21
def fx_fault (S_0 : zSt) (a_1 : Int32) : Option (Int32 × zSt) :=
  if a_1 = 0 then (
  some (S_0.1 125 4, S_0)) else (
  znm (fun (x_1 : Int32) (S_2 : zSt) =>
  some (x_1, S_2)) fun j_28 =>
  if a_1 = (1 : Int32) then (
  j_28 (S_0.1 125 5) S_0) else (
  j_28 (-1 : Int32) S_0))
set_option maxHeartbeats 4000000 in
set_option maxRecDepth 100000 in
theorem cx_fault (l : Launch) (D : va_G) (K : (Nat → Nat) × (Nat → Nat)) (cy : Nat → ClassId) (ad : Nat → Nat) (S_0 : zSt) (a_1 : Int32) (ro : Int32) (So : zSt) (hf : fx_fault S_0 a_1 = some (ro, So)) : zMI l yX11_fault (zws yX11_fault cX11_fault 2 (Option.some .int)) ({ frames := 0, cells := 0, slots := 0, locals := 0 }) D (zTy cy) K (zX cy ad) [.ref (ad 0), .int a_1] S_0 ro So := by
  refine z_metI (own := RX11) (lv := [(0, .ref (ad 0)), (1, .int a_1)]) (by decide) rfl rfl (Nat.le_of_ble_eq_true rfl) rfl ?_
  intro p e s m below meth c A Q X hK hE hD hA hret hP hS ls hl
  obtain ⟨hx, hb, hml, hown, hts⟩ := id X
  have k0 := (fun w h => List.mem_cons_of_mem _ (zFX11 w h) : ∀ w ∈ u_ws RX11 TX11 8, w ∈ zws yX11_fault cX11_fault 2 (Option.some .int))
  have k1 := hts _ (List.mem_cons_of_mem _ wt_2_179)
  have k2 := (fun w h => List.mem_cons_of_mem _ (zFX7 w h) : ∀ w ∈ u_ws RX7 TX7 16, w ∈ zws yX11_fault cX11_fault 2 (Option.some .int))
  have k3 := hts _ (List.mem_cons_of_mem _ wt_2_58)
  have k4 := hts _ (List.mem_cons_of_mem _ wt_2_56)
  refine lv_iload_n hx hb dX11_fault_0 rfl (lv_at hl 1 rfl) ?_
  refine lv_if_ne (tgt := 12) hx hb dX11_fault_1 (by decide) (fun c_4 => ?_) (fun c_4 => ?_)
  · have hf := z_if c_4 hf
    refine lv_iload_n hx hb dX11_fault_12 rfl (lv_at hl 1 rfl) ?_
    refine lv_iconst (v := 1) hx hb dX11_fault_13 (by decide) ?_
    obtain ⟨j_28, ej_28, hf⟩ := z_nm hf
    have J_28 : ∀ (x_1 : Int32) (S_2 : zSt) (H : Heap) (locs : List Loc) (ls : Array Slot), j_28 x_1 S_2 = some (ro, So) → va_P D vwCl (zX cy ad S_2) H → va_S A s.heap H locs → lv_has ls 2 [] → W p l e ({ frames := 0, cells := 0, slots := 0, locals := 0 }) s m ([.ref (ad 0), .int a_1] : List Value).toArray below meth c H locs 0 0 Q (F0 m 28 ls [.int x_1]) := by
      intro x_1 S_2 H locs ls hf hP hS hl
      have hf := z_e2 ej_28 hf
      obtain ⟨h1, h2⟩ := z_s2 hf
      subst h1 h2
      exact hret _ _ _ _ hP hS dX11_fault_28
    refine lv_icmp_ne (tgt := 27) hx hb dX11_fault_14 (by decide) (fun c_3 => ?_) (fun c_3 => ?_)
    · have hf := z_if c_3 hf
      refine lv_iconst (v := -1) hx hb dX11_fault_27 (by decide) ?_
      exact J_28 (-1 : Int32) S_0 _ _ _ hf hP hS (lv_sub hl [] rfl)
    · have hf := z_it c_3 hf
      refine lv_aload_n hx hb dX11_fault_17 rfl (lv_at hl 0 rfl) ?_
      refine va_get (D := D) (ci := 11) (v := .ref (ad 125)) (C := RX11) (T := TX11) (N := 8) hx hb hts k0 hown hK hP 0 (zX_0 cy ad S_0) rfl 5 (by decide) k1 (fun _ h9 => h9) rfl dX11_fault_18 ?_
      refine va_get (D := D) (ci := 7) (v := .int (S_0.1 125 5)) (C := RX7) (T := TX7) (N := 16) hx hb hts k2 hown hK hP 125 (zX_125 cy ad S_0) rfl 5 (by decide) k3 (fun _ h9 => h9) rfl dX11_fault_21 ?_
      refine lv_goto (tgt := 28) hx hb dX11_fault_24 (by decide) ?_
      exact J_28 (S_0.1 125 5) S_0 _ _ _ hf hP hS (lv_sub hl [] rfl)
  · have hf := z_it c_4 hf
    refine lv_aload_n hx hb dX11_fault_4 rfl (lv_at hl 0 rfl) ?_
    refine va_get (D := D) (ci := 11) (v := .ref (ad 125)) (C := RX11) (T := TX11) (N := 8) hx hb hts k0 hown hK hP 0 (zX_0 cy ad S_0) rfl 5 (by decide) k1 (fun _ h9 => h9) rfl dX11_fault_5 ?_
    refine va_get (D := D) (ci := 7) (v := .int (S_0.1 125 4)) (C := RX7) (T := TX7) (N := 16) hx hb hts k2 hown hK hP 125 (zX_125 cy ad S_0) rfl 4 (by decide) k4 (fun _ h9 => h9) rfl dX11_fault_8 ?_
    obtain ⟨h1, h2⟩ := z_s2 hf
    subst h1 h2
    exact hret _ _ _ _ hP hS dX11_fault_11
def fx_order (S_0 : zSt) (a_1 : Int32) : Option (Int32 × zSt) :=
  zbd (fx_Houses_has S_0 a_1) fun r_1 S_2 =>
  if r_1 = 0 then (
  some ((-1 : Int32), S_2)) else (
  zbd (fx_Lineup_standForToday S_2) fun _ S_5 =>
  zck (zix a_1 9) <|
  some (S_5.1 129 (a_1.toNatClampNeg), S_5))
set_option maxHeartbeats 4000000 in
set_option maxRecDepth 100000 in
theorem cx_order (l : Launch) (D : va_G) (K : (Nat → Nat) × (Nat → Nat)) (cy : Nat → ClassId) (ad : Nat → Nat) (S_0 : zSt) (a_1 : Int32) (ro : Int32) (So : zSt) (hf : fx_order S_0 a_1 = some (ro, So)) : zMI l yX11_order (zws yX11_order cX11_order 2 (Option.some .int)) ({ frames := 4, cells := 0, slots := 0, locals := 89 }) D (zTy cy) K (zX cy ad) [.ref (ad 0), .int a_1] S_0 ro So := by
  refine z_metI (own := RX11) (lv := [(0, .ref (ad 0)), (1, .int a_1)]) (by decide) rfl rfl (Nat.le_of_ble_eq_true rfl) rfl ?_
  intro p e s m below meth c A Q X hK hE hD hA hret hP hS ls hl
  obtain ⟨hx, hb, hml, hown, hts⟩ := id X
  have k0 := (fun w h => List.mem_cons_of_mem _ (zFX11 w h) : ∀ w ∈ u_ws RX11 TX11 8, w ∈ zws yX11_order cX11_order 2 (Option.some .int))
  have k1 := hts _ (List.mem_cons_of_mem _ wt_2_175)
  have k2 := (fun w h => List.mem_cons_of_mem _ (zFX0 w h) : ∀ w ∈ u_ws RX0 TX0 6, w ∈ zws yX11_order cX11_order 2 (Option.some .int))
  have k3 := hts _ (List.mem_cons_of_mem _ wt_1_235)
  have k4 := hts _ (List.mem_cons_of_mem _ wt_2_180)
  have k5 := (fun w h => List.mem_cons_of_mem _ (zFX4 w h) : ∀ w ∈ u_ws RX4 TX4 14, w ∈ zws yX11_order cX11_order 2 (Option.some .int))
  have k6 := hts _ (List.mem_cons_of_mem _ wt_2_110)
  refine lv_aload_n hx hb dX11_order_0 rfl (lv_at hl 0 rfl) ?_
  refine va_get (D := D) (ci := 11) (v := .ref (ad 3)) (C := RX11) (T := TX11) (N := 8) hx hb hts k0 hown hK hP 0 (zX_0 cy ad S_0) rfl 1 (by decide) k1 (fun _ h9 => h9) rfl dX11_order_1 ?_
  refine va_get (D := D) (ci := 0) (v := .ref (ad 4)) (C := RX0) (T := TX0) (N := 6) hx hb hts k2 hown hK hP 3 (zX_3 cy ad S_0) rfl 0 (by decide) k3 (fun _ h9 => h9) rfl dX11_order_4 ?_
  refine lv_iload_n hx hb dX11_order_7 rfl (lv_at hl 1 rfl) ?_
  obtain ⟨r_1, S_2, h_3, hf⟩ := z_bd hf
  refine z_cVI (As := [.int a_1]) (rest := []) X hK hE hD hA hP hS (cx_Houses_has l D K cy ad S_0 _ _ _ h_3) (cwV 1 hts (z_gV wt_3_3 wt_3_4 wt_3_5 wt_1_4 wt_3_6) rfl rfl rfl ⟨rfl, yd_yX2_has⟩ ⟨Nat.le_of_ble_eq_true rfl, Nat.le_of_ble_eq_true rfl⟩) (va_recv hK hP (ci := 2) (q0 := 4) rfl (zX_4 cy ad S_0)) hl.1 rfl rfl (Nat.le_of_ble_eq_true rfl) dX11_order_8 (fun H locs hP hS => ?_)
  refine lv_if_ne (tgt := 16) hx hb dX11_order_11 (by decide) (fun c_8 => ?_) (fun c_8 => ?_)
  · have hf := z_if c_8 hf
    refine lv_aload_n hx hb dX11_order_16 rfl (lv_at hl 0 rfl) ?_
    refine va_get (D := D) (ci := 11) (v := .ref (ad 128)) (C := RX11) (T := TX11) (N := 8) hx hb hts k0 hown hK hP 0 (zX_0 cy ad S_2) rfl 6 (by decide) k4 (fun _ h9 => h9) rfl dX11_order_17 ?_
    obtain ⟨r_4, S_5, h_6, hf⟩ := z_bd hf
    refine z_cVV (As := []) (rest := []) X hK hE hD hA hP hS (cx_Lineup_standForToday l D K cy ad S_2 _ h_6) (cwV 0 hts (z_gV wt_4_1 wt_4_2 wt_4_3 wt_1_11 wt_4_4) rfl rfl rfl ⟨rfl, yd_yX4_standForToday⟩ ⟨Nat.le_of_ble_eq_true rfl, Nat.le_of_ble_eq_true rfl⟩) (va_recv hK hP (ci := 4) (q0 := 128) rfl (zX_128 cy ad S_2)) hl.1 rfl rfl (Nat.le_of_ble_eq_true rfl) dX11_order_20 (fun H locs hP hS => ?_)
    refine lv_aload_n hx hb dX11_order_23 rfl (lv_at hl 0 rfl) ?_
    refine va_get (D := D) (ci := 11) (v := .ref (ad 128)) (C := RX11) (T := TX11) (N := 8) hx hb hts k0 hown hK hP 0 (zX_0 cy ad S_5) rfl 6 (by decide) k4 (fun _ h9 => h9) rfl dX11_order_24 ?_
    refine va_get (D := D) (ci := 4) (v := .ref (ad 129)) (C := RX4) (T := TX4) (N := 14) hx hb hts k5 hown hK hP 128 (zX_128 cy ad S_5) rfl 1 (by decide) k6 (fun _ h9 => h9) rfl dX11_order_27 ?_
    refine lv_iload_n hx hb dX11_order_30 rfl (lv_at hl 1 rfl) ?_
    obtain ⟨h_7, hf⟩ := z_ix hf
    refine z_iald hx hb hK hP 129 0 (zX_129 cy ad S_5) rfl h_7 (k := (a_1.toNatClampNeg)) rfl dX11_order_31 ?_
    obtain ⟨h1, h2⟩ := z_s2 hf
    subst h1 h2
    exact hret _ _ _ _ hP hS dX11_order_32
  · have hf := z_it c_8 hf
    refine lv_iconst (v := -1) hx hb dX11_order_14 (by decide) ?_
    obtain ⟨h1, h2⟩ := z_s2 hf
    subst h1 h2
    exact hret _ _ _ _ hP hS dX11_order_15
def fx_days_L35 (a_1 : Int32) : Nat → Int32 → Int32 → zSt → Option (Int32 × zSt)
  | 0, _, _, _ => none
  | n_35 + 1, x_5, x_6, S_7 =>
    if a_1 ≤ x_6 then (
    some (x_5, S_7)) else (
    znm (fun (S_8 : zSt) =>
    zbd (fx_Lineup_passDay S_8) fun r_9 S_10 =>
    znm (fun (x_12 : Int32) (S_13 : zSt) =>
    znm (x_6 + (1 : Int32)) fun x_14 =>
    fx_days_L35 a_1 n_35 x_12 x_14 S_13) fun j_75 =>
    if r_9 = 0 then (
    j_75 x_5 S_10) else (
    znm (x_5 + (1 : Int32)) fun x_15 =>
    j_75 x_15 S_10)) fun j_62 =>
    if (8 : Int32) < (a_1 - x_6) then (
    j_62  S_7) else (
    zbd (fx_History_keep S_7) fun _ S_18 =>
    j_62  S_18))
def fx_days (S_0 : zSt) (a_1 : Int32) : Option (Int32 × zSt) :=
  zbd (fx_isWithin S_0 a_1 (1 : Int32) (400 : Int32)) fun r_1 S_2 =>
  znm (fun (S_4 : zSt) =>
  some ((-1 : Int32), S_4)) fun j_29 =>
  if r_1 = 0 then (
  j_29  S_2) else (
  if (S_2.1 11 1) ≤ ((9999 : Int32) - a_1) then (
  fx_days_L35 a_1 zFU (0 : Int32) (0 : Int32) S_2) else (
  j_29  S_2))
set_option maxHeartbeats 4000000 in
set_option maxRecDepth 100000 in
theorem cx_days (l : Launch) (D : va_G) (K : (Nat → Nat) × (Nat → Nat)) (cy : Nat → ClassId) (ad : Nat → Nat) (S_0 : zSt) (a_1 : Int32) (ro : Int32) (So : zSt) (hf : fx_days S_0 a_1 = some (ro, So)) : zMI l yX11_days (zws yX11_days cX11_days 4 (Option.some .int)) ({ frames := 5, cells := 0, slots := 0, locals := 272 }) D (zTy cy) K (zX cy ad) [.ref (ad 0), .int a_1] S_0 ro So := by
  refine z_metI (own := RX11) (lv := [(0, .ref (ad 0)), (1, .int a_1)]) (by decide) rfl rfl (Nat.le_of_ble_eq_true rfl) rfl ?_
  intro p e s m below meth c A Q X hK hE hD hA hret hP hS ls hl
  obtain ⟨hx, hb, hml, hown, hts⟩ := id X
  have k0 := (fun w h => List.mem_cons_of_mem _ (zFX11 w h) : ∀ w ∈ u_ws RX11 TX11 8, w ∈ zws yX11_days cX11_days 4 (Option.some .int))
  have k1 := hts _ (List.mem_cons_of_mem _ wt_2_175)
  have k2 := (fun w h => List.mem_cons_of_mem _ (zFX0 w h) : ∀ w ∈ u_ws RX0 TX0 6, w ∈ zws yX11_days cX11_days 4 (Option.some .int))
  have k3 := hts _ (List.mem_cons_of_mem _ wt_1_237)
  have k4 := (fun w h => List.mem_cons_of_mem _ (zFX10 w h) : ∀ w ∈ u_ws RX10 TX10 12, w ∈ zws yX11_days cX11_days 4 (Option.some .int))
  have k5 := hts _ (List.mem_cons_of_mem _ wt_1_111)
  have k6 := hts _ (List.mem_cons_of_mem _ wt_2_180)
  have k7 := hts _ (List.mem_cons_of_mem _ wt_2_178)
  refine lv_iload_n hx hb dX11_days_0 rfl (lv_at hl 1 rfl) ?_
  refine lv_iconst (v := 1) hx hb dX11_days_1 (by decide) ?_
  refine lv_sipush (v := 400) hx hb dX11_days_2 (by decide) ?_
  obtain ⟨r_1, S_2, h_3, hf⟩ := z_bd hf
  refine z_cSI (As := [.int a_1, .int (1 : Int32), .int (400 : Int32)]) (rest := []) X hK hE hD hA hP hS (cx_isWithin l D K cy ad S_0 _ _ _ _ _ h_3) (va_cwS 3 hts (z_gS wt_2_219 wt_2_220 wt_1_1 wt_2_221) rfl rfl rfl yd_yX11_isWithin ⟨Nat.le_of_ble_eq_true rfl, Nat.le_of_ble_eq_true rfl⟩) hl.1 rfl rfl (Nat.le_of_ble_eq_true rfl) dX11_days_5 (fun H locs hP hS => ?_)
  obtain ⟨j_29, ej_29, hf⟩ := z_nm hf
  have J_29 : ∀ (S_4 : zSt) (H : Heap) (locs : List Loc) (ls : Array Slot), j_29  S_4 = some (ro, So) → va_P D vwCl (zX cy ad S_4) H → va_S A s.heap H locs → lv_has ls 4 [] → W p l e ({ frames := 5, cells := 0, slots := 0, locals := 272 }) s m ([.ref (ad 0), .int a_1] : List Value).toArray below meth c H locs 0 0 Q (F0 m 29 ls []) := by
    intro  S_4 H locs ls hf hP hS hl
    have hf := z_e1 ej_29 hf
    refine lv_iconst (v := -1) hx hb dX11_days_29 (by decide) ?_
    obtain ⟨h1, h2⟩ := z_s2 hf
    subst h1 h2
    exact hret _ _ _ _ hP hS dX11_days_30
  refine lv_if_eq (tgt := 29) hx hb dX11_days_8 (by decide) (fun c_23 => ?_) (fun c_23 => ?_)
  · have hf := z_it c_23 hf
    exact J_29  S_2 _ _ _ hf hP hS (lv_sub hl [] rfl)
  · have hf := z_if c_23 hf
    refine lv_aload_n hx hb dX11_days_11 rfl (lv_at hl 0 rfl) ?_
    refine va_get (D := D) (ci := 11) (v := .ref (ad 3)) (C := RX11) (T := TX11) (N := 8) hx hb hts k0 hown hK hP 0 (zX_0 cy ad S_2) rfl 1 (by decide) k1 (fun _ h9 => h9) rfl dX11_days_12 ?_
    refine va_get (D := D) (ci := 0) (v := .ref (ad 11)) (C := RX0) (T := TX0) (N := 6) hx hb hts k2 hown hK hP 3 (zX_3 cy ad S_2) rfl 1 (by decide) k3 (fun _ h9 => h9) rfl dX11_days_15 ?_
    refine va_get (D := D) (ci := 10) (v := .int (S_2.1 11 1)) (C := RX10) (T := TX10) (N := 12) hx hb hts k4 hown hK hP 11 (zX_11 cy ad S_2) rfl 1 (by decide) k5 (fun _ h9 => h9) rfl dX11_days_18 ?_
    refine lv_sipush (v := 9999) hx hb dX11_days_21 (by decide) ?_
    refine lv_iload_n hx hb dX11_days_24 rfl (lv_at hl 1 rfl) ?_
    refine lv_isub hx hb dX11_days_25 ?_
    refine lv_icmp_le (tgt := 31) hx hb dX11_days_26 (by decide) (fun c_22 => ?_) (fun c_22 => ?_)
    · have hf := z_it c_22 hf
      refine lv_iconst (v := 0) hx hb dX11_days_31 (by decide) ?_
      refine lv_istore_n (lv' := [(2, .int (0 : Int32)), (0, .ref (ad 0)), (1, .int a_1)]) hx hb dX11_days_32 rfl hl (by decide) rfl (fun ls hl => ?_)
      refine lv_iconst (v := 0) hx hb dX11_days_33 (by decide) ?_
      refine lv_istore_n (lv' := [(3, .int (0 : Int32)), (2, .int (0 : Int32)), (0, .ref (ad 0)), (1, .int a_1)]) hx hb dX11_days_34 rfl hl (by decide) rfl (fun ls hl => ?_)
      have L_35 : ∀ (n_35 : Nat) (x_5 : Int32) (x_6 : Int32) (S_7 : zSt) (H : Heap) (locs : List Loc) (ls : Array Slot), fx_days_L35 a_1 n_35 x_5 x_6 S_7 = some (ro, So) → va_P D vwCl (zX cy ad S_7) H → va_S A s.heap H locs → lv_has ls 4 [(0, .ref (ad 0)), (1, .int a_1), (2, .int x_5), (3, .int x_6)] → W p l e ({ frames := 5, cells := 0, slots := 0, locals := 272 }) s m ([.ref (ad 0), .int a_1] : List Value).toArray below meth c H locs 0 0 Q (F0 m 35 ls []) := by
        intro n_35
        induction n_35 with
        | zero =>
          intro x_5 x_6 S_7 H locs ls hf hP hS hl
          exact z_no hf
        | succ n_35 ih_35 =>
          intro x_5 x_6 S_7 H locs ls hf hP hS hl
          rw [fx_days_L35] at hf
          refine lv_iload_n hx hb dX11_days_35 rfl (lv_at hl 3 rfl) ?_
          refine lv_iload_n hx hb dX11_days_36 rfl (lv_at hl 1 rfl) ?_
          refine lv_icmp_ge (tgt := 81) hx hb dX11_days_37 (by decide) (fun c_21 => ?_) (fun c_21 => ?_)
          · have hf := z_it c_21 hf
            refine lv_iload_n hx hb dX11_days_81 rfl (lv_at hl 2 rfl) ?_
            obtain ⟨h1, h2⟩ := z_s2 hf
            subst h1 h2
            exact hret _ _ _ _ hP hS dX11_days_82
          · have hf := z_if c_21 hf
            refine lv_iload_n hx hb dX11_days_40 rfl (lv_at hl 1 rfl) ?_
            refine lv_iload_n hx hb dX11_days_41 rfl (lv_at hl 3 rfl) ?_
            refine lv_isub hx hb dX11_days_42 ?_
            refine lv_bipush (v := 8) hx hb dX11_days_43 (by decide) ?_
            obtain ⟨j_62, ej_62, hf⟩ := z_nm hf
            have J_62 : ∀ (S_8 : zSt) (H : Heap) (locs : List Loc) (ls : Array Slot), j_62  S_8 = some (ro, So) → va_P D vwCl (zX cy ad S_8) H → va_S A s.heap H locs → lv_has ls 4 [(0, .ref (ad 0)), (1, .int a_1), (2, .int x_5), (3, .int x_6)] → W p l e ({ frames := 5, cells := 0, slots := 0, locals := 272 }) s m ([.ref (ad 0), .int a_1] : List Value).toArray below meth c H locs 0 0 Q (F0 m 62 ls []) := by
              intro  S_8 H locs ls hf hP hS hl
              have hf := z_e1 ej_62 hf
              refine lv_aload_n hx hb dX11_days_62 rfl (lv_at hl 0 rfl) ?_
              refine va_get (D := D) (ci := 11) (v := .ref (ad 128)) (C := RX11) (T := TX11) (N := 8) hx hb hts k0 hown hK hP 0 (zX_0 cy ad S_8) rfl 6 (by decide) k6 (fun _ h9 => h9) rfl dX11_days_63 ?_
              obtain ⟨r_9, S_10, h_11, hf⟩ := z_bd hf
              refine z_cVI (As := []) (rest := []) X hK hE hD hA hP hS (cx_Lineup_passDay l D K cy ad S_8 _ _ h_11) (cwV 0 hts (z_gV wt_4_48 wt_4_49 wt_4_50 wt_1_11 wt_4_51) rfl rfl rfl ⟨rfl, yd_yX4_passDay⟩ ⟨Nat.le_of_ble_eq_true rfl, Nat.le_of_ble_eq_true rfl⟩) (va_recv hK hP (ci := 4) (q0 := 128) rfl (zX_128 cy ad S_8)) hl.1 rfl rfl (Nat.le_of_ble_eq_true rfl) dX11_days_66 (fun H locs hP hS => ?_)
              obtain ⟨j_75, ej_75, hf⟩ := z_nm hf
              have J_75 : ∀ (x_12 : Int32) (S_13 : zSt) (H : Heap) (locs : List Loc) (ls : Array Slot), j_75 x_12 S_13 = some (ro, So) → va_P D vwCl (zX cy ad S_13) H → va_S A s.heap H locs → lv_has ls 4 [(0, .ref (ad 0)), (1, .int a_1), (2, .int x_12), (3, .int x_6)] → W p l e ({ frames := 5, cells := 0, slots := 0, locals := 272 }) s m ([.ref (ad 0), .int a_1] : List Value).toArray below meth c H locs 0 0 Q (F0 m 75 ls []) := by
                intro x_12 S_13 H locs ls hf hP hS hl
                have hf := z_e2 ej_75 hf
                obtain ⟨x_14, ex_14, hf⟩ := z_nm hf
                refine lv_iinc (v := x_14) (lv' := [(3, .int x_14), (0, .ref (ad 0)), (1, .int a_1), (2, .int x_12)]) hx hb dX11_days_75 hl (k := 3) rfl (by rw [ex_14]; rfl) (by decide) rfl (fun ls hl => ?_)
                refine lv_goto (tgt := 35) hx hb dX11_days_78 (by decide) ?_
                exact ih_35 x_12 x_14 S_13 _ _ _ hf hP hS (lv_sub hl [1, 2, 3, 0] rfl)
              refine lv_if_eq (tgt := 75) hx hb dX11_days_69 (by decide) (fun c_16 => ?_) (fun c_16 => ?_)
              · have hf := z_it c_16 hf
                exact J_75 x_5 S_10 _ _ _ hf hP hS (lv_sub hl [0, 1, 2, 3] rfl)
              · have hf := z_if c_16 hf
                obtain ⟨x_15, ex_15, hf⟩ := z_nm hf
                refine lv_iinc (v := x_15) (lv' := [(2, .int x_15), (0, .ref (ad 0)), (1, .int a_1), (3, .int x_6)]) hx hb dX11_days_72 hl (k := 2) rfl (by rw [ex_15]; rfl) (by decide) rfl (fun ls hl => ?_)
                exact J_75 x_15 S_10 _ _ _ hf hP hS (lv_sub hl [1, 2, 0, 3] rfl)
            refine lv_icmp_gt (tgt := 62) hx hb dX11_days_45 (by decide) (fun c_20 => ?_) (fun c_20 => ?_)
            · have hf := z_it c_20 hf
              exact J_62  S_7 _ _ _ hf hP hS (lv_sub hl [0, 1, 2, 3] rfl)
            · have hf := z_if c_20 hf
              refine lv_aload_n hx hb dX11_days_48 rfl (lv_at hl 0 rfl) ?_
              refine va_get (D := D) (ci := 11) (v := .ref (ad 59)) (C := RX11) (T := TX11) (N := 8) hx hb hts k0 hown hK hP 0 (zX_0 cy ad S_7) rfl 4 (by decide) k7 (fun _ h9 => h9) rfl dX11_days_49 ?_
              refine lv_aload_n hx hb dX11_days_52 rfl (lv_at hl 0 rfl) ?_
              refine va_get (D := D) (ci := 11) (v := .ref (ad 3)) (C := RX11) (T := TX11) (N := 8) hx hb hts k0 hown hK hP 0 (zX_0 cy ad S_7) rfl 1 (by decide) k1 (fun _ h9 => h9) rfl dX11_days_53 ?_
              refine va_get (D := D) (ci := 0) (v := .ref (ad 11)) (C := RX0) (T := TX0) (N := 6) hx hb hts k2 hown hK hP 3 (zX_3 cy ad S_7) rfl 1 (by decide) k3 (fun _ h9 => h9) rfl dX11_days_56 ?_
              obtain ⟨r_17, S_18, h_19, hf⟩ := z_bd hf
              refine z_cVV (As := [.ref (ad 11)]) (rest := []) X hK hE hD hA hP hS (cx_History_keep l D K cy ad S_7 _ h_19) (cwV 1 hts (z_gV wt_4_39 wt_4_40 wt_4_41 wt_1_9 wt_4_42) rfl rfl rfl ⟨rfl, yd_yX1_keep⟩ ⟨Nat.le_of_ble_eq_true rfl, Nat.le_of_ble_eq_true rfl⟩) (va_recv hK hP (ci := 1) (q0 := 59) rfl (zX_59 cy ad S_7)) hl.1 rfl rfl (Nat.le_of_ble_eq_true rfl) dX11_days_59 (fun H locs hP hS => ?_)
              exact J_62  S_18 _ _ _ hf hP hS (lv_sub hl [0, 1, 2, 3] rfl)
      exact L_35 zFU (0 : Int32) (0 : Int32) S_2 _ _ _ hf hP hS (lv_sub hl [2, 3, 1, 0] rfl)
    · have hf := z_if c_22 hf
      exact J_29  S_2 _ _ _ hf hP hS (lv_sub hl [] rfl)
def fx_of (S_0 : zSt) (a_1 : Int32) (a_2 : Int32) : Option (Int32 × zSt) :=
  zbd (fx_Houses_has S_0 a_1) fun r_1 S_2 =>
  if r_1 = 0 then (
  some ((-1000000000 : Int32), S_2)) else (
  if a_2 = (0 : Int32) then (
  zck (zix a_1 9) <|
  some (S_2.1 5 (a_1.toNatClampNeg), S_2)) else (
  if a_2 = (1 : Int32) then (
  zck (zix a_1 9) <|
  some (S_2.1 6 (a_1.toNatClampNeg), S_2)) else (
  if a_2 = (2 : Int32) then (
  zck (zix a_1 9) <|
  some (S_2.1 7 (a_1.toNatClampNeg), S_2)) else (
  if a_2 = (3 : Int32) then (
  zck (zix a_1 9) <|
  some (S_2.1 12 (a_1.toNatClampNeg), S_2)) else (
  if a_2 = (4 : Int32) then (
  zck (zix a_1 9) <|
  some (S_2.1 13 (a_1.toNatClampNeg), S_2)) else (
  if a_2 = (5 : Int32) then (
  zck (zix a_1 9) <|
  some (S_2.1 14 (a_1.toNatClampNeg), S_2)) else (
  if a_2 = (6 : Int32) then (
  zck (zix a_1 9) <|
  some (S_2.1 15 (a_1.toNatClampNeg), S_2)) else (
  if a_2 = (7 : Int32) then (
  zck (zix a_1 9) <|
  some (S_2.1 16 (a_1.toNatClampNeg), S_2)) else (
  if a_2 = (8 : Int32) then (
  zck (zix a_1 9) <|
  some (S_2.1 17 (a_1.toNatClampNeg), S_2)) else (
  if a_2 = (9 : Int32) then (
  zck (zix a_1 9) <|
  some (S_2.1 10 (a_1.toNatClampNeg), S_2)) else (
  znm (a_2 - (10 : Int32)) fun x_34 =>
  znm (fun (x_35 : Int32) (S_36 : zSt) =>
  some (x_35, S_36)) fun j_244 =>
  znm (fun (S_37 : zSt) =>
  j_244 (-1000000000 : Int32) S_37) fun j_242 =>
  if x_34 < 0 then (
  j_242  S_2) else (
  zck (zix a_1 9) <|
  if (S_2.1 9 (a_1.toNatClampNeg)) ≤ x_34 then (
  j_242  S_2) else (
  zbd (fx_Houses_letterOf S_2 a_1 x_34) fun r_39 S_40 =>
  j_244 r_39 S_40)))))))))))))
set_option maxHeartbeats 4000000 in
set_option maxRecDepth 100000 in
theorem cx_of (l : Launch) (D : va_G) (K : (Nat → Nat) × (Nat → Nat)) (cy : Nat → ClassId) (ad : Nat → Nat) (S_0 : zSt) (a_1 : Int32) (a_2 : Int32) (ro : Int32) (So : zSt) (hf : fx_of S_0 a_1 a_2 = some (ro, So)) : zMI l yX11_of (zws yX11_of cX11_of 4 (Option.some .int)) ({ frames := 1, cells := 0, slots := 0, locals := 22 }) D (zTy cy) K (zX cy ad) [.ref (ad 0), .int a_1, .int a_2] S_0 ro So := by
  refine z_metI (own := RX11) (lv := [(0, .ref (ad 0)), (1, .int a_1), (2, .int a_2)]) (by decide) rfl rfl (Nat.le_of_ble_eq_true rfl) rfl ?_
  intro p e s m below meth c A Q X hK hE hD hA hret hP hS ls hl
  obtain ⟨hx, hb, hml, hown, hts⟩ := id X
  have k0 := (fun w h => List.mem_cons_of_mem _ (zFX11 w h) : ∀ w ∈ u_ws RX11 TX11 8, w ∈ zws yX11_of cX11_of 4 (Option.some .int))
  have k1 := hts _ (List.mem_cons_of_mem _ wt_2_175)
  have k2 := (fun w h => List.mem_cons_of_mem _ (zFX0 w h) : ∀ w ∈ u_ws RX0 TX0 6, w ∈ zws yX11_of cX11_of 4 (Option.some .int))
  have k3 := hts _ (List.mem_cons_of_mem _ wt_1_235)
  have k4 := (fun w h => List.mem_cons_of_mem _ (zFX2 w h) : ∀ w ∈ u_ws RX2 TX2 7, w ∈ zws yX11_of cX11_of 4 (Option.some .int))
  have k5 := hts _ (List.mem_cons_of_mem _ wt_1_71)
  have k6 := hts _ (List.mem_cons_of_mem _ wt_1_74)
  have k7 := hts _ (List.mem_cons_of_mem _ wt_1_76)
  have k8 := hts _ (List.mem_cons_of_mem _ wt_1_237)
  have k9 := (fun w h => List.mem_cons_of_mem _ (zFX10 w h) : ∀ w ∈ u_ws RX10 TX10 12, w ∈ zws yX11_of cX11_of 4 (Option.some .int))
  have k10 := hts _ (List.mem_cons_of_mem _ wt_1_117)
  have k11 := hts _ (List.mem_cons_of_mem _ wt_1_120)
  have k12 := hts _ (List.mem_cons_of_mem _ wt_1_123)
  have k13 := hts _ (List.mem_cons_of_mem _ wt_1_126)
  have k14 := hts _ (List.mem_cons_of_mem _ wt_1_129)
  have k15 := hts _ (List.mem_cons_of_mem _ wt_1_132)
  have k16 := hts _ (List.mem_cons_of_mem _ wt_1_85)
  have k17 := hts _ (List.mem_cons_of_mem _ wt_4_86)
  have k18 := hts _ (List.mem_cons_of_mem _ wt_1_81)
  refine lv_aload_n hx hb dX11_of_0 rfl (lv_at hl 0 rfl) ?_
  refine va_get (D := D) (ci := 11) (v := .ref (ad 3)) (C := RX11) (T := TX11) (N := 8) hx hb hts k0 hown hK hP 0 (zX_0 cy ad S_0) rfl 1 (by decide) k1 (fun _ h9 => h9) rfl dX11_of_1 ?_
  refine va_get (D := D) (ci := 0) (v := .ref (ad 4)) (C := RX0) (T := TX0) (N := 6) hx hb hts k2 hown hK hP 3 (zX_3 cy ad S_0) rfl 0 (by decide) k3 (fun _ h9 => h9) rfl dX11_of_4 ?_
  refine lv_iload_n hx hb dX11_of_7 rfl (lv_at hl 1 rfl) ?_
  obtain ⟨r_1, S_2, h_3, hf⟩ := z_bd hf
  refine z_cVI (As := [.int a_1]) (rest := []) X hK hE hD hA hP hS (cx_Houses_has l D K cy ad S_0 _ _ _ h_3) (cwV 1 hts (z_gV wt_3_3 wt_3_4 wt_3_5 wt_1_4 wt_3_6) rfl rfl rfl ⟨rfl, yd_yX2_has⟩ ⟨Nat.le_of_ble_eq_true rfl, Nat.le_of_ble_eq_true rfl⟩) (va_recv hK hP (ci := 2) (q0 := 4) rfl (zX_4 cy ad S_0)) hl.1 rfl rfl (Nat.le_of_ble_eq_true rfl) dX11_of_8 (fun H locs hP hS => ?_)
  refine lv_if_ne (tgt := 17) hx hb dX11_of_11 (by decide) (fun c_44 => ?_) (fun c_44 => ?_)
  · have hf := z_if c_44 hf
    refine lv_iload_n hx hb dX11_of_17 rfl (lv_at hl 2 rfl) ?_
    by_cases c_5 : a_2 = (0 : Int32)
    · have hf := z_it c_5 hf
      refine lv_tableIn (off := 54) (tgt := 72) hx hb dX11_of_18 (by rw [c_5]; decide) (by rw [c_5]; decide) (by rw [c_5]; rfl) (by decide) ?_
      refine lv_aload_n hx hb dX11_of_72 rfl (lv_at hl 0 rfl) ?_
      refine va_get (D := D) (ci := 11) (v := .ref (ad 3)) (C := RX11) (T := TX11) (N := 8) hx hb hts k0 hown hK hP 0 (zX_0 cy ad S_2) rfl 1 (by decide) k1 (fun _ h9 => h9) rfl dX11_of_73 ?_
      refine va_get (D := D) (ci := 0) (v := .ref (ad 4)) (C := RX0) (T := TX0) (N := 6) hx hb hts k2 hown hK hP 3 (zX_3 cy ad S_2) rfl 0 (by decide) k3 (fun _ h9 => h9) rfl dX11_of_76 ?_
      refine va_get (D := D) (ci := 2) (v := .ref (ad 5)) (C := RX2) (T := TX2) (N := 7) hx hb hts k4 hown hK hP 4 (zX_4 cy ad S_2) rfl 1 (by decide) k5 (fun _ h9 => h9) rfl dX11_of_79 ?_
      refine lv_iload_n hx hb dX11_of_82 rfl (lv_at hl 1 rfl) ?_
      obtain ⟨h_4, hf⟩ := z_ix hf
      refine z_iald hx hb hK hP 5 0 (zX_5 cy ad S_2) rfl h_4 (k := (a_1.toNatClampNeg)) rfl dX11_of_83 ?_
      obtain ⟨h1, h2⟩ := z_s2 hf
      subst h1 h2
      exact hret _ _ _ _ hP hS dX11_of_84
    have hf := z_if c_5 hf
    have n_6 : a_2.toInt ≠ 0 := z_ne c_5 (by decide)
    by_cases c_8 : a_2 = (1 : Int32)
    · have hf := z_it c_8 hf
      refine lv_tableIn (off := 67) (tgt := 85) hx hb dX11_of_18 (by rw [c_8]; decide) (by rw [c_8]; decide) (by rw [c_8]; rfl) (by decide) ?_
      refine lv_aload_n hx hb dX11_of_85 rfl (lv_at hl 0 rfl) ?_
      refine va_get (D := D) (ci := 11) (v := .ref (ad 3)) (C := RX11) (T := TX11) (N := 8) hx hb hts k0 hown hK hP 0 (zX_0 cy ad S_2) rfl 1 (by decide) k1 (fun _ h9 => h9) rfl dX11_of_86 ?_
      refine va_get (D := D) (ci := 0) (v := .ref (ad 4)) (C := RX0) (T := TX0) (N := 6) hx hb hts k2 hown hK hP 3 (zX_3 cy ad S_2) rfl 0 (by decide) k3 (fun _ h9 => h9) rfl dX11_of_89 ?_
      refine va_get (D := D) (ci := 2) (v := .ref (ad 6)) (C := RX2) (T := TX2) (N := 7) hx hb hts k4 hown hK hP 4 (zX_4 cy ad S_2) rfl 2 (by decide) k6 (fun _ h9 => h9) rfl dX11_of_92 ?_
      refine lv_iload_n hx hb dX11_of_95 rfl (lv_at hl 1 rfl) ?_
      obtain ⟨h_7, hf⟩ := z_ix hf
      refine z_iald hx hb hK hP 6 0 (zX_6 cy ad S_2) rfl h_7 (k := (a_1.toNatClampNeg)) rfl dX11_of_96 ?_
      obtain ⟨h1, h2⟩ := z_s2 hf
      subst h1 h2
      exact hret _ _ _ _ hP hS dX11_of_97
    have hf := z_if c_8 hf
    have n_9 : a_2.toInt ≠ 1 := z_ne c_8 (by decide)
    by_cases c_11 : a_2 = (2 : Int32)
    · have hf := z_it c_11 hf
      refine lv_tableIn (off := 80) (tgt := 98) hx hb dX11_of_18 (by rw [c_11]; decide) (by rw [c_11]; decide) (by rw [c_11]; rfl) (by decide) ?_
      refine lv_aload_n hx hb dX11_of_98 rfl (lv_at hl 0 rfl) ?_
      refine va_get (D := D) (ci := 11) (v := .ref (ad 3)) (C := RX11) (T := TX11) (N := 8) hx hb hts k0 hown hK hP 0 (zX_0 cy ad S_2) rfl 1 (by decide) k1 (fun _ h9 => h9) rfl dX11_of_99 ?_
      refine va_get (D := D) (ci := 0) (v := .ref (ad 4)) (C := RX0) (T := TX0) (N := 6) hx hb hts k2 hown hK hP 3 (zX_3 cy ad S_2) rfl 0 (by decide) k3 (fun _ h9 => h9) rfl dX11_of_102 ?_
      refine va_get (D := D) (ci := 2) (v := .ref (ad 7)) (C := RX2) (T := TX2) (N := 7) hx hb hts k4 hown hK hP 4 (zX_4 cy ad S_2) rfl 3 (by decide) k7 (fun _ h9 => h9) rfl dX11_of_105 ?_
      refine lv_iload_n hx hb dX11_of_108 rfl (lv_at hl 1 rfl) ?_
      obtain ⟨h_10, hf⟩ := z_ix hf
      refine z_iald hx hb hK hP 7 0 (zX_7 cy ad S_2) rfl h_10 (k := (a_1.toNatClampNeg)) rfl dX11_of_109 ?_
      obtain ⟨h1, h2⟩ := z_s2 hf
      subst h1 h2
      exact hret _ _ _ _ hP hS dX11_of_110
    have hf := z_if c_11 hf
    have n_12 : a_2.toInt ≠ 2 := z_ne c_11 (by decide)
    by_cases c_14 : a_2 = (3 : Int32)
    · have hf := z_it c_14 hf
      refine lv_tableIn (off := 93) (tgt := 111) hx hb dX11_of_18 (by rw [c_14]; decide) (by rw [c_14]; decide) (by rw [c_14]; rfl) (by decide) ?_
      refine lv_aload_n hx hb dX11_of_111 rfl (lv_at hl 0 rfl) ?_
      refine va_get (D := D) (ci := 11) (v := .ref (ad 3)) (C := RX11) (T := TX11) (N := 8) hx hb hts k0 hown hK hP 0 (zX_0 cy ad S_2) rfl 1 (by decide) k1 (fun _ h9 => h9) rfl dX11_of_112 ?_
      refine va_get (D := D) (ci := 0) (v := .ref (ad 11)) (C := RX0) (T := TX0) (N := 6) hx hb hts k2 hown hK hP 3 (zX_3 cy ad S_2) rfl 1 (by decide) k8 (fun _ h9 => h9) rfl dX11_of_115 ?_
      refine va_get (D := D) (ci := 10) (v := .ref (ad 12)) (C := RX10) (T := TX10) (N := 12) hx hb hts k9 hown hK hP 11 (zX_11 cy ad S_2) rfl 3 (by decide) k10 (fun _ h9 => h9) rfl dX11_of_118 ?_
      refine lv_iload_n hx hb dX11_of_121 rfl (lv_at hl 1 rfl) ?_
      obtain ⟨h_13, hf⟩ := z_ix hf
      refine z_iald hx hb hK hP 12 0 (zX_12 cy ad S_2) rfl h_13 (k := (a_1.toNatClampNeg)) rfl dX11_of_122 ?_
      obtain ⟨h1, h2⟩ := z_s2 hf
      subst h1 h2
      exact hret _ _ _ _ hP hS dX11_of_123
    have hf := z_if c_14 hf
    have n_15 : a_2.toInt ≠ 3 := z_ne c_14 (by decide)
    by_cases c_17 : a_2 = (4 : Int32)
    · have hf := z_it c_17 hf
      refine lv_tableIn (off := 106) (tgt := 124) hx hb dX11_of_18 (by rw [c_17]; decide) (by rw [c_17]; decide) (by rw [c_17]; rfl) (by decide) ?_
      refine lv_aload_n hx hb dX11_of_124 rfl (lv_at hl 0 rfl) ?_
      refine va_get (D := D) (ci := 11) (v := .ref (ad 3)) (C := RX11) (T := TX11) (N := 8) hx hb hts k0 hown hK hP 0 (zX_0 cy ad S_2) rfl 1 (by decide) k1 (fun _ h9 => h9) rfl dX11_of_125 ?_
      refine va_get (D := D) (ci := 0) (v := .ref (ad 11)) (C := RX0) (T := TX0) (N := 6) hx hb hts k2 hown hK hP 3 (zX_3 cy ad S_2) rfl 1 (by decide) k8 (fun _ h9 => h9) rfl dX11_of_128 ?_
      refine va_get (D := D) (ci := 10) (v := .ref (ad 13)) (C := RX10) (T := TX10) (N := 12) hx hb hts k9 hown hK hP 11 (zX_11 cy ad S_2) rfl 4 (by decide) k11 (fun _ h9 => h9) rfl dX11_of_131 ?_
      refine lv_iload_n hx hb dX11_of_134 rfl (lv_at hl 1 rfl) ?_
      obtain ⟨h_16, hf⟩ := z_ix hf
      refine z_iald hx hb hK hP 13 0 (zX_13 cy ad S_2) rfl h_16 (k := (a_1.toNatClampNeg)) rfl dX11_of_135 ?_
      obtain ⟨h1, h2⟩ := z_s2 hf
      subst h1 h2
      exact hret _ _ _ _ hP hS dX11_of_136
    have hf := z_if c_17 hf
    have n_18 : a_2.toInt ≠ 4 := z_ne c_17 (by decide)
    by_cases c_20 : a_2 = (5 : Int32)
    · have hf := z_it c_20 hf
      refine lv_tableIn (off := 119) (tgt := 137) hx hb dX11_of_18 (by rw [c_20]; decide) (by rw [c_20]; decide) (by rw [c_20]; rfl) (by decide) ?_
      refine lv_aload_n hx hb dX11_of_137 rfl (lv_at hl 0 rfl) ?_
      refine va_get (D := D) (ci := 11) (v := .ref (ad 3)) (C := RX11) (T := TX11) (N := 8) hx hb hts k0 hown hK hP 0 (zX_0 cy ad S_2) rfl 1 (by decide) k1 (fun _ h9 => h9) rfl dX11_of_138 ?_
      refine va_get (D := D) (ci := 0) (v := .ref (ad 11)) (C := RX0) (T := TX0) (N := 6) hx hb hts k2 hown hK hP 3 (zX_3 cy ad S_2) rfl 1 (by decide) k8 (fun _ h9 => h9) rfl dX11_of_141 ?_
      refine va_get (D := D) (ci := 10) (v := .ref (ad 14)) (C := RX10) (T := TX10) (N := 12) hx hb hts k9 hown hK hP 11 (zX_11 cy ad S_2) rfl 5 (by decide) k12 (fun _ h9 => h9) rfl dX11_of_144 ?_
      refine lv_iload_n hx hb dX11_of_147 rfl (lv_at hl 1 rfl) ?_
      obtain ⟨h_19, hf⟩ := z_ix hf
      refine z_iald hx hb hK hP 14 0 (zX_14 cy ad S_2) rfl h_19 (k := (a_1.toNatClampNeg)) rfl dX11_of_148 ?_
      obtain ⟨h1, h2⟩ := z_s2 hf
      subst h1 h2
      exact hret _ _ _ _ hP hS dX11_of_149
    have hf := z_if c_20 hf
    have n_21 : a_2.toInt ≠ 5 := z_ne c_20 (by decide)
    by_cases c_23 : a_2 = (6 : Int32)
    · have hf := z_it c_23 hf
      refine lv_tableIn (off := 132) (tgt := 150) hx hb dX11_of_18 (by rw [c_23]; decide) (by rw [c_23]; decide) (by rw [c_23]; rfl) (by decide) ?_
      refine lv_aload_n hx hb dX11_of_150 rfl (lv_at hl 0 rfl) ?_
      refine va_get (D := D) (ci := 11) (v := .ref (ad 3)) (C := RX11) (T := TX11) (N := 8) hx hb hts k0 hown hK hP 0 (zX_0 cy ad S_2) rfl 1 (by decide) k1 (fun _ h9 => h9) rfl dX11_of_151 ?_
      refine va_get (D := D) (ci := 0) (v := .ref (ad 11)) (C := RX0) (T := TX0) (N := 6) hx hb hts k2 hown hK hP 3 (zX_3 cy ad S_2) rfl 1 (by decide) k8 (fun _ h9 => h9) rfl dX11_of_154 ?_
      refine va_get (D := D) (ci := 10) (v := .ref (ad 15)) (C := RX10) (T := TX10) (N := 12) hx hb hts k9 hown hK hP 11 (zX_11 cy ad S_2) rfl 6 (by decide) k13 (fun _ h9 => h9) rfl dX11_of_157 ?_
      refine lv_iload_n hx hb dX11_of_160 rfl (lv_at hl 1 rfl) ?_
      obtain ⟨h_22, hf⟩ := z_ix hf
      refine z_iald hx hb hK hP 15 0 (zX_15 cy ad S_2) rfl h_22 (k := (a_1.toNatClampNeg)) rfl dX11_of_161 ?_
      obtain ⟨h1, h2⟩ := z_s2 hf
      subst h1 h2
      exact hret _ _ _ _ hP hS dX11_of_162
    have hf := z_if c_23 hf
    have n_24 : a_2.toInt ≠ 6 := z_ne c_23 (by decide)
    by_cases c_26 : a_2 = (7 : Int32)
    · have hf := z_it c_26 hf
      refine lv_tableIn (off := 145) (tgt := 163) hx hb dX11_of_18 (by rw [c_26]; decide) (by rw [c_26]; decide) (by rw [c_26]; rfl) (by decide) ?_
      refine lv_aload_n hx hb dX11_of_163 rfl (lv_at hl 0 rfl) ?_
      refine va_get (D := D) (ci := 11) (v := .ref (ad 3)) (C := RX11) (T := TX11) (N := 8) hx hb hts k0 hown hK hP 0 (zX_0 cy ad S_2) rfl 1 (by decide) k1 (fun _ h9 => h9) rfl dX11_of_164 ?_
      refine va_get (D := D) (ci := 0) (v := .ref (ad 11)) (C := RX0) (T := TX0) (N := 6) hx hb hts k2 hown hK hP 3 (zX_3 cy ad S_2) rfl 1 (by decide) k8 (fun _ h9 => h9) rfl dX11_of_167 ?_
      refine va_get (D := D) (ci := 10) (v := .ref (ad 16)) (C := RX10) (T := TX10) (N := 12) hx hb hts k9 hown hK hP 11 (zX_11 cy ad S_2) rfl 7 (by decide) k14 (fun _ h9 => h9) rfl dX11_of_170 ?_
      refine lv_iload_n hx hb dX11_of_173 rfl (lv_at hl 1 rfl) ?_
      obtain ⟨h_25, hf⟩ := z_ix hf
      refine z_iald hx hb hK hP 16 0 (zX_16 cy ad S_2) rfl h_25 (k := (a_1.toNatClampNeg)) rfl dX11_of_174 ?_
      obtain ⟨h1, h2⟩ := z_s2 hf
      subst h1 h2
      exact hret _ _ _ _ hP hS dX11_of_175
    have hf := z_if c_26 hf
    have n_27 : a_2.toInt ≠ 7 := z_ne c_26 (by decide)
    by_cases c_29 : a_2 = (8 : Int32)
    · have hf := z_it c_29 hf
      refine lv_tableIn (off := 158) (tgt := 176) hx hb dX11_of_18 (by rw [c_29]; decide) (by rw [c_29]; decide) (by rw [c_29]; rfl) (by decide) ?_
      refine lv_aload_n hx hb dX11_of_176 rfl (lv_at hl 0 rfl) ?_
      refine va_get (D := D) (ci := 11) (v := .ref (ad 3)) (C := RX11) (T := TX11) (N := 8) hx hb hts k0 hown hK hP 0 (zX_0 cy ad S_2) rfl 1 (by decide) k1 (fun _ h9 => h9) rfl dX11_of_177 ?_
      refine va_get (D := D) (ci := 0) (v := .ref (ad 11)) (C := RX0) (T := TX0) (N := 6) hx hb hts k2 hown hK hP 3 (zX_3 cy ad S_2) rfl 1 (by decide) k8 (fun _ h9 => h9) rfl dX11_of_180 ?_
      refine va_get (D := D) (ci := 10) (v := .ref (ad 17)) (C := RX10) (T := TX10) (N := 12) hx hb hts k9 hown hK hP 11 (zX_11 cy ad S_2) rfl 8 (by decide) k15 (fun _ h9 => h9) rfl dX11_of_183 ?_
      refine lv_iload_n hx hb dX11_of_186 rfl (lv_at hl 1 rfl) ?_
      obtain ⟨h_28, hf⟩ := z_ix hf
      refine z_iald hx hb hK hP 17 0 (zX_17 cy ad S_2) rfl h_28 (k := (a_1.toNatClampNeg)) rfl dX11_of_187 ?_
      obtain ⟨h1, h2⟩ := z_s2 hf
      subst h1 h2
      exact hret _ _ _ _ hP hS dX11_of_188
    have hf := z_if c_29 hf
    have n_30 : a_2.toInt ≠ 8 := z_ne c_29 (by decide)
    by_cases c_32 : a_2 = (9 : Int32)
    · have hf := z_it c_32 hf
      refine lv_tableIn (off := 171) (tgt := 189) hx hb dX11_of_18 (by rw [c_32]; decide) (by rw [c_32]; decide) (by rw [c_32]; rfl) (by decide) ?_
      refine lv_aload_n hx hb dX11_of_189 rfl (lv_at hl 0 rfl) ?_
      refine va_get (D := D) (ci := 11) (v := .ref (ad 3)) (C := RX11) (T := TX11) (N := 8) hx hb hts k0 hown hK hP 0 (zX_0 cy ad S_2) rfl 1 (by decide) k1 (fun _ h9 => h9) rfl dX11_of_190 ?_
      refine va_get (D := D) (ci := 0) (v := .ref (ad 4)) (C := RX0) (T := TX0) (N := 6) hx hb hts k2 hown hK hP 3 (zX_3 cy ad S_2) rfl 0 (by decide) k3 (fun _ h9 => h9) rfl dX11_of_193 ?_
      refine va_get (D := D) (ci := 2) (v := .ref (ad 10)) (C := RX2) (T := TX2) (N := 7) hx hb hts k4 hown hK hP 4 (zX_4 cy ad S_2) rfl 6 (by decide) k16 (fun _ h9 => h9) rfl dX11_of_196 ?_
      refine lv_iload_n hx hb dX11_of_199 rfl (lv_at hl 1 rfl) ?_
      obtain ⟨h_31, hf⟩ := z_ix hf
      refine z_iald hx hb hK hP 10 0 (zX_10 cy ad S_2) rfl h_31 (k := (a_1.toNatClampNeg)) rfl dX11_of_200 ?_
      obtain ⟨h1, h2⟩ := z_s2 hf
      subst h1 h2
      exact hret _ _ _ _ hP hS dX11_of_201
    have hf := z_if c_32 hf
    have n_33 : a_2.toInt ≠ 9 := z_ne c_32 (by decide)
    refine lv_tableOut (tgt := 202) hx hb dX11_of_18 (by omega) (by decide) ?_
    refine lv_iload_n hx hb dX11_of_202 rfl (lv_at hl 2 rfl) ?_
    refine lv_bipush (v := 10) hx hb dX11_of_203 (by decide) ?_
    refine lv_isub hx hb dX11_of_205 ?_
    refine lv_topi (fun x_34 ex_34 => ?_)
    have hf := z_nv ex_34 hf
    refine lv_istore_n (lv' := [(3, .int x_34), (0, .ref (ad 0)), (1, .int a_1), (2, .int a_2)]) hx hb dX11_of_206 rfl hl (by decide) rfl (fun ls hl => ?_)
    refine lv_iload_n hx hb dX11_of_207 rfl (lv_at hl 0 rfl) ?_
    obtain ⟨j_244, ej_244, hf⟩ := z_nm hf
    have J_244 : ∀ (x_35 : Int32) (S_36 : zSt) (H : Heap) (locs : List Loc) (ls : Array Slot), j_244 x_35 S_36 = some (ro, So) → va_P D vwCl (zX cy ad S_36) H → va_S A s.heap H locs → lv_has ls 4 [] → W p l e ({ frames := 1, cells := 0, slots := 0, locals := 22 }) s m ([.ref (ad 0), .int a_1, .int a_2] : List Value).toArray below meth c H locs 0 0 Q (F0 m 244 ls [.int x_35]) := by
      intro x_35 S_36 H locs ls hf hP hS hl
      have hf := z_e2 ej_244 hf
      obtain ⟨h1, h2⟩ := z_s2 hf
      subst h1 h2
      exact hret _ _ _ _ hP hS dX11_of_244
    obtain ⟨j_242, ej_242, hf⟩ := z_nm hf
    have J_242 : ∀ (S_37 : zSt) (H : Heap) (locs : List Loc) (ls : Array Slot), j_242  S_37 = some (ro, So) → va_P D vwCl (zX cy ad S_37) H → va_S A s.heap H locs → lv_has ls 4 [] → W p l e ({ frames := 1, cells := 0, slots := 0, locals := 22 }) s m ([.ref (ad 0), .int a_1, .int a_2] : List Value).toArray below meth c H locs 0 0 Q (F0 m 242 ls []) := by
      intro  S_37 H locs ls hf hP hS hl
      have hf := z_e1 ej_242 hf
      refine lv_ldc hx hb hown k17 dX11_of_242 ?_
      exact J_244 (-1000000000 : Int32) S_37 _ _ _ hf hP hS (lv_sub hl [] rfl)
    refine lv_if_lt (tgt := 242) hx hb dX11_of_208 (by decide) (fun c_43 => ?_) (fun c_43 => ?_)
    · have hf := z_it c_43 hf
      exact J_242  S_2 _ _ _ hf hP hS (lv_sub hl [] rfl)
    · have hf := z_if c_43 hf
      refine lv_iload_n hx hb dX11_of_211 rfl (lv_at hl 0 rfl) ?_
      refine lv_aload_n hx hb dX11_of_212 rfl (lv_at hl 1 rfl) ?_
      refine va_get (D := D) (ci := 11) (v := .ref (ad 3)) (C := RX11) (T := TX11) (N := 8) hx hb hts k0 hown hK hP 0 (zX_0 cy ad S_2) rfl 1 (by decide) k1 (fun _ h9 => h9) rfl dX11_of_213 ?_
      refine va_get (D := D) (ci := 0) (v := .ref (ad 4)) (C := RX0) (T := TX0) (N := 6) hx hb hts k2 hown hK hP 3 (zX_3 cy ad S_2) rfl 0 (by decide) k3 (fun _ h9 => h9) rfl dX11_of_216 ?_
      refine va_get (D := D) (ci := 2) (v := .ref (ad 9)) (C := RX2) (T := TX2) (N := 7) hx hb hts k4 hown hK hP 4 (zX_4 cy ad S_2) rfl 5 (by decide) k18 (fun _ h9 => h9) rfl dX11_of_219 ?_
      refine lv_iload_n hx hb dX11_of_222 rfl (lv_at hl 2 rfl) ?_
      obtain ⟨h_38, hf⟩ := z_ix hf
      refine z_iald hx hb hK hP 9 0 (zX_9 cy ad S_2) rfl h_38 (k := (a_1.toNatClampNeg)) rfl dX11_of_223 ?_
      refine lv_icmp_ge (tgt := 242) hx hb dX11_of_224 (by decide) (fun c_42 => ?_) (fun c_42 => ?_)
      · have hf := z_it c_42 hf
        exact J_242  S_2 _ _ _ hf hP hS (lv_sub hl [] rfl)
      · have hf := z_if c_42 hf
        refine lv_aload_n hx hb dX11_of_227 rfl (lv_at hl 1 rfl) ?_
        refine va_get (D := D) (ci := 11) (v := .ref (ad 3)) (C := RX11) (T := TX11) (N := 8) hx hb hts k0 hown hK hP 0 (zX_0 cy ad S_2) rfl 1 (by decide) k1 (fun _ h9 => h9) rfl dX11_of_228 ?_
        refine va_get (D := D) (ci := 0) (v := .ref (ad 4)) (C := RX0) (T := TX0) (N := 6) hx hb hts k2 hown hK hP 3 (zX_3 cy ad S_2) rfl 0 (by decide) k3 (fun _ h9 => h9) rfl dX11_of_231 ?_
        refine lv_iload_n hx hb dX11_of_234 rfl (lv_at hl 2 rfl) ?_
        refine lv_iload_n hx hb dX11_of_235 rfl (lv_at hl 0 rfl) ?_
        obtain ⟨r_39, S_40, h_41, hf⟩ := z_bd hf
        refine z_cVI (As := [.int a_1, .int x_34]) (rest := []) X hK hE hD hA hP hS (cx_Houses_letterOf l D K cy ad S_2 _ _ _ _ h_41) (cwV 2 hts (z_gV wt_4_87 wt_4_88 wt_4_89 wt_1_4 wt_4_90) rfl rfl rfl ⟨rfl, yd_yX2_letterOf⟩ ⟨Nat.le_of_ble_eq_true rfl, Nat.le_of_ble_eq_true rfl⟩) (va_recv hK hP (ci := 2) (q0 := 4) rfl (zX_4 cy ad S_2)) hl.1 rfl rfl (Nat.le_of_ble_eq_true rfl) dX11_of_236 (fun H locs hP hS => ?_)
        refine lv_goto (tgt := 244) hx hb dX11_of_239 (by decide) ?_
        exact J_244 r_39 S_40 _ _ _ hf hP hS (lv_sub hl [] rfl)
  · have hf := z_it c_44 hf
    refine lv_ldc hx hb hown k17 dX11_of_14 ?_
    obtain ⟨h1, h2⟩ := z_s2 hf
    subst h1 h2
    exact hret _ _ _ _ hP hS dX11_of_16
def fx_book (S_0 : zSt) (a_1 : Int32) : Option (Int32 × zSt) :=
  if a_1 = (100 : Int32) then (
  some (S_0.1 11 11, S_0)) else (
  znm (fun (x_1 : Int32) (S_2 : zSt) =>
  some (x_1, S_2)) fun j_51 =>
  znm (fun (S_3 : zSt) =>
  j_51 (-1 : Int32) S_3) fun j_50 =>
  if a_1 < 0 then (
  j_50  S_0) else (
  if (S_0.1 11 10) ≤ a_1 then (
  j_50  S_0) else (
  zck (zix a_1 9) <|
  j_51 (S_0.1 18 (a_1.toNatClampNeg)) S_0)))
set_option maxHeartbeats 4000000 in
set_option maxRecDepth 100000 in
theorem cx_book (l : Launch) (D : va_G) (K : (Nat → Nat) × (Nat → Nat)) (cy : Nat → ClassId) (ad : Nat → Nat) (S_0 : zSt) (a_1 : Int32) (ro : Int32) (So : zSt) (hf : fx_book S_0 a_1 = some (ro, So)) : zMI l yX11_book (zws yX11_book cX11_book 2 (Option.some .int)) ({ frames := 0, cells := 0, slots := 0, locals := 0 }) D (zTy cy) K (zX cy ad) [.ref (ad 0), .int a_1] S_0 ro So := by
  refine z_metI (own := RX11) (lv := [(0, .ref (ad 0)), (1, .int a_1)]) (by decide) rfl rfl (Nat.le_of_ble_eq_true rfl) rfl ?_
  intro p e s m below meth c A Q X hK hE hD hA hret hP hS ls hl
  obtain ⟨hx, hb, hml, hown, hts⟩ := id X
  have k0 := (fun w h => List.mem_cons_of_mem _ (zFX11 w h) : ∀ w ∈ u_ws RX11 TX11 8, w ∈ zws yX11_book cX11_book 2 (Option.some .int))
  have k1 := hts _ (List.mem_cons_of_mem _ wt_2_175)
  have k2 := (fun w h => List.mem_cons_of_mem _ (zFX0 w h) : ∀ w ∈ u_ws RX0 TX0 6, w ∈ zws yX11_book cX11_book 2 (Option.some .int))
  have k3 := hts _ (List.mem_cons_of_mem _ wt_1_237)
  have k4 := (fun w h => List.mem_cons_of_mem _ (zFX10 w h) : ∀ w ∈ u_ws RX10 TX10 12, w ∈ zws yX11_book cX11_book 2 (Option.some .int))
  have k5 := hts _ (List.mem_cons_of_mem _ wt_1_138)
  have k6 := hts _ (List.mem_cons_of_mem _ wt_1_135)
  have k7 := hts _ (List.mem_cons_of_mem _ wt_1_141)
  refine lv_iload_n hx hb dX11_book_0 rfl (lv_at hl 1 rfl) ?_
  refine lv_bipush (v := 100) hx hb dX11_book_1 (by decide) ?_
  refine lv_icmp_ne (tgt := 17) hx hb dX11_book_3 (by decide) (fun c_7 => ?_) (fun c_7 => ?_)
  · have hf := z_if c_7 hf
    refine lv_iload_n hx hb dX11_book_17 rfl (lv_at hl 1 rfl) ?_
    obtain ⟨j_51, ej_51, hf⟩ := z_nm hf
    have J_51 : ∀ (x_1 : Int32) (S_2 : zSt) (H : Heap) (locs : List Loc) (ls : Array Slot), j_51 x_1 S_2 = some (ro, So) → va_P D vwCl (zX cy ad S_2) H → va_S A s.heap H locs → lv_has ls 2 [] → W p l e ({ frames := 0, cells := 0, slots := 0, locals := 0 }) s m ([.ref (ad 0), .int a_1] : List Value).toArray below meth c H locs 0 0 Q (F0 m 51 ls [.int x_1]) := by
      intro x_1 S_2 H locs ls hf hP hS hl
      have hf := z_e2 ej_51 hf
      obtain ⟨h1, h2⟩ := z_s2 hf
      subst h1 h2
      exact hret _ _ _ _ hP hS dX11_book_51
    obtain ⟨j_50, ej_50, hf⟩ := z_nm hf
    have J_50 : ∀ (S_3 : zSt) (H : Heap) (locs : List Loc) (ls : Array Slot), j_50  S_3 = some (ro, So) → va_P D vwCl (zX cy ad S_3) H → va_S A s.heap H locs → lv_has ls 2 [] → W p l e ({ frames := 0, cells := 0, slots := 0, locals := 0 }) s m ([.ref (ad 0), .int a_1] : List Value).toArray below meth c H locs 0 0 Q (F0 m 50 ls []) := by
      intro  S_3 H locs ls hf hP hS hl
      have hf := z_e1 ej_50 hf
      refine lv_iconst (v := -1) hx hb dX11_book_50 (by decide) ?_
      exact J_51 (-1 : Int32) S_3 _ _ _ hf hP hS (lv_sub hl [] rfl)
    refine lv_if_lt (tgt := 50) hx hb dX11_book_18 (by decide) (fun c_6 => ?_) (fun c_6 => ?_)
    · have hf := z_it c_6 hf
      exact J_50  S_0 _ _ _ hf hP hS (lv_sub hl [] rfl)
    · have hf := z_if c_6 hf
      refine lv_iload_n hx hb dX11_book_21 rfl (lv_at hl 1 rfl) ?_
      refine lv_aload_n hx hb dX11_book_22 rfl (lv_at hl 0 rfl) ?_
      refine va_get (D := D) (ci := 11) (v := .ref (ad 3)) (C := RX11) (T := TX11) (N := 8) hx hb hts k0 hown hK hP 0 (zX_0 cy ad S_0) rfl 1 (by decide) k1 (fun _ h9 => h9) rfl dX11_book_23 ?_
      refine va_get (D := D) (ci := 0) (v := .ref (ad 11)) (C := RX0) (T := TX0) (N := 6) hx hb hts k2 hown hK hP 3 (zX_3 cy ad S_0) rfl 1 (by decide) k3 (fun _ h9 => h9) rfl dX11_book_26 ?_
      refine va_get (D := D) (ci := 10) (v := .int (S_0.1 11 10)) (C := RX10) (T := TX10) (N := 12) hx hb hts k4 hown hK hP 11 (zX_11 cy ad S_0) rfl 10 (by decide) k5 (fun _ h9 => h9) rfl dX11_book_29 ?_
      refine lv_icmp_ge (tgt := 50) hx hb dX11_book_32 (by decide) (fun c_5 => ?_) (fun c_5 => ?_)
      · have hf := z_it c_5 hf
        exact J_50  S_0 _ _ _ hf hP hS (lv_sub hl [] rfl)
      · have hf := z_if c_5 hf
        refine lv_aload_n hx hb dX11_book_35 rfl (lv_at hl 0 rfl) ?_
        refine va_get (D := D) (ci := 11) (v := .ref (ad 3)) (C := RX11) (T := TX11) (N := 8) hx hb hts k0 hown hK hP 0 (zX_0 cy ad S_0) rfl 1 (by decide) k1 (fun _ h9 => h9) rfl dX11_book_36 ?_
        refine va_get (D := D) (ci := 0) (v := .ref (ad 11)) (C := RX0) (T := TX0) (N := 6) hx hb hts k2 hown hK hP 3 (zX_3 cy ad S_0) rfl 1 (by decide) k3 (fun _ h9 => h9) rfl dX11_book_39 ?_
        refine va_get (D := D) (ci := 10) (v := .ref (ad 18)) (C := RX10) (T := TX10) (N := 12) hx hb hts k4 hown hK hP 11 (zX_11 cy ad S_0) rfl 9 (by decide) k6 (fun _ h9 => h9) rfl dX11_book_42 ?_
        refine lv_iload_n hx hb dX11_book_45 rfl (lv_at hl 1 rfl) ?_
        obtain ⟨h_4, hf⟩ := z_ix hf
        refine z_iald hx hb hK hP 18 0 (zX_18 cy ad S_0) rfl h_4 (k := (a_1.toNatClampNeg)) rfl dX11_book_46 ?_
        refine lv_goto (tgt := 51) hx hb dX11_book_47 (by decide) ?_
        exact J_51 (S_0.1 18 (a_1.toNatClampNeg)) S_0 _ _ _ hf hP hS (lv_sub hl [] rfl)
  · have hf := z_it c_7 hf
    refine lv_aload_n hx hb dX11_book_6 rfl (lv_at hl 0 rfl) ?_
    refine va_get (D := D) (ci := 11) (v := .ref (ad 3)) (C := RX11) (T := TX11) (N := 8) hx hb hts k0 hown hK hP 0 (zX_0 cy ad S_0) rfl 1 (by decide) k1 (fun _ h9 => h9) rfl dX11_book_7 ?_
    refine va_get (D := D) (ci := 0) (v := .ref (ad 11)) (C := RX0) (T := TX0) (N := 6) hx hb hts k2 hown hK hP 3 (zX_3 cy ad S_0) rfl 1 (by decide) k3 (fun _ h9 => h9) rfl dX11_book_10 ?_
    refine va_get (D := D) (ci := 10) (v := .int (S_0.1 11 11)) (C := RX10) (T := TX10) (N := 12) hx hb hts k4 hown hK hP 11 (zX_11 cy ad S_0) rfl 11 (by decide) k7 (fun _ h9 => h9) rfl dX11_book_13 ?_
    obtain ⟨h1, h2⟩ := z_s2 hf
    subst h1 h2
    exact hret _ _ _ _ hP hS dX11_book_16
def fx_gain (S_0 : zSt) (a_1 : Int32) : Option (Int32 × zSt) :=
  zbd (fx_Lineup_standAsTold S_0) fun r_1 S_2 =>
  znm (zpI S_2 1 1 (0 : Int32)) fun S_4 =>
  znm (fun (x_5 : Int32) (S_6 : zSt) =>
  some (x_5, S_6)) fun j_51 =>
  znm (fun (S_7 : zSt) =>
  j_51 (-1000000000 : Int32) S_7) fun j_49 =>
  if r_1 = 0 then (
  j_49  S_4) else (
  zbd (fx_Houses_has S_4 a_1) fun r_8 S_9 =>
  if r_8 = 0 then (
  j_49  S_9) else (
  zbd (fx_Lineup_gainOf S_9 a_1) fun r_11 S_12 =>
  j_51 r_11 S_12))
set_option maxHeartbeats 4000000 in
set_option maxRecDepth 100000 in
theorem cx_gain (l : Launch) (D : va_G) (K : (Nat → Nat) × (Nat → Nat)) (cy : Nat → ClassId) (ad : Nat → Nat) (S_0 : zSt) (a_1 : Int32) (ro : Int32) (So : zSt) (hf : fx_gain S_0 a_1 = some (ro, So)) : zMI l yX11_gain (zws yX11_gain cX11_gain 3 (Option.some .int)) ({ frames := 3, cells := 0, slots := 0, locals := 246 }) D (zTy cy) K (zX cy ad) [.ref (ad 0), .int a_1] S_0 ro So := by
  refine z_metI (own := RX11) (lv := [(0, .ref (ad 0)), (1, .int a_1)]) (by decide) rfl rfl (Nat.le_of_ble_eq_true rfl) rfl ?_
  intro p e s m below meth c A Q X hK hE hD hA hret hP hS ls hl
  obtain ⟨hx, hb, hml, hown, hts⟩ := id X
  have k0 := (fun w h => List.mem_cons_of_mem _ (zFX11 w h) : ∀ w ∈ u_ws RX11 TX11 8, w ∈ zws yX11_gain cX11_gain 3 (Option.some .int))
  have k1 := hts _ (List.mem_cons_of_mem _ wt_2_180)
  have k2 := hts _ (List.mem_cons_of_mem _ wt_2_174)
  have k3 := (fun w h => List.mem_cons_of_mem _ (zFX9 w h) : ∀ w ∈ u_ws RX9 TX9 2, w ∈ zws yX11_gain cX11_gain 3 (Option.some .int))
  have k4 := hts _ (List.mem_cons_of_mem _ wt_1_44)
  have k5 := hts _ (List.mem_cons_of_mem _ wt_4_86)
  have k6 := hts _ (List.mem_cons_of_mem _ wt_2_175)
  have k7 := (fun w h => List.mem_cons_of_mem _ (zFX0 w h) : ∀ w ∈ u_ws RX0 TX0 6, w ∈ zws yX11_gain cX11_gain 3 (Option.some .int))
  have k8 := hts _ (List.mem_cons_of_mem _ wt_1_235)
  refine lv_aload_n hx hb dX11_gain_0 rfl (lv_at hl 0 rfl) ?_
  refine va_get (D := D) (ci := 11) (v := .ref (ad 128)) (C := RX11) (T := TX11) (N := 8) hx hb hts k0 hown hK hP 0 (zX_0 cy ad S_0) rfl 6 (by decide) k1 (fun _ h9 => h9) rfl dX11_gain_1 ?_
  refine lv_aload_n hx hb dX11_gain_4 rfl (lv_at hl 0 rfl) ?_
  refine va_get (D := D) (ci := 11) (v := .ref (ad 1)) (C := RX11) (T := TX11) (N := 8) hx hb hts k0 hown hK hP 0 (zX_0 cy ad S_0) rfl 0 (by decide) k2 (fun _ h9 => h9) rfl dX11_gain_5 ?_
  obtain ⟨r_1, S_2, h_3, hf⟩ := z_bd hf
  refine z_cVI (As := [.ref (ad 1)]) (rest := []) X hK hE hD hA hP hS (cx_Lineup_standAsTold l D K cy ad S_0 _ _ h_3) (cwV 1 hts (z_gV wt_4_99 wt_4_100 wt_4_101 wt_1_11 wt_4_102) rfl rfl rfl ⟨rfl, yd_yX4_standAsTold⟩ ⟨Nat.le_of_ble_eq_true rfl, Nat.le_of_ble_eq_true rfl⟩) (va_recv hK hP (ci := 4) (q0 := 128) rfl (zX_128 cy ad S_0)) hl.1 rfl rfl (Nat.le_of_ble_eq_true rfl) dX11_gain_8 (fun H locs hP hS => ?_)
  refine lv_istore_n (lv' := [(2, .int r_1), (0, .ref (ad 0)), (1, .int a_1)]) hx hb dX11_gain_11 rfl hl (by decide) rfl (fun ls hl => ?_)
  refine lv_aload_n hx hb dX11_gain_12 rfl (lv_at hl 1 rfl) ?_
  refine va_get (D := D) (ci := 11) (v := .ref (ad 1)) (C := RX11) (T := TX11) (N := 8) hx hb hts k0 hown hK hP 0 (zX_0 cy ad S_2) rfl 0 (by decide) k2 (fun _ h9 => h9) rfl dX11_gain_13 ?_
  refine lv_iconst (v := 0) hx hb dX11_gain_16 (by decide) ?_
  refine va_put (D := D) (ci := 9) (v := .int (0 : Int32)) (ty := .int) (C := RX9) (T := TX9) (N := 2) hx hb hts k3 tyX9 tyX9_ok nmX9 hown hK hP (hD S_2) hS 1 (zX_1 cy ad S_2) rfl 1 (by decide) k4 (fun _ h9 => h9) rfl (tyX9_ok 1 (by decide)) rfl rfl (Nat.le_of_ble_eq_true rfl) dX11_gain_17 (fun H locs hP _ hS => ?_)
  obtain ⟨S_4, eS_4, hf⟩ := z_nm hf
  have hP := zW_putI hP eS_4 (by decide) rfl
  refine lv_iload_n hx hb dX11_gain_20 rfl (lv_at hl 0 rfl) ?_
  obtain ⟨j_51, ej_51, hf⟩ := z_nm hf
  have J_51 : ∀ (x_5 : Int32) (S_6 : zSt) (H : Heap) (locs : List Loc) (ls : Array Slot), j_51 x_5 S_6 = some (ro, So) → va_P D vwCl (zX cy ad S_6) H → va_S A s.heap H locs → lv_has ls 3 [] → W p l e ({ frames := 3, cells := 0, slots := 0, locals := 246 }) s m ([.ref (ad 0), .int a_1] : List Value).toArray below meth c H locs 0 0 Q (F0 m 51 ls [.int x_5]) := by
    intro x_5 S_6 H locs ls hf hP hS hl
    have hf := z_e2 ej_51 hf
    obtain ⟨h1, h2⟩ := z_s2 hf
    subst h1 h2
    exact hret _ _ _ _ hP hS dX11_gain_51
  obtain ⟨j_49, ej_49, hf⟩ := z_nm hf
  have J_49 : ∀ (S_7 : zSt) (H : Heap) (locs : List Loc) (ls : Array Slot), j_49  S_7 = some (ro, So) → va_P D vwCl (zX cy ad S_7) H → va_S A s.heap H locs → lv_has ls 3 [] → W p l e ({ frames := 3, cells := 0, slots := 0, locals := 246 }) s m ([.ref (ad 0), .int a_1] : List Value).toArray below meth c H locs 0 0 Q (F0 m 49 ls []) := by
    intro  S_7 H locs ls hf hP hS hl
    have hf := z_e1 ej_49 hf
    refine lv_ldc hx hb hown k5 dX11_gain_49 ?_
    exact J_51 (-1000000000 : Int32) S_7 _ _ _ hf hP hS (lv_sub hl [] rfl)
  refine lv_if_eq (tgt := 49) hx hb dX11_gain_21 (by decide) (fun c_15 => ?_) (fun c_15 => ?_)
  · have hf := z_it c_15 hf
    exact J_49  S_4 _ _ _ hf hP hS (lv_sub hl [] rfl)
  · have hf := z_if c_15 hf
    refine lv_aload_n hx hb dX11_gain_24 rfl (lv_at hl 1 rfl) ?_
    refine va_get (D := D) (ci := 11) (v := .ref (ad 3)) (C := RX11) (T := TX11) (N := 8) hx hb hts k0 hown hK hP 0 (zX_0 cy ad S_4) rfl 1 (by decide) k6 (fun _ h9 => h9) rfl dX11_gain_25 ?_
    refine va_get (D := D) (ci := 0) (v := .ref (ad 4)) (C := RX0) (T := TX0) (N := 6) hx hb hts k7 hown hK hP 3 (zX_3 cy ad S_4) rfl 0 (by decide) k8 (fun _ h9 => h9) rfl dX11_gain_28 ?_
    refine lv_iload_n hx hb dX11_gain_31 rfl (lv_at hl 2 rfl) ?_
    obtain ⟨r_8, S_9, h_10, hf⟩ := z_bd hf
    refine z_cVI (As := [.int a_1]) (rest := []) X hK hE hD hA hP hS (cx_Houses_has l D K cy ad S_4 _ _ _ h_10) (cwV 1 hts (z_gV wt_3_3 wt_3_4 wt_3_5 wt_1_4 wt_3_6) rfl rfl rfl ⟨rfl, yd_yX2_has⟩ ⟨Nat.le_of_ble_eq_true rfl, Nat.le_of_ble_eq_true rfl⟩) (va_recv hK hP (ci := 2) (q0 := 4) rfl (zX_4 cy ad S_4)) hl.1 rfl rfl (Nat.le_of_ble_eq_true rfl) dX11_gain_32 (fun H locs hP hS => ?_)
    refine lv_if_eq (tgt := 49) hx hb dX11_gain_35 (by decide) (fun c_14 => ?_) (fun c_14 => ?_)
    · have hf := z_it c_14 hf
      exact J_49  S_9 _ _ _ hf hP hS (lv_sub hl [] rfl)
    · have hf := z_if c_14 hf
      refine lv_aload_n hx hb dX11_gain_38 rfl (lv_at hl 1 rfl) ?_
      refine va_get (D := D) (ci := 11) (v := .ref (ad 128)) (C := RX11) (T := TX11) (N := 8) hx hb hts k0 hown hK hP 0 (zX_0 cy ad S_9) rfl 6 (by decide) k1 (fun _ h9 => h9) rfl dX11_gain_39 ?_
      refine lv_iload_n hx hb dX11_gain_42 rfl (lv_at hl 2 rfl) ?_
      obtain ⟨r_11, S_12, h_13, hf⟩ := z_bd hf
      refine z_cVI (As := [.int a_1]) (rest := []) X hK hE hD hA hP hS (cx_Lineup_gainOf l D K cy ad S_9 _ _ _ h_13) (cwV 1 hts (z_gV wt_4_108 wt_4_109 wt_4_110 wt_1_11 wt_4_111) rfl rfl rfl ⟨rfl, yd_yX4_gainOf⟩ ⟨Nat.le_of_ble_eq_true rfl, Nat.le_of_ble_eq_true rfl⟩) (va_recv hK hP (ci := 4) (q0 := 128) rfl (zX_128 cy ad S_9)) hl.1 rfl rfl (Nat.le_of_ble_eq_true rfl) dX11_gain_43 (fun H locs hP hS => ?_)
      refine lv_goto (tgt := 51) hx hb dX11_gain_46 (by decide) ?_
      exact J_51 r_11 S_12 _ _ _ hf hP hS (lv_sub hl [] rfl)
def fx_canSearch (S_0 : zSt) (a_1 : Int32) : Option (Int32 × zSt) :=
  znm (fun (x_1 : Int32) (S_2 : zSt) =>
  zck (zbo x_1) <|
  some (x_1, S_2)) fun j_41 =>
  znm (fun (S_4 : zSt) =>
  j_41 (0 : Int32) S_4) fun j_40 =>
  if (7 : Int32) < (S_0.1 4 0) then (
  j_40  S_0) else (
  znm (fun (S_5 : zSt) =>
  j_41 (1 : Int32) S_5) fun j_36 =>
  if a_1 = 0 then (
  j_36  S_0) else (
  zbd (fx_Houses_has S_0 (a_1 - (10 : Int32))) fun r_6 S_7 =>
  if r_6 = 0 then (
  j_40  S_7) else (
  j_36  S_7)))
set_option maxHeartbeats 4000000 in
set_option maxRecDepth 100000 in
theorem cx_canSearch (l : Launch) (D : va_G) (K : (Nat → Nat) × (Nat → Nat)) (cy : Nat → ClassId) (ad : Nat → Nat) (S_0 : zSt) (a_1 : Int32) (ro : Int32) (So : zSt) (hf : fx_canSearch S_0 a_1 = some (ro, So)) : zMI l yX11_canSearch (zws yX11_canSearch cX11_canSearch 2 (Option.some .boolean)) ({ frames := 1, cells := 0, slots := 0, locals := 21 }) D (zTy cy) K (zX cy ad) [.ref (ad 0), .int a_1] S_0 ro So := by
  refine z_metZ (own := RX11) (lv := [(0, .ref (ad 0)), (1, .int a_1)]) (by decide) rfl rfl (Nat.le_of_ble_eq_true rfl) rfl ?_
  intro p e s m below meth c A Q X hK hE hD hA hret hP hS ls hl
  obtain ⟨hx, hb, hml, hown, hts⟩ := id X
  have k0 := (fun w h => List.mem_cons_of_mem _ (zFX11 w h) : ∀ w ∈ u_ws RX11 TX11 8, w ∈ zws yX11_canSearch cX11_canSearch 2 (Option.some .boolean))
  have k1 := hts _ (List.mem_cons_of_mem _ wt_2_175)
  have k2 := (fun w h => List.mem_cons_of_mem _ (zFX0 w h) : ∀ w ∈ u_ws RX0 TX0 6, w ∈ zws yX11_canSearch cX11_canSearch 2 (Option.some .boolean))
  have k3 := hts _ (List.mem_cons_of_mem _ wt_1_235)
  have k4 := (fun w h => List.mem_cons_of_mem _ (zFX2 w h) : ∀ w ∈ u_ws RX2 TX2 7, w ∈ zws yX11_canSearch cX11_canSearch 2 (Option.some .boolean))
  have k5 := hts _ (List.mem_cons_of_mem _ wt_1_68)
  refine lv_aload_n hx hb dX11_canSearch_0 rfl (lv_at hl 0 rfl) ?_
  refine va_get (D := D) (ci := 11) (v := .ref (ad 3)) (C := RX11) (T := TX11) (N := 8) hx hb hts k0 hown hK hP 0 (zX_0 cy ad S_0) rfl 1 (by decide) k1 (fun _ h9 => h9) rfl dX11_canSearch_1 ?_
  refine va_get (D := D) (ci := 0) (v := .ref (ad 4)) (C := RX0) (T := TX0) (N := 6) hx hb hts k2 hown hK hP 3 (zX_3 cy ad S_0) rfl 0 (by decide) k3 (fun _ h9 => h9) rfl dX11_canSearch_4 ?_
  refine va_get (D := D) (ci := 2) (v := .int (S_0.1 4 0)) (C := RX2) (T := TX2) (N := 7) hx hb hts k4 hown hK hP 4 (zX_4 cy ad S_0) rfl 0 (by decide) k5 (fun _ h9 => h9) rfl dX11_canSearch_7 ?_
  refine lv_bipush (v := 7) hx hb dX11_canSearch_10 (by decide) ?_
  obtain ⟨j_41, ej_41, hf⟩ := z_nm hf
  have J_41 : ∀ (x_1 : Int32) (S_2 : zSt) (H : Heap) (locs : List Loc) (ls : Array Slot), j_41 x_1 S_2 = some (ro, So) → va_P D vwCl (zX cy ad S_2) H → va_S A s.heap H locs → lv_has ls 2 [] → W p l e ({ frames := 1, cells := 0, slots := 0, locals := 21 }) s m ([.ref (ad 0), .int a_1] : List Value).toArray below meth c H locs 0 0 Q (F0 m 41 ls [.int x_1]) := by
    intro x_1 S_2 H locs ls hf hP hS hl
    have hf := z_e2 ej_41 hf
    obtain ⟨h_3, hf⟩ := z_bo hf
    obtain ⟨h1, h2⟩ := z_s2 hf
    subst h1 h2
    exact hret _ _ _ _ h_3 hP hS dX11_canSearch_41
  obtain ⟨j_40, ej_40, hf⟩ := z_nm hf
  have J_40 : ∀ (S_4 : zSt) (H : Heap) (locs : List Loc) (ls : Array Slot), j_40  S_4 = some (ro, So) → va_P D vwCl (zX cy ad S_4) H → va_S A s.heap H locs → lv_has ls 2 [] → W p l e ({ frames := 1, cells := 0, slots := 0, locals := 21 }) s m ([.ref (ad 0), .int a_1] : List Value).toArray below meth c H locs 0 0 Q (F0 m 40 ls []) := by
    intro  S_4 H locs ls hf hP hS hl
    have hf := z_e1 ej_40 hf
    refine lv_iconst (v := 0) hx hb dX11_canSearch_40 (by decide) ?_
    exact J_41 (0 : Int32) S_4 _ _ _ hf hP hS (lv_sub hl [] rfl)
  refine lv_icmp_gt (tgt := 40) hx hb dX11_canSearch_12 (by decide) (fun c_11 => ?_) (fun c_11 => ?_)
  · have hf := z_it c_11 hf
    exact J_40  S_0 _ _ _ hf hP hS (lv_sub hl [] rfl)
  · have hf := z_if c_11 hf
    refine lv_iload_n hx hb dX11_canSearch_15 rfl (lv_at hl 1 rfl) ?_
    obtain ⟨j_36, ej_36, hf⟩ := z_nm hf
    have J_36 : ∀ (S_5 : zSt) (H : Heap) (locs : List Loc) (ls : Array Slot), j_36  S_5 = some (ro, So) → va_P D vwCl (zX cy ad S_5) H → va_S A s.heap H locs → lv_has ls 2 [] → W p l e ({ frames := 1, cells := 0, slots := 0, locals := 21 }) s m ([.ref (ad 0), .int a_1] : List Value).toArray below meth c H locs 0 0 Q (F0 m 36 ls []) := by
      intro  S_5 H locs ls hf hP hS hl
      have hf := z_e1 ej_36 hf
      refine lv_iconst (v := 1) hx hb dX11_canSearch_36 (by decide) ?_
      refine lv_goto (tgt := 41) hx hb dX11_canSearch_37 (by decide) ?_
      exact J_41 (1 : Int32) S_5 _ _ _ hf hP hS (lv_sub hl [] rfl)
    refine lv_if_eq (tgt := 36) hx hb dX11_canSearch_16 (by decide) (fun c_10 => ?_) (fun c_10 => ?_)
    · have hf := z_it c_10 hf
      exact J_36  S_0 _ _ _ hf hP hS (lv_sub hl [] rfl)
    · have hf := z_if c_10 hf
      refine lv_aload_n hx hb dX11_canSearch_19 rfl (lv_at hl 0 rfl) ?_
      refine va_get (D := D) (ci := 11) (v := .ref (ad 3)) (C := RX11) (T := TX11) (N := 8) hx hb hts k0 hown hK hP 0 (zX_0 cy ad S_0) rfl 1 (by decide) k1 (fun _ h9 => h9) rfl dX11_canSearch_20 ?_
      refine va_get (D := D) (ci := 0) (v := .ref (ad 4)) (C := RX0) (T := TX0) (N := 6) hx hb hts k2 hown hK hP 3 (zX_3 cy ad S_0) rfl 0 (by decide) k3 (fun _ h9 => h9) rfl dX11_canSearch_23 ?_
      refine lv_iload_n hx hb dX11_canSearch_26 rfl (lv_at hl 1 rfl) ?_
      refine lv_bipush (v := 10) hx hb dX11_canSearch_27 (by decide) ?_
      refine lv_isub hx hb dX11_canSearch_29 ?_
      obtain ⟨r_6, S_7, h_8, hf⟩ := z_bd hf
      refine z_cVI (As := [.int (a_1 - (10 : Int32))]) (rest := []) X hK hE hD hA hP hS (cx_Houses_has l D K cy ad S_0 _ _ _ h_8) (cwV 1 hts (z_gV wt_3_3 wt_3_4 wt_3_5 wt_1_4 wt_3_6) rfl rfl rfl ⟨rfl, yd_yX2_has⟩ ⟨Nat.le_of_ble_eq_true rfl, Nat.le_of_ble_eq_true rfl⟩) (va_recv hK hP (ci := 2) (q0 := 4) rfl (zX_4 cy ad S_0)) hl.1 rfl rfl (Nat.le_of_ble_eq_true rfl) dX11_canSearch_30 (fun H locs hP hS => ?_)
      refine lv_if_eq (tgt := 40) hx hb dX11_canSearch_33 (by decide) (fun c_9 => ?_) (fun c_9 => ?_)
      · have hf := z_it c_9 hf
        exact J_40  S_7 _ _ _ hf hP hS (lv_sub hl [] rfl)
      · have hf := z_if c_9 hf
        exact J_36  S_7 _ _ _ hf hP hS (lv_sub hl [] rfl)
def fx_orders (S_0 : zSt) (a_1 : Int32) : Option (Int32 × zSt) :=
  zbd (fx_canSearch S_0 a_1) fun r_1 S_2 =>
  if r_1 = 0 then (
  some ((-1 : Int32), S_2)) else (
  zbd (fx_Lineup_findSettled S_2) fun _ S_5 =>
  if a_1 = 0 then (
  some (S_5.1 128 3, S_5)) else (
  znm (fun (x_7 : Int32) (S_8 : zSt) =>
  some (x_7, S_8)) fun j_55 =>
  if (S_5.1 128 3) ≤ 0 then (
  j_55 (-1 : Int32) S_5) else (
  zck (zix (a_1 - (10 : Int32)) 9) <|
  j_55 (S_5.1 130 ((a_1 - (10 : Int32)).toNatClampNeg)) S_5)))
set_option maxHeartbeats 4000000 in
set_option maxRecDepth 100000 in
theorem cx_orders (l : Launch) (D : va_G) (K : (Nat → Nat) × (Nat → Nat)) (cy : Nat → ClassId) (ad : Nat → Nat) (S_0 : zSt) (a_1 : Int32) (ro : Int32) (So : zSt) (hf : fx_orders S_0 a_1 = some (ro, So)) : zMI l yX11_orders (zws yX11_orders cX11_orders 2 (Option.some .int)) ({ frames := 66, cells := 0, slots := 0, locals := 4347 }) D (zTy cy) K (zX cy ad) [.ref (ad 0), .int a_1] S_0 ro So := by
  refine z_metI (own := RX11) (lv := [(0, .ref (ad 0)), (1, .int a_1)]) (by decide) rfl rfl (Nat.le_of_ble_eq_true rfl) rfl ?_
  intro p e s m below meth c A Q X hK hE hD hA hret hP hS ls hl
  obtain ⟨hx, hb, hml, hown, hts⟩ := id X
  have k0 := (fun w h => List.mem_cons_of_mem _ (zFX11 w h) : ∀ w ∈ u_ws RX11 TX11 8, w ∈ zws yX11_orders cX11_orders 2 (Option.some .int))
  have k1 := hts _ (List.mem_cons_of_mem _ wt_2_180)
  have k2 := (fun w h => List.mem_cons_of_mem _ (zFX4 w h) : ∀ w ∈ u_ws RX4 TX4 14, w ∈ zws yX11_orders cX11_orders 2 (Option.some .int))
  have k3 := hts _ (List.mem_cons_of_mem _ wt_2_113)
  have k4 := hts _ (List.mem_cons_of_mem _ wt_2_112)
  refine lv_aload_n hx hb dX11_orders_0 rfl (lv_at hl 0 rfl) ?_
  refine lv_iload_n hx hb dX11_orders_1 rfl (lv_at hl 1 rfl) ?_
  obtain ⟨r_1, S_2, h_3, hf⟩ := z_bd hf
  refine z_cVI (As := [.int a_1]) (rest := []) X hK hE hD hA hP hS (cx_canSearch l D K cy ad S_0 _ _ _ h_3) (cwV 1 hts (z_gV wt_4_121 wt_4_123 wp_33 wt_1_1 wt_4_124) rfl rfl rfl ⟨rfl, yd_yX11_canSearch⟩ ⟨Nat.le_of_ble_eq_true rfl, Nat.le_of_ble_eq_true rfl⟩) (va_recv hK hP (ci := 11) (q0 := 0) rfl (zX_0 cy ad S_0)) hl.1 rfl rfl (Nat.le_of_ble_eq_true rfl) dX11_orders_2 (fun H locs hP hS => ?_)
  refine lv_if_ne (tgt := 10) hx hb dX11_orders_5 (by decide) (fun c_12 => ?_) (fun c_12 => ?_)
  · have hf := z_if c_12 hf
    refine lv_aload_n hx hb dX11_orders_10 rfl (lv_at hl 0 rfl) ?_
    refine va_get (D := D) (ci := 11) (v := .ref (ad 128)) (C := RX11) (T := TX11) (N := 8) hx hb hts k0 hown hK hP 0 (zX_0 cy ad S_2) rfl 6 (by decide) k1 (fun _ h9 => h9) rfl dX11_orders_11 ?_
    obtain ⟨r_4, S_5, h_6, hf⟩ := z_bd hf
    refine z_cVV (As := []) (rest := []) X hK hE hD hA hP hS (cx_Lineup_findSettled l D K cy ad S_2 _ h_6) (cwV 0 hts (z_gV wt_4_125 wt_4_126 wt_4_127 wt_1_11 wt_4_128) rfl rfl rfl ⟨rfl, yd_yX4_findSettled⟩ ⟨Nat.le_of_ble_eq_true rfl, Nat.le_of_ble_eq_true rfl⟩) (va_recv hK hP (ci := 4) (q0 := 128) rfl (zX_128 cy ad S_2)) hl.1 rfl rfl (Nat.le_of_ble_eq_true rfl) dX11_orders_14 (fun H locs hP hS => ?_)
    refine lv_iload_n hx hb dX11_orders_17 rfl (lv_at hl 1 rfl) ?_
    refine lv_if_ne (tgt := 29) hx hb dX11_orders_18 (by decide) (fun c_11 => ?_) (fun c_11 => ?_)
    · have hf := z_if c_11 hf
      refine lv_aload_n hx hb dX11_orders_29 rfl (lv_at hl 0 rfl) ?_
      refine va_get (D := D) (ci := 11) (v := .ref (ad 128)) (C := RX11) (T := TX11) (N := 8) hx hb hts k0 hown hK hP 0 (zX_0 cy ad S_5) rfl 6 (by decide) k1 (fun _ h9 => h9) rfl dX11_orders_30 ?_
      refine va_get (D := D) (ci := 4) (v := .int (S_5.1 128 3)) (C := RX4) (T := TX4) (N := 14) hx hb hts k2 hown hK hP 128 (zX_128 cy ad S_5) rfl 3 (by decide) k3 (fun _ h9 => h9) rfl dX11_orders_33 ?_
      obtain ⟨j_55, ej_55, hf⟩ := z_nm hf
      have J_55 : ∀ (x_7 : Int32) (S_8 : zSt) (H : Heap) (locs : List Loc) (ls : Array Slot), j_55 x_7 S_8 = some (ro, So) → va_P D vwCl (zX cy ad S_8) H → va_S A s.heap H locs → lv_has ls 2 [] → W p l e ({ frames := 66, cells := 0, slots := 0, locals := 4347 }) s m ([.ref (ad 0), .int a_1] : List Value).toArray below meth c H locs 0 0 Q (F0 m 55 ls [.int x_7]) := by
        intro x_7 S_8 H locs ls hf hP hS hl
        have hf := z_e2 ej_55 hf
        obtain ⟨h1, h2⟩ := z_s2 hf
        subst h1 h2
        exact hret _ _ _ _ hP hS dX11_orders_55
      refine lv_if_le (tgt := 54) hx hb dX11_orders_36 (by decide) (fun c_10 => ?_) (fun c_10 => ?_)
      · have hf := z_it c_10 hf
        refine lv_iconst (v := -1) hx hb dX11_orders_54 (by decide) ?_
        exact J_55 (-1 : Int32) S_5 _ _ _ hf hP hS (lv_sub hl [] rfl)
      · have hf := z_if c_10 hf
        refine lv_aload_n hx hb dX11_orders_39 rfl (lv_at hl 0 rfl) ?_
        refine va_get (D := D) (ci := 11) (v := .ref (ad 128)) (C := RX11) (T := TX11) (N := 8) hx hb hts k0 hown hK hP 0 (zX_0 cy ad S_5) rfl 6 (by decide) k1 (fun _ h9 => h9) rfl dX11_orders_40 ?_
        refine va_get (D := D) (ci := 4) (v := .ref (ad 130)) (C := RX4) (T := TX4) (N := 14) hx hb hts k2 hown hK hP 128 (zX_128 cy ad S_5) rfl 2 (by decide) k4 (fun _ h9 => h9) rfl dX11_orders_43 ?_
        refine lv_iload_n hx hb dX11_orders_46 rfl (lv_at hl 1 rfl) ?_
        refine lv_bipush (v := 10) hx hb dX11_orders_47 (by decide) ?_
        refine lv_isub hx hb dX11_orders_49 ?_
        obtain ⟨h_9, hf⟩ := z_ix hf
        refine z_iald hx hb hK hP 130 0 (zX_130 cy ad S_5) rfl h_9 (k := ((a_1 - (10 : Int32)).toNatClampNeg)) rfl dX11_orders_50 ?_
        refine lv_goto (tgt := 55) hx hb dX11_orders_51 (by decide) ?_
        exact J_55 (S_5.1 130 ((a_1 - (10 : Int32)).toNatClampNeg)) S_5 _ _ _ hf hP hS (lv_sub hl [] rfl)
    · have hf := z_it c_11 hf
      refine lv_aload_n hx hb dX11_orders_21 rfl (lv_at hl 0 rfl) ?_
      refine va_get (D := D) (ci := 11) (v := .ref (ad 128)) (C := RX11) (T := TX11) (N := 8) hx hb hts k0 hown hK hP 0 (zX_0 cy ad S_5) rfl 6 (by decide) k1 (fun _ h9 => h9) rfl dX11_orders_22 ?_
      refine va_get (D := D) (ci := 4) (v := .int (S_5.1 128 3)) (C := RX4) (T := TX4) (N := 14) hx hb hts k2 hown hK hP 128 (zX_128 cy ad S_5) rfl 3 (by decide) k3 (fun _ h9 => h9) rfl dX11_orders_25 ?_
      obtain ⟨h1, h2⟩ := z_s2 hf
      subst h1 h2
      exact hret _ _ _ _ hP hS dX11_orders_28
  · have hf := z_it c_12 hf
    refine lv_iconst (v := -1) hx hb dX11_orders_8 (by decide) ?_
    obtain ⟨h1, h2⟩ := z_s2 hf
    subst h1 h2
    exact hret _ _ _ _ hP hS dX11_orders_9
def fx_round (S_0 : zSt) (a_1 : Int32) : Option (Int32 × zSt) :=
  znm (fun (S_1 : zSt) =>
  zbd (fx_Lineup_goRound S_1) fun _ S_3 =>
  znm (fun (x_5 : Int32) (S_6 : zSt) =>
  some (x_5, S_6)) fun j_39 =>
  if a_1 = 0 then (
  j_39 (S_3.1 128 5) S_3) else (
  j_39 (S_3.1 128 6) S_3)) fun j_11 =>
  if a_1 = 0 then (
  j_11  S_0) else (
  if a_1 = (1 : Int32) then (
  j_11  S_0) else (
  some ((-1 : Int32), S_0)))
set_option maxHeartbeats 4000000 in
set_option maxRecDepth 100000 in
theorem cx_round (l : Launch) (D : va_G) (K : (Nat → Nat) × (Nat → Nat)) (cy : Nat → ClassId) (ad : Nat → Nat) (S_0 : zSt) (a_1 : Int32) (ro : Int32) (So : zSt) (hf : fx_round S_0 a_1 = some (ro, So)) : zMI l yX11_round (zws yX11_round cX11_round 2 (Option.some .int)) ({ frames := 5, cells := 0, slots := 0, locals := 292 }) D (zTy cy) K (zX cy ad) [.ref (ad 0), .int a_1] S_0 ro So := by
  refine z_metI (own := RX11) (lv := [(0, .ref (ad 0)), (1, .int a_1)]) (by decide) rfl rfl (Nat.le_of_ble_eq_true rfl) rfl ?_
  intro p e s m below meth c A Q X hK hE hD hA hret hP hS ls hl
  obtain ⟨hx, hb, hml, hown, hts⟩ := id X
  have k0 := (fun w h => List.mem_cons_of_mem _ (zFX11 w h) : ∀ w ∈ u_ws RX11 TX11 8, w ∈ zws yX11_round cX11_round 2 (Option.some .int))
  have k1 := hts _ (List.mem_cons_of_mem _ wt_2_180)
  have k2 := (fun w h => List.mem_cons_of_mem _ (zFX4 w h) : ∀ w ∈ u_ws RX4 TX4 14, w ∈ zws yX11_round cX11_round 2 (Option.some .int))
  have k3 := hts _ (List.mem_cons_of_mem _ wt_2_119)
  have k4 := hts _ (List.mem_cons_of_mem _ wt_2_117)
  refine lv_iload_n hx hb dX11_round_0 rfl (lv_at hl 1 rfl) ?_
  obtain ⟨j_11, ej_11, hf⟩ := z_nm hf
  have J_11 : ∀ (S_1 : zSt) (H : Heap) (locs : List Loc) (ls : Array Slot), j_11  S_1 = some (ro, So) → va_P D vwCl (zX cy ad S_1) H → va_S A s.heap H locs → lv_has ls 2 [(0, .ref (ad 0)), (1, .int a_1)] → W p l e ({ frames := 5, cells := 0, slots := 0, locals := 292 }) s m ([.ref (ad 0), .int a_1] : List Value).toArray below meth c H locs 0 0 Q (F0 m 11 ls []) := by
    intro  S_1 H locs ls hf hP hS hl
    have hf := z_e1 ej_11 hf
    refine lv_aload_n hx hb dX11_round_11 rfl (lv_at hl 0 rfl) ?_
    refine va_get (D := D) (ci := 11) (v := .ref (ad 128)) (C := RX11) (T := TX11) (N := 8) hx hb hts k0 hown hK hP 0 (zX_0 cy ad S_1) rfl 6 (by decide) k1 (fun _ h9 => h9) rfl dX11_round_12 ?_
    obtain ⟨r_2, S_3, h_4, hf⟩ := z_bd hf
    refine z_cVV (As := []) (rest := []) X hK hE hD hA hP hS (cx_Lineup_goRound l D K cy ad S_1 _ h_4) (cwV 0 hts (z_gV wt_4_153 wt_4_154 wt_4_155 wt_1_11 wt_4_156) rfl rfl rfl ⟨rfl, yd_yX4_goRound⟩ ⟨Nat.le_of_ble_eq_true rfl, Nat.le_of_ble_eq_true rfl⟩) (va_recv hK hP (ci := 4) (q0 := 128) rfl (zX_128 cy ad S_1)) hl.1 rfl rfl (Nat.le_of_ble_eq_true rfl) dX11_round_15 (fun H locs hP hS => ?_)
    refine lv_iload_n hx hb dX11_round_18 rfl (lv_at hl 1 rfl) ?_
    obtain ⟨j_39, ej_39, hf⟩ := z_nm hf
    have J_39 : ∀ (x_5 : Int32) (S_6 : zSt) (H : Heap) (locs : List Loc) (ls : Array Slot), j_39 x_5 S_6 = some (ro, So) → va_P D vwCl (zX cy ad S_6) H → va_S A s.heap H locs → lv_has ls 2 [] → W p l e ({ frames := 5, cells := 0, slots := 0, locals := 292 }) s m ([.ref (ad 0), .int a_1] : List Value).toArray below meth c H locs 0 0 Q (F0 m 39 ls [.int x_5]) := by
      intro x_5 S_6 H locs ls hf hP hS hl
      have hf := z_e2 ej_39 hf
      obtain ⟨h1, h2⟩ := z_s2 hf
      subst h1 h2
      exact hret _ _ _ _ hP hS dX11_round_39
    refine lv_if_ne (tgt := 32) hx hb dX11_round_19 (by decide) (fun c_7 => ?_) (fun c_7 => ?_)
    · have hf := z_if c_7 hf
      refine lv_aload_n hx hb dX11_round_32 rfl (lv_at hl 0 rfl) ?_
      refine va_get (D := D) (ci := 11) (v := .ref (ad 128)) (C := RX11) (T := TX11) (N := 8) hx hb hts k0 hown hK hP 0 (zX_0 cy ad S_3) rfl 6 (by decide) k1 (fun _ h9 => h9) rfl dX11_round_33 ?_
      refine va_get (D := D) (ci := 4) (v := .int (S_3.1 128 6)) (C := RX4) (T := TX4) (N := 14) hx hb hts k2 hown hK hP 128 (zX_128 cy ad S_3) rfl 6 (by decide) k3 (fun _ h9 => h9) rfl dX11_round_36 ?_
      exact J_39 (S_3.1 128 6) S_3 _ _ _ hf hP hS (lv_sub hl [] rfl)
    · have hf := z_it c_7 hf
      refine lv_aload_n hx hb dX11_round_22 rfl (lv_at hl 0 rfl) ?_
      refine va_get (D := D) (ci := 11) (v := .ref (ad 128)) (C := RX11) (T := TX11) (N := 8) hx hb hts k0 hown hK hP 0 (zX_0 cy ad S_3) rfl 6 (by decide) k1 (fun _ h9 => h9) rfl dX11_round_23 ?_
      refine va_get (D := D) (ci := 4) (v := .int (S_3.1 128 5)) (C := RX4) (T := TX4) (N := 14) hx hb hts k2 hown hK hP 128 (zX_128 cy ad S_3) rfl 5 (by decide) k4 (fun _ h9 => h9) rfl dX11_round_26 ?_
      refine lv_goto (tgt := 39) hx hb dX11_round_29 (by decide) ?_
      exact J_39 (S_3.1 128 5) S_3 _ _ _ hf hP hS (lv_sub hl [] rfl)
  refine lv_if_eq (tgt := 11) hx hb dX11_round_1 (by decide) (fun c_9 => ?_) (fun c_9 => ?_)
  · have hf := z_it c_9 hf
    exact J_11  S_0 _ _ _ hf hP hS (lv_sub hl [0, 1] rfl)
  · have hf := z_if c_9 hf
    refine lv_iload_n hx hb dX11_round_4 rfl (lv_at hl 1 rfl) ?_
    refine lv_iconst (v := 1) hx hb dX11_round_5 (by decide) ?_
    refine lv_icmp_eq (tgt := 11) hx hb dX11_round_6 (by decide) (fun c_8 => ?_) (fun c_8 => ?_)
    · have hf := z_it c_8 hf
      exact J_11  S_0 _ _ _ hf hP hS (lv_sub hl [0, 1] rfl)
    · have hf := z_if c_8 hf
      refine lv_iconst (v := -1) hx hb dX11_round_9 (by decide) ?_
      obtain ⟨h1, h2⟩ := z_s2 hf
      subst h1 h2
      exact hret _ _ _ _ hP hS dX11_round_10
def fx_least (S_0 : zSt) (a_1 : Int32) : Option (Int32 × zSt) :=
  zbd (fx_canSearch S_0 a_1) fun r_1 S_2 =>
  if r_1 = 0 then (
  some ((-1 : Int32), S_2)) else (
  zbd (fx_Lineup_findLeastWood S_2) fun _ S_5 =>
  znm (fun (x_7 : Int32) (S_8 : zSt) =>
  some (x_7, S_8)) fun j_43 =>
  if a_1 = 0 then (
  j_43 (S_5.1 128 4) S_5) else (
  zck (zix (a_1 - (10 : Int32)) 9) <|
  j_43 (S_5.1 130 ((a_1 - (10 : Int32)).toNatClampNeg)) S_5))
set_option maxHeartbeats 4000000 in
set_option maxRecDepth 100000 in
theorem cx_least (l : Launch) (D : va_G) (K : (Nat → Nat) × (Nat → Nat)) (cy : Nat → ClassId) (ad : Nat → Nat) (S_0 : zSt) (a_1 : Int32) (ro : Int32) (So : zSt) (hf : fx_least S_0 a_1 = some (ro, So)) : zMI l yX11_least (zws yX11_least cX11_least 2 (Option.some .int)) ({ frames := 50, cells := 0, slots := 0, locals := 3964 }) D (zTy cy) K (zX cy ad) [.ref (ad 0), .int a_1] S_0 ro So := by
  refine z_metI (own := RX11) (lv := [(0, .ref (ad 0)), (1, .int a_1)]) (by decide) rfl rfl (Nat.le_of_ble_eq_true rfl) rfl ?_
  intro p e s m below meth c A Q X hK hE hD hA hret hP hS ls hl
  obtain ⟨hx, hb, hml, hown, hts⟩ := id X
  have k0 := (fun w h => List.mem_cons_of_mem _ (zFX11 w h) : ∀ w ∈ u_ws RX11 TX11 8, w ∈ zws yX11_least cX11_least 2 (Option.some .int))
  have k1 := hts _ (List.mem_cons_of_mem _ wt_2_180)
  have k2 := (fun w h => List.mem_cons_of_mem _ (zFX4 w h) : ∀ w ∈ u_ws RX4 TX4 14, w ∈ zws yX11_least cX11_least 2 (Option.some .int))
  have k3 := hts _ (List.mem_cons_of_mem _ wt_2_112)
  have k4 := hts _ (List.mem_cons_of_mem _ wt_2_115)
  refine lv_aload_n hx hb dX11_least_0 rfl (lv_at hl 0 rfl) ?_
  refine lv_iload_n hx hb dX11_least_1 rfl (lv_at hl 1 rfl) ?_
  obtain ⟨r_1, S_2, h_3, hf⟩ := z_bd hf
  refine z_cVI (As := [.int a_1]) (rest := []) X hK hE hD hA hP hS (cx_canSearch l D K cy ad S_0 _ _ _ h_3) (cwV 1 hts (z_gV wt_4_121 wt_4_123 wp_33 wt_1_1 wt_4_124) rfl rfl rfl ⟨rfl, yd_yX11_canSearch⟩ ⟨Nat.le_of_ble_eq_true rfl, Nat.le_of_ble_eq_true rfl⟩) (va_recv hK hP (ci := 11) (q0 := 0) rfl (zX_0 cy ad S_0)) hl.1 rfl rfl (Nat.le_of_ble_eq_true rfl) dX11_least_2 (fun H locs hP hS => ?_)
  refine lv_if_ne (tgt := 10) hx hb dX11_least_5 (by decide) (fun c_11 => ?_) (fun c_11 => ?_)
  · have hf := z_if c_11 hf
    refine lv_aload_n hx hb dX11_least_10 rfl (lv_at hl 0 rfl) ?_
    refine va_get (D := D) (ci := 11) (v := .ref (ad 128)) (C := RX11) (T := TX11) (N := 8) hx hb hts k0 hown hK hP 0 (zX_0 cy ad S_2) rfl 6 (by decide) k1 (fun _ h9 => h9) rfl dX11_least_11 ?_
    obtain ⟨r_4, S_5, h_6, hf⟩ := z_bd hf
    refine z_cVV (As := []) (rest := []) X hK hE hD hA hP hS (cx_Lineup_findLeastWood l D K cy ad S_2 _ h_6) (cwV 0 hts (z_gV wt_4_174 wt_4_175 wt_4_176 wt_1_11 wt_4_177) rfl rfl rfl ⟨rfl, yd_yX4_findLeastWood⟩ ⟨Nat.le_of_ble_eq_true rfl, Nat.le_of_ble_eq_true rfl⟩) (va_recv hK hP (ci := 4) (q0 := 128) rfl (zX_128 cy ad S_2)) hl.1 rfl rfl (Nat.le_of_ble_eq_true rfl) dX11_least_14 (fun H locs hP hS => ?_)
    refine lv_iload_n hx hb dX11_least_17 rfl (lv_at hl 1 rfl) ?_
    obtain ⟨j_43, ej_43, hf⟩ := z_nm hf
    have J_43 : ∀ (x_7 : Int32) (S_8 : zSt) (H : Heap) (locs : List Loc) (ls : Array Slot), j_43 x_7 S_8 = some (ro, So) → va_P D vwCl (zX cy ad S_8) H → va_S A s.heap H locs → lv_has ls 2 [] → W p l e ({ frames := 50, cells := 0, slots := 0, locals := 3964 }) s m ([.ref (ad 0), .int a_1] : List Value).toArray below meth c H locs 0 0 Q (F0 m 43 ls [.int x_7]) := by
      intro x_7 S_8 H locs ls hf hP hS hl
      have hf := z_e2 ej_43 hf
      obtain ⟨h1, h2⟩ := z_s2 hf
      subst h1 h2
      exact hret _ _ _ _ hP hS dX11_least_43
    refine lv_if_ne (tgt := 31) hx hb dX11_least_18 (by decide) (fun c_10 => ?_) (fun c_10 => ?_)
    · have hf := z_if c_10 hf
      refine lv_aload_n hx hb dX11_least_31 rfl (lv_at hl 0 rfl) ?_
      refine va_get (D := D) (ci := 11) (v := .ref (ad 128)) (C := RX11) (T := TX11) (N := 8) hx hb hts k0 hown hK hP 0 (zX_0 cy ad S_5) rfl 6 (by decide) k1 (fun _ h9 => h9) rfl dX11_least_32 ?_
      refine va_get (D := D) (ci := 4) (v := .ref (ad 130)) (C := RX4) (T := TX4) (N := 14) hx hb hts k2 hown hK hP 128 (zX_128 cy ad S_5) rfl 2 (by decide) k3 (fun _ h9 => h9) rfl dX11_least_35 ?_
      refine lv_iload_n hx hb dX11_least_38 rfl (lv_at hl 1 rfl) ?_
      refine lv_bipush (v := 10) hx hb dX11_least_39 (by decide) ?_
      refine lv_isub hx hb dX11_least_41 ?_
      obtain ⟨h_9, hf⟩ := z_ix hf
      refine z_iald hx hb hK hP 130 0 (zX_130 cy ad S_5) rfl h_9 (k := ((a_1 - (10 : Int32)).toNatClampNeg)) rfl dX11_least_42 ?_
      exact J_43 (S_5.1 130 ((a_1 - (10 : Int32)).toNatClampNeg)) S_5 _ _ _ hf hP hS (lv_sub hl [] rfl)
    · have hf := z_it c_10 hf
      refine lv_aload_n hx hb dX11_least_21 rfl (lv_at hl 0 rfl) ?_
      refine va_get (D := D) (ci := 11) (v := .ref (ad 128)) (C := RX11) (T := TX11) (N := 8) hx hb hts k0 hown hK hP 0 (zX_0 cy ad S_5) rfl 6 (by decide) k1 (fun _ h9 => h9) rfl dX11_least_22 ?_
      refine va_get (D := D) (ci := 4) (v := .int (S_5.1 128 4)) (C := RX4) (T := TX4) (N := 14) hx hb hts k2 hown hK hP 128 (zX_128 cy ad S_5) rfl 4 (by decide) k4 (fun _ h9 => h9) rfl dX11_least_25 ?_
      refine lv_goto (tgt := 43) hx hb dX11_least_28 (by decide) ?_
      exact J_43 (S_5.1 128 4) S_5 _ _ _ hf hP hS (lv_sub hl [] rfl)
  · have hf := z_it c_11 hf
    refine lv_iconst (v := -1) hx hb dX11_least_8 (by decide) ?_
    obtain ⟨h1, h2⟩ := z_s2 hf
    subst h1 h2
    exact hret _ _ _ _ hP hS dX11_least_9
def fx_leaven (S_0 : zSt) (a_1 : Int32) (a_2 : Int32) : Option (Int32 × zSt) :=
  if a_2 = (-1 : Int32) then (
  zbd (fx_Houses_has S_0 a_1) fun r_15 S_16 =>
  znm (fun (x_18 : Int32) (S_19 : zSt) =>
  some (x_18, S_19)) fun j_34 =>
  if r_15 = 0 then (
  j_34 (-1 : Int32) S_16) else (
  zbd (fx_Leavens_addNew S_16 a_1) fun r_20 S_21 =>
  j_34 r_20 S_21)) else (
  zbd (fx_Leavens_has S_0 a_1) fun r_1 S_2 =>
  znm (fun (x_4 : Int32) (S_5 : zSt) =>
  some (x_4, S_5)) fun j_79 =>
  znm (fun (S_6 : zSt) =>
  j_79 (-1 : Int32) S_6) fun j_78 =>
  if r_1 = 0 then (
  j_78  S_2) else (
  zbd (fx_Leavens_has S_2 a_2) fun r_7 S_8 =>
  if r_7 = 0 then (
  j_78  S_8) else (
  zbd (fx_Leavens_addMixed S_8 a_1 a_2) fun r_10 S_11 =>
  j_79 r_10 S_11)))
set_option maxHeartbeats 4000000 in
set_option maxRecDepth 100000 in
theorem cx_leaven (l : Launch) (D : va_G) (K : (Nat → Nat) × (Nat → Nat)) (cy : Nat → ClassId) (ad : Nat → Nat) (S_0 : zSt) (a_1 : Int32) (a_2 : Int32) (ro : Int32) (So : zSt) (hf : fx_leaven S_0 a_1 a_2 = some (ro, So)) : zMI l yX11_leaven (zws yX11_leaven cX11_leaven 3 (Option.some .int)) ({ frames := 2, cells := 0, slots := 0, locals := 223 }) D (zTy cy) K (zX cy ad) [.ref (ad 0), .int a_1, .int a_2] S_0 ro So := by
  refine z_metI (own := RX11) (lv := [(0, .ref (ad 0)), (1, .int a_1), (2, .int a_2)]) (by decide) rfl rfl (Nat.le_of_ble_eq_true rfl) rfl ?_
  intro p e s m below meth c A Q X hK hE hD hA hret hP hS ls hl
  obtain ⟨hx, hb, hml, hown, hts⟩ := id X
  have k0 := (fun w h => List.mem_cons_of_mem _ (zFX11 w h) : ∀ w ∈ u_ws RX11 TX11 8, w ∈ zws yX11_leaven cX11_leaven 3 (Option.some .int))
  have k1 := hts _ (List.mem_cons_of_mem _ wt_2_175)
  have k2 := (fun w h => List.mem_cons_of_mem _ (zFX0 w h) : ∀ w ∈ u_ws RX0 TX0 6, w ∈ zws yX11_leaven cX11_leaven 3 (Option.some .int))
  have k3 := hts _ (List.mem_cons_of_mem _ wt_2_6)
  have k4 := hts _ (List.mem_cons_of_mem _ wt_1_235)
  refine lv_iload_n hx hb dX11_leaven_0 rfl (lv_at hl 2 rfl) ?_
  refine lv_iconst (v := -1) hx hb dX11_leaven_1 (by decide) ?_
  refine lv_icmp_ne (tgt := 35) hx hb dX11_leaven_2 (by decide) (fun c_24 => ?_) (fun c_24 => ?_)
  · have hf := z_if c_24 hf
    refine lv_aload_n hx hb dX11_leaven_35 rfl (lv_at hl 0 rfl) ?_
    refine va_get (D := D) (ci := 11) (v := .ref (ad 3)) (C := RX11) (T := TX11) (N := 8) hx hb hts k0 hown hK hP 0 (zX_0 cy ad S_0) rfl 1 (by decide) k1 (fun _ h9 => h9) rfl dX11_leaven_36 ?_
    refine va_get (D := D) (ci := 0) (v := .ref (ad 22)) (C := RX0) (T := TX0) (N := 6) hx hb hts k2 hown hK hP 3 (zX_3 cy ad S_0) rfl 4 (by decide) k3 (fun _ h9 => h9) rfl dX11_leaven_39 ?_
    refine lv_iload_n hx hb dX11_leaven_42 rfl (lv_at hl 1 rfl) ?_
    obtain ⟨r_1, S_2, h_3, hf⟩ := z_bd hf
    refine z_cVI (As := [.int a_1]) (rest := []) X hK hE hD hA hP hS (cx_Leavens_has l D K cy ad S_0 _ _ _ h_3) (cwV 1 hts (z_gV wt_4_195 wt_4_196 wt_4_197 wt_1_7 wt_4_198) rfl rfl rfl ⟨rfl, yd_yX3_has⟩ ⟨Nat.le_of_ble_eq_true rfl, Nat.le_of_ble_eq_true rfl⟩) (va_recv hK hP (ci := 3) (q0 := 22) rfl (zX_22 cy ad S_0)) hl.1 rfl rfl (Nat.le_of_ble_eq_true rfl) dX11_leaven_43 (fun H locs hP hS => ?_)
    obtain ⟨j_79, ej_79, hf⟩ := z_nm hf
    have J_79 : ∀ (x_4 : Int32) (S_5 : zSt) (H : Heap) (locs : List Loc) (ls : Array Slot), j_79 x_4 S_5 = some (ro, So) → va_P D vwCl (zX cy ad S_5) H → va_S A s.heap H locs → lv_has ls 3 [] → W p l e ({ frames := 2, cells := 0, slots := 0, locals := 223 }) s m ([.ref (ad 0), .int a_1, .int a_2] : List Value).toArray below meth c H locs 0 0 Q (F0 m 79 ls [.int x_4]) := by
      intro x_4 S_5 H locs ls hf hP hS hl
      have hf := z_e2 ej_79 hf
      obtain ⟨h1, h2⟩ := z_s2 hf
      subst h1 h2
      exact hret _ _ _ _ hP hS dX11_leaven_79
    obtain ⟨j_78, ej_78, hf⟩ := z_nm hf
    have J_78 : ∀ (S_6 : zSt) (H : Heap) (locs : List Loc) (ls : Array Slot), j_78  S_6 = some (ro, So) → va_P D vwCl (zX cy ad S_6) H → va_S A s.heap H locs → lv_has ls 3 [] → W p l e ({ frames := 2, cells := 0, slots := 0, locals := 223 }) s m ([.ref (ad 0), .int a_1, .int a_2] : List Value).toArray below meth c H locs 0 0 Q (F0 m 78 ls []) := by
      intro  S_6 H locs ls hf hP hS hl
      have hf := z_e1 ej_78 hf
      refine lv_iconst (v := -1) hx hb dX11_leaven_78 (by decide) ?_
      exact J_79 (-1 : Int32) S_6 _ _ _ hf hP hS (lv_sub hl [] rfl)
    refine lv_if_eq (tgt := 78) hx hb dX11_leaven_46 (by decide) (fun c_14 => ?_) (fun c_14 => ?_)
    · have hf := z_it c_14 hf
      exact J_78  S_2 _ _ _ hf hP hS (lv_sub hl [] rfl)
    · have hf := z_if c_14 hf
      refine lv_aload_n hx hb dX11_leaven_49 rfl (lv_at hl 0 rfl) ?_
      refine va_get (D := D) (ci := 11) (v := .ref (ad 3)) (C := RX11) (T := TX11) (N := 8) hx hb hts k0 hown hK hP 0 (zX_0 cy ad S_2) rfl 1 (by decide) k1 (fun _ h9 => h9) rfl dX11_leaven_50 ?_
      refine va_get (D := D) (ci := 0) (v := .ref (ad 22)) (C := RX0) (T := TX0) (N := 6) hx hb hts k2 hown hK hP 3 (zX_3 cy ad S_2) rfl 4 (by decide) k3 (fun _ h9 => h9) rfl dX11_leaven_53 ?_
      refine lv_iload_n hx hb dX11_leaven_56 rfl (lv_at hl 2 rfl) ?_
      obtain ⟨r_7, S_8, h_9, hf⟩ := z_bd hf
      refine z_cVI (As := [.int a_2]) (rest := []) X hK hE hD hA hP hS (cx_Leavens_has l D K cy ad S_2 _ _ _ h_9) (cwV 1 hts (z_gV wt_4_195 wt_4_196 wt_4_197 wt_1_7 wt_4_198) rfl rfl rfl ⟨rfl, yd_yX3_has⟩ ⟨Nat.le_of_ble_eq_true rfl, Nat.le_of_ble_eq_true rfl⟩) (va_recv hK hP (ci := 3) (q0 := 22) rfl (zX_22 cy ad S_2)) hl.1 rfl rfl (Nat.le_of_ble_eq_true rfl) dX11_leaven_57 (fun H locs hP hS => ?_)
      refine lv_if_eq (tgt := 78) hx hb dX11_leaven_60 (by decide) (fun c_13 => ?_) (fun c_13 => ?_)
      · have hf := z_it c_13 hf
        exact J_78  S_8 _ _ _ hf hP hS (lv_sub hl [] rfl)
      · have hf := z_if c_13 hf
        refine lv_aload_n hx hb dX11_leaven_63 rfl (lv_at hl 0 rfl) ?_
        refine va_get (D := D) (ci := 11) (v := .ref (ad 3)) (C := RX11) (T := TX11) (N := 8) hx hb hts k0 hown hK hP 0 (zX_0 cy ad S_8) rfl 1 (by decide) k1 (fun _ h9 => h9) rfl dX11_leaven_64 ?_
        refine va_get (D := D) (ci := 0) (v := .ref (ad 22)) (C := RX0) (T := TX0) (N := 6) hx hb hts k2 hown hK hP 3 (zX_3 cy ad S_8) rfl 4 (by decide) k3 (fun _ h9 => h9) rfl dX11_leaven_67 ?_
        refine lv_iload_n hx hb dX11_leaven_70 rfl (lv_at hl 1 rfl) ?_
        refine lv_iload_n hx hb dX11_leaven_71 rfl (lv_at hl 2 rfl) ?_
        obtain ⟨r_10, S_11, h_12, hf⟩ := z_bd hf
        refine z_cVI (As := [.int a_1, .int a_2]) (rest := []) X hK hE hD hA hP hS (cx_Leavens_addMixed l D K cy ad S_8 _ _ _ _ h_12) (cwV 2 hts (z_gV wt_4_199 wt_4_200 wt_4_201 wt_1_7 wt_4_202) rfl rfl rfl ⟨rfl, yd_yX3_addMixed⟩ ⟨Nat.le_of_ble_eq_true rfl, Nat.le_of_ble_eq_true rfl⟩) (va_recv hK hP (ci := 3) (q0 := 22) rfl (zX_22 cy ad S_8)) hl.1 rfl rfl (Nat.le_of_ble_eq_true rfl) dX11_leaven_72 (fun H locs hP hS => ?_)
        refine lv_goto (tgt := 79) hx hb dX11_leaven_75 (by decide) ?_
        exact J_79 r_10 S_11 _ _ _ hf hP hS (lv_sub hl [] rfl)
  · have hf := z_it c_24 hf
    refine lv_aload_n hx hb dX11_leaven_5 rfl (lv_at hl 0 rfl) ?_
    refine va_get (D := D) (ci := 11) (v := .ref (ad 3)) (C := RX11) (T := TX11) (N := 8) hx hb hts k0 hown hK hP 0 (zX_0 cy ad S_0) rfl 1 (by decide) k1 (fun _ h9 => h9) rfl dX11_leaven_6 ?_
    refine va_get (D := D) (ci := 0) (v := .ref (ad 4)) (C := RX0) (T := TX0) (N := 6) hx hb hts k2 hown hK hP 3 (zX_3 cy ad S_0) rfl 0 (by decide) k4 (fun _ h9 => h9) rfl dX11_leaven_9 ?_
    refine lv_iload_n hx hb dX11_leaven_12 rfl (lv_at hl 1 rfl) ?_
    obtain ⟨r_15, S_16, h_17, hf⟩ := z_bd hf
    refine z_cVI (As := [.int a_1]) (rest := []) X hK hE hD hA hP hS (cx_Houses_has l D K cy ad S_0 _ _ _ h_17) (cwV 1 hts (z_gV wt_3_3 wt_3_4 wt_3_5 wt_1_4 wt_3_6) rfl rfl rfl ⟨rfl, yd_yX2_has⟩ ⟨Nat.le_of_ble_eq_true rfl, Nat.le_of_ble_eq_true rfl⟩) (va_recv hK hP (ci := 2) (q0 := 4) rfl (zX_4 cy ad S_0)) hl.1 rfl rfl (Nat.le_of_ble_eq_true rfl) dX11_leaven_13 (fun H locs hP hS => ?_)
    obtain ⟨j_34, ej_34, hf⟩ := z_nm hf
    have J_34 : ∀ (x_18 : Int32) (S_19 : zSt) (H : Heap) (locs : List Loc) (ls : Array Slot), j_34 x_18 S_19 = some (ro, So) → va_P D vwCl (zX cy ad S_19) H → va_S A s.heap H locs → lv_has ls 3 [] → W p l e ({ frames := 2, cells := 0, slots := 0, locals := 223 }) s m ([.ref (ad 0), .int a_1, .int a_2] : List Value).toArray below meth c H locs 0 0 Q (F0 m 34 ls [.int x_18]) := by
      intro x_18 S_19 H locs ls hf hP hS hl
      have hf := z_e2 ej_34 hf
      obtain ⟨h1, h2⟩ := z_s2 hf
      subst h1 h2
      exact hret _ _ _ _ hP hS dX11_leaven_34
    refine lv_if_eq (tgt := 33) hx hb dX11_leaven_16 (by decide) (fun c_23 => ?_) (fun c_23 => ?_)
    · have hf := z_it c_23 hf
      refine lv_iconst (v := -1) hx hb dX11_leaven_33 (by decide) ?_
      exact J_34 (-1 : Int32) S_16 _ _ _ hf hP hS (lv_sub hl [] rfl)
    · have hf := z_if c_23 hf
      refine lv_aload_n hx hb dX11_leaven_19 rfl (lv_at hl 0 rfl) ?_
      refine va_get (D := D) (ci := 11) (v := .ref (ad 3)) (C := RX11) (T := TX11) (N := 8) hx hb hts k0 hown hK hP 0 (zX_0 cy ad S_16) rfl 1 (by decide) k1 (fun _ h9 => h9) rfl dX11_leaven_20 ?_
      refine va_get (D := D) (ci := 0) (v := .ref (ad 22)) (C := RX0) (T := TX0) (N := 6) hx hb hts k2 hown hK hP 3 (zX_3 cy ad S_16) rfl 4 (by decide) k3 (fun _ h9 => h9) rfl dX11_leaven_23 ?_
      refine lv_iload_n hx hb dX11_leaven_26 rfl (lv_at hl 1 rfl) ?_
      obtain ⟨r_20, S_21, h_22, hf⟩ := z_bd hf
      refine z_cVI (As := [.int a_1]) (rest := []) X hK hE hD hA hP hS (cx_Leavens_addNew l D K cy ad S_16 _ _ _ h_22) (cwV 1 hts (z_gV wt_4_187 wt_4_188 wt_4_189 wt_1_7 wt_4_190) rfl rfl rfl ⟨rfl, yd_yX3_addNew⟩ ⟨Nat.le_of_ble_eq_true rfl, Nat.le_of_ble_eq_true rfl⟩) (va_recv hK hP (ci := 3) (q0 := 22) rfl (zX_22 cy ad S_16)) hl.1 rfl rfl (Nat.le_of_ble_eq_true rfl) dX11_leaven_27 (fun H locs hP hS => ?_)
      refine lv_goto (tgt := 34) hx hb dX11_leaven_30 (by decide) ?_
      exact J_34 r_20 S_21 _ _ _ hf hP hS (lv_sub hl [] rfl)
def fx_greatestCommonDivisor_L9 (j_44 : Int64 → zSt → Option (Int64 × zSt)) : Nat → Int64 → Int64 → Int32 → zSt → Option (Int64 × zSt)
  | 0, _, _, _, _ => none
  | n_9 + 1, x_3, x_4, x_5, S_6 =>
    if (100 : Int32) ≤ x_5 then (
    j_44 x_3 S_6) else (
    if (lg_cmp x_4 (0 : Int64)) = 0 then (
    j_44 x_3 S_6) else (
    zck (znzL x_4) <|
    znm (x_3 - x_3 / x_4 * x_4) fun x_8 =>
    znm (x_5 + (1 : Int32)) fun x_9 =>
    fx_greatestCommonDivisor_L9 j_44 n_9 x_4 x_8 x_9 S_6))
def fx_greatestCommonDivisor (S_0 : zSt) (a_1 : Int64) (a_2 : Int64) : Option (Int64 × zSt) :=
  znm (fun (x_1 : Int64) (S_2 : zSt) =>
  some (x_1, S_2)) fun j_44 =>
  fx_greatestCommonDivisor_L9 j_44 zFU a_2 a_1 (0 : Int32) S_0
set_option maxHeartbeats 4000000 in
set_option maxRecDepth 100000 in
theorem cx_greatestCommonDivisor (l : Launch) (D : va_G) (K : (Nat → Nat) × (Nat → Nat)) (cy : Nat → ClassId) (ad : Nat → Nat) (S_0 : zSt) (a_1 : Int64) (a_2 : Int64) (ro : Int64) (So : zSt) (hf : fx_greatestCommonDivisor S_0 a_1 a_2 = some (ro, So)) : zML l yX11_greatestCommonDivisor (zws yX11_greatestCommonDivisor cX11_greatestCommonDivisor 11 (Option.some .long)) ({ frames := 0, cells := 0, slots := 0, locals := 0 }) D (zTy cy) K (zX cy ad) [.long a_1, .long a_2] S_0 ro So := by
  refine z_metL (own := RX11) (lv := [(0, .long a_1), (2, .long a_2)]) (by decide) rfl rfl (Nat.le_of_ble_eq_true rfl) rfl ?_
  intro p e s m below meth c A Q X hK hE hD hA hret hP hS ls hl
  obtain ⟨hx, hb, hml, hown, hts⟩ := id X
  refine lv_lload_n hx hb dX11_greatestCommonDivisor_0 rfl (lv_at hl 1 rfl) ?_
  refine lv_lstore (lv' := [(4, .long a_2), (0, .long a_1), (2, .long a_2)]) hx hb dX11_greatestCommonDivisor_1 hl (by decide) rfl (fun ls hl => ?_)
  refine lv_lload_n hx hb dX11_greatestCommonDivisor_3 rfl (lv_at hl 1 rfl) ?_
  refine lv_lstore (lv' := [(6, .long a_1), (4, .long a_2), (0, .long a_1), (2, .long a_2)]) hx hb dX11_greatestCommonDivisor_4 hl (by decide) rfl (fun ls hl => ?_)
  refine lv_iconst (v := 0) hx hb dX11_greatestCommonDivisor_6 (by decide) ?_
  refine lv_istore (lv' := [(8, .int (0 : Int32)), (6, .long a_1), (4, .long a_2), (0, .long a_1), (2, .long a_2)]) hx hb dX11_greatestCommonDivisor_7 hl (by decide) rfl (fun ls hl => ?_)
  obtain ⟨j_44, ej_44, hf⟩ := z_nm hf
  have J_44 : ∀ (x_1 : Int64) (S_2 : zSt) (H : Heap) (locs : List Loc) (ls : Array Slot), j_44 x_1 S_2 = some (ro, So) → va_P D vwCl (zX cy ad S_2) H → va_S A s.heap H locs → lv_has ls 11 [(4, .long x_1)] → W p l e ({ frames := 0, cells := 0, slots := 0, locals := 0 }) s m ([.long a_1, .long a_2] : List Value).toArray below meth c H locs 0 0 Q (F0 m 44 ls []) := by
    intro x_1 S_2 H locs ls hf hP hS hl
    have hf := z_e2 ej_44 hf
    refine lv_lload hx hb dX11_greatestCommonDivisor_44 (lv_at hl 0 rfl) ?_
    obtain ⟨h1, h2⟩ := z_s2 hf
    subst h1 h2
    exact hret _ _ _ _ hP hS dX11_greatestCommonDivisor_46
  have L_9 : ∀ (n_9 : Nat) (x_3 : Int64) (x_4 : Int64) (x_5 : Int32) (S_6 : zSt) (H : Heap) (locs : List Loc) (ls : Array Slot), fx_greatestCommonDivisor_L9 j_44 n_9 x_3 x_4 x_5 S_6 = some (ro, So) → va_P D vwCl (zX cy ad S_6) H → va_S A s.heap H locs → lv_has ls 11 [(4, .long x_3), (6, .long x_4), (8, .int x_5)] → W p l e ({ frames := 0, cells := 0, slots := 0, locals := 0 }) s m ([.long a_1, .long a_2] : List Value).toArray below meth c H locs 0 0 Q (F0 m 9 ls []) := by
    intro n_9
    induction n_9 with
    | zero =>
      intro x_3 x_4 x_5 S_6 H locs ls hf hP hS hl
      exact z_no hf
    | succ n_9 ih_9 =>
      intro x_3 x_4 x_5 S_6 H locs ls hf hP hS hl
      rw [fx_greatestCommonDivisor_L9] at hf
      refine lv_iload hx hb dX11_greatestCommonDivisor_9 (lv_at hl 2 rfl) ?_
      refine lv_bipush (v := 100) hx hb dX11_greatestCommonDivisor_11 (by decide) ?_
      refine lv_icmp_ge (tgt := 44) hx hb dX11_greatestCommonDivisor_13 (by decide) (fun c_11 => ?_) (fun c_11 => ?_)
      · have hf := z_it c_11 hf
        exact J_44 x_3 S_6 _ _ _ hf hP hS (lv_sub hl [0] rfl)
      · have hf := z_if c_11 hf
        refine lv_lload hx hb dX11_greatestCommonDivisor_16 (lv_at hl 1 rfl) ?_
        refine lv_lconst (v := 0) hx hb dX11_greatestCommonDivisor_18 (by decide) ?_
        refine W.lcmp hx hb dX11_greatestCommonDivisor_19 ?_
        refine lv_if_eq (tgt := 44) hx hb dX11_greatestCommonDivisor_20 (by decide) (fun c_10 => ?_) (fun c_10 => ?_)
        · have hf := z_it c_10 hf
          exact J_44 x_3 S_6 _ _ _ hf hP hS (lv_sub hl [0] rfl)
        · have hf := z_if c_10 hf
          refine lv_lload hx hb dX11_greatestCommonDivisor_23 (lv_at hl 0 rfl) ?_
          refine lv_lload hx hb dX11_greatestCommonDivisor_25 (lv_at hl 1 rfl) ?_
          obtain ⟨h_7, hf⟩ := z_nzL hf
          refine lv_lrem hx hb dX11_greatestCommonDivisor_27 h_7 ?_
          refine lv_topl (fun x_8 ex_8 => ?_)
          have hf := z_nv ex_8 hf
          refine lv_lstore (lv' := [(9, .long x_8), (4, .long x_3), (6, .long x_4), (8, .int x_5)]) hx hb dX11_greatestCommonDivisor_28 hl (by decide) rfl (fun ls hl => ?_)
          refine lv_lload hx hb dX11_greatestCommonDivisor_30 (lv_at hl 2 rfl) ?_
          refine lv_lstore (lv' := [(4, .long x_4), (9, .long x_8), (6, .long x_4), (8, .int x_5)]) hx hb dX11_greatestCommonDivisor_32 hl (by decide) rfl (fun ls hl => ?_)
          refine lv_lload hx hb dX11_greatestCommonDivisor_34 (lv_at hl 1 rfl) ?_
          refine lv_lstore (lv' := [(6, .long x_8), (4, .long x_4), (9, .long x_8), (8, .int x_5)]) hx hb dX11_greatestCommonDivisor_36 hl (by decide) rfl (fun ls hl => ?_)
          obtain ⟨x_9, ex_9, hf⟩ := z_nm hf
          refine lv_iinc (v := x_9) (lv' := [(8, .int x_9), (6, .long x_8), (4, .long x_4), (9, .long x_8)]) hx hb dX11_greatestCommonDivisor_38 hl (k := 3) rfl (by rw [ex_9]; rfl) (by decide) rfl (fun ls hl => ?_)
          refine lv_goto (tgt := 9) hx hb dX11_greatestCommonDivisor_41 (by decide) ?_
          exact ih_9 x_4 x_8 x_9 S_6 _ _ _ hf hP hS (lv_sub hl [2, 1, 0] rfl)
  exact L_9 zFU a_2 a_1 (0 : Int32) S_0 _ _ _ hf hP hS (lv_sub hl [2, 1, 0] rfl)
def fx_part (S_0 : zSt) (a_1 : Int32) (a_2 : Int32) (a_3 : Int32) : Option (Int32 × zSt) :=
  zbd (fx_Leavens_has S_0 a_1) fun r_1 S_2 =>
  znm (fun (S_4 : zSt) =>
  some ((-1 : Int32), S_4)) fun j_51 =>
  if r_1 = 0 then (
  j_51  S_2) else (
  zbd (fx_Leavens_has S_2 a_2) fun r_5 S_6 =>
  if r_5 = 0 then (
  j_51  S_6) else (
  zbd (fx_Leavens_isNew S_6 a_2) fun r_8 S_9 =>
  if r_8 = 0 then (
  j_51  S_9) else (
  znm (fun (S_11 : zSt) =>
  zbd (fx_Leavens_shareOf S_11 a_1 a_2) fun r_12 S_13 =>
  zbd (fx_greatestCommonDivisor S_13 r_12 (1073741824 : Int64)) fun r_15 S_16 =>
  if 0 < (lg_cmp r_15 (0 : Int64)) then (
  znm (fun (x_18 : Int64) (S_19 : zSt) =>
  zck (znzL r_15) <|
  some ((x_18 / r_15).toInt32, S_19)) fun j_101 =>
  if a_3 = 0 then (
  j_101 r_12 S_16) else (
  j_101 (1073741824 : Int64) S_16)) else (
  some ((-1 : Int32), S_16))) fun j_53 =>
  if a_3 = 0 then (
  j_53  S_9) else (
  if a_3 = (1 : Int32) then (
  j_53  S_9) else (
  j_51  S_9)))))
set_option maxHeartbeats 4000000 in
set_option maxRecDepth 100000 in
theorem cx_part (l : Launch) (D : va_G) (K : (Nat → Nat) × (Nat → Nat)) (cy : Nat → ClassId) (ad : Nat → Nat) (S_0 : zSt) (a_1 : Int32) (a_2 : Int32) (a_3 : Int32) (ro : Int32) (So : zSt) (hf : fx_part S_0 a_1 a_2 a_3 = some (ro, So)) : zMI l yX11_part (zws yX11_part cX11_part 10 (Option.some .int)) ({ frames := 2, cells := 0, slots := 0, locals := 44 }) D (zTy cy) K (zX cy ad) [.ref (ad 0), .int a_1, .int a_2, .int a_3] S_0 ro So := by
  refine z_metI (own := RX11) (lv := [(0, .ref (ad 0)), (1, .int a_1), (2, .int a_2), (3, .int a_3)]) (by decide) rfl rfl (Nat.le_of_ble_eq_true rfl) rfl ?_
  intro p e s m below meth c A Q X hK hE hD hA hret hP hS ls hl
  obtain ⟨hx, hb, hml, hown, hts⟩ := id X
  have k0 := (fun w h => List.mem_cons_of_mem _ (zFX11 w h) : ∀ w ∈ u_ws RX11 TX11 8, w ∈ zws yX11_part cX11_part 10 (Option.some .int))
  have k1 := hts _ (List.mem_cons_of_mem _ wt_2_175)
  have k2 := (fun w h => List.mem_cons_of_mem _ (zFX0 w h) : ∀ w ∈ u_ws RX0 TX0 6, w ∈ zws yX11_part cX11_part 10 (Option.some .int))
  have k3 := hts _ (List.mem_cons_of_mem _ wt_2_6)
  have k4 := hts _ (List.mem_cons_of_mem _ wt_4_219)
  refine lv_aload_n hx hb dX11_part_0 rfl (lv_at hl 0 rfl) ?_
  refine va_get (D := D) (ci := 11) (v := .ref (ad 3)) (C := RX11) (T := TX11) (N := 8) hx hb hts k0 hown hK hP 0 (zX_0 cy ad S_0) rfl 1 (by decide) k1 (fun _ h9 => h9) rfl dX11_part_1 ?_
  refine va_get (D := D) (ci := 0) (v := .ref (ad 22)) (C := RX0) (T := TX0) (N := 6) hx hb hts k2 hown hK hP 3 (zX_3 cy ad S_0) rfl 4 (by decide) k3 (fun _ h9 => h9) rfl dX11_part_4 ?_
  refine lv_iload_n hx hb dX11_part_7 rfl (lv_at hl 1 rfl) ?_
  obtain ⟨r_1, S_2, h_3, hf⟩ := z_bd hf
  refine z_cVI (As := [.int a_1]) (rest := []) X hK hE hD hA hP hS (cx_Leavens_has l D K cy ad S_0 _ _ _ h_3) (cwV 1 hts (z_gV wt_4_195 wt_4_196 wt_4_197 wt_1_7 wt_4_198) rfl rfl rfl ⟨rfl, yd_yX3_has⟩ ⟨Nat.le_of_ble_eq_true rfl, Nat.le_of_ble_eq_true rfl⟩) (va_recv hK hP (ci := 3) (q0 := 22) rfl (zX_22 cy ad S_0)) hl.1 rfl rfl (Nat.le_of_ble_eq_true rfl) dX11_part_8 (fun H locs hP hS => ?_)
  obtain ⟨j_51, ej_51, hf⟩ := z_nm hf
  have J_51 : ∀ (S_4 : zSt) (H : Heap) (locs : List Loc) (ls : Array Slot), j_51  S_4 = some (ro, So) → va_P D vwCl (zX cy ad S_4) H → va_S A s.heap H locs → lv_has ls 10 [] → W p l e ({ frames := 2, cells := 0, slots := 0, locals := 44 }) s m ([.ref (ad 0), .int a_1, .int a_2, .int a_3] : List Value).toArray below meth c H locs 0 0 Q (F0 m 51 ls []) := by
    intro  S_4 H locs ls hf hP hS hl
    have hf := z_e1 ej_51 hf
    refine lv_iconst (v := -1) hx hb dX11_part_51 (by decide) ?_
    obtain ⟨h1, h2⟩ := z_s2 hf
    subst h1 h2
    exact hret _ _ _ _ hP hS dX11_part_52
  refine lv_if_eq (tgt := 51) hx hb dX11_part_11 (by decide) (fun c_27 => ?_) (fun c_27 => ?_)
  · have hf := z_it c_27 hf
    exact J_51  S_2 _ _ _ hf hP hS (lv_sub hl [] rfl)
  · have hf := z_if c_27 hf
    refine lv_aload_n hx hb dX11_part_14 rfl (lv_at hl 0 rfl) ?_
    refine va_get (D := D) (ci := 11) (v := .ref (ad 3)) (C := RX11) (T := TX11) (N := 8) hx hb hts k0 hown hK hP 0 (zX_0 cy ad S_2) rfl 1 (by decide) k1 (fun _ h9 => h9) rfl dX11_part_15 ?_
    refine va_get (D := D) (ci := 0) (v := .ref (ad 22)) (C := RX0) (T := TX0) (N := 6) hx hb hts k2 hown hK hP 3 (zX_3 cy ad S_2) rfl 4 (by decide) k3 (fun _ h9 => h9) rfl dX11_part_18 ?_
    refine lv_iload_n hx hb dX11_part_21 rfl (lv_at hl 2 rfl) ?_
    obtain ⟨r_5, S_6, h_7, hf⟩ := z_bd hf
    refine z_cVI (As := [.int a_2]) (rest := []) X hK hE hD hA hP hS (cx_Leavens_has l D K cy ad S_2 _ _ _ h_7) (cwV 1 hts (z_gV wt_4_195 wt_4_196 wt_4_197 wt_1_7 wt_4_198) rfl rfl rfl ⟨rfl, yd_yX3_has⟩ ⟨Nat.le_of_ble_eq_true rfl, Nat.le_of_ble_eq_true rfl⟩) (va_recv hK hP (ci := 3) (q0 := 22) rfl (zX_22 cy ad S_2)) hl.1 rfl rfl (Nat.le_of_ble_eq_true rfl) dX11_part_22 (fun H locs hP hS => ?_)
    refine lv_if_eq (tgt := 51) hx hb dX11_part_25 (by decide) (fun c_26 => ?_) (fun c_26 => ?_)
    · have hf := z_it c_26 hf
      exact J_51  S_6 _ _ _ hf hP hS (lv_sub hl [] rfl)
    · have hf := z_if c_26 hf
      refine lv_aload_n hx hb dX11_part_28 rfl (lv_at hl 0 rfl) ?_
      refine va_get (D := D) (ci := 11) (v := .ref (ad 3)) (C := RX11) (T := TX11) (N := 8) hx hb hts k0 hown hK hP 0 (zX_0 cy ad S_6) rfl 1 (by decide) k1 (fun _ h9 => h9) rfl dX11_part_29 ?_
      refine va_get (D := D) (ci := 0) (v := .ref (ad 22)) (C := RX0) (T := TX0) (N := 6) hx hb hts k2 hown hK hP 3 (zX_3 cy ad S_6) rfl 4 (by decide) k3 (fun _ h9 => h9) rfl dX11_part_32 ?_
      refine lv_iload_n hx hb dX11_part_35 rfl (lv_at hl 2 rfl) ?_
      obtain ⟨r_8, S_9, h_10, hf⟩ := z_bd hf
      refine z_cVI (As := [.int a_2]) (rest := []) X hK hE hD hA hP hS (cx_Leavens_isNew l D K cy ad S_6 _ _ _ h_10) (cwV 1 hts (z_gV wt_4_208 wt_4_209 wt_4_210 wt_1_7 wt_4_211) rfl rfl rfl ⟨rfl, yd_yX3_isNew⟩ ⟨Nat.le_of_ble_eq_true rfl, Nat.le_of_ble_eq_true rfl⟩) (va_recv hK hP (ci := 3) (q0 := 22) rfl (zX_22 cy ad S_6)) hl.1 rfl rfl (Nat.le_of_ble_eq_true rfl) dX11_part_36 (fun H locs hP hS => ?_)
      refine lv_if_eq (tgt := 51) hx hb dX11_part_39 (by decide) (fun c_25 => ?_) (fun c_25 => ?_)
      · have hf := z_it c_25 hf
        exact J_51  S_9 _ _ _ hf hP hS (lv_sub hl [] rfl)
      · have hf := z_if c_25 hf
        refine lv_iload_n hx hb dX11_part_42 rfl (lv_at hl 3 rfl) ?_
        obtain ⟨j_53, ej_53, hf⟩ := z_nm hf
        have J_53 : ∀ (S_11 : zSt) (H : Heap) (locs : List Loc) (ls : Array Slot), j_53  S_11 = some (ro, So) → va_P D vwCl (zX cy ad S_11) H → va_S A s.heap H locs → lv_has ls 10 [(0, .ref (ad 0)), (1, .int a_1), (2, .int a_2), (3, .int a_3)] → W p l e ({ frames := 2, cells := 0, slots := 0, locals := 44 }) s m ([.ref (ad 0), .int a_1, .int a_2, .int a_3] : List Value).toArray below meth c H locs 0 0 Q (F0 m 53 ls []) := by
          intro  S_11 H locs ls hf hP hS hl
          have hf := z_e1 ej_53 hf
          refine lv_aload_n hx hb dX11_part_53 rfl (lv_at hl 0 rfl) ?_
          refine va_get (D := D) (ci := 11) (v := .ref (ad 3)) (C := RX11) (T := TX11) (N := 8) hx hb hts k0 hown hK hP 0 (zX_0 cy ad S_11) rfl 1 (by decide) k1 (fun _ h9 => h9) rfl dX11_part_54 ?_
          refine va_get (D := D) (ci := 0) (v := .ref (ad 22)) (C := RX0) (T := TX0) (N := 6) hx hb hts k2 hown hK hP 3 (zX_3 cy ad S_11) rfl 4 (by decide) k3 (fun _ h9 => h9) rfl dX11_part_57 ?_
          refine lv_iload_n hx hb dX11_part_60 rfl (lv_at hl 1 rfl) ?_
          refine lv_iload_n hx hb dX11_part_61 rfl (lv_at hl 2 rfl) ?_
          obtain ⟨r_12, S_13, h_14, hf⟩ := z_bd hf
          refine z_cVL (As := [.int a_1, .int a_2]) (rest := []) X hK hE hD hA hP hS (cx_Leavens_shareOf l D K cy ad S_11 _ _ _ _ h_14) (cwV 2 hts (z_gV wt_4_212 wt_4_213 wt_4_214 wt_1_7 wt_4_215) rfl rfl rfl ⟨rfl, yd_yX3_shareOf⟩ ⟨Nat.le_of_ble_eq_true rfl, Nat.le_of_ble_eq_true rfl⟩) (va_recv hK hP (ci := 3) (q0 := 22) rfl (zX_22 cy ad S_11)) hl.1 rfl rfl (Nat.le_of_ble_eq_true rfl) dX11_part_62 (fun H locs hP hS => ?_)
          refine lv_lstore (lv' := [(4, .long r_12), (0, .ref (ad 0)), (1, .int a_1), (2, .int a_2), (3, .int a_3)]) hx hb dX11_part_65 hl (by decide) rfl (fun ls hl => ?_)
          refine lv_ldc2 hx hb hown k4 dX11_part_67 ?_
          refine lv_lstore (lv' := [(6, .long (1073741824 : Int64)), (4, .long r_12), (0, .ref (ad 0)), (1, .int a_1), (2, .int a_2), (3, .int a_3)]) hx hb dX11_part_70 hl (by decide) rfl (fun ls hl => ?_)
          refine lv_lload hx hb dX11_part_72 (lv_at hl 1 rfl) ?_
          refine lv_lload hx hb dX11_part_74 (lv_at hl 0 rfl) ?_
          obtain ⟨r_15, S_16, h_17, hf⟩ := z_bd hf
          refine z_cSL (As := [.long r_12, .long (1073741824 : Int64)]) (rest := []) X hK hE hD hA hP hS (cx_greatestCommonDivisor l D K cy ad S_13 _ _ _ _ h_17) (va_cwS 2 hts (z_gS wt_4_220 wt_4_221 wt_1_1 wt_4_222) rfl rfl rfl yd_yX11_greatestCommonDivisor ⟨Nat.le_of_ble_eq_true rfl, Nat.le_of_ble_eq_true rfl⟩) hl.1 rfl rfl (Nat.le_of_ble_eq_true rfl) dX11_part_76 (fun H locs hP hS => ?_)
          refine lv_lstore (lv' := [(8, .long r_15), (6, .long (1073741824 : Int64)), (4, .long r_12), (0, .ref (ad 0)), (1, .int a_1), (2, .int a_2), (3, .int a_3)]) hx hb dX11_part_79 hl (by decide) rfl (fun ls hl => ?_)
          refine lv_lload hx hb dX11_part_81 (lv_at hl 0 rfl) ?_
          refine lv_lconst (v := 0) hx hb dX11_part_83 (by decide) ?_
          refine W.lcmp hx hb dX11_part_84 ?_
          refine lv_if_gt (tgt := 90) hx hb dX11_part_85 (by decide) (fun c_22 => ?_) (fun c_22 => ?_)
          · have hf := z_it c_22 hf
            refine lv_iload_n hx hb dX11_part_90 rfl (lv_at hl 6 rfl) ?_
            obtain ⟨j_101, ej_101, hf⟩ := z_nm hf
            have J_101 : ∀ (x_18 : Int64) (S_19 : zSt) (H : Heap) (locs : List Loc) (ls : Array Slot), j_101 x_18 S_19 = some (ro, So) → va_P D vwCl (zX cy ad S_19) H → va_S A s.heap H locs → lv_has ls 10 [(8, .long r_15)] → W p l e ({ frames := 2, cells := 0, slots := 0, locals := 44 }) s m ([.ref (ad 0), .int a_1, .int a_2, .int a_3] : List Value).toArray below meth c H locs 0 0 Q (F0 m 101 ls [.long x_18]) := by
              intro x_18 S_19 H locs ls hf hP hS hl
              have hf := z_e2 ej_101 hf
              refine lv_lload hx hb dX11_part_101 (lv_at hl 0 rfl) ?_
              obtain ⟨h_20, hf⟩ := z_nzL hf
              refine lv_ldiv hx hb dX11_part_103 h_20 ?_
              refine lv_l2i hx hb dX11_part_104 rfl ?_
              obtain ⟨h1, h2⟩ := z_s2 hf
              subst h1 h2
              exact hret _ _ _ _ hP hS dX11_part_105
            refine lv_if_ne (tgt := 99) hx hb dX11_part_91 (by decide) (fun c_21 => ?_) (fun c_21 => ?_)
            · have hf := z_if c_21 hf
              refine lv_lload hx hb dX11_part_99 (lv_at hl 1 rfl) ?_
              exact J_101 (1073741824 : Int64) S_16 _ _ _ hf hP hS (lv_sub hl [0] rfl)
            · have hf := z_it c_21 hf
              refine lv_lload hx hb dX11_part_94 (lv_at hl 2 rfl) ?_
              refine lv_goto (tgt := 101) hx hb dX11_part_96 (by decide) ?_
              exact J_101 r_12 S_16 _ _ _ hf hP hS (lv_sub hl [0] rfl)
          · have hf := z_if c_22 hf
            refine lv_iconst (v := -1) hx hb dX11_part_88 (by decide) ?_
            obtain ⟨h1, h2⟩ := z_s2 hf
            subst h1 h2
            exact hret _ _ _ _ hP hS dX11_part_89
        refine lv_if_eq (tgt := 53) hx hb dX11_part_43 (by decide) (fun c_24 => ?_) (fun c_24 => ?_)
        · have hf := z_it c_24 hf
          exact J_53  S_9 _ _ _ hf hP hS (lv_sub hl [0, 1, 2, 3] rfl)
        · have hf := z_if c_24 hf
          refine lv_iload_n hx hb dX11_part_46 rfl (lv_at hl 3 rfl) ?_
          refine lv_iconst (v := 1) hx hb dX11_part_47 (by decide) ?_
          refine lv_icmp_eq (tgt := 53) hx hb dX11_part_48 (by decide) (fun c_23 => ?_) (fun c_23 => ?_)
          · have hf := z_it c_23 hf
            exact J_53  S_9 _ _ _ hf hP hS (lv_sub hl [0, 1, 2, 3] rfl)
          · have hf := z_if c_23 hf
            exact J_51  S_9 _ _ _ hf hP hS (lv_sub hl [] rfl)
