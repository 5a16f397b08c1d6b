def fj0_indexOf2 (ki : Nat) (S_0 : zSt) (a_1 : Int32) (a_2 : Int32) : Option (Int32 × zSt) :=
  zbd (fj0_isLatin1 ki S_0) fun r_1 S_2 =>
  znm (fun (x_4 : Int32) (S_5 : zSt) =>
  some (x_4, S_5)) fun j_36 =>
  if r_1 = 0 then (
  none) else (
  zbd (fj0_length ki S_2) fun r_6 S_7 =>
  zbd (fj1_indexOf ki S_7 a_1 a_2 r_6) fun r_9 S_10 =>
  j_36 r_9 S_10)
set_option maxHeartbeats 4000000 in
set_option maxRecDepth 100000 in
theorem cj0_indexOf2 (l : Launch) (D : va_G) (K : (Nat → Nat) × (Nat → Nat)) (tys : List (ClassId × FieldType)) (N : Nat) (ad : Nat → Nat) (C : Nat → (Nat → Int32) → (Nat → Int64) → va_E) (ki : Nat) (hki : ki < 17) (S_0 : zSt) (a_1 : Int32) (a_2 : Int32) (ro : Int32) (So : zSt) (hf : fj0_indexOf2 ki S_0 a_1 a_2 = some (ro, So)) : zMI l yJ0_indexOf_7cf53 (zws yJ0_indexOf_7cf53 cJ0_indexOf_7cf53 3 (Option.some .int)) ({ frames := 2, cells := 0, slots := 0, locals := 223 }) D tys K (zW N ad C) [.ref (K.1 ki), .int a_1, .int a_2] S_0 ro So := by
  refine z_metI (own := RJ0) (lv := [(0, .ref (K.1 ki)), (1, .int a_1), (2, .int a_2)]) (by decide) rfl rfl (Nat.le_of_ble_eq_true rfl) rfl ?_
  intro p e s m below meth c A Q X hK hE hD hA hret hP hS ls hl
  obtain ⟨hx, hb, hml, hown, hts⟩ := id X
  have k0 := hts _ (List.mem_cons_of_mem _ wt_7_46)
  refine lv_aload_n hx hb dJ0_indexOf_7cf53_0 rfl (lv_at hl 0 rfl) ?_
  obtain ⟨r_1, S_2, h_3, hf⟩ := z_bd hf
  refine z_cVI (As := []) (rest := []) X hK hE hD hA hP hS (cj0_isLatin1 l D K _ _ _ _ ki hki S_0 _ _ h_3) (cwV 0 hts (z_gV wt_3_54 wt_3_55 wt_3_56 wt_1_14 wt_3_57) rfl rfl rfl ⟨rfl, yd_yJ0_isLatin1_aae02⟩ ⟨Nat.le_of_ble_eq_true rfl, Nat.le_of_ble_eq_true rfl⟩) (vk_recv hE.1 hki hS) hl.1 rfl rfl (Nat.le_of_ble_eq_true rfl) dJ0_indexOf_7cf53_1 (fun H locs hP hS => ?_)
  obtain ⟨j_36, ej_36, hf⟩ := z_nm hf
  have J_36 : ∀ (x_4 : Int32) (S_5 : zSt) (H : Heap) (locs : List Loc) (ls : Array Slot), j_36 x_4 S_5 = some (ro, So) → va_P D vwCl (zW N ad C S_5) H → va_S A s.heap H locs → lv_has ls 3 [] → W p l e ({ frames := 2, cells := 0, slots := 0, locals := 223 }) s m ([.ref (K.1 ki), .int a_1, .int a_2] : List Value).toArray below meth c H locs 0 0 Q (F0 m 36 ls [.int x_4]) := by
    intro x_4 S_5 H locs ls hf hP hS hl
    have hf := z_e2 ej_36 hf
    obtain ⟨h1, h2⟩ := z_s2 hf
    subst h1 h2
    exact hret _ _ _ _ hP hS dJ0_indexOf_7cf53_36
  refine lv_if_eq (tgt := 23) hx hb dJ0_indexOf_7cf53_4 (by decide) (fun c_12 => ?_) (fun c_12 => ?_)
  · have hf := z_it c_12 hf
    exact z_no hf
  · have hf := z_if c_12 hf
    refine lv_aload_n hx hb dJ0_indexOf_7cf53_7 rfl (lv_at hl 0 rfl) ?_
    refine vk_getf hx hb (hE.1.1 ki hki).2.2.1 hS hown k0 (fun _ h => h) dJ0_indexOf_7cf53_8 ?_
    refine lv_iload_n hx hb dJ0_indexOf_7cf53_11 rfl (lv_at hl 1 rfl) ?_
    refine lv_iload_n hx hb dJ0_indexOf_7cf53_12 rfl (lv_at hl 2 rfl) ?_
    refine lv_aload_n hx hb dJ0_indexOf_7cf53_13 rfl (lv_at hl 0 rfl) ?_
    obtain ⟨r_6, S_7, h_8, hf⟩ := z_bd hf
    refine z_cVI (As := []) (rest := [.int a_2, .int a_1, .ref (K.2 ki)]) X hK hE hD hA hP hS (cj0_length l D K _ _ _ _ ki hki S_2 _ _ h_8) (cwV 0 hts (z_gV wt_3_107 wt_3_108 wt_3_109 wt_1_14 wt_3_110) rfl rfl rfl ⟨rfl, yd_yJ0_length_8abf5⟩ ⟨Nat.le_of_ble_eq_true rfl, Nat.le_of_ble_eq_true rfl⟩) (vk_recv hE.1 hki hS) hl.1 rfl rfl (Nat.le_of_ble_eq_true rfl) dJ0_indexOf_7cf53_14 (fun H locs hP hS => ?_)
    obtain ⟨r_9, S_10, h_11, hf⟩ := z_bd hf
    refine z_cSI (As := [.ref (K.2 ki), .int a_1, .int a_2, .int r_6]) (rest := []) X hK hE hD hA hP hS (cj1_indexOf l D K _ _ _ _ ki hki S_7 _ _ _ _ _ h_11) (va_cwS 4 hts (z_gS wt_3_115 wt_3_116 wt_1_15 wt_3_117) rfl rfl rfl yd_yJ1_indexOf_4cfef ⟨Nat.le_of_ble_eq_true rfl, Nat.le_of_ble_eq_true rfl⟩) hl.1 rfl rfl (Nat.le_of_ble_eq_true rfl) dJ0_indexOf_7cf53_17 (fun H locs hP hS => ?_)
    refine lv_goto (tgt := 36) hx hb dJ0_indexOf_7cf53_20 (by decide) ?_
    exact J_36 r_9 S_10 _ _ _ hf hP hS (lv_sub hl [] rfl)
def fj0_indexOf (ki : Nat) (S_0 : zSt) (a_1 : Int32) : Option (Int32 × zSt) :=
  zbd (fj0_indexOf2 ki S_0 a_1 (0 : Int32)) fun r_1 S_2 =>
  some (r_1, S_2)
set_option maxHeartbeats 4000000 in
set_option maxRecDepth 100000 in
theorem cj0_indexOf (l : Launch) (D : va_G) (K : (Nat → Nat) × (Nat → Nat)) (tys : List (ClassId × FieldType)) (N : Nat) (ad : Nat → Nat) (C : Nat → (Nat → Int32) → (Nat → Int64) → va_E) (ki : Nat) (hki : ki < 17) (S_0 : zSt) (a_1 : Int32) (ro : Int32) (So : zSt) (hf : fj0_indexOf ki S_0 a_1 = some (ro, So)) : zMI l yJ0_indexOf_0f7a4 (zws yJ0_indexOf_0f7a4 cJ0_indexOf_0f7a4 2 (Option.some .int)) ({ frames := 3, cells := 0, slots := 0, locals := 245 }) D tys K (zW N ad C) [.ref (K.1 ki), .int a_1] S_0 ro So := by
  refine z_metI (own := RJ0) (lv := [(0, .ref (K.1 ki)), (1, .int a_1)]) (by decide) rfl rfl (Nat.le_of_ble_eq_true rfl) rfl ?_
  intro p e s m below meth c A Q X hK hE hD hA hret hP hS ls hl
  obtain ⟨hx, hb, hml, hown, hts⟩ := id X
  refine lv_aload_n hx hb dJ0_indexOf_0f7a4_0 rfl (lv_at hl 0 rfl) ?_
  refine lv_iload_n hx hb dJ0_indexOf_0f7a4_1 rfl (lv_at hl 1 rfl) ?_
  refine lv_iconst (v := 0) hx hb dJ0_indexOf_0f7a4_2 (by decide) ?_
  obtain ⟨r_1, S_2, h_3, hf⟩ := z_bd hf
  refine z_cVI (As := [.int a_1, .int (0 : Int32)]) (rest := []) X hK hE hD hA hP hS (cj0_indexOf2 l D K _ _ _ _ ki hki S_0 _ _ _ _ h_3) (cwV 2 hts (z_gV wt_3_103 wt_3_104 wt_3_105 wt_1_14 wt_3_106) rfl rfl rfl ⟨rfl, yd_yJ0_indexOf_7cf53⟩ ⟨Nat.le_of_ble_eq_true rfl, Nat.le_of_ble_eq_true rfl⟩) (vk_recv hE.1 hki hS) hl.1 rfl rfl (Nat.le_of_ble_eq_true rfl) dJ0_indexOf_0f7a4_3 (fun H locs hP hS => ?_)
  obtain ⟨h1, h2⟩ := z_s2 hf
  subst h1 h2
  exact hret _ _ _ _ hP hS dJ0_indexOf_0f7a4_6
def fx_Reader_isDigit (S_0 : zSt) (a_1 : Int32) : Option (Int32 × zSt) :=
  zck (zix a_1 400) <|
  zbd (fx_isWithin S_0 (S_0.1 2 (a_1.toNatClampNeg)) (48 : Int32) (57 : Int32)) fun r_2 S_3 =>
  zck (zbo r_2) <|
  some (r_2, S_3)
set_option maxHeartbeats 4000000 in
set_option maxRecDepth 100000 in
theorem cx_Reader_isDigit (l : Launch) (D : va_G) (K : (Nat → Nat) × (Nat → Nat)) (cy : Nat → ClassId) (ad : Nat → Nat) (S_0 : zSt) (a_1 : Int32) (ro : Int32) (So : zSt) (hf : fx_Reader_isDigit S_0 a_1 = some (ro, So)) : zMI l yX7_isDigit (zws yX7_isDigit cX7_isDigit 2 (Option.some .boolean)) ({ frames := 1, cells := 0, slots := 0, locals := 22 }) D (zTy cy) K (zX cy ad) [.ref (ad 125), .int a_1] S_0 ro So := by
  refine z_metZ (own := RX7) (lv := [(0, .ref (ad 125)), (1, .int a_1)]) (by decide) rfl rfl (Nat.le_of_ble_eq_true rfl) rfl ?_
  intro p e s m below meth c A Q X hK hE hD hA hret hP hS ls hl
  obtain ⟨hx, hb, hml, hown, hts⟩ := id X
  have k0 := (fun w h => List.mem_cons_of_mem _ (zFX7 w h) : ∀ w ∈ u_ws RX7 TX7 16, w ∈ zws yX7_isDigit cX7_isDigit 2 (Option.some .boolean))
  have k1 := hts _ (List.mem_cons_of_mem _ wt_2_48)
  have k2 := (fun w h => List.mem_cons_of_mem _ (zFX9 w h) : ∀ w ∈ u_ws RX9 TX9 2, w ∈ zws yX7_isDigit cX7_isDigit 2 (Option.some .boolean))
  have k3 := hts _ (List.mem_cons_of_mem _ wt_1_39)
  have k4 := hts _ (List.mem_cons_of_mem _ wt_1_1)
  have k5 := hts _ (List.mem_cons_of_mem _ wt_2_220)
  refine lv_aload_n hx hb dX7_isDigit_0 rfl (lv_at hl 0 rfl) ?_
  refine va_get (D := D) (ci := 7) (v := .ref (ad 1)) (C := RX7) (T := TX7) (N := 16) hx hb hts k0 hown hK hP 125 (zX_125 cy ad S_0) rfl 0 (by decide) k1 (fun _ h9 => h9) rfl dX7_isDigit_1 ?_
  refine va_get (D := D) (ci := 9) (v := .ref (ad 2)) (C := RX9) (T := TX9) (N := 2) hx hb hts k2 hown hK hP 1 (zX_1 cy ad S_0) rfl 0 (by decide) k3 (fun _ h9 => h9) rfl dX7_isDigit_4 ?_
  refine lv_iload_n hx hb dX7_isDigit_7 rfl (lv_at hl 1 rfl) ?_
  obtain ⟨h_1, hf⟩ := z_ix hf
  refine z_iald hx hb hK hP 2 0 (zX_2 cy ad S_0) rfl h_1 (k := (a_1.toNatClampNeg)) rfl dX7_isDigit_8 ?_
  refine lv_bipush (v := 48) hx hb dX7_isDigit_9 (by decide) ?_
  refine lv_bipush (v := 57) hx hb dX7_isDigit_11 (by decide) ?_
  obtain ⟨r_2, S_3, h_4, hf⟩ := z_bd hf
  refine z_cSNI (As := [.int (S_0.1 2 (a_1.toNatClampNeg)), .int (48 : Int32), .int (57 : Int32)]) (rest := []) X hK hE hD hA hP hS (cx_isWithin l D K cy ad S_0 _ _ _ _ _ h_4) ⟨va_cnB 3 hts (z_gT wt_2_221) rfl rfl rfl (hE.2.2.2.2.1 _ (List.mem_of_getElem? (i := 8) rfl)) k4 yd_yX11_isWithin ⟨Nat.le_of_ble_eq_true rfl, Nat.le_of_ble_eq_true rfl⟩, k5, trivial⟩ hl.1 rfl rfl (Nat.le_of_ble_eq_true rfl) dX7_isDigit_13 (fun H locs hP hS => ?_)
  obtain ⟨h_5, hf⟩ := z_bo hf
  obtain ⟨h1, h2⟩ := z_s2 hf
  subst h1 h2
  exact hret _ _ _ _ h_5 hP hS dX7_isDigit_16
def fx_Reader_isLetter (S_0 : zSt) (a_1 : Int32) : Option (Int32 × zSt) :=
  zck (zix a_1 400) <|
  zbd (fx_isWithin S_0 (S_0.1 2 (a_1.toNatClampNeg)) (97 : Int32) (122 : Int32)) fun r_2 S_3 =>
  znm (fun (x_5 : Int32) (S_6 : zSt) =>
  zck (zbo x_5) <|
  some (x_5, S_6)) fun j_43 =>
  znm (fun (S_8 : zSt) =>
  j_43 (1 : Int32) S_8) fun j_38 =>
  if r_2 = 0 then (
  zck (zix a_1 400) <|
  zbd (fx_isWithin S_3 (S_3.1 2 (a_1.toNatClampNeg)) (65 : Int32) (90 : Int32)) fun r_10 S_11 =>
  if r_10 = 0 then (
  j_43 (0 : Int32) S_11) else (
  j_38  S_11)) else (
  j_38  S_3)
set_option maxHeartbeats 4000000 in
set_option maxRecDepth 100000 in
theorem cx_Reader_isLetter (l : Launch) (D : va_G) (K : (Nat → Nat) × (Nat → Nat)) (cy : Nat → ClassId) (ad : Nat → Nat) (S_0 : zSt) (a_1 : Int32) (ro : Int32) (So : zSt) (hf : fx_Reader_isLetter S_0 a_1 = some (ro, So)) : zMI l yX7_isLetter (zws yX7_isLetter cX7_isLetter 2 (Option.some .boolean)) ({ frames := 1, cells := 0, slots := 0, locals := 22 }) D (zTy cy) K (zX cy ad) [.ref (ad 125), .int a_1] S_0 ro So := by
  refine z_metZ (own := RX7) (lv := [(0, .ref (ad 125)), (1, .int a_1)]) (by decide) rfl rfl (Nat.le_of_ble_eq_true rfl) rfl ?_
  intro p e s m below meth c A Q X hK hE hD hA hret hP hS ls hl
  obtain ⟨hx, hb, hml, hown, hts⟩ := id X
  have k0 := (fun w h => List.mem_cons_of_mem _ (zFX7 w h) : ∀ w ∈ u_ws RX7 TX7 16, w ∈ zws yX7_isLetter cX7_isLetter 2 (Option.some .boolean))
  have k1 := hts _ (List.mem_cons_of_mem _ wt_2_48)
  have k2 := (fun w h => List.mem_cons_of_mem _ (zFX9 w h) : ∀ w ∈ u_ws RX9 TX9 2, w ∈ zws yX7_isLetter cX7_isLetter 2 (Option.some .boolean))
  have k3 := hts _ (List.mem_cons_of_mem _ wt_1_39)
  have k4 := hts _ (List.mem_cons_of_mem _ wt_1_1)
  have k5 := hts _ (List.mem_cons_of_mem _ wt_2_220)
  refine lv_aload_n hx hb dX7_isLetter_0 rfl (lv_at hl 0 rfl) ?_
  refine va_get (D := D) (ci := 7) (v := .ref (ad 1)) (C := RX7) (T := TX7) (N := 16) hx hb hts k0 hown hK hP 125 (zX_125 cy ad S_0) rfl 0 (by decide) k1 (fun _ h9 => h9) rfl dX7_isLetter_1 ?_
  refine va_get (D := D) (ci := 9) (v := .ref (ad 2)) (C := RX9) (T := TX9) (N := 2) hx hb hts k2 hown hK hP 1 (zX_1 cy ad S_0) rfl 0 (by decide) k3 (fun _ h9 => h9) rfl dX7_isLetter_4 ?_
  refine lv_iload_n hx hb dX7_isLetter_7 rfl (lv_at hl 1 rfl) ?_
  obtain ⟨h_1, hf⟩ := z_ix hf
  refine z_iald hx hb hK hP 2 0 (zX_2 cy ad S_0) rfl h_1 (k := (a_1.toNatClampNeg)) rfl dX7_isLetter_8 ?_
  refine lv_bipush (v := 97) hx hb dX7_isLetter_9 (by decide) ?_
  refine lv_bipush (v := 122) hx hb dX7_isLetter_11 (by decide) ?_
  obtain ⟨r_2, S_3, h_4, hf⟩ := z_bd hf
  refine z_cSNI (As := [.int (S_0.1 2 (a_1.toNatClampNeg)), .int (97 : Int32), .int (122 : Int32)]) (rest := []) X hK hE hD hA hP hS (cx_isWithin l D K cy ad S_0 _ _ _ _ _ h_4) ⟨va_cnB 3 hts (z_gT wt_2_221) rfl rfl rfl (hE.2.2.2.2.1 _ (List.mem_of_getElem? (i := 8) rfl)) k4 yd_yX11_isWithin ⟨Nat.le_of_ble_eq_true rfl, Nat.le_of_ble_eq_true rfl⟩, k5, trivial⟩ hl.1 rfl rfl (Nat.le_of_ble_eq_true rfl) dX7_isLetter_13 (fun H locs hP hS => ?_)
  obtain ⟨j_43, ej_43, hf⟩ := z_nm hf
  have J_43 : ∀ (x_5 : Int32) (S_6 : zSt) (H : Heap) (locs : List Loc) (ls : Array Slot), j_43 x_5 S_6 = some (ro, So) → va_P D vwCl (zX cy ad S_6) H → va_S A s.heap H locs → lv_has ls 2 [] → W p l e ({ frames := 1, cells := 0, slots := 0, locals := 22 }) s m ([.ref (ad 125), .int a_1] : List Value).toArray below meth c H locs 0 0 Q (F0 m 43 ls [.int x_5]) := by
    intro x_5 S_6 H locs ls hf hP hS hl
    have hf := z_e2 ej_43 hf
    obtain ⟨h_7, hf⟩ := z_bo hf
    obtain ⟨h1, h2⟩ := z_s2 hf
    subst h1 h2
    exact hret _ _ _ _ h_7 hP hS dX7_isLetter_43
  obtain ⟨j_38, ej_38, hf⟩ := z_nm hf
  have J_38 : ∀ (S_8 : zSt) (H : Heap) (locs : List Loc) (ls : Array Slot), j_38  S_8 = some (ro, So) → va_P D vwCl (zX cy ad S_8) H → va_S A s.heap H locs → lv_has ls 2 [] → W p l e ({ frames := 1, cells := 0, slots := 0, locals := 22 }) s m ([.ref (ad 125), .int a_1] : List Value).toArray below meth c H locs 0 0 Q (F0 m 38 ls []) := by
    intro  S_8 H locs ls hf hP hS hl
    have hf := z_e1 ej_38 hf
    refine lv_iconst (v := 1) hx hb dX7_isLetter_38 (by decide) ?_
    refine lv_goto (tgt := 43) hx hb dX7_isLetter_39 (by decide) ?_
    exact J_43 (1 : Int32) S_8 _ _ _ hf hP hS (lv_sub hl [] rfl)
  refine lv_if_ne (tgt := 38) hx hb dX7_isLetter_16 (by decide) (fun c_14 => ?_) (fun c_14 => ?_)
  · have hf := z_if c_14 hf
    exact J_38  S_3 _ _ _ hf hP hS (lv_sub hl [] rfl)
  · have hf := z_it c_14 hf
    refine lv_aload_n hx hb dX7_isLetter_19 rfl (lv_at hl 0 rfl) ?_
    refine va_get (D := D) (ci := 7) (v := .ref (ad 1)) (C := RX7) (T := TX7) (N := 16) hx hb hts k0 hown hK hP 125 (zX_125 cy ad S_3) rfl 0 (by decide) k1 (fun _ h9 => h9) rfl dX7_isLetter_20 ?_
    refine va_get (D := D) (ci := 9) (v := .ref (ad 2)) (C := RX9) (T := TX9) (N := 2) hx hb hts k2 hown hK hP 1 (zX_1 cy ad S_3) rfl 0 (by decide) k3 (fun _ h9 => h9) rfl dX7_isLetter_23 ?_
    refine lv_iload_n hx hb dX7_isLetter_26 rfl (lv_at hl 1 rfl) ?_
    obtain ⟨h_9, hf⟩ := z_ix hf
    refine z_iald hx hb hK hP 2 0 (zX_2 cy ad S_3) rfl h_9 (k := (a_1.toNatClampNeg)) rfl dX7_isLetter_27 ?_
    refine lv_bipush (v := 65) hx hb dX7_isLetter_28 (by decide) ?_
    refine lv_bipush (v := 90) hx hb dX7_isLetter_30 (by decide) ?_
    obtain ⟨r_10, S_11, h_12, hf⟩ := z_bd hf
    refine z_cSNI (As := [.int (S_3.1 2 (a_1.toNatClampNeg)), .int (65 : Int32), .int (90 : Int32)]) (rest := []) X hK hE hD hA hP hS (cx_isWithin l D K cy ad S_3 _ _ _ _ _ h_12) ⟨va_cnB 3 hts (z_gT wt_2_221) rfl rfl rfl (hE.2.2.2.2.1 _ (List.mem_of_getElem? (i := 8) rfl)) k4 yd_yX11_isWithin ⟨Nat.le_of_ble_eq_true rfl, Nat.le_of_ble_eq_true rfl⟩, k5, trivial⟩ hl.1 rfl rfl (Nat.le_of_ble_eq_true rfl) dX7_isLetter_32 (fun H locs hP hS => ?_)
    refine lv_if_eq (tgt := 42) hx hb dX7_isLetter_35 (by decide) (fun c_13 => ?_) (fun c_13 => ?_)
    · have hf := z_it c_13 hf
      refine lv_iconst (v := 0) hx hb dX7_isLetter_42 (by decide) ?_
      exact J_43 (0 : Int32) S_11 _ _ _ hf hP hS (lv_sub hl [] rfl)
    · have hf := z_if c_13 hf
      exact J_38  S_11 _ _ _ hf hP hS (lv_sub hl [] rfl)
def fj3_checkIndex (S_0 : zSt) (a_1 : Int32) (a_2 : Int32) : Option (Int32 × zSt) :=
  znm (fun (S_1 : zSt) =>
  none) fun j_9 =>
  if a_1 < 0 then (
  j_9  S_0) else (
  if a_1 < a_2 then (
  some (a_1, S_0)) else (
  j_9  S_0))
set_option maxHeartbeats 4000000 in
set_option maxRecDepth 100000 in
theorem cj3_checkIndex_n (l : Launch) (D : va_G) (K : (Nat → Nat) × (Nat → Nat)) (tys : List (ClassId × FieldType)) (N : Nat) (ad : Nat → Nat) (C : Nat → (Nat → Int32) → (Nat → Int64) → va_E) (S_0 : zSt) (a_1 : Int32) (a_2 : Int32) (ro : Int32) (So : zSt) (hf : fj3_checkIndex S_0 a_1 a_2 = some (ro, So)) : zMI l yJ3_checkIndex_8e157 (zws yJ3_checkIndex_8e157 cJ3_checkIndex_8e157 3 (Option.some .int)) ({ frames := 0, cells := 0, slots := 0, locals := 0 }) D tys K (zW N ad C) [.int a_1, .int a_2, .null] S_0 ro So := by
  refine z_metI (own := RJ3) (lv := [(0, .int a_1), (1, .int a_2), (2, .null)]) (by decide) rfl rfl (Nat.le_of_ble_eq_true rfl) rfl ?_
  intro p e s m below meth c A Q X hK hE hD hA hret hP hS ls hl
  obtain ⟨hx, hb, hml, hown, hts⟩ := id X
  refine lv_iload_n hx hb dJ3_checkIndex_8e157_0 rfl (lv_at hl 0 rfl) ?_
  obtain ⟨j_9, ej_9, hf⟩ := z_nm hf
  have J_9 : ∀ (S_1 : zSt) (H : Heap) (locs : List Loc) (ls : Array Slot), j_9  S_1 = some (ro, So) → va_P D vwCl (zW N ad C S_1) H → va_S A s.heap H locs → lv_has ls 3 [(0, .int a_1), (1, .int a_2), (2, .null)] → W p l e ({ frames := 0, cells := 0, slots := 0, locals := 0 }) s m ([.int a_1, .int a_2, .null] : List Value).toArray below meth c H locs 0 0 Q (F0 m 9 ls []) := by
    intro  S_1 H locs ls hf hP hS hl
    have hf := z_e1 ej_9 hf
    exact z_no hf
  refine lv_if_lt (tgt := 9) hx hb dJ3_checkIndex_8e157_1 (by decide) (fun c_3 => ?_) (fun c_3 => ?_)
  · have hf := z_it c_3 hf
    exact J_9  S_0 _ _ _ hf hP hS (lv_sub hl [0, 1, 2] rfl)
  · have hf := z_if c_3 hf
    refine lv_iload_n hx hb dJ3_checkIndex_8e157_4 rfl (lv_at hl 0 rfl) ?_
    refine lv_iload_n hx hb dJ3_checkIndex_8e157_5 rfl (lv_at hl 1 rfl) ?_
    refine lv_icmp_lt (tgt := 16) hx hb dJ3_checkIndex_8e157_6 (by decide) (fun c_2 => ?_) (fun c_2 => ?_)
    · have hf := z_it c_2 hf
      refine lv_iload_n hx hb dJ3_checkIndex_8e157_16 rfl (lv_at hl 0 rfl) ?_
      obtain ⟨h1, h2⟩ := z_s2 hf
      subst h1 h2
      exact hret _ _ _ _ hP hS dJ3_checkIndex_8e157_17
    · have hf := z_if c_2 hf
      exact J_9  S_0 _ _ _ hf hP hS (lv_sub hl [0, 1, 2] rfl)
set_option maxHeartbeats 4000000 in
set_option maxRecDepth 100000 in
theorem cj3_checkIndex_r (l : Launch) (D : va_G) (K : (Nat → Nat) × (Nat → Nat)) (tys : List (ClassId × FieldType)) (N : Nat) (ad : Nat → Nat) (C : Nat → (Nat → Int32) → (Nat → Int64) → va_E) (t_u : Nat) (S_0 : zSt) (a_1 : Int32) (a_2 : Int32) (ro : Int32) (So : zSt) (hf : fj3_checkIndex S_0 a_1 a_2 = some (ro, So)) : zMI l yJ3_checkIndex_8e157 (zws yJ3_checkIndex_8e157 cJ3_checkIndex_8e157 3 (Option.some .int)) ({ frames := 0, cells := 0, slots := 0, locals := 0 }) D tys K (zW N ad C) [.int a_1, .int a_2, .ref t_u] S_0 ro So := by
  refine z_metI (own := RJ3) (lv := [(0, .int a_1), (1, .int a_2), (2, .ref t_u)]) (by decide) rfl rfl (Nat.le_of_ble_eq_true rfl) rfl ?_
  intro p e s m below meth c A Q X hK hE hD hA hret hP hS ls hl
  obtain ⟨hx, hb, hml, hown, hts⟩ := id X
  refine lv_iload_n hx hb dJ3_checkIndex_8e157_0 rfl (lv_at hl 0 rfl) ?_
  obtain ⟨j_9, ej_9, hf⟩ := z_nm hf
  have J_9 : ∀ (S_1 : zSt) (H : Heap) (locs : List Loc) (ls : Array Slot), j_9  S_1 = some (ro, So) → va_P D vwCl (zW N ad C S_1) H → va_S A s.heap H locs → lv_has ls 3 [(0, .int a_1), (1, .int a_2), (2, .ref t_u)] → W p l e ({ frames := 0, cells := 0, slots := 0, locals := 0 }) s m ([.int a_1, .int a_2, .ref t_u] : List Value).toArray below meth c H locs 0 0 Q (F0 m 9 ls []) := by
    intro  S_1 H locs ls hf hP hS hl
    have hf := z_e1 ej_9 hf
    exact z_no hf
  refine lv_if_lt (tgt := 9) hx hb dJ3_checkIndex_8e157_1 (by decide) (fun c_3 => ?_) (fun c_3 => ?_)
  · have hf := z_it c_3 hf
    exact J_9  S_0 _ _ _ hf hP hS (lv_sub hl [0, 1, 2] rfl)
  · have hf := z_if c_3 hf
    refine lv_iload_n hx hb dJ3_checkIndex_8e157_4 rfl (lv_at hl 0 rfl) ?_
    refine lv_iload_n hx hb dJ3_checkIndex_8e157_5 rfl (lv_at hl 1 rfl) ?_
    refine lv_icmp_lt (tgt := 16) hx hb dJ3_checkIndex_8e157_6 (by decide) (fun c_2 => ?_) (fun c_2 => ?_)
    · have hf := z_it c_2 hf
      refine lv_iload_n hx hb dJ3_checkIndex_8e157_16 rfl (lv_at hl 0 rfl) ?_
      obtain ⟨h1, h2⟩ := z_s2 hf
      subst h1 h2
      exact hret _ _ _ _ hP hS dJ3_checkIndex_8e157_17
    · have hf := z_if c_2 hf
      exact J_9  S_0 _ _ _ hf hP hS (lv_sub hl [0, 1, 2] rfl)
def fj0_checkIndex (S_0 : zSt) (a_1 : Int32) (a_2 : Int32) : Option (Unit × zSt) :=
  zbd (fj3_checkIndex S_0 a_1 a_2) fun r_1 S_2 =>
  some ((), S_2)
set_option maxHeartbeats 4000000 in
set_option maxRecDepth 100000 in
theorem cj0_checkIndex (l : Launch) (D : va_G) (K : (Nat → Nat) × (Nat → Nat)) (tys : List (ClassId × FieldType)) (N : Nat) (ad : Nat → Nat) (C : Nat → (Nat → Int32) → (Nat → Int64) → va_E) (S_0 : zSt) (a_1 : Int32) (a_2 : Int32) (So : zSt) (hf : fj0_checkIndex S_0 a_1 a_2 = some ((), So)) : zMV l yJ0_checkIndex_df160 (zws yJ0_checkIndex_df160 cJ0_checkIndex_df160 2 none) ({ frames := 1, cells := 0, slots := 0, locals := 22 }) D tys K (zW N ad C) [.int a_1, .int a_2] S_0 So := by
  refine z_metV (own := RJ0) (lv := [(0, .int a_1), (1, .int a_2)]) (by decide) rfl rfl (Nat.le_of_ble_eq_true rfl) rfl ?_
  intro p e s m below meth c A Q X hK hE hD hA hret hP hS ls hl
  obtain ⟨hx, hb, hml, hown, hts⟩ := id X
  have k0 := hts _ (List.mem_cons_of_mem _ wt_3_66)
  refine lv_iload_n hx hb dJ0_checkIndex_df160_0 rfl (lv_at hl 0 rfl) ?_
  refine lv_iload_n hx hb dJ0_checkIndex_df160_1 rfl (lv_at hl 1 rfl) ?_
  rcases hE.2.2.2.1 with hz | ⟨t_u, hz⟩
  · refine va_gets hx hb hz hS hown k0 (fun _ h => h) dJ0_checkIndex_df160_2 ?_
    obtain ⟨r_1, S_2, h_3, hf⟩ := z_bd hf
    refine z_cSI (As := [.int a_1, .int a_2, .null]) (rest := []) X hK hE hD hA hP hS (cj3_checkIndex_n l D K _ _ _ _ S_0 _ _ _ _ h_3) (va_cwS 3 hts (z_gS wt_3_68 wt_3_69 wt_1_16 wt_3_70) rfl rfl rfl yd_yJ3_checkIndex_8e157 ⟨Nat.le_of_ble_eq_true rfl, Nat.le_of_ble_eq_true rfl⟩) hl.1 rfl rfl (Nat.le_of_ble_eq_true rfl) dJ0_checkIndex_df160_5 (fun H locs hP hS => ?_)
    refine lv_pop hx hb dJ0_checkIndex_df160_8 rfl ?_
    obtain ⟨h1, h2⟩ := z_s2 hf
    subst h2
    exact hret _ _ _ _ hP hS dJ0_checkIndex_df160_9
  · refine va_gets hx hb hz hS hown k0 (fun _ h => h) dJ0_checkIndex_df160_2 ?_
    obtain ⟨r_1, S_2, h_3, hf⟩ := z_bd hf
    refine z_cSI (As := [.int a_1, .int a_2, .ref t_u]) (rest := []) X hK hE hD hA hP hS (cj3_checkIndex_r l D K _ _ _ _ t_u S_0 _ _ _ _ h_3) (va_cwS 3 hts (z_gS wt_3_68 wt_3_69 wt_1_16 wt_3_70) rfl rfl rfl yd_yJ3_checkIndex_8e157 ⟨Nat.le_of_ble_eq_true rfl, Nat.le_of_ble_eq_true rfl⟩) hl.1 rfl rfl (Nat.le_of_ble_eq_true rfl) dJ0_checkIndex_df160_5 (fun H locs hP hS => ?_)
    refine lv_pop hx hb dJ0_checkIndex_df160_8 rfl ?_
    obtain ⟨h1, h2⟩ := z_s2 hf
    subst h2
    exact hret _ _ _ _ hP hS dJ0_checkIndex_df160_9
def fj1_charAt (ki : Nat) (S_0 : zSt) (a_1 : Int32) : Option (Int32 × zSt) :=
  zbd (fj0_checkIndex S_0 a_1 (Int32.ofNat (zSL.getD ki 0))) fun _ S_2 =>
  zck (zix a_1 (zSL.getD ki 0)) <|
  zck (zbc (((((zSB.getD ki []).getD (a_1.toNatClampNeg) 0) &&& (255 : Int32)).toUInt32 % 65536).toInt32)) <|
  some (((((zSB.getD ki []).getD (a_1.toNatClampNeg) 0) &&& (255 : Int32)).toUInt32 % 65536).toInt32, S_2)
set_option maxHeartbeats 4000000 in
set_option maxRecDepth 100000 in
theorem cj1_charAt (l : Launch) (D : va_G) (K : (Nat → Nat) × (Nat → Nat)) (tys : List (ClassId × FieldType)) (N : Nat) (ad : Nat → Nat) (C : Nat → (Nat → Int32) → (Nat → Int64) → va_E) (ki : Nat) (hki : ki < 17) (S_0 : zSt) (a_1 : Int32) (ro : Int32) (So : zSt) (hf : fj1_charAt ki S_0 a_1 = some (ro, So)) : zMI l yJ1_charAt_3b067 (zws yJ1_charAt_3b067 cJ1_charAt_3b067 2 (Option.some .char)) ({ frames := 2, cells := 0, slots := 0, locals := 43 }) D tys K (zW N ad C) [.ref (K.2 ki), .int a_1] S_0 ro So := by
  refine z_metT .char (own := RJ1) (lv := [(0, .ref (K.2 ki)), (1, .int a_1)]) (by decide) rfl rfl (Nat.le_of_ble_eq_true rfl) rfl ?_
  intro p e s m below meth c A Q X hK hE hD hA hret hP hS ls hl
  obtain ⟨hx, hb, hml, hown, hts⟩ := id X
  refine lv_iload_n hx hb dJ1_charAt_3b067_0 rfl (lv_at hl 1 rfl) ?_
  refine lv_aload_n hx hb dJ1_charAt_3b067_1 rfl (lv_at hl 0 rfl) ?_
  refine va_tlen hx hb (hE.1.1 ki hki).2.2.2 hS rfl dJ1_charAt_3b067_2 ?_
  obtain ⟨r_1, S_2, h_3, hf⟩ := z_bd hf
  refine z_cSV (As := [.int a_1, .int (Int32.ofNat (zSL.getD ki 0))]) (rest := []) X hK hE hD hA hP hS (cj0_checkIndex l D K _ _ _ _ S_0 _ _ _ h_3) (va_cwS 2 hts (z_gS wt_3_63 wt_3_64 wt_1_14 wt_3_65) rfl rfl rfl yd_yJ0_checkIndex_df160 ⟨Nat.le_of_ble_eq_true rfl, Nat.le_of_ble_eq_true rfl⟩) hl.1 rfl rfl (Nat.le_of_ble_eq_true rfl) dJ1_charAt_3b067_3 (fun H locs hP hS => ?_)
  refine lv_aload_n hx hb dJ1_charAt_3b067_6 rfl (lv_at hl 0 rfl) ?_
  refine lv_iload_n hx hb dJ1_charAt_3b067_7 rfl (lv_at hl 1 rfl) ?_
  obtain ⟨h_4, hf⟩ := z_ix hf
  refine va_tb hx hb (hE.1.1 ki hki).2.2.2 hS h_4 rfl dJ1_charAt_3b067_8 ?_
  refine lv_sipush (v := 255) hx hb dJ1_charAt_3b067_9 (by decide) ?_
  refine lv_iand hx hb dJ1_charAt_3b067_12 ?_
  refine lv_i2c hx hb dJ1_charAt_3b067_13 rfl ?_
  obtain ⟨h_5, hf⟩ := z_bc hf
  obtain ⟨h1, h2⟩ := z_s2 hf
  subst h1 h2
  exact hret _ _ _ _ h_5 hP hS dJ1_charAt_3b067_14
def fj0_charAt (ki : Nat) (S_0 : zSt) (a_1 : Int32) : Option (Int32 × zSt) :=
  zbd (fj0_isLatin1 ki S_0) fun r_1 S_2 =>
  if r_1 = 0 then (
  none) else (
  zbd (fj1_charAt ki S_2 a_1) fun r_4 S_5 =>
  zck (zbc r_4) <|
  some (r_4, S_5))
set_option maxHeartbeats 4000000 in
set_option maxRecDepth 100000 in
theorem cj0_charAt (l : Launch) (D : va_G) (K : (Nat → Nat) × (Nat → Nat)) (tys : List (ClassId × FieldType)) (N : Nat) (ad : Nat → Nat) (C : Nat → (Nat → Int32) → (Nat → Int64) → va_E) (ki : Nat) (hki : ki < 17) (S_0 : zSt) (a_1 : Int32) (ro : Int32) (So : zSt) (hf : fj0_charAt ki S_0 a_1 = some (ro, So)) : zMI l yJ0_charAt_5068e (zws yJ0_charAt_5068e cJ0_charAt_5068e 2 (Option.some .char)) ({ frames := 3, cells := 0, slots := 0, locals := 64 }) D tys K (zW N ad C) [.ref (K.1 ki), .int a_1] S_0 ro So := by
  refine z_metT .char (own := RJ0) (lv := [(0, .ref (K.1 ki)), (1, .int a_1)]) (by decide) rfl rfl (Nat.le_of_ble_eq_true rfl) rfl ?_
  intro p e s m below meth c A Q X hK hE hD hA hret hP hS ls hl
  obtain ⟨hx, hb, hml, hown, hts⟩ := id X
  have k0 := hts _ (List.mem_cons_of_mem _ wt_7_46)
  refine lv_aload_n hx hb dJ0_charAt_5068e_0 rfl (lv_at hl 0 rfl) ?_
  obtain ⟨r_1, S_2, h_3, hf⟩ := z_bd hf
  refine z_cVI (As := []) (rest := []) X hK hE hD hA hP hS (cj0_isLatin1 l D K _ _ _ _ ki hki S_0 _ _ h_3) (cwV 0 hts (z_gV wt_3_54 wt_3_55 wt_3_56 wt_1_14 wt_3_57) rfl rfl rfl ⟨rfl, yd_yJ0_isLatin1_aae02⟩ ⟨Nat.le_of_ble_eq_true rfl, Nat.le_of_ble_eq_true rfl⟩) (vk_recv hE.1 hki hS) hl.1 rfl rfl (Nat.le_of_ble_eq_true rfl) dJ0_charAt_5068e_1 (fun H locs hP hS => ?_)
  refine lv_if_eq (tgt := 16) hx hb dJ0_charAt_5068e_4 (by decide) (fun c_8 => ?_) (fun c_8 => ?_)
  · have hf := z_it c_8 hf
    exact z_no hf
  · have hf := z_if c_8 hf
    refine lv_aload_n hx hb dJ0_charAt_5068e_7 rfl (lv_at hl 0 rfl) ?_
    refine vk_getf hx hb (hE.1.1 ki hki).2.2.1 hS hown k0 (fun _ h => h) dJ0_charAt_5068e_8 ?_
    refine lv_iload_n hx hb dJ0_charAt_5068e_11 rfl (lv_at hl 1 rfl) ?_
    obtain ⟨r_4, S_5, h_6, hf⟩ := z_bd hf
    refine z_cSI (As := [.ref (K.2 ki), .int a_1]) (rest := []) X hK hE hD hA hP hS (cj1_charAt l D K _ _ _ _ ki hki S_2 _ _ _ h_6) (va_cwS 2 hts (z_gS wt_3_60 wt_3_61 wt_1_15 wt_3_62) rfl rfl rfl yd_yJ1_charAt_3b067 ⟨Nat.le_of_ble_eq_true rfl, Nat.le_of_ble_eq_true rfl⟩) hl.1 rfl rfl (Nat.le_of_ble_eq_true rfl) dJ0_charAt_5068e_12 (fun H locs hP hS => ?_)
    obtain ⟨h_7, hf⟩ := z_bc hf
    obtain ⟨h1, h2⟩ := z_s2 hf
    subst h1 h2
    exact hret _ _ _ _ h_7 hP hS dJ0_charAt_5068e_15
def fx_Reader_isKeyword_L2 (a_1 : Int32) : Nat → Int32 → zSt → Option (Int32 × zSt)
  | 0, _, _ => none
  | n_2 + 1, x_1, S_2 =>
    if (5 : Int32) ≤ x_1 then (
    some ((1 : Int32), S_2)) else (
    znm (fun (x_3 : Int32) (S_4 : zSt) =>
    zbd (fj0_charAt 0 S_4 ((a_1 * (5 : Int32)) + x_1)) fun r_5 S_6 =>
    if r_5 = x_3 then (
    znm (x_1 + (1 : Int32)) fun x_8 =>
    fx_Reader_isKeyword_L2 a_1 n_2 x_8 S_6) else (
    some ((0 : Int32), S_6))) fun j_39 =>
    if (S_2.1 125 12) ≤ ((S_2.1 125 13) + x_1) then (
    j_39 (32 : Int32) S_2) else (
    zck (zix ((S_2.1 125 13) + x_1) 400) <|
    j_39 (S_2.1 2 (((S_2.1 125 13) + x_1).toNatClampNeg)) S_2))
def fx_Reader_isKeyword (S_0 : zSt) (a_1 : Int32) : Option (Int32 × zSt) :=
  fx_Reader_isKeyword_L2 a_1 zFU (0 : Int32) S_0
set_option maxHeartbeats 4000000 in
set_option maxRecDepth 100000 in
theorem cx_Reader_isKeyword (l : Launch) (D : va_G) (K : (Nat → Nat) × (Nat → Nat)) (cy : Nat → ClassId) (ad : Nat → Nat) (S_0 : zSt) (a_1 : Int32) (ro : Int32) (So : zSt) (hf : fx_Reader_isKeyword S_0 a_1 = some (ro, So)) : zMI l yX7_isKeyword (zws yX7_isKeyword cX7_isKeyword 4 (Option.some .boolean)) ({ frames := 4, cells := 0, slots := 0, locals := 85 }) D (zTy cy) K (zX cy ad) [.ref (ad 125), .int a_1] S_0 ro So := by
  refine z_metZ (own := RX7) (lv := [(0, .ref (ad 125)), (1, .int a_1)]) (by decide) rfl rfl (Nat.le_of_ble_eq_true rfl) rfl ?_
  intro p e s m below meth c A Q X hK hE hD hA hret hP hS ls hl
  obtain ⟨hx, hb, hml, hown, hts⟩ := id X
  have k0 := (fun w h => List.mem_cons_of_mem _ (zFX7 w h) : ∀ w ∈ u_ws RX7 TX7 16, w ∈ zws yX7_isKeyword cX7_isKeyword 4 (Option.some .boolean))
  have k1 := hts _ (List.mem_cons_of_mem _ wt_2_66)
  have k2 := hts _ (List.mem_cons_of_mem _ wt_2_65)
  have k3 := hts _ (List.mem_cons_of_mem _ wt_2_48)
  have k4 := (fun w h => List.mem_cons_of_mem _ (zFX9 w h) : ∀ w ∈ u_ws RX9 TX9 2, w ∈ zws yX7_isKeyword cX7_isKeyword 4 (Option.some .boolean))
  have k5 := hts _ (List.mem_cons_of_mem _ wt_1_39)
  refine lv_iconst (v := 0) hx hb dX7_isKeyword_0 (by decide) ?_
  refine lv_istore_n (lv' := [(2, .int (0 : Int32)), (0, .ref (ad 125)), (1, .int a_1)]) hx hb dX7_isKeyword_1 rfl hl (by decide) rfl (fun ls hl => ?_)
  have L_2 : ∀ (n_2 : Nat) (x_1 : Int32) (S_2 : zSt) (H : Heap) (locs : List Loc) (ls : Array Slot), fx_Reader_isKeyword_L2 a_1 n_2 x_1 S_2 = some (ro, So) → va_P D vwCl (zX cy ad S_2) H → va_S A s.heap H locs → lv_has ls 4 [(0, .ref (ad 125)), (1, .int a_1), (2, .int x_1)] → W p l e ({ frames := 4, cells := 0, slots := 0, locals := 85 }) s m ([.ref (ad 125), .int a_1] : List Value).toArray below meth c H locs 0 0 Q (F0 m 2 ls []) := by
    intro n_2
    induction n_2 with
    | zero =>
      intro x_1 S_2 H locs ls hf hP hS hl
      exact z_no hf
    | succ n_2 ih_2 =>
      intro x_1 S_2 H locs ls hf hP hS hl
      rw [fx_Reader_isKeyword_L2] at hf
      refine lv_iload_n hx hb dX7_isKeyword_2 rfl (lv_at hl 2 rfl) ?_
      refine lv_iconst (v := 5) hx hb dX7_isKeyword_3 (by decide) ?_
      refine lv_icmp_ge (tgt := 62) hx hb dX7_isKeyword_4 (by decide) (fun c_12 => ?_) (fun c_12 => ?_)
      · have hf := z_it c_12 hf
        refine lv_iconst (v := 1) hx hb dX7_isKeyword_62 (by decide) ?_
        obtain ⟨h1, h2⟩ := z_s2 hf
        subst h1 h2
        exact hret _ _ _ _ rfl hP hS dX7_isKeyword_63
      · have hf := z_if c_12 hf
        refine lv_aload_n hx hb dX7_isKeyword_7 rfl (lv_at hl 0 rfl) ?_
        refine va_get (D := D) (ci := 7) (v := .int (S_2.1 125 13)) (C := RX7) (T := TX7) (N := 16) hx hb hts k0 hown hK hP 125 (zX_125 cy ad S_2) rfl 13 (by decide) k1 (fun _ h9 => h9) rfl dX7_isKeyword_8 ?_
        refine lv_iload_n hx hb dX7_isKeyword_11 rfl (lv_at hl 2 rfl) ?_
        refine lv_iadd hx hb dX7_isKeyword_12 ?_
        refine lv_aload_n hx hb dX7_isKeyword_13 rfl (lv_at hl 0 rfl) ?_
        refine va_get (D := D) (ci := 7) (v := .int (S_2.1 125 12)) (C := RX7) (T := TX7) (N := 16) hx hb hts k0 hown hK hP 125 (zX_125 cy ad S_2) rfl 12 (by decide) k2 (fun _ h9 => h9) rfl dX7_isKeyword_14 ?_
        obtain ⟨j_39, ej_39, hf⟩ := z_nm hf
        have J_39 : ∀ (x_3 : Int32) (S_4 : zSt) (H : Heap) (locs : List Loc) (ls : Array Slot), j_39 x_3 S_4 = some (ro, So) → va_P D vwCl (zX cy ad S_4) H → va_S A s.heap H locs → lv_has ls 4 [(0, .ref (ad 125)), (1, .int a_1), (2, .int x_1)] → W p l e ({ frames := 4, cells := 0, slots := 0, locals := 85 }) s m ([.ref (ad 125), .int a_1] : List Value).toArray below meth c H locs 0 0 Q (F0 m 39 ls [.int x_3]) := by
          intro x_3 S_4 H locs ls hf hP hS hl
          have hf := z_e2 ej_39 hf
          refine lv_istore_n (lv' := [(3, .int x_3), (0, .ref (ad 125)), (1, .int a_1), (2, .int x_1)]) hx hb dX7_isKeyword_39 rfl hl (by decide) rfl (fun ls hl => ?_)
          refine va_ldcS hx hb hown (zR_0 hE) dX7_isKeyword_40 ?_
          refine lv_iload_n hx hb dX7_isKeyword_42 rfl (lv_at hl 2 rfl) ?_
          refine lv_iconst (v := 5) hx hb dX7_isKeyword_43 (by decide) ?_
          refine lv_imul hx hb dX7_isKeyword_44 ?_
          refine lv_iload_n hx hb dX7_isKeyword_45 rfl (lv_at hl 3 rfl) ?_
          refine lv_iadd hx hb dX7_isKeyword_46 ?_
          obtain ⟨r_5, S_6, h_7, hf⟩ := z_bd hf
          refine z_cVI (As := [.int ((a_1 * (5 : Int32)) + x_1)]) (rest := []) X hK hE hD hA hP hS (cj0_charAt l D K _ _ _ _ 0 (by decide) S_4 _ _ _ h_7) (cwV 1 hts (z_gV wt_3_50 wt_3_51 wt_3_52 wt_1_14 wt_3_53) rfl rfl rfl ⟨rfl, yd_yJ0_charAt_5068e⟩ ⟨Nat.le_of_ble_eq_true rfl, Nat.le_of_ble_eq_true rfl⟩) (vk_recv hE.1 (by decide) hS) hl.1 rfl rfl (Nat.le_of_ble_eq_true rfl) dX7_isKeyword_47 (fun H locs hP hS => ?_)
          refine lv_iload_n hx hb dX7_isKeyword_50 rfl (lv_at hl 0 rfl) ?_
          refine lv_icmp_eq (tgt := 56) hx hb dX7_isKeyword_51 (by decide) (fun c_9 => ?_) (fun c_9 => ?_)
          · have hf := z_it c_9 hf
            obtain ⟨x_8, ex_8, hf⟩ := z_nm hf
            refine lv_iinc (v := x_8) (lv' := [(2, .int x_8), (3, .int x_3), (0, .ref (ad 125)), (1, .int a_1)]) hx hb dX7_isKeyword_56 hl (k := 3) rfl (by rw [ex_8]; rfl) (by decide) rfl (fun ls hl => ?_)
            refine lv_goto (tgt := 2) hx hb dX7_isKeyword_59 (by decide) ?_
            exact ih_2 x_8 S_6 _ _ _ hf hP hS (lv_sub hl [2, 3, 0] rfl)
          · have hf := z_if c_9 hf
            refine lv_iconst (v := 0) hx hb dX7_isKeyword_54 (by decide) ?_
            obtain ⟨h1, h2⟩ := z_s2 hf
            subst h1 h2
            exact hret _ _ _ _ rfl hP hS dX7_isKeyword_55
        refine lv_icmp_ge (tgt := 37) hx hb dX7_isKeyword_17 (by decide) (fun c_11 => ?_) (fun c_11 => ?_)
        · have hf := z_it c_11 hf
          refine lv_bipush (v := 32) hx hb dX7_isKeyword_37 (by decide) ?_
          exact J_39 (32 : Int32) S_2 _ _ _ hf hP hS (lv_sub hl [0, 1, 2] rfl)
        · have hf := z_if c_11 hf
          refine lv_aload_n hx hb dX7_isKeyword_20 rfl (lv_at hl 0 rfl) ?_
          refine va_get (D := D) (ci := 7) (v := .ref (ad 1)) (C := RX7) (T := TX7) (N := 16) hx hb hts k0 hown hK hP 125 (zX_125 cy ad S_2) rfl 0 (by decide) k3 (fun _ h9 => h9) rfl dX7_isKeyword_21 ?_
          refine va_get (D := D) (ci := 9) (v := .ref (ad 2)) (C := RX9) (T := TX9) (N := 2) hx hb hts k4 hown hK hP 1 (zX_1 cy ad S_2) rfl 0 (by decide) k5 (fun _ h9 => h9) rfl dX7_isKeyword_24 ?_
          refine lv_aload_n hx hb dX7_isKeyword_27 rfl (lv_at hl 0 rfl) ?_
          refine va_get (D := D) (ci := 7) (v := .int (S_2.1 125 13)) (C := RX7) (T := TX7) (N := 16) hx hb hts k0 hown hK hP 125 (zX_125 cy ad S_2) rfl 13 (by decide) k1 (fun _ h9 => h9) rfl dX7_isKeyword_28 ?_
          refine lv_iload_n hx hb dX7_isKeyword_31 rfl (lv_at hl 2 rfl) ?_
          refine lv_iadd hx hb dX7_isKeyword_32 ?_
          obtain ⟨h_10, hf⟩ := z_ix hf
          refine z_iald hx hb hK hP 2 0 (zX_2 cy ad S_2) rfl h_10 (k := (((S_2.1 125 13) + x_1).toNatClampNeg)) rfl dX7_isKeyword_33 ?_
          refine lv_goto (tgt := 39) hx hb dX7_isKeyword_34 (by decide) ?_
          exact J_39 (S_2.1 2 (((S_2.1 125 13) + x_1).toNatClampNeg)) S_2 _ _ _ hf hP hS (lv_sub hl [0, 1, 2] rfl)
  exact L_2 zFU (0 : Int32) S_0 _ _ _ hf hP hS (lv_sub hl [1, 2, 0] rfl)
def fx_Reader_readKeyword_L61 : Nat → Int32 → zSt → Option (Unit × zSt)
  | 0, _, _ => none
  | n_61 + 1, x_3, S_4 =>
    if (15 : Int32) ≤ x_3 then (
    some ((), S_4)) else (
    zbd (fx_Reader_isKeyword S_4 x_3) fun r_5 S_6 =>
    znm (fun (S_8 : zSt) =>
    znm (x_3 + (1 : Int32)) fun x_9 =>
    fx_Reader_readKeyword_L61 n_61 x_9 S_8) fun j_84 =>
    if r_5 = 0 then (
    j_84  S_6) else (
    znm (zpI S_6 125 14 ((256 : Int32) + x_3)) fun S_10 =>
    j_84  S_10))
def fx_Reader_readKeyword_L0 (j_38 : zSt → Option (Unit × zSt)) : Nat → zSt → Option (Unit × zSt)
  | 0, _ => none
  | n_0 + 1, S_14 =>
    if (S_14.1 1 1) ≤ (S_14.1 125 12) then (
    j_38  S_14) else (
    zbd (fx_Reader_isLetter S_14 (S_14.1 125 12)) fun r_15 S_16 =>
    if r_15 = 0 then (
    j_38  S_16) else (
    znm (zpI S_16 125 12 ((S_16.1 125 12) + (1 : Int32))) fun S_18 =>
    fx_Reader_readKeyword_L0 j_38 n_0  S_18))
def fx_Reader_readKeyword (S_0 : zSt) : Option (Unit × zSt) :=
  znm (fun (S_1 : zSt) =>
  znm (zpI S_1 125 14 (302 : Int32)) fun S_2 =>
  if ((S_2.1 125 12) - (S_2.1 125 13)) ≤ (5 : Int32) then (
  fx_Reader_readKeyword_L61 zFU (0 : Int32) S_2) else (
  some ((), S_2))) fun j_38 =>
  fx_Reader_readKeyword_L0 j_38 zFU  S_0
set_option maxHeartbeats 4000000 in
set_option maxRecDepth 100000 in
theorem cx_Reader_readKeyword (l : Launch) (D : va_G) (K : (Nat → Nat) × (Nat → Nat)) (cy : Nat → ClassId) (ad : Nat → Nat) (S_0 : zSt) (So : zSt) (hf : fx_Reader_readKeyword S_0 = some ((), So)) : zMV l yX7_readKeyword (zws yX7_readKeyword cX7_readKeyword 2 none) ({ frames := 5, cells := 0, slots := 0, locals := 108 }) D (zTy cy) K (zX cy ad) [.ref (ad 125)] S_0 So := by
  refine z_metV (own := RX7) (lv := [(0, .ref (ad 125))]) (by decide) rfl rfl (Nat.le_of_ble_eq_true rfl) rfl ?_
  intro p e s m below meth c A Q X hK hE hD hA hret hP hS ls hl
  obtain ⟨hx, hb, hml, hown, hts⟩ := id X
  have k0 := (fun w h => List.mem_cons_of_mem _ (zFX7 w h) : ∀ w ∈ u_ws RX7 TX7 16, w ∈ zws yX7_readKeyword cX7_readKeyword 2 none)
  have k1 := hts _ (List.mem_cons_of_mem _ wt_2_67)
  have k2 := hts _ (List.mem_cons_of_mem _ wt_2_65)
  have k3 := hts _ (List.mem_cons_of_mem _ wt_2_66)
  have k4 := hts _ (List.mem_cons_of_mem _ wt_2_48)
  have k5 := (fun w h => List.mem_cons_of_mem _ (zFX9 w h) : ∀ w ∈ u_ws RX9 TX9 2, w ∈ zws yX7_readKeyword cX7_readKeyword 2 none)
  have k6 := hts _ (List.mem_cons_of_mem _ wt_1_42)
  obtain ⟨j_38, ej_38, hf⟩ := z_nm hf
  have J_38 : ∀ (S_1 : zSt) (H : Heap) (locs : List Loc) (ls : Array Slot), j_38  S_1 = some ((), So) → va_P D vwCl (zX cy ad S_1) H → va_S A s.heap H locs → lv_has ls 2 [(0, .ref (ad 125))] → W p l e ({ frames := 5, cells := 0, slots := 0, locals := 108 }) s m ([.ref (ad 125)] : List Value).toArray below meth c H locs 0 0 Q (F0 m 38 ls []) := by
    intro  S_1 H locs ls hf hP hS hl
    have hf := z_e1 ej_38 hf
    refine lv_aload_n hx hb dX7_readKeyword_38 rfl (lv_at hl 0 rfl) ?_
    refine lv_sipush (v := 302) hx hb dX7_readKeyword_39 (by decide) ?_
    refine va_put (D := D) (ci := 7) (v := .int (302 : Int32)) (ty := .int) (C := RX7) (T := TX7) (N := 16) hx hb hts k0 tyX7 tyX7_ok nmX7 hown hK hP (hD S_1) hS 125 (zX_125 cy ad S_1) rfl 14 (by decide) k1 (fun _ h9 => h9) rfl (tyX7_ok 14 (by decide)) rfl rfl (Nat.le_of_ble_eq_true rfl) dX7_readKeyword_42 (fun H locs hP _ hS => ?_)
    obtain ⟨S_2, eS_2, hf⟩ := z_nm hf
    have hP := zW_putI hP eS_2 (by decide) rfl
    refine lv_aload_n hx hb dX7_readKeyword_45 rfl (lv_at hl 0 rfl) ?_
    refine va_get (D := D) (ci := 7) (v := .int (S_2.1 125 12)) (C := RX7) (T := TX7) (N := 16) hx hb hts k0 hown hK hP 125 (zX_125 cy ad S_2) rfl 12 (by decide) k2 (fun _ h9 => h9) rfl dX7_readKeyword_46 ?_
    refine lv_aload_n hx hb dX7_readKeyword_49 rfl (lv_at hl 0 rfl) ?_
    refine va_get (D := D) (ci := 7) (v := .int (S_2.1 125 13)) (C := RX7) (T := TX7) (N := 16) hx hb hts k0 hown hK hP 125 (zX_125 cy ad S_2) rfl 13 (by decide) k3 (fun _ h9 => h9) rfl dX7_readKeyword_50 ?_
    refine lv_isub hx hb dX7_readKeyword_53 ?_
    refine lv_iconst (v := 5) hx hb dX7_readKeyword_54 (by decide) ?_
    refine lv_icmp_le (tgt := 59) hx hb dX7_readKeyword_55 (by decide) (fun c_13 => ?_) (fun c_13 => ?_)
    · have hf := z_it c_13 hf
      refine lv_iconst (v := 0) hx hb dX7_readKeyword_59 (by decide) ?_
      refine lv_istore_n (lv' := [(1, .int (0 : Int32)), (0, .ref (ad 125))]) hx hb dX7_readKeyword_60 rfl hl (by decide) rfl (fun ls hl => ?_)
      have L_61 : ∀ (n_61 : Nat) (x_3 : Int32) (S_4 : zSt) (H : Heap) (locs : List Loc) (ls : Array Slot), fx_Reader_readKeyword_L61 n_61 x_3 S_4 = some ((), So) → va_P D vwCl (zX cy ad S_4) H → va_S A s.heap H locs → lv_has ls 2 [(0, .ref (ad 125)), (1, .int x_3)] → W p l e ({ frames := 5, cells := 0, slots := 0, locals := 108 }) s m ([.ref (ad 125)] : List Value).toArray below meth c H locs 0 0 Q (F0 m 61 ls []) := by
        intro n_61
        induction n_61 with
        | zero =>
          intro x_3 S_4 H locs ls hf hP hS hl
          exact z_no hf
        | succ n_61 ih_61 =>
          intro x_3 S_4 H locs ls hf hP hS hl
          rw [fx_Reader_readKeyword_L61] at hf
          refine lv_iload_n hx hb dX7_readKeyword_61 rfl (lv_at hl 1 rfl) ?_
          refine lv_bipush (v := 15) hx hb dX7_readKeyword_62 (by decide) ?_
          refine lv_icmp_ge (tgt := 90) hx hb dX7_readKeyword_64 (by decide) (fun c_12 => ?_) (fun c_12 => ?_)
          · have hf := z_it c_12 hf
            obtain ⟨h1, h2⟩ := z_s2 hf
            subst h2
            exact hret _ _ _ _ hP hS dX7_readKeyword_90
          · have hf := z_if c_12 hf
            refine lv_aload_n hx hb dX7_readKeyword_67 rfl (lv_at hl 0 rfl) ?_
            refine lv_iload_n hx hb dX7_readKeyword_68 rfl (lv_at hl 1 rfl) ?_
            obtain ⟨r_5, S_6, h_7, hf⟩ := z_bd hf
            refine z_cVI (As := [.int x_3]) (rest := []) X hK hE hD hA hP hS (cx_Reader_isKeyword l D K cy ad S_4 _ _ _ h_7) (cwV 1 hts (z_gV wt_3_45 wt_3_47 wp_5 wt_1_10 wt_3_48) rfl rfl rfl ⟨rfl, yd_yX7_isKeyword⟩ ⟨Nat.le_of_ble_eq_true rfl, Nat.le_of_ble_eq_true rfl⟩) (va_recv hK hP (ci := 7) (q0 := 125) rfl (zX_125 cy ad S_4)) hl.1 rfl rfl (Nat.le_of_ble_eq_true rfl) dX7_readKeyword_69 (fun H locs hP hS => ?_)
            obtain ⟨j_84, ej_84, hf⟩ := z_nm hf
            have J_84 : ∀ (S_8 : zSt) (H : Heap) (locs : List Loc) (ls : Array Slot), j_84  S_8 = some ((), So) → va_P D vwCl (zX cy ad S_8) H → va_S A s.heap H locs → lv_has ls 2 [(0, .ref (ad 125)), (1, .int x_3)] → W p l e ({ frames := 5, cells := 0, slots := 0, locals := 108 }) s m ([.ref (ad 125)] : List Value).toArray below meth c H locs 0 0 Q (F0 m 84 ls []) := by
              intro  S_8 H locs ls hf hP hS hl
              have hf := z_e1 ej_84 hf
              obtain ⟨x_9, ex_9, hf⟩ := z_nm hf
              refine lv_iinc (v := x_9) (lv' := [(1, .int x_9), (0, .ref (ad 125))]) hx hb dX7_readKeyword_84 hl (k := 1) rfl (by rw [ex_9]; rfl) (by decide) rfl (fun ls hl => ?_)
              refine lv_goto (tgt := 61) hx hb dX7_readKeyword_87 (by decide) ?_
              exact ih_61 x_9 S_8 _ _ _ hf hP hS (lv_sub hl [1, 0] rfl)
            refine lv_if_eq (tgt := 84) hx hb dX7_readKeyword_72 (by decide) (fun c_11 => ?_) (fun c_11 => ?_)
            · have hf := z_it c_11 hf
              exact J_84  S_6 _ _ _ hf hP hS (lv_sub hl [0, 1] rfl)
            · have hf := z_if c_11 hf
              refine lv_aload_n hx hb dX7_readKeyword_75 rfl (lv_at hl 0 rfl) ?_
              refine lv_sipush (v := 256) hx hb dX7_readKeyword_76 (by decide) ?_
              refine lv_iload_n hx hb dX7_readKeyword_79 rfl (lv_at hl 1 rfl) ?_
              refine lv_iadd hx hb dX7_readKeyword_80 ?_
              refine va_put (D := D) (ci := 7) (v := .int ((256 : Int32) + x_3)) (ty := .int) (C := RX7) (T := TX7) (N := 16) hx hb hts k0 tyX7 tyX7_ok nmX7 hown hK hP (hD S_6) hS 125 (zX_125 cy ad S_6) rfl 14 (by decide) k1 (fun _ h9 => h9) rfl (tyX7_ok 14 (by decide)) rfl rfl (Nat.le_of_ble_eq_true rfl) dX7_readKeyword_81 (fun H locs hP _ hS => ?_)
              obtain ⟨S_10, eS_10, hf⟩ := z_nm hf
              have hP := zW_putI hP eS_10 (by decide) rfl
              exact J_84  S_10 _ _ _ hf hP hS (lv_sub hl [0, 1] rfl)
      exact L_61 zFU (0 : Int32) S_2 _ _ _ hf hP hS (lv_sub hl [1, 0] rfl)
    · have hf := z_if c_13 hf
      obtain ⟨h1, h2⟩ := z_s2 hf
      subst h2
      exact hret _ _ _ _ hP hS dX7_readKeyword_58
  have L_0 : ∀ (n_0 : Nat) (S_14 : zSt) (H : Heap) (locs : List Loc) (ls : Array Slot), fx_Reader_readKeyword_L0 j_38 n_0  S_14 = some ((), So) → va_P D vwCl (zX cy ad S_14) H → va_S A s.heap H locs → lv_has ls 2 [(0, .ref (ad 125))] → W p l e ({ frames := 5, cells := 0, slots := 0, locals := 108 }) s m ([.ref (ad 125)] : List Value).toArray below meth c H locs 0 0 Q (F0 m 0 ls []) := by
    intro n_0
    induction n_0 with
    | zero =>
      intro  S_14 H locs ls hf hP hS hl
      exact z_no hf
    | succ n_0 ih_0 =>
      intro  S_14 H locs ls hf hP hS hl
      rw [fx_Reader_readKeyword_L0] at hf
      refine lv_aload_n hx hb dX7_readKeyword_0 rfl (lv_at hl 0 rfl) ?_
      refine va_get (D := D) (ci := 7) (v := .int (S_14.1 125 12)) (C := RX7) (T := TX7) (N := 16) hx hb hts k0 hown hK hP 125 (zX_125 cy ad S_14) rfl 12 (by decide) k2 (fun _ h9 => h9) rfl dX7_readKeyword_1 ?_
      refine lv_aload_n hx hb dX7_readKeyword_4 rfl (lv_at hl 0 rfl) ?_
      refine va_get (D := D) (ci := 7) (v := .ref (ad 1)) (C := RX7) (T := TX7) (N := 16) hx hb hts k0 hown hK hP 125 (zX_125 cy ad S_14) rfl 0 (by decide) k4 (fun _ h9 => h9) rfl dX7_readKeyword_5 ?_
      refine va_get (D := D) (ci := 9) (v := .int (S_14.1 1 1)) (C := RX9) (T := TX9) (N := 2) hx hb hts k5 hown hK hP 1 (zX_1 cy ad S_14) rfl 1 (by decide) k6 (fun _ h9 => h9) rfl dX7_readKeyword_8 ?_
      refine lv_icmp_ge (tgt := 38) hx hb dX7_readKeyword_11 (by decide) (fun c_20 => ?_) (fun c_20 => ?_)
      · have hf := z_it c_20 hf
        exact J_38  S_14 _ _ _ hf hP hS (lv_sub hl [0] rfl)
      · have hf := z_if c_20 hf
        refine lv_aload_n hx hb dX7_readKeyword_14 rfl (lv_at hl 0 rfl) ?_
        refine lv_aload_n hx hb dX7_readKeyword_15 rfl (lv_at hl 0 rfl) ?_
        refine va_get (D := D) (ci := 7) (v := .int (S_14.1 125 12)) (C := RX7) (T := TX7) (N := 16) hx hb hts k0 hown hK hP 125 (zX_125 cy ad S_14) rfl 12 (by decide) k2 (fun _ h9 => h9) rfl dX7_readKeyword_16 ?_
        obtain ⟨r_15, S_16, h_17, hf⟩ := z_bd hf
        refine z_cVI (As := [.int (S_14.1 125 12)]) (rest := []) X hK hE hD hA hP hS (cx_Reader_isLetter l D K cy ad S_14 _ _ _ h_17) (cwV 1 hts (z_gV wt_3_36 wt_3_38 wp_3 wt_1_10 wt_3_39) rfl rfl rfl ⟨rfl, yd_yX7_isLetter⟩ ⟨Nat.le_of_ble_eq_true rfl, Nat.le_of_ble_eq_true rfl⟩) (va_recv hK hP (ci := 7) (q0 := 125) rfl (zX_125 cy ad S_14)) hl.1 rfl rfl (Nat.le_of_ble_eq_true rfl) dX7_readKeyword_19 (fun H locs hP hS => ?_)
        refine lv_if_eq (tgt := 38) hx hb dX7_readKeyword_22 (by decide) (fun c_19 => ?_) (fun c_19 => ?_)
        · have hf := z_it c_19 hf
          exact J_38  S_16 _ _ _ hf hP hS (lv_sub hl [0] rfl)
        · have hf := z_if c_19 hf
          refine lv_aload_n hx hb dX7_readKeyword_25 rfl (lv_at hl 0 rfl) ?_
          refine lv_dup hx hb dX7_readKeyword_26 rfl ?_
          refine va_get (D := D) (ci := 7) (v := .int (S_16.1 125 12)) (C := RX7) (T := TX7) (N := 16) hx hb hts k0 hown hK hP 125 (zX_125 cy ad S_16) rfl 12 (by decide) k2 (fun _ h9 => h9) rfl dX7_readKeyword_27 ?_
          refine lv_iconst (v := 1) hx hb dX7_readKeyword_30 (by decide) ?_
          refine lv_iadd hx hb dX7_readKeyword_31 ?_
          refine va_put (D := D) (ci := 7) (v := .int ((S_16.1 125 12) + (1 : Int32))) (ty := .int) (C := RX7) (T := TX7) (N := 16) hx hb hts k0 tyX7 tyX7_ok nmX7 hown hK hP (hD S_16) hS 125 (zX_125 cy ad S_16) rfl 12 (by decide) k2 (fun _ h9 => h9) rfl (tyX7_ok 12 (by decide)) rfl rfl (Nat.le_of_ble_eq_true rfl) dX7_readKeyword_32 (fun H locs hP _ hS => ?_)
          obtain ⟨S_18, eS_18, hf⟩ := z_nm hf
          have hP := zW_putI hP eS_18 (by decide) rfl
          refine lv_goto (tgt := 0) hx hb dX7_readKeyword_35 (by decide) ?_
          exact ih_0  S_18 _ _ _ hf hP hS (lv_sub hl [0] rfl)
  exact L_0 zFU  S_0 _ _ _ hf hP hS (lv_sub hl [0] rfl)
def fx_Reader_readNumber_L5 (j_70 : zSt → Option (Unit × zSt)) : Nat → zSt → Option (Unit × zSt)
  | 0, _ => none
  | n_5 + 1, S_7 =>
    if (S_7.1 1 1) ≤ (S_7.1 125 12) then (
    j_70  S_7) else (
    zbd (fx_Reader_isDigit S_7 (S_7.1 125 12)) fun r_8 S_9 =>
    if r_8 = 0 then (
    j_70  S_9) else (
    zck (zix (S_9.1 125 12) 400) <|
    znm (zpI S_9 125 15 ((((S_9.1 125 15) * (10 : Int32)) + (S_9.1 2 ((S_9.1 125 12).toNatClampNeg))) - (48 : Int32))) fun S_12 =>
    znm (zpI S_12 125 12 ((S_12.1 125 12) + (1 : Int32))) fun S_13 =>
    fx_Reader_readNumber_L5 j_70 n_5  S_13))
def fx_Reader_readNumber (S_0 : zSt) : Option (Unit × zSt) :=
  znm (zpI S_0 125 15 (0 : Int32)) fun S_1 =>
  znm (fun (S_2 : zSt) =>
  znm (fun (x_3 : Int32) (S_4 : zSt) =>
  znm (zpI S_4 125 14 x_3) fun S_5 =>
  some ((), S_5)) fun j_93 =>
  if ((S_2.1 125 12) - (S_2.1 125 13)) ≤ (4 : Int32) then (
  j_93 (300 : Int32) S_2) else (
  j_93 (302 : Int32) S_2)) fun j_70 =>
  fx_Reader_readNumber_L5 j_70 zFU  S_1
set_option maxHeartbeats 4000000 in
set_option maxRecDepth 100000 in
theorem cx_Reader_readNumber (l : Launch) (D : va_G) (K : (Nat → Nat) × (Nat → Nat)) (cy : Nat → ClassId) (ad : Nat → Nat) (S_0 : zSt) (So : zSt) (hf : fx_Reader_readNumber S_0 = some ((), So)) : zMV l yX7_readNumber (zws yX7_readNumber cX7_readNumber 1 none) ({ frames := 2, cells := 0, slots := 0, locals := 43 }) D (zTy cy) K (zX cy ad) [.ref (ad 125)] S_0 So := by
  refine z_metV (own := RX7) (lv := [(0, .ref (ad 125))]) (by decide) rfl rfl (Nat.le_of_ble_eq_true rfl) rfl ?_
  intro p e s m below meth c A Q X hK hE hD hA hret hP hS ls hl
  obtain ⟨hx, hb, hml, hown, hts⟩ := id X
  have k0 := (fun w h => List.mem_cons_of_mem _ (zFX7 w h) : ∀ w ∈ u_ws RX7 TX7 16, w ∈ zws yX7_readNumber cX7_readNumber 1 none)
  have k1 := hts _ (List.mem_cons_of_mem _ wt_2_68)
  have k2 := hts _ (List.mem_cons_of_mem _ wt_2_65)
  have k3 := hts _ (List.mem_cons_of_mem _ wt_2_66)
  have k4 := hts _ (List.mem_cons_of_mem _ wt_2_67)
  have k5 := hts _ (List.mem_cons_of_mem _ wt_2_48)
  have k6 := (fun w h => List.mem_cons_of_mem _ (zFX9 w h) : ∀ w ∈ u_ws RX9 TX9 2, w ∈ zws yX7_readNumber cX7_readNumber 1 none)
  have k7 := hts _ (List.mem_cons_of_mem _ wt_1_42)
  have k8 := hts _ (List.mem_cons_of_mem _ wt_1_39)
  refine lv_aload_n hx hb dX7_readNumber_0 rfl (lv_at hl 0 rfl) ?_
  refine lv_iconst (v := 0) hx hb dX7_readNumber_1 (by decide) ?_
  refine va_put (D := D) (ci := 7) (v := .int (0 : Int32)) (ty := .int) (C := RX7) (T := TX7) (N := 16) hx hb hts k0 tyX7 tyX7_ok nmX7 hown hK hP (hD S_0) hS 125 (zX_125 cy ad S_0) rfl 15 (by decide) k1 (fun _ h9 => h9) rfl (tyX7_ok 15 (by decide)) rfl rfl (Nat.le_of_ble_eq_true rfl) dX7_readNumber_2 (fun H locs hP _ hS => ?_)
  obtain ⟨S_1, eS_1, hf⟩ := z_nm hf
  have hP := zW_putI hP eS_1 (by decide) rfl
  obtain ⟨j_70, ej_70, hf⟩ := z_nm hf
  have J_70 : ∀ (S_2 : zSt) (H : Heap) (locs : List Loc) (ls : Array Slot), j_70  S_2 = some ((), So) → va_P D vwCl (zX cy ad S_2) H → va_S A s.heap H locs → lv_has ls 1 [(0, .ref (ad 125))] → W p l e ({ frames := 2, cells := 0, slots := 0, locals := 43 }) s m ([.ref (ad 125)] : List Value).toArray below meth c H locs 0 0 Q (F0 m 70 ls []) := by
    intro  S_2 H locs ls hf hP hS hl
    have hf := z_e1 ej_70 hf
    refine lv_aload_n hx hb dX7_readNumber_70 rfl (lv_at hl 0 rfl) ?_
    refine lv_aload_n hx hb dX7_readNumber_71 rfl (lv_at hl 0 rfl) ?_
    refine va_get (D := D) (ci := 7) (v := .int (S_2.1 125 12)) (C := RX7) (T := TX7) (N := 16) hx hb hts k0 hown hK hP 125 (zX_125 cy ad S_2) rfl 12 (by decide) k2 (fun _ h9 => h9) rfl dX7_readNumber_72 ?_
    refine lv_aload_n hx hb dX7_readNumber_75 rfl (lv_at hl 0 rfl) ?_
    refine va_get (D := D) (ci := 7) (v := .int (S_2.1 125 13)) (C := RX7) (T := TX7) (N := 16) hx hb hts k0 hown hK hP 125 (zX_125 cy ad S_2) rfl 13 (by decide) k3 (fun _ h9 => h9) rfl dX7_readNumber_76 ?_
    refine lv_isub hx hb dX7_readNumber_79 ?_
    refine lv_iconst (v := 4) hx hb dX7_readNumber_80 (by decide) ?_
    obtain ⟨j_93, ej_93, hf⟩ := z_nm hf
    have J_93 : ∀ (x_3 : Int32) (S_4 : zSt) (H : Heap) (locs : List Loc) (ls : Array Slot), j_93 x_3 S_4 = some ((), So) → va_P D vwCl (zX cy ad S_4) H → va_S A s.heap H locs → lv_has ls 1 [] → W p l e ({ frames := 2, cells := 0, slots := 0, locals := 43 }) s m ([.ref (ad 125)] : List Value).toArray below meth c H locs 0 0 Q (F0 m 93 ls [.int x_3, .ref (ad 125)]) := by
      intro x_3 S_4 H locs ls hf hP hS hl
      have hf := z_e2 ej_93 hf
      refine va_put (D := D) (ci := 7) (v := .int x_3) (ty := .int) (C := RX7) (T := TX7) (N := 16) hx hb hts k0 tyX7 tyX7_ok nmX7 hown hK hP (hD S_4) hS 125 (zX_125 cy ad S_4) rfl 14 (by decide) k4 (fun _ h9 => h9) rfl (tyX7_ok 14 (by decide)) rfl rfl (Nat.le_of_ble_eq_true rfl) dX7_readNumber_93 (fun H locs hP _ hS => ?_)
      obtain ⟨S_5, eS_5, hf⟩ := z_nm hf
      have hP := zW_putI hP eS_5 (by decide) rfl
      obtain ⟨h1, h2⟩ := z_s2 hf
      subst h2
      exact hret _ _ _ _ hP hS dX7_readNumber_96
    refine lv_icmp_le (tgt := 90) hx hb dX7_readNumber_81 (by decide) (fun c_6 => ?_) (fun c_6 => ?_)
    · have hf := z_it c_6 hf
      refine lv_sipush (v := 300) hx hb dX7_readNumber_90 (by decide) ?_
      exact J_93 (300 : Int32) S_2 _ _ _ hf hP hS (lv_sub hl [] rfl)
    · have hf := z_if c_6 hf
      refine lv_sipush (v := 302) hx hb dX7_readNumber_84 (by decide) ?_
      refine lv_goto (tgt := 93) hx hb dX7_readNumber_87 (by decide) ?_
      exact J_93 (302 : Int32) S_2 _ _ _ hf hP hS (lv_sub hl [] rfl)
  have L_5 : ∀ (n_5 : Nat) (S_7 : zSt) (H : Heap) (locs : List Loc) (ls : Array Slot), fx_Reader_readNumber_L5 j_70 n_5  S_7 = some ((), So) → va_P D vwCl (zX cy ad S_7) H → va_S A s.heap H locs → lv_has ls 1 [(0, .ref (ad 125))] → W p l e ({ frames := 2, cells := 0, slots := 0, locals := 43 }) s m ([.ref (ad 125)] : List Value).toArray below meth c H locs 0 0 Q (F0 m 5 ls []) := by
    intro n_5
    induction n_5 with
    | zero =>
      intro  S_7 H locs ls hf hP hS hl
      exact z_no hf
    | succ n_5 ih_5 =>
      intro  S_7 H locs ls hf hP hS hl
      rw [fx_Reader_readNumber_L5] at hf
      refine lv_aload_n hx hb dX7_readNumber_5 rfl (lv_at hl 0 rfl) ?_
      refine va_get (D := D) (ci := 7) (v := .int (S_7.1 125 12)) (C := RX7) (T := TX7) (N := 16) hx hb hts k0 hown hK hP 125 (zX_125 cy ad S_7) rfl 12 (by decide) k2 (fun _ h9 => h9) rfl dX7_readNumber_6 ?_
      refine lv_aload_n hx hb dX7_readNumber_9 rfl (lv_at hl 0 rfl) ?_
      refine va_get (D := D) (ci := 7) (v := .ref (ad 1)) (C := RX7) (T := TX7) (N := 16) hx hb hts k0 hown hK hP 125 (zX_125 cy ad S_7) rfl 0 (by decide) k5 (fun _ h9 => h9) rfl dX7_readNumber_10 ?_
      refine va_get (D := D) (ci := 9) (v := .int (S_7.1 1 1)) (C := RX9) (T := TX9) (N := 2) hx hb hts k6 hown hK hP 1 (zX_1 cy ad S_7) rfl 1 (by decide) k7 (fun _ h9 => h9) rfl dX7_readNumber_13 ?_
      refine lv_icmp_ge (tgt := 70) hx hb dX7_readNumber_16 (by decide) (fun c_15 => ?_) (fun c_15 => ?_)
      · have hf := z_it c_15 hf
        exact J_70  S_7 _ _ _ hf hP hS (lv_sub hl [0] rfl)
      · have hf := z_if c_15 hf
        refine lv_aload_n hx hb dX7_readNumber_19 rfl (lv_at hl 0 rfl) ?_
        refine lv_aload_n hx hb dX7_readNumber_20 rfl (lv_at hl 0 rfl) ?_
        refine va_get (D := D) (ci := 7) (v := .int (S_7.1 125 12)) (C := RX7) (T := TX7) (N := 16) hx hb hts k0 hown hK hP 125 (zX_125 cy ad S_7) rfl 12 (by decide) k2 (fun _ h9 => h9) rfl dX7_readNumber_21 ?_
        obtain ⟨r_8, S_9, h_10, hf⟩ := z_bd hf
        refine z_cVI (As := [.int (S_7.1 125 12)]) (rest := []) X hK hE hD hA hP hS (cx_Reader_isDigit l D K cy ad S_7 _ _ _ h_10) (cwV 1 hts (z_gV wt_3_90 wt_3_92 wp_6 wt_1_10 wt_3_93) rfl rfl rfl ⟨rfl, yd_yX7_isDigit⟩ ⟨Nat.le_of_ble_eq_true rfl, Nat.le_of_ble_eq_true rfl⟩) (va_recv hK hP (ci := 7) (q0 := 125) rfl (zX_125 cy ad S_7)) hl.1 rfl rfl (Nat.le_of_ble_eq_true rfl) dX7_readNumber_24 (fun H locs hP hS => ?_)
        refine lv_if_eq (tgt := 70) hx hb dX7_readNumber_27 (by decide) (fun c_14 => ?_) (fun c_14 => ?_)
        · have hf := z_it c_14 hf
          exact J_70  S_9 _ _ _ hf hP hS (lv_sub hl [0] rfl)
        · have hf := z_if c_14 hf
          refine lv_aload_n hx hb dX7_readNumber_30 rfl (lv_at hl 0 rfl) ?_
          refine lv_aload_n hx hb dX7_readNumber_31 rfl (lv_at hl 0 rfl) ?_
          refine va_get (D := D) (ci := 7) (v := .int (S_9.1 125 15)) (C := RX7) (T := TX7) (N := 16) hx hb hts k0 hown hK hP 125 (zX_125 cy ad S_9) rfl 15 (by decide) k1 (fun _ h9 => h9) rfl dX7_readNumber_32 ?_
          refine lv_bipush (v := 10) hx hb dX7_readNumber_35 (by decide) ?_
          refine lv_imul hx hb dX7_readNumber_37 ?_
          refine lv_aload_n hx hb dX7_readNumber_38 rfl (lv_at hl 0 rfl) ?_
          refine va_get (D := D) (ci := 7) (v := .ref (ad 1)) (C := RX7) (T := TX7) (N := 16) hx hb hts k0 hown hK hP 125 (zX_125 cy ad S_9) rfl 0 (by decide) k5 (fun _ h9 => h9) rfl dX7_readNumber_39 ?_
          refine va_get (D := D) (ci := 9) (v := .ref (ad 2)) (C := RX9) (T := TX9) (N := 2) hx hb hts k6 hown hK hP 1 (zX_1 cy ad S_9) rfl 0 (by decide) k8 (fun _ h9 => h9) rfl dX7_readNumber_42 ?_
          refine lv_aload_n hx hb dX7_readNumber_45 rfl (lv_at hl 0 rfl) ?_
          refine va_get (D := D) (ci := 7) (v := .int (S_9.1 125 12)) (C := RX7) (T := TX7) (N := 16) hx hb hts k0 hown hK hP 125 (zX_125 cy ad S_9) rfl 12 (by decide) k2 (fun _ h9 => h9) rfl dX7_readNumber_46 ?_
          obtain ⟨h_11, hf⟩ := z_ix hf
          refine z_iald hx hb hK hP 2 0 (zX_2 cy ad S_9) rfl h_11 (k := ((S_9.1 125 12).toNatClampNeg)) rfl dX7_readNumber_49 ?_
          refine lv_iadd hx hb dX7_readNumber_50 ?_
          refine lv_bipush (v := 48) hx hb dX7_readNumber_51 (by decide) ?_
          refine lv_isub hx hb dX7_readNumber_53 ?_
          refine va_put (D := D) (ci := 7) (v := .int ((((S_9.1 125 15) * (10 : Int32)) + (S_9.1 2 ((S_9.1 125 12).toNatClampNeg))) - (48 : Int32))) (ty := .int) (C := RX7) (T := TX7) (N := 16) hx hb hts k0 tyX7 tyX7_ok nmX7 hown hK hP (hD S_9) hS 125 (zX_125 cy ad S_9) rfl 15 (by decide) k1 (fun _ h9 => h9) rfl (tyX7_ok 15 (by decide)) rfl rfl (Nat.le_of_ble_eq_true rfl) dX7_readNumber_54 (fun H locs hP _ hS => ?_)
          obtain ⟨S_12, eS_12, hf⟩ := z_nm hf
          have hP := zW_putI hP eS_12 (by decide) rfl
          refine lv_aload_n hx hb dX7_readNumber_57 rfl (lv_at hl 0 rfl) ?_
          refine lv_dup hx hb dX7_readNumber_58 rfl ?_
          refine va_get (D := D) (ci := 7) (v := .int (S_12.1 125 12)) (C := RX7) (T := TX7) (N := 16) hx hb hts k0 hown hK hP 125 (zX_125 cy ad S_12) rfl 12 (by decide) k2 (fun _ h9 => h9) rfl dX7_readNumber_59 ?_
          refine lv_iconst (v := 1) hx hb dX7_readNumber_62 (by decide) ?_
          refine lv_iadd hx hb dX7_readNumber_63 ?_
          refine va_put (D := D) (ci := 7) (v := .int ((S_12.1 125 12) + (1 : Int32))) (ty := .int) (C := RX7) (T := TX7) (N := 16) hx hb hts k0 tyX7 tyX7_ok nmX7 hown hK hP (hD S_12) hS 125 (zX_125 cy ad S_12) rfl 12 (by decide) k2 (fun _ h9 => h9) rfl (tyX7_ok 12 (by decide)) rfl rfl (Nat.le_of_ble_eq_true rfl) dX7_readNumber_64 (fun H locs hP _ hS => ?_)
          obtain ⟨S_13, eS_13, hf⟩ := z_nm hf
          have hP := zW_putI hP eS_13 (by decide) rfl
          refine lv_goto (tgt := 5) hx hb dX7_readNumber_67 (by decide) ?_
          exact ih_5  S_13 _ _ _ hf hP hS (lv_sub hl [0] rfl)
  exact L_5 zFU  S_1 _ _ _ hf hP hS (lv_sub hl [0] rfl)
def fx_Reader_skipBlanks_L0 (j_61 : zSt → Option (Unit × zSt)) : Nat → zSt → Option (Unit × zSt)
  | 0, _ => none
  | n_0 + 1, S_2 =>
    if (S_2.1 1 1) ≤ (S_2.1 125 12) then (
    j_61  S_2) else (
    zck (zix (S_2.1 125 12) 400) <|
    znm (fun (S_4 : zSt) =>
    znm (zpI S_4 125 12 ((S_4.1 125 12) + (1 : Int32))) fun S_5 =>
    fx_Reader_skipBlanks_L0 j_61 n_0  S_5) fun j_48 =>
    if (S_2.1 2 ((S_2.1 125 12).toNatClampNeg)) = (32 : Int32) then (
    j_48  S_2) else (
    zck (zix (S_2.1 125 12) 400) <|
    if (S_2.1 2 ((S_2.1 125 12).toNatClampNeg)) = (10 : Int32) then (
    j_48  S_2) else (
    j_61  S_2)))
def fx_Reader_skipBlanks (S_0 : zSt) : Option (Unit × zSt) :=
  znm (fun (S_1 : zSt) =>
  some ((), S_1)) fun j_61 =>
  fx_Reader_skipBlanks_L0 j_61 zFU  S_0
set_option maxHeartbeats 4000000 in
set_option maxRecDepth 100000 in
theorem cx_Reader_skipBlanks (l : Launch) (D : va_G) (K : (Nat → Nat) × (Nat → Nat)) (cy : Nat → ClassId) (ad : Nat → Nat) (S_0 : zSt) (So : zSt) (hf : fx_Reader_skipBlanks S_0 = some ((), So)) : zMV l yX7_skipBlanks (zws yX7_skipBlanks cX7_skipBlanks 1 none) ({ frames := 0, cells := 0, slots := 0, locals := 0 }) D (zTy cy) K (zX cy ad) [.ref (ad 125)] S_0 So := by
  refine z_metV (own := RX7) (lv := [(0, .ref (ad 125))]) (by decide) rfl rfl (Nat.le_of_ble_eq_true rfl) rfl ?_
  intro p e s m below meth c A Q X hK hE hD hA hret hP hS ls hl
  obtain ⟨hx, hb, hml, hown, hts⟩ := id X
  have k0 := (fun w h => List.mem_cons_of_mem _ (zFX7 w h) : ∀ w ∈ u_ws RX7 TX7 16, w ∈ zws yX7_skipBlanks cX7_skipBlanks 1 none)
  have k1 := hts _ (List.mem_cons_of_mem _ wt_2_65)
  have k2 := hts _ (List.mem_cons_of_mem _ wt_2_48)
  have k3 := (fun w h => List.mem_cons_of_mem _ (zFX9 w h) : ∀ w ∈ u_ws RX9 TX9 2, w ∈ zws yX7_skipBlanks cX7_skipBlanks 1 none)
  have k4 := hts _ (List.mem_cons_of_mem _ wt_1_42)
  have k5 := hts _ (List.mem_cons_of_mem _ wt_1_39)
  obtain ⟨j_61, ej_61, hf⟩ := z_nm hf
  have J_61 : ∀ (S_1 : zSt) (H : Heap) (locs : List Loc) (ls : Array Slot), j_61  S_1 = some ((), So) → va_P D vwCl (zX cy ad S_1) H → va_S A s.heap H locs → lv_has ls 1 [] → W p l e ({ frames := 0, cells := 0, slots := 0, locals := 0 }) s m ([.ref (ad 125)] : List Value).toArray below meth c H locs 0 0 Q (F0 m 61 ls []) := by
    intro  S_1 H locs ls hf hP hS hl
    have hf := z_e1 ej_61 hf
    obtain ⟨h1, h2⟩ := z_s2 hf
    subst h2
    exact hret _ _ _ _ hP hS dX7_skipBlanks_61
  have L_0 : ∀ (n_0 : Nat) (S_2 : zSt) (H : Heap) (locs : List Loc) (ls : Array Slot), fx_Reader_skipBlanks_L0 j_61 n_0  S_2 = some ((), So) → va_P D vwCl (zX cy ad S_2) H → va_S A s.heap H locs → lv_has ls 1 [(0, .ref (ad 125))] → W p l e ({ frames := 0, cells := 0, slots := 0, locals := 0 }) s m ([.ref (ad 125)] : List Value).toArray below meth c H locs 0 0 Q (F0 m 0 ls []) := by
    intro n_0
    induction n_0 with
    | zero =>
      intro  S_2 H locs ls hf hP hS hl
      exact z_no hf
    | succ n_0 ih_0 =>
      intro  S_2 H locs ls hf hP hS hl
      rw [fx_Reader_skipBlanks_L0] at hf
      refine lv_aload_n hx hb dX7_skipBlanks_0 rfl (lv_at hl 0 rfl) ?_
      refine va_get (D := D) (ci := 7) (v := .int (S_2.1 125 12)) (C := RX7) (T := TX7) (N := 16) hx hb hts k0 hown hK hP 125 (zX_125 cy ad S_2) rfl 12 (by decide) k1 (fun _ h9 => h9) rfl dX7_skipBlanks_1 ?_
      refine lv_aload_n hx hb dX7_skipBlanks_4 rfl (lv_at hl 0 rfl) ?_
      refine va_get (D := D) (ci := 7) (v := .ref (ad 1)) (C := RX7) (T := TX7) (N := 16) hx hb hts k0 hown hK hP 125 (zX_125 cy ad S_2) rfl 0 (by decide) k2 (fun _ h9 => h9) rfl dX7_skipBlanks_5 ?_
      refine va_get (D := D) (ci := 9) (v := .int (S_2.1 1 1)) (C := RX9) (T := TX9) (N := 2) hx hb hts k3 hown hK hP 1 (zX_1 cy ad S_2) rfl 1 (by decide) k4 (fun _ h9 => h9) rfl dX7_skipBlanks_8 ?_
      refine lv_icmp_ge (tgt := 61) hx hb dX7_skipBlanks_11 (by decide) (fun c_9 => ?_) (fun c_9 => ?_)
      · have hf := z_it c_9 hf
        exact J_61  S_2 _ _ _ hf hP hS (lv_sub hl [] rfl)
      · have hf := z_if c_9 hf
        refine lv_aload_n hx hb dX7_skipBlanks_14 rfl (lv_at hl 0 rfl) ?_
        refine va_get (D := D) (ci := 7) (v := .ref (ad 1)) (C := RX7) (T := TX7) (N := 16) hx hb hts k0 hown hK hP 125 (zX_125 cy ad S_2) rfl 0 (by decide) k2 (fun _ h9 => h9) rfl dX7_skipBlanks_15 ?_
        refine va_get (D := D) (ci := 9) (v := .ref (ad 2)) (C := RX9) (T := TX9) (N := 2) hx hb hts k3 hown hK hP 1 (zX_1 cy ad S_2) rfl 0 (by decide) k5 (fun _ h9 => h9) rfl dX7_skipBlanks_18 ?_
        refine lv_aload_n hx hb dX7_skipBlanks_21 rfl (lv_at hl 0 rfl) ?_
        refine va_get (D := D) (ci := 7) (v := .int (S_2.1 125 12)) (C := RX7) (T := TX7) (N := 16) hx hb hts k0 hown hK hP 125 (zX_125 cy ad S_2) rfl 12 (by decide) k1 (fun _ h9 => h9) rfl dX7_skipBlanks_22 ?_
        obtain ⟨h_3, hf⟩ := z_ix hf
        refine z_iald hx hb hK hP 2 0 (zX_2 cy ad S_2) rfl h_3 (k := ((S_2.1 125 12).toNatClampNeg)) rfl dX7_skipBlanks_25 ?_
        refine lv_bipush (v := 32) hx hb dX7_skipBlanks_26 (by decide) ?_
        obtain ⟨j_48, ej_48, hf⟩ := z_nm hf
        have J_48 : ∀ (S_4 : zSt) (H : Heap) (locs : List Loc) (ls : Array Slot), j_48  S_4 = some ((), So) → va_P D vwCl (zX cy ad S_4) H → va_S A s.heap H locs → lv_has ls 1 [(0, .ref (ad 125))] → W p l e ({ frames := 0, cells := 0, slots := 0, locals := 0 }) s m ([.ref (ad 125)] : List Value).toArray below meth c H locs 0 0 Q (F0 m 48 ls []) := by
          intro  S_4 H locs ls hf hP hS hl
          have hf := z_e1 ej_48 hf
          refine lv_aload_n hx hb dX7_skipBlanks_48 rfl (lv_at hl 0 rfl) ?_
          refine lv_dup hx hb dX7_skipBlanks_49 rfl ?_
          refine va_get (D := D) (ci := 7) (v := .int (S_4.1 125 12)) (C := RX7) (T := TX7) (N := 16) hx hb hts k0 hown hK hP 125 (zX_125 cy ad S_4) rfl 12 (by decide) k1 (fun _ h9 => h9) rfl dX7_skipBlanks_50 ?_
          refine lv_iconst (v := 1) hx hb dX7_skipBlanks_53 (by decide) ?_
          refine lv_iadd hx hb dX7_skipBlanks_54 ?_
          refine va_put (D := D) (ci := 7) (v := .int ((S_4.1 125 12) + (1 : Int32))) (ty := .int) (C := RX7) (T := TX7) (N := 16) hx hb hts k0 tyX7 tyX7_ok nmX7 hown hK hP (hD S_4) hS 125 (zX_125 cy ad S_4) rfl 12 (by decide) k1 (fun _ h9 => h9) rfl (tyX7_ok 12 (by decide)) rfl rfl (Nat.le_of_ble_eq_true rfl) dX7_skipBlanks_55 (fun H locs hP _ hS => ?_)
          obtain ⟨S_5, eS_5, hf⟩ := z_nm hf
          have hP := zW_putI hP eS_5 (by decide) rfl
          refine lv_goto (tgt := 0) hx hb dX7_skipBlanks_58 (by decide) ?_
          exact ih_0  S_5 _ _ _ hf hP hS (lv_sub hl [0] rfl)
        refine lv_icmp_eq (tgt := 48) hx hb dX7_skipBlanks_28 (by decide) (fun c_8 => ?_) (fun c_8 => ?_)
        · have hf := z_it c_8 hf
          exact J_48  S_2 _ _ _ hf hP hS (lv_sub hl [0] rfl)
        · have hf := z_if c_8 hf
          refine lv_aload_n hx hb dX7_skipBlanks_31 rfl (lv_at hl 0 rfl) ?_
          refine va_get (D := D) (ci := 7) (v := .ref (ad 1)) (C := RX7) (T := TX7) (N := 16) hx hb hts k0 hown hK hP 125 (zX_125 cy ad S_2) rfl 0 (by decide) k2 (fun _ h9 => h9) rfl dX7_skipBlanks_32 ?_
          refine va_get (D := D) (ci := 9) (v := .ref (ad 2)) (C := RX9) (T := TX9) (N := 2) hx hb hts k3 hown hK hP 1 (zX_1 cy ad S_2) rfl 0 (by decide) k5 (fun _ h9 => h9) rfl dX7_skipBlanks_35 ?_
          refine lv_aload_n hx hb dX7_skipBlanks_38 rfl (lv_at hl 0 rfl) ?_
          refine va_get (D := D) (ci := 7) (v := .int (S_2.1 125 12)) (C := RX7) (T := TX7) (N := 16) hx hb hts k0 hown hK hP 125 (zX_125 cy ad S_2) rfl 12 (by decide) k1 (fun _ h9 => h9) rfl dX7_skipBlanks_39 ?_
          obtain ⟨h_6, hf⟩ := z_ix hf
          refine z_iald hx hb hK hP 2 0 (zX_2 cy ad S_2) rfl h_6 (k := ((S_2.1 125 12).toNatClampNeg)) rfl dX7_skipBlanks_42 ?_
          refine lv_bipush (v := 10) hx hb dX7_skipBlanks_43 (by decide) ?_
          refine lv_icmp_ne (tgt := 61) hx hb dX7_skipBlanks_45 (by decide) (fun c_7 => ?_) (fun c_7 => ?_)
          · have hf := z_if c_7 hf
            exact J_61  S_2 _ _ _ hf hP hS (lv_sub hl [] rfl)
          · have hf := z_it c_7 hf
            exact J_48  S_2 _ _ _ hf hP hS (lv_sub hl [0] rfl)
  exact L_0 zFU  S_0 _ _ _ hf hP hS (lv_sub hl [0] rfl)
def fx_Reader_readToken (S_0 : zSt) : Option (Unit × zSt) :=
  zbd (fx_Reader_skipBlanks S_0) fun _ S_2 =>
  znm (zpI S_2 125 13 (S_2.1 125 12)) fun S_4 =>
  znm (fun (S_5 : zSt) =>
  some ((), S_5)) fun j_125 =>
  if (S_4.1 125 12) < (S_4.1 1 1) then (
  zbd (fx_Reader_isLetter S_4 (S_4.1 125 12)) fun r_6 S_7 =>
  if r_6 = 0 then (
  zbd (fx_Reader_isDigit S_7 (S_7.1 125 12)) fun r_9 S_10 =>
  if r_9 = 0 then (
  zck (zix (S_10.1 125 12) 400) <|
  zbd (fj0_indexOf 1 S_10 (((S_10.1 2 ((S_10.1 125 12).toNatClampNeg)).toUInt32 % 65536).toInt32)) fun r_13 S_14 =>
  znm (fun (x_16 : Int32) (S_17 : zSt) =>
  znm (zpI S_17 125 14 x_16) fun S_18 =>
  znm (zpI S_18 125 12 ((S_18.1 125 12) + (1 : Int32))) fun S_19 =>
  j_125  S_19) fun j_112 =>
  if 0 ≤ r_13 then (
  zck (zix (S_14.1 125 12) 400) <|
  j_112 (S_14.1 2 ((S_14.1 125 12).toNatClampNeg)) S_14) else (
  j_112 (302 : Int32) S_14)) else (
  zbd (fx_Reader_readNumber S_10) fun _ S_23 =>
  j_125  S_23)) else (
  zbd (fx_Reader_readKeyword S_7) fun _ S_27 =>
  j_125  S_27)) else (
  znm (zpI S_4 125 14 (301 : Int32)) fun S_30 =>
  j_125  S_30)
set_option maxHeartbeats 4000000 in
set_option maxRecDepth 100000 in
theorem cx_Reader_readToken (l : Launch) (D : va_G) (K : (Nat → Nat) × (Nat → Nat)) (cy : Nat → ClassId) (ad : Nat → Nat) (S_0 : zSt) (So : zSt) (hf : fx_Reader_readToken S_0 = some ((), So)) : zMV l yX7_readToken (zws yX7_readToken cX7_readToken 1 none) ({ frames := 6, cells := 0, slots := 0, locals := 266 }) D (zTy cy) K (zX cy ad) [.ref (ad 125)] S_0 So := by
  refine z_metV (own := RX7) (lv := [(0, .ref (ad 125))]) (by decide) rfl rfl (Nat.le_of_ble_eq_true rfl) rfl ?_
  intro p e s m below meth c A Q X hK hE hD hA hret hP hS ls hl
  obtain ⟨hx, hb, hml, hown, hts⟩ := id X
  have k0 := (fun w h => List.mem_cons_of_mem _ (zFX7 w h) : ∀ w ∈ u_ws RX7 TX7 16, w ∈ zws yX7_readToken cX7_readToken 1 none)
  have k1 := hts _ (List.mem_cons_of_mem _ wt_2_65)
  have k2 := hts _ (List.mem_cons_of_mem _ wt_2_66)
  have k3 := hts _ (List.mem_cons_of_mem _ wt_2_48)
  have k4 := (fun w h => List.mem_cons_of_mem _ (zFX9 w h) : ∀ w ∈ u_ws RX9 TX9 2, w ∈ zws yX7_readToken cX7_readToken 1 none)
  have k5 := hts _ (List.mem_cons_of_mem _ wt_1_42)
  have k6 := hts _ (List.mem_cons_of_mem _ wt_1_39)
  have k7 := hts _ (List.mem_cons_of_mem _ wt_2_67)
  refine lv_aload_n hx hb dX7_readToken_0 rfl (lv_at hl 0 rfl) ?_
  obtain ⟨r_1, S_2, h_3, hf⟩ := z_bd hf
  refine z_cVV (As := []) (rest := []) X hK hE hD hA hP hS (cx_Reader_skipBlanks l D K cy ad S_0 _ h_3) (cwV 0 hts (z_gV wt_3_32 wt_3_34 wp_2 wt_1_10 wt_3_35) rfl rfl rfl ⟨rfl, yd_yX7_skipBlanks⟩ ⟨Nat.le_of_ble_eq_true rfl, Nat.le_of_ble_eq_true rfl⟩) (va_recv hK hP (ci := 7) (q0 := 125) rfl (zX_125 cy ad S_0)) hl.1 rfl rfl (Nat.le_of_ble_eq_true rfl) dX7_readToken_1 (fun H locs hP hS => ?_)
  refine lv_aload_n hx hb dX7_readToken_4 rfl (lv_at hl 0 rfl) ?_
  refine lv_aload_n hx hb dX7_readToken_5 rfl (lv_at hl 0 rfl) ?_
  refine va_get (D := D) (ci := 7) (v := .int (S_2.1 125 12)) (C := RX7) (T := TX7) (N := 16) hx hb hts k0 hown hK hP 125 (zX_125 cy ad S_2) rfl 12 (by decide) k1 (fun _ h9 => h9) rfl dX7_readToken_6 ?_
  refine va_put (D := D) (ci := 7) (v := .int (S_2.1 125 12)) (ty := .int) (C := RX7) (T := TX7) (N := 16) hx hb hts k0 tyX7 tyX7_ok nmX7 hown hK hP (hD S_2) hS 125 (zX_125 cy ad S_2) rfl 13 (by decide) k2 (fun _ h9 => h9) rfl (tyX7_ok 13 (by decide)) rfl rfl (Nat.le_of_ble_eq_true rfl) dX7_readToken_9 (fun H locs hP _ hS => ?_)
  obtain ⟨S_4, eS_4, hf⟩ := z_nm hf
  have hP := zW_putI hP eS_4 (by decide) rfl
  refine lv_aload_n hx hb dX7_readToken_12 rfl (lv_at hl 0 rfl) ?_
  refine va_get (D := D) (ci := 7) (v := .int (S_4.1 125 12)) (C := RX7) (T := TX7) (N := 16) hx hb hts k0 hown hK hP 125 (zX_125 cy ad S_4) rfl 12 (by decide) k1 (fun _ h9 => h9) rfl dX7_readToken_13 ?_
  refine lv_aload_n hx hb dX7_readToken_16 rfl (lv_at hl 0 rfl) ?_
  refine va_get (D := D) (ci := 7) (v := .ref (ad 1)) (C := RX7) (T := TX7) (N := 16) hx hb hts k0 hown hK hP 125 (zX_125 cy ad S_4) rfl 0 (by decide) k3 (fun _ h9 => h9) rfl dX7_readToken_17 ?_
  refine va_get (D := D) (ci := 9) (v := .int (S_4.1 1 1)) (C := RX9) (T := TX9) (N := 2) hx hb hts k4 hown hK hP 1 (zX_1 cy ad S_4) rfl 1 (by decide) k5 (fun _ h9 => h9) rfl dX7_readToken_20 ?_
  obtain ⟨j_125, ej_125, hf⟩ := z_nm hf
  have J_125 : ∀ (S_5 : zSt) (H : Heap) (locs : List Loc) (ls : Array Slot), j_125  S_5 = some ((), So) → va_P D vwCl (zX cy ad S_5) H → va_S A s.heap H locs → lv_has ls 1 [] → W p l e ({ frames := 6, cells := 0, slots := 0, locals := 266 }) s m ([.ref (ad 125)] : List Value).toArray below meth c H locs 0 0 Q (F0 m 125 ls []) := by
    intro  S_5 H locs ls hf hP hS hl
    have hf := z_e1 ej_125 hf
    obtain ⟨h1, h2⟩ := z_s2 hf
    subst h2
    exact hret _ _ _ _ hP hS dX7_readToken_125
  refine lv_icmp_lt (tgt := 36) hx hb dX7_readToken_23 (by decide) (fun c_31 => ?_) (fun c_31 => ?_)
  · have hf := z_it c_31 hf
    refine lv_aload_n hx hb dX7_readToken_36 rfl (lv_at hl 0 rfl) ?_
    refine lv_aload_n hx hb dX7_readToken_37 rfl (lv_at hl 0 rfl) ?_
    refine va_get (D := D) (ci := 7) (v := .int (S_4.1 125 12)) (C := RX7) (T := TX7) (N := 16) hx hb hts k0 hown hK hP 125 (zX_125 cy ad S_4) rfl 12 (by decide) k1 (fun _ h9 => h9) rfl dX7_readToken_38 ?_
    obtain ⟨r_6, S_7, h_8, hf⟩ := z_bd hf
    refine z_cVI (As := [.int (S_4.1 125 12)]) (rest := []) X hK hE hD hA hP hS (cx_Reader_isLetter l D K cy ad S_4 _ _ _ h_8) (cwV 1 hts (z_gV wt_3_36 wt_3_38 wp_3 wt_1_10 wt_3_39) rfl rfl rfl ⟨rfl, yd_yX7_isLetter⟩ ⟨Nat.le_of_ble_eq_true rfl, Nat.le_of_ble_eq_true rfl⟩) (va_recv hK hP (ci := 7) (q0 := 125) rfl (zX_125 cy ad S_4)) hl.1 rfl rfl (Nat.le_of_ble_eq_true rfl) dX7_readToken_41 (fun H locs hP hS => ?_)
    refine lv_if_eq (tgt := 54) hx hb dX7_readToken_44 (by decide) (fun c_29 => ?_) (fun c_29 => ?_)
    · have hf := z_it c_29 hf
      refine lv_aload_n hx hb dX7_readToken_54 rfl (lv_at hl 0 rfl) ?_
      refine lv_aload_n hx hb dX7_readToken_55 rfl (lv_at hl 0 rfl) ?_
      refine va_get (D := D) (ci := 7) (v := .int (S_7.1 125 12)) (C := RX7) (T := TX7) (N := 16) hx hb hts k0 hown hK hP 125 (zX_125 cy ad S_7) rfl 12 (by decide) k1 (fun _ h9 => h9) rfl dX7_readToken_56 ?_
      obtain ⟨r_9, S_10, h_11, hf⟩ := z_bd hf
      refine z_cVI (As := [.int (S_7.1 125 12)]) (rest := []) X hK hE hD hA hP hS (cx_Reader_isDigit l D K cy ad S_7 _ _ _ h_11) (cwV 1 hts (z_gV wt_3_90 wt_3_92 wp_6 wt_1_10 wt_3_93) rfl rfl rfl ⟨rfl, yd_yX7_isDigit⟩ ⟨Nat.le_of_ble_eq_true rfl, Nat.le_of_ble_eq_true rfl⟩) (va_recv hK hP (ci := 7) (q0 := 125) rfl (zX_125 cy ad S_7)) hl.1 rfl rfl (Nat.le_of_ble_eq_true rfl) dX7_readToken_59 (fun H locs hP hS => ?_)
      refine lv_if_eq (tgt := 72) hx hb dX7_readToken_62 (by decide) (fun c_25 => ?_) (fun c_25 => ?_)
      · have hf := z_it c_25 hf
        refine lv_aload_n hx hb dX7_readToken_72 rfl (lv_at hl 0 rfl) ?_
        refine va_ldcS hx hb hown (zR_1 hE) dX7_readToken_73 ?_
        refine lv_aload_n hx hb dX7_readToken_75 rfl (lv_at hl 0 rfl) ?_
        refine va_get (D := D) (ci := 7) (v := .ref (ad 1)) (C := RX7) (T := TX7) (N := 16) hx hb hts k0 hown hK hP 125 (zX_125 cy ad S_10) rfl 0 (by decide) k3 (fun _ h9 => h9) rfl dX7_readToken_76 ?_
        refine va_get (D := D) (ci := 9) (v := .ref (ad 2)) (C := RX9) (T := TX9) (N := 2) hx hb hts k4 hown hK hP 1 (zX_1 cy ad S_10) rfl 0 (by decide) k6 (fun _ h9 => h9) rfl dX7_readToken_79 ?_
        refine lv_aload_n hx hb dX7_readToken_82 rfl (lv_at hl 0 rfl) ?_
        refine va_get (D := D) (ci := 7) (v := .int (S_10.1 125 12)) (C := RX7) (T := TX7) (N := 16) hx hb hts k0 hown hK hP 125 (zX_125 cy ad S_10) rfl 12 (by decide) k1 (fun _ h9 => h9) rfl dX7_readToken_83 ?_
        obtain ⟨h_12, hf⟩ := z_ix hf
        refine z_iald hx hb hK hP 2 0 (zX_2 cy ad S_10) rfl h_12 (k := ((S_10.1 125 12).toNatClampNeg)) rfl dX7_readToken_86 ?_
        refine lv_i2c hx hb dX7_readToken_87 rfl ?_
        obtain ⟨r_13, S_14, h_15, hf⟩ := z_bd hf
        refine z_cVI (As := [.int (((S_10.1 2 ((S_10.1 125 12).toNatClampNeg)).toUInt32 % 65536).toInt32)]) (rest := [.ref (ad 125)]) X hK hE hD hA hP hS (cj0_indexOf l D K _ _ _ _ 1 (by decide) S_10 _ _ _ h_15) (cwV 1 hts (z_gV wt_3_99 wt_3_100 wt_3_101 wt_1_14 wt_3_102) rfl rfl rfl ⟨rfl, yd_yJ0_indexOf_0f7a4⟩ ⟨Nat.le_of_ble_eq_true rfl, Nat.le_of_ble_eq_true rfl⟩) (vk_recv hE.1 (by decide) hS) hl.1 rfl rfl (Nat.le_of_ble_eq_true rfl) dX7_readToken_88 (fun H locs hP hS => ?_)
        obtain ⟨j_112, ej_112, hf⟩ := z_nm hf
        have J_112 : ∀ (x_16 : Int32) (S_17 : zSt) (H : Heap) (locs : List Loc) (ls : Array Slot), j_112 x_16 S_17 = some ((), So) → va_P D vwCl (zX cy ad S_17) H → va_S A s.heap H locs → lv_has ls 1 [(0, .ref (ad 125))] → W p l e ({ frames := 6, cells := 0, slots := 0, locals := 266 }) s m ([.ref (ad 125)] : List Value).toArray below meth c H locs 0 0 Q (F0 m 112 ls [.int x_16, .ref (ad 125)]) := by
          intro x_16 S_17 H locs ls hf hP hS hl
          have hf := z_e2 ej_112 hf
          refine va_put (D := D) (ci := 7) (v := .int x_16) (ty := .int) (C := RX7) (T := TX7) (N := 16) hx hb hts k0 tyX7 tyX7_ok nmX7 hown hK hP (hD S_17) hS 125 (zX_125 cy ad S_17) rfl 14 (by decide) k7 (fun _ h9 => h9) rfl (tyX7_ok 14 (by decide)) rfl rfl (Nat.le_of_ble_eq_true rfl) dX7_readToken_112 (fun H locs hP _ hS => ?_)
          obtain ⟨S_18, eS_18, hf⟩ := z_nm hf
          have hP := zW_putI hP eS_18 (by decide) rfl
          refine lv_aload_n hx hb dX7_readToken_115 rfl (lv_at hl 0 rfl) ?_
          refine lv_dup hx hb dX7_readToken_116 rfl ?_
          refine va_get (D := D) (ci := 7) (v := .int (S_18.1 125 12)) (C := RX7) (T := TX7) (N := 16) hx hb hts k0 hown hK hP 125 (zX_125 cy ad S_18) rfl 12 (by decide) k1 (fun _ h9 => h9) rfl dX7_readToken_117 ?_
          refine lv_iconst (v := 1) hx hb dX7_readToken_120 (by decide) ?_
          refine lv_iadd hx hb dX7_readToken_121 ?_
          refine va_put (D := D) (ci := 7) (v := .int ((S_18.1 125 12) + (1 : Int32))) (ty := .int) (C := RX7) (T := TX7) (N := 16) hx hb hts k0 tyX7 tyX7_ok nmX7 hown hK hP (hD S_18) hS 125 (zX_125 cy ad S_18) rfl 12 (by decide) k1 (fun _ h9 => h9) rfl (tyX7_ok 12 (by decide)) rfl rfl (Nat.le_of_ble_eq_true rfl) dX7_readToken_122 (fun H locs hP _ hS => ?_)
          obtain ⟨S_19, eS_19, hf⟩ := z_nm hf
          have hP := zW_putI hP eS_19 (by decide) rfl
          exact J_125  S_19 _ _ _ hf hP hS (lv_sub hl [] rfl)
        refine lv_if_ge (tgt := 100) hx hb dX7_readToken_91 (by decide) (fun c_21 => ?_) (fun c_21 => ?_)
        · have hf := z_it c_21 hf
          refine lv_aload_n hx hb dX7_readToken_100 rfl (lv_at hl 0 rfl) ?_
          refine va_get (D := D) (ci := 7) (v := .ref (ad 1)) (C := RX7) (T := TX7) (N := 16) hx hb hts k0 hown hK hP 125 (zX_125 cy ad S_14) rfl 0 (by decide) k3 (fun _ h9 => h9) rfl dX7_readToken_101 ?_
          refine va_get (D := D) (ci := 9) (v := .ref (ad 2)) (C := RX9) (T := TX9) (N := 2) hx hb hts k4 hown hK hP 1 (zX_1 cy ad S_14) rfl 0 (by decide) k6 (fun _ h9 => h9) rfl dX7_readToken_104 ?_
          refine lv_aload_n hx hb dX7_readToken_107 rfl (lv_at hl 0 rfl) ?_
          refine va_get (D := D) (ci := 7) (v := .int (S_14.1 125 12)) (C := RX7) (T := TX7) (N := 16) hx hb hts k0 hown hK hP 125 (zX_125 cy ad S_14) rfl 12 (by decide) k1 (fun _ h9 => h9) rfl dX7_readToken_108 ?_
          obtain ⟨h_20, hf⟩ := z_ix hf
          refine z_iald hx hb hK hP 2 0 (zX_2 cy ad S_14) rfl h_20 (k := ((S_14.1 125 12).toNatClampNeg)) rfl dX7_readToken_111 ?_
          exact J_112 (S_14.1 2 ((S_14.1 125 12).toNatClampNeg)) S_14 _ _ _ hf hP hS (lv_sub hl [0] rfl)
        · have hf := z_if c_21 hf
          refine lv_sipush (v := 302) hx hb dX7_readToken_94 (by decide) ?_
          refine lv_goto (tgt := 112) hx hb dX7_readToken_97 (by decide) ?_
          exact J_112 (302 : Int32) S_14 _ _ _ hf hP hS (lv_sub hl [0] rfl)
      · have hf := z_if c_25 hf
        refine lv_aload_n hx hb dX7_readToken_65 rfl (lv_at hl 0 rfl) ?_
        obtain ⟨r_22, S_23, h_24, hf⟩ := z_bd hf
        refine z_cVV (As := []) (rest := []) X hK hE hD hA hP hS (cx_Reader_readNumber l D K cy ad S_10 _ h_24) (cwV 0 hts (z_gV wt_3_94 wt_3_96 wp_7 wt_1_10 wt_3_97) rfl rfl rfl ⟨rfl, yd_yX7_readNumber⟩ ⟨Nat.le_of_ble_eq_true rfl, Nat.le_of_ble_eq_true rfl⟩) (va_recv hK hP (ci := 7) (q0 := 125) rfl (zX_125 cy ad S_10)) hl.1 rfl rfl (Nat.le_of_ble_eq_true rfl) dX7_readToken_66 (fun H locs hP hS => ?_)
        refine lv_goto (tgt := 125) hx hb dX7_readToken_69 (by decide) ?_
        exact J_125  S_23 _ _ _ hf hP hS (lv_sub hl [] rfl)
    · have hf := z_if c_29 hf
      refine lv_aload_n hx hb dX7_readToken_47 rfl (lv_at hl 0 rfl) ?_
      obtain ⟨r_26, S_27, h_28, hf⟩ := z_bd hf
      refine z_cVV (As := []) (rest := []) X hK hE hD hA hP hS (cx_Reader_readKeyword l D K cy ad S_7 _ h_28) (cwV 0 hts (z_gV wt_3_41 wt_3_43 wp_4 wt_1_10 wt_3_44) rfl rfl rfl ⟨rfl, yd_yX7_readKeyword⟩ ⟨Nat.le_of_ble_eq_true rfl, Nat.le_of_ble_eq_true rfl⟩) (va_recv hK hP (ci := 7) (q0 := 125) rfl (zX_125 cy ad S_7)) hl.1 rfl rfl (Nat.le_of_ble_eq_true rfl) dX7_readToken_48 (fun H locs hP hS => ?_)
      refine lv_goto (tgt := 125) hx hb dX7_readToken_51 (by decide) ?_
      exact J_125  S_27 _ _ _ hf hP hS (lv_sub hl [] rfl)
  · have hf := z_if c_31 hf
    refine lv_aload_n hx hb dX7_readToken_26 rfl (lv_at hl 0 rfl) ?_
    refine lv_sipush (v := 301) hx hb dX7_readToken_27 (by decide) ?_
    refine va_put (D := D) (ci := 7) (v := .int (301 : Int32)) (ty := .int) (C := RX7) (T := TX7) (N := 16) hx hb hts k0 tyX7 tyX7_ok nmX7 hown hK hP (hD S_4) hS 125 (zX_125 cy ad S_4) rfl 14 (by decide) k7 (fun _ h9 => h9) rfl (tyX7_ok 14 (by decide)) rfl rfl (Nat.le_of_ble_eq_true rfl) dX7_readToken_30 (fun H locs hP _ hS => ?_)
    obtain ⟨S_30, eS_30, hf⟩ := z_nm hf
    have hP := zW_putI hP eS_30 (by decide) rfl
    refine lv_goto (tgt := 125) hx hb dX7_readToken_33 (by decide) ?_
    exact J_125  S_30 _ _ _ hf hP hS (lv_sub hl [] rfl)
def fx_Reader_read_L6 : Nat → Int32 → zSt → Option (Int32 × zSt)
  | 0, _, _ => none
  | n_6 + 1, x_4, S_5 =>
    if (S_5.1 1 1) < x_4 then (
    some ((0 : Int32), S_5)) else (
    zbd (fx_Reader_readToken S_5) fun _ S_7 =>
    znm (fun (S_9 : zSt) =>
    zbd (fx_Reader_judge S_9) fun r_10 S_11 =>
    znm (zpI S_11 125 4 r_10) fun S_13 =>
    if (S_13.1 125 4) = 0 then (
    znm (x_4 + (1 : Int32)) fun x_14 =>
    fx_Reader_read_L6 n_6 x_14 S_13) else (
    znm (zpI S_13 125 5 (S_13.1 125 13)) fun S_15 =>
    some ((0 : Int32), S_15))) fun j_40 =>
    if (S_7.1 125 14) = (301 : Int32) then (
    if (S_7.1 125 8) = 0 then (
    some ((1 : Int32), S_7)) else (
    j_40  S_7)) else (
    j_40  S_7))
def fx_Reader_read (S_0 : zSt) : Option (Int32 × zSt) :=
  zbd (fx_Reader_begin S_0) fun _ S_2 =>
  fx_Reader_read_L6 zFU (0 : Int32) S_2
set_option maxHeartbeats 4000000 in
set_option maxRecDepth 100000 in
theorem cx_Reader_read (l : Launch) (D : va_G) (K : (Nat → Nat) × (Nat → Nat)) (cy : Nat → ClassId) (ad : Nat → Nat) (S_0 : zSt) (ro : Int32) (So : zSt) (hf : fx_Reader_read S_0 = some (ro, So)) : zMI l yX7_read (zws yX7_read cX7_read 2 (Option.some .boolean)) ({ frames := 7, cells := 0, slots := 0, locals := 286 }) D (zTy cy) K (zX cy ad) [.ref (ad 125)] S_0 ro So := by
  refine z_metZ (own := RX7) (lv := [(0, .ref (ad 125))]) (by decide) rfl rfl (Nat.le_of_ble_eq_true rfl) rfl ?_
  intro p e s m below meth c A Q X hK hE hD hA hret hP hS ls hl
  obtain ⟨hx, hb, hml, hown, hts⟩ := id X
  have k0 := (fun w h => List.mem_cons_of_mem _ (zFX7 w h) : ∀ w ∈ u_ws RX7 TX7 16, w ∈ zws yX7_read cX7_read 2 (Option.some .boolean))
  have k1 := hts _ (List.mem_cons_of_mem _ wt_2_48)
  have k2 := (fun w h => List.mem_cons_of_mem _ (zFX9 w h) : ∀ w ∈ u_ws RX9 TX9 2, w ∈ zws yX7_read cX7_read 2 (Option.some .boolean))
  have k3 := hts _ (List.mem_cons_of_mem _ wt_1_42)
  have k4 := hts _ (List.mem_cons_of_mem _ wt_2_67)
  have k5 := hts _ (List.mem_cons_of_mem _ wt_2_55)
  have k6 := hts _ (List.mem_cons_of_mem _ wt_2_66)
  have k7 := hts _ (List.mem_cons_of_mem _ wt_2_57)
  have k8 := hts _ (List.mem_cons_of_mem _ wt_2_61)
  refine lv_aload_n hx hb dX7_read_0 rfl (lv_at hl 0 rfl) ?_
  obtain ⟨r_1, S_2, h_3, hf⟩ := z_bd hf
  refine z_cVV (As := []) (rest := []) X hK hE hD hA hP hS (cx_Reader_begin l D K cy ad S_0 _ h_3) (cwV 0 hts (z_gV wt_3_24 wt_3_26 wp_0 wt_1_10 wt_3_27) rfl rfl rfl ⟨rfl, yd_yX7_begin⟩ ⟨Nat.le_of_ble_eq_true rfl, Nat.le_of_ble_eq_true rfl⟩) (va_recv hK hP (ci := 7) (q0 := 125) rfl (zX_125 cy ad S_0)) hl.1 rfl rfl (Nat.le_of_ble_eq_true rfl) dX7_read_1 (fun H locs hP hS => ?_)
  refine lv_iconst (v := 0) hx hb dX7_read_4 (by decide) ?_
  refine lv_istore_n (lv' := [(1, .int (0 : Int32)), (0, .ref (ad 125))]) hx hb dX7_read_5 rfl hl (by decide) rfl (fun ls hl => ?_)
  have L_6 : ∀ (n_6 : Nat) (x_4 : Int32) (S_5 : zSt) (H : Heap) (locs : List Loc) (ls : Array Slot), fx_Reader_read_L6 n_6 x_4 S_5 = some (ro, So) → va_P D vwCl (zX cy ad S_5) H → va_S A s.heap H locs → lv_has ls 2 [(0, .ref (ad 125)), (1, .int x_4)] → W p l e ({ frames := 7, cells := 0, slots := 0, locals := 286 }) s m ([.ref (ad 125)] : List Value).toArray below meth c H locs 0 0 Q (F0 m 6 ls []) := by
    intro n_6
    induction n_6 with
    | zero =>
      intro x_4 S_5 H locs ls hf hP hS hl
      exact z_no hf
    | succ n_6 ih_6 =>
      intro x_4 S_5 H locs ls hf hP hS hl
      rw [fx_Reader_read_L6] at hf
      refine lv_iload_n hx hb dX7_read_6 rfl (lv_at hl 1 rfl) ?_
      refine lv_aload_n hx hb dX7_read_7 rfl (lv_at hl 0 rfl) ?_
      refine va_get (D := D) (ci := 7) (v := .ref (ad 1)) (C := RX7) (T := TX7) (N := 16) hx hb hts k0 hown hK hP 125 (zX_125 cy ad S_5) rfl 0 (by decide) k1 (fun _ h9 => h9) rfl dX7_read_8 ?_
      refine va_get (D := D) (ci := 9) (v := .int (S_5.1 1 1)) (C := RX9) (T := TX9) (N := 2) hx hb hts k2 hown hK hP 1 (zX_1 cy ad S_5) rfl 1 (by decide) k3 (fun _ h9 => h9) rfl dX7_read_11 ?_
      refine lv_icmp_gt (tgt := 71) hx hb dX7_read_14 (by decide) (fun c_19 => ?_) (fun c_19 => ?_)
      · have hf := z_it c_19 hf
        refine lv_iconst (v := 0) hx hb dX7_read_71 (by decide) ?_
        obtain ⟨h1, h2⟩ := z_s2 hf
        subst h1 h2
        exact hret _ _ _ _ rfl hP hS dX7_read_72
      · have hf := z_if c_19 hf
        refine lv_aload_n hx hb dX7_read_17 rfl (lv_at hl 0 rfl) ?_
        obtain ⟨r_6, S_7, h_8, hf⟩ := z_bd hf
        refine z_cVV (As := []) (rest := []) X hK hE hD hA hP hS (cx_Reader_readToken l D K cy ad S_5 _ h_8) (cwV 0 hts (z_gV wt_3_28 wt_3_30 wp_1 wt_1_10 wt_3_31) rfl rfl rfl ⟨rfl, yd_yX7_readToken⟩ ⟨Nat.le_of_ble_eq_true rfl, Nat.le_of_ble_eq_true rfl⟩) (va_recv hK hP (ci := 7) (q0 := 125) rfl (zX_125 cy ad S_5)) hl.1 rfl rfl (Nat.le_of_ble_eq_true rfl) dX7_read_18 (fun H locs hP hS => ?_)
        refine lv_aload_n hx hb dX7_read_21 rfl (lv_at hl 0 rfl) ?_
        refine va_get (D := D) (ci := 7) (v := .int (S_7.1 125 14)) (C := RX7) (T := TX7) (N := 16) hx hb hts k0 hown hK hP 125 (zX_125 cy ad S_7) rfl 14 (by decide) k4 (fun _ h9 => h9) rfl dX7_read_22 ?_
        refine lv_sipush (v := 301) hx hb dX7_read_25 (by decide) ?_
        obtain ⟨j_40, ej_40, hf⟩ := z_nm hf
        have J_40 : ∀ (S_9 : zSt) (H : Heap) (locs : List Loc) (ls : Array Slot), j_40  S_9 = some (ro, So) → va_P D vwCl (zX cy ad S_9) H → va_S A s.heap H locs → lv_has ls 2 [(0, .ref (ad 125)), (1, .int x_4)] → W p l e ({ frames := 7, cells := 0, slots := 0, locals := 286 }) s m ([.ref (ad 125)] : List Value).toArray below meth c H locs 0 0 Q (F0 m 40 ls []) := by
          intro  S_9 H locs ls hf hP hS hl
          have hf := z_e1 ej_40 hf
          refine lv_aload_n hx hb dX7_read_40 rfl (lv_at hl 0 rfl) ?_
          refine lv_aload_n hx hb dX7_read_41 rfl (lv_at hl 0 rfl) ?_
          obtain ⟨r_10, S_11, h_12, hf⟩ := z_bd hf
          refine z_cVI (As := []) (rest := [.ref (ad 125)]) X hK hE hD hA hP hS (cx_Reader_judge l D K cy ad S_9 _ _ h_12) (cwV 0 hts (z_gV wt_3_165 wt_3_167 wp_8 wt_1_10 wt_3_168) rfl rfl rfl ⟨rfl, yd_yX7_judge⟩ ⟨Nat.le_of_ble_eq_true rfl, Nat.le_of_ble_eq_true rfl⟩) (va_recv hK hP (ci := 7) (q0 := 125) rfl (zX_125 cy ad S_9)) hl.1 rfl rfl (Nat.le_of_ble_eq_true rfl) dX7_read_42 (fun H locs hP hS => ?_)
          refine va_put (D := D) (ci := 7) (v := .int r_10) (ty := .int) (C := RX7) (T := TX7) (N := 16) hx hb hts k0 tyX7 tyX7_ok nmX7 hown hK hP (hD S_11) hS 125 (zX_125 cy ad S_11) rfl 4 (by decide) k5 (fun _ h9 => h9) rfl (tyX7_ok 4 (by decide)) rfl rfl (Nat.le_of_ble_eq_true rfl) dX7_read_45 (fun H locs hP _ hS => ?_)
          obtain ⟨S_13, eS_13, hf⟩ := z_nm hf
          have hP := zW_putI hP eS_13 (by decide) rfl
          refine lv_aload_n hx hb dX7_read_48 rfl (lv_at hl 0 rfl) ?_
          refine va_get (D := D) (ci := 7) (v := .int (S_13.1 125 4)) (C := RX7) (T := TX7) (N := 16) hx hb hts k0 hown hK hP 125 (zX_125 cy ad S_13) rfl 4 (by decide) k5 (fun _ h9 => h9) rfl dX7_read_49 ?_
          refine lv_if_eq (tgt := 65) hx hb dX7_read_52 (by decide) (fun c_16 => ?_) (fun c_16 => ?_)
          · have hf := z_it c_16 hf
            obtain ⟨x_14, ex_14, hf⟩ := z_nm hf
            refine lv_iinc (v := x_14) (lv' := [(1, .int x_14), (0, .ref (ad 125))]) hx hb dX7_read_65 hl (k := 1) rfl (by rw [ex_14]; rfl) (by decide) rfl (fun ls hl => ?_)
            refine lv_goto (tgt := 6) hx hb dX7_read_68 (by decide) ?_
            exact ih_6 x_14 S_13 _ _ _ hf hP hS (lv_sub hl [1, 0] rfl)
          · have hf := z_if c_16 hf
            refine lv_aload_n hx hb dX7_read_55 rfl (lv_at hl 0 rfl) ?_
            refine lv_aload_n hx hb dX7_read_56 rfl (lv_at hl 0 rfl) ?_
            refine va_get (D := D) (ci := 7) (v := .int (S_13.1 125 13)) (C := RX7) (T := TX7) (N := 16) hx hb hts k0 hown hK hP 125 (zX_125 cy ad S_13) rfl 13 (by decide) k6 (fun _ h9 => h9) rfl dX7_read_57 ?_
            refine va_put (D := D) (ci := 7) (v := .int (S_13.1 125 13)) (ty := .int) (C := RX7) (T := TX7) (N := 16) hx hb hts k0 tyX7 tyX7_ok nmX7 hown hK hP (hD S_13) hS 125 (zX_125 cy ad S_13) rfl 5 (by decide) k7 (fun _ h9 => h9) rfl (tyX7_ok 5 (by decide)) rfl rfl (Nat.le_of_ble_eq_true rfl) dX7_read_60 (fun H locs hP _ hS => ?_)
            obtain ⟨S_15, eS_15, hf⟩ := z_nm hf
            have hP := zW_putI hP eS_15 (by decide) rfl
            refine lv_iconst (v := 0) hx hb dX7_read_63 (by decide) ?_
            obtain ⟨h1, h2⟩ := z_s2 hf
            subst h1 h2
            exact hret _ _ _ _ rfl hP hS dX7_read_64
        refine lv_icmp_ne (tgt := 40) hx hb dX7_read_28 (by decide) (fun c_18 => ?_) (fun c_18 => ?_)
        · have hf := z_if c_18 hf
          exact J_40  S_7 _ _ _ hf hP hS (lv_sub hl [0, 1] rfl)
        · have hf := z_it c_18 hf
          refine lv_aload_n hx hb dX7_read_31 rfl (lv_at hl 0 rfl) ?_
          refine va_get (D := D) (ci := 7) (v := .int (S_7.1 125 8)) (C := RX7) (T := TX7) (N := 16) hx hb hts k0 hown hK hP 125 (zX_125 cy ad S_7) rfl 8 (by decide) k8 (fun _ h9 => h9) rfl dX7_read_32 ?_
          refine lv_if_ne (tgt := 40) hx hb dX7_read_35 (by decide) (fun c_17 => ?_) (fun c_17 => ?_)
          · have hf := z_if c_17 hf
            exact J_40  S_7 _ _ _ hf hP hS (lv_sub hl [0, 1] rfl)
          · have hf := z_it c_17 hf
            refine lv_iconst (v := 1) hx hb dX7_read_38 (by decide) ?_
            obtain ⟨h1, h2⟩ := z_s2 hf
            subst h1 h2
            exact hret _ _ _ _ rfl hP hS dX7_read_39
  exact L_6 zFU (0 : Int32) S_2 _ _ _ hf hP hS (lv_sub hl [1, 0] rfl)
def fx_Settling_fewest_L74 (x_1 : Int32) (x_3 : Int32) (x_6 : Int32) (j_151 : zSt → Option (Int32 × zSt)) : Nat → Int32 → zSt → Option (Int32 × zSt)
  | 0, _, _ => none
  | n_74 + 1, x_20, S_21 =>
    if x_1 ≤ x_20 then (
    j_151  S_21) else (
    znm (fun (S_22 : zSt) =>
    znm (x_20 + (1 : Int32)) fun x_23 =>
    fx_Settling_fewest_L74 x_1 x_3 x_6 j_151 n_74 x_23 S_22) fun j_145 =>
    if (x_6 &&& ((1 : Int32) <<< (x_20 &&& 31))) = 0 then (
    j_145  S_21) else (
    znm (x_6 ^^^ ((1 : Int32) <<< (x_20 &&& 31))) fun x_24 =>
    zck (zix x_24 512) <|
    zck (zix x_20 9) <|
    zck (zix x_6 512) <|
    znm (zpI S_21 140 (x_6.toNatClampNeg) ((S_21.1 140 (x_24.toNatClampNeg)) + (S_21.1 139 (x_20.toNatClampNeg)))) fun S_28 =>
    zck (zix x_6 512) <|
    zck (zix x_24 512) <|
    zck (zix x_6 512) <|
    znm (zpI S_28 141 (x_6.toNatClampNeg) (if (S_28.1 141 (x_6.toNatClampNeg)) < (S_28.1 141 (x_24.toNatClampNeg)) then (S_28.1 141 (x_24.toNatClampNeg)) else (S_28.1 141 (x_6.toNatClampNeg)))) fun S_32 =>
    j_145  S_32))
def fx_Settling_fewest_L49 (x_1 : Int32) (x_3 : Int32) (j_178 : zSt → Option (Int32 × zSt)) : Nat → Int32 → zSt → Option (Int32 × zSt)
  | 0, _, _ => none
  | n_49 + 1, x_6, S_7 =>
    if x_3 ≤ x_6 then (
    j_178  S_7) else (
    zck (zix x_6 512) <|
    znm (zpI S_7 140 (x_6.toNatClampNeg) (0 : Int32)) fun S_9 =>
    zck (zix x_6 512) <|
    znm (zpI S_9 141 (x_6.toNatClampNeg) (0 : Int32)) fun S_11 =>
    znm (fun (S_12 : zSt) =>
    zck (zix x_6 512) <|
    znm (fun (S_14 : zSt) =>
    znm (x_6 + (1 : Int32)) fun x_15 =>
    fx_Settling_fewest_L49 x_1 x_3 j_178 n_49 x_15 S_14) fun j_172 =>
    if (S_12.1 140 (x_6.toNatClampNeg)) = 0 then (
    zck (zix x_6 512) <|
    zck (zix x_6 512) <|
    znm (zpI S_12 141 (x_6.toNatClampNeg) ((S_12.1 141 (x_6.toNatClampNeg)) + (1 : Int32))) fun S_18 =>
    j_172  S_18) else (
    j_172  S_12)) fun j_151 =>
    fx_Settling_fewest_L74 x_1 x_3 x_6 j_151 zFU (0 : Int32) S_11)
def fx_Settling_fewest_L4 (j_42 : Int32 → zSt → Option (Int32 × zSt)) : Nat → Int32 → Int32 → zSt → Option (Int32 × zSt)
  | 0, _, _, _ => none
  | n_4 + 1, x_36, x_37, S_38 =>
    if (S_38.1 4 0) ≤ x_37 then (
    j_42 x_36 S_38) else (
    zck (zix x_37 9) <|
    znm (fun (x_40 : Int32) (S_41 : zSt) =>
    znm (x_37 + (1 : Int32)) fun x_42 =>
    fx_Settling_fewest_L4 j_42 n_4 x_40 x_42 S_41) fun j_36 =>
    if (S_38.1 10 (x_37.toNatClampNeg)) = 0 then (
    j_36 x_36 S_38) else (
    zck (zix x_37 9) <|
    zck (zix x_36 9) <|
    znm (zpI S_38 139 (x_36.toNatClampNeg) (S_38.1 10 (x_37.toNatClampNeg))) fun S_45 =>
    znm (x_36 + (1 : Int32)) fun x_46 =>
    j_36 x_46 S_45))
def fx_Settling_fewest (S_0 : zSt) : Option (Int32 × zSt) :=
  znm (fun (x_1 : Int32) (S_2 : zSt) =>
  znm ((1 : Int32) <<< (x_1 &&& 31)) fun x_3 =>
  znm (fun (S_4 : zSt) =>
  zck (zix (x_3 - (1 : Int32)) 512) <|
  some (x_1 - (S_4.1 141 ((x_3 - (1 : Int32)).toNatClampNeg)), S_4)) fun j_178 =>
  fx_Settling_fewest_L49 x_1 x_3 j_178 zFU (1 : Int32) S_2) fun j_42 =>
  fx_Settling_fewest_L4 j_42 zFU (0 : Int32) (0 : Int32) S_0
set_option maxHeartbeats 4000000 in
set_option maxRecDepth 100000 in
theorem cx_Settling_fewest (l : Launch) (D : va_G) (K : (Nat → Nat) × (Nat → Nat)) (cy : Nat → ClassId) (ad : Nat → Nat) (S_0 : zSt) (ro : Int32) (So : zSt) (hf : fx_Settling_fewest S_0 = some (ro, So)) : zMI l yX8_fewest (zws yX8_fewest cX8_fewest 7 (Option.some .int)) ({ frames := 1, cells := 0, slots := 0, locals := 200 }) D (zTy cy) K (zX cy ad) [.ref (ad 138), .ref (ad 4)] S_0 ro So := by
  refine z_metI (own := RX8) (lv := [(0, .ref (ad 138)), (1, .ref (ad 4))]) (by decide) rfl rfl (Nat.le_of_ble_eq_true rfl) rfl ?_
  intro p e s m below meth c A Q X hK hE hD hA hret hP hS ls hl
  obtain ⟨hx, hb, hml, hown, hts⟩ := id X
  have k0 := (fun w h => List.mem_cons_of_mem _ (zFX8 w h) : ∀ w ∈ u_ws RX8 TX8 3, w ∈ zws yX8_fewest cX8_fewest 7 (Option.some .int))
  have k1 := hts _ (List.mem_cons_of_mem _ wt_2_166)
  have k2 := hts _ (List.mem_cons_of_mem _ wt_2_165)
  have k3 := hts _ (List.mem_cons_of_mem _ wt_2_164)
  have k4 := hts _ (List.mem_cons_of_mem _ wt_5_55)
  have k5 := hts _ (List.mem_cons_of_mem _ wt_3_122)
  have k6 := hts _ (List.mem_cons_of_mem _ wt_1_18)
  have k7 := hts _ (List.mem_cons_of_mem _ wt_3_123)
  have k8 := (fun w h => List.mem_cons_of_mem _ (zFX2 w h) : ∀ w ∈ u_ws RX2 TX2 7, w ∈ zws yX8_fewest cX8_fewest 7 (Option.some .int))
  have k9 := hts _ (List.mem_cons_of_mem _ wt_1_65)
  have k10 := hts _ (List.mem_cons_of_mem _ wt_1_83)
  refine lv_iconst (v := 0) hx hb dX8_fewest_0 (by decide) ?_
  refine lv_istore_n (lv' := [(2, .int (0 : Int32)), (0, .ref (ad 138)), (1, .ref (ad 4))]) hx hb dX8_fewest_1 rfl hl (by decide) rfl (fun ls hl => ?_)
  refine lv_iconst (v := 0) hx hb dX8_fewest_2 (by decide) ?_
  refine lv_istore_n (lv' := [(3, .int (0 : Int32)), (2, .int (0 : Int32)), (0, .ref (ad 138)), (1, .ref (ad 4))]) hx hb dX8_fewest_3 rfl hl (by decide) rfl (fun ls hl => ?_)
  obtain ⟨j_42, ej_42, hf⟩ := z_nm hf
  have J_42 : ∀ (x_1 : Int32) (S_2 : zSt) (H : Heap) (locs : List Loc) (ls : Array Slot), j_42 x_1 S_2 = some (ro, So) → va_P D vwCl (zX cy ad S_2) H → va_S A s.heap H locs → lv_has ls 7 [(0, .ref (ad 138)), (2, .int x_1)] → W p l e ({ frames := 1, cells := 0, slots := 0, locals := 200 }) s m ([.ref (ad 138), .ref (ad 4)] : List Value).toArray below meth c H locs 0 0 Q (F0 m 42 ls []) := by
    intro x_1 S_2 H locs ls hf hP hS hl
    have hf := z_e2 ej_42 hf
    refine lv_iconst (v := 1) hx hb dX8_fewest_42 (by decide) ?_
    refine lv_iload_n hx hb dX8_fewest_43 rfl (lv_at hl 1 rfl) ?_
    refine lv_ishl hx hb dX8_fewest_44 ?_
    refine lv_topi (fun x_3 ex_3 => ?_)
    have hf := z_nv ex_3 hf
    refine lv_istore_n (lv' := [(3, .int x_3), (0, .ref (ad 138)), (2, .int x_1)]) hx hb dX8_fewest_45 rfl hl (by decide) rfl (fun ls hl => ?_)
    refine lv_iconst (v := 1) hx hb dX8_fewest_46 (by decide) ?_
    refine lv_istore (lv' := [(4, .int (1 : Int32)), (3, .int x_3), (0, .ref (ad 138)), (2, .int x_1)]) hx hb dX8_fewest_47 hl (by decide) rfl (fun ls hl => ?_)
    obtain ⟨j_178, ej_178, hf⟩ := z_nm hf
    have J_178 : ∀ (S_4 : zSt) (H : Heap) (locs : List Loc) (ls : Array Slot), j_178  S_4 = some (ro, So) → va_P D vwCl (zX cy ad S_4) H → va_S A s.heap H locs → lv_has ls 7 [(0, .ref (ad 138)), (2, .int x_1), (3, .int x_3)] → W p l e ({ frames := 1, cells := 0, slots := 0, locals := 200 }) s m ([.ref (ad 138), .ref (ad 4)] : List Value).toArray below meth c H locs 0 0 Q (F0 m 178 ls []) := by
      intro  S_4 H locs ls hf hP hS hl
      have hf := z_e1 ej_178 hf
      refine lv_iload_n hx hb dX8_fewest_178 rfl (lv_at hl 1 rfl) ?_
      refine lv_aload_n hx hb dX8_fewest_179 rfl (lv_at hl 0 rfl) ?_
      refine va_get (D := D) (ci := 8) (v := .ref (ad 141)) (C := RX8) (T := TX8) (N := 3) hx hb hts k0 hown hK hP 138 (zX_138 cy ad S_4) rfl 2 (by decide) k1 (fun _ h9 => h9) rfl dX8_fewest_180 ?_
      refine lv_iload_n hx hb dX8_fewest_183 rfl (lv_at hl 2 rfl) ?_
      refine lv_iconst (v := 1) hx hb dX8_fewest_184 (by decide) ?_
      refine lv_isub hx hb dX8_fewest_185 ?_
      obtain ⟨h_5, hf⟩ := z_ix hf
      refine z_iald hx hb hK hP 141 0 (zX_141 cy ad S_4) rfl h_5 (k := ((x_3 - (1 : Int32)).toNatClampNeg)) rfl dX8_fewest_186 ?_
      refine lv_isub hx hb dX8_fewest_187 ?_
      obtain ⟨h1, h2⟩ := z_s2 hf
      subst h1 h2
      exact hret _ _ _ _ hP hS dX8_fewest_188
    have L_49 : ∀ (n_49 : Nat) (x_6 : Int32) (S_7 : zSt) (H : Heap) (locs : List Loc) (ls : Array Slot), fx_Settling_fewest_L49 x_1 x_3 j_178 n_49 x_6 S_7 = some (ro, So) → va_P D vwCl (zX cy ad S_7) H → va_S A s.heap H locs → lv_has ls 7 [(0, .ref (ad 138)), (2, .int x_1), (3, .int x_3), (4, .int x_6)] → W p l e ({ frames := 1, cells := 0, slots := 0, locals := 200 }) s m ([.ref (ad 138), .ref (ad 4)] : List Value).toArray below meth c H locs 0 0 Q (F0 m 49 ls []) := by
      intro n_49
      induction n_49 with
      | zero =>
        intro x_6 S_7 H locs ls hf hP hS hl
        exact z_no hf
      | succ n_49 ih_49 =>
        intro x_6 S_7 H locs ls hf hP hS hl
        rw [fx_Settling_fewest_L49] at hf
        refine lv_iload hx hb dX8_fewest_49 (lv_at hl 3 rfl) ?_
        refine lv_iload_n hx hb dX8_fewest_51 rfl (lv_at hl 2 rfl) ?_
        refine lv_icmp_ge (tgt := 178) hx hb dX8_fewest_52 (by decide) (fun c_35 => ?_) (fun c_35 => ?_)
        · have hf := z_it c_35 hf
          exact J_178  S_7 _ _ _ hf hP hS (lv_sub hl [0, 1, 2] rfl)
        · have hf := z_if c_35 hf
          refine lv_aload_n hx hb dX8_fewest_55 rfl (lv_at hl 0 rfl) ?_
          refine va_get (D := D) (ci := 8) (v := .ref (ad 140)) (C := RX8) (T := TX8) (N := 3) hx hb hts k0 hown hK hP 138 (zX_138 cy ad S_7) rfl 1 (by decide) k2 (fun _ h9 => h9) rfl dX8_fewest_56 ?_
          refine lv_iload hx hb dX8_fewest_59 (lv_at hl 3 rfl) ?_
          refine lv_iconst (v := 0) hx hb dX8_fewest_61 (by decide) ?_
          obtain ⟨h_8, hf⟩ := z_ix hf
          refine z_iast hx hb hK hP (hD S_7) hS 140 0 (zX_140 cy ad S_7) rfl h_8 (k := (x_6.toNatClampNeg)) rfl dX8_fewest_62 (fun H locs hP hS => ?_)
          obtain ⟨S_9, eS_9, hf⟩ := z_nm hf
          have hP := zW_putI hP eS_9 (by decide) rfl
          refine lv_aload_n hx hb dX8_fewest_63 rfl (lv_at hl 0 rfl) ?_
          refine va_get (D := D) (ci := 8) (v := .ref (ad 141)) (C := RX8) (T := TX8) (N := 3) hx hb hts k0 hown hK hP 138 (zX_138 cy ad S_9) rfl 2 (by decide) k1 (fun _ h9 => h9) rfl dX8_fewest_64 ?_
          refine lv_iload hx hb dX8_fewest_67 (lv_at hl 3 rfl) ?_
          refine lv_iconst (v := 0) hx hb dX8_fewest_69 (by decide) ?_
          obtain ⟨h_10, hf⟩ := z_ix hf
          refine z_iast hx hb hK hP (hD S_9) hS 141 0 (zX_141 cy ad S_9) rfl h_10 (k := (x_6.toNatClampNeg)) rfl dX8_fewest_70 (fun H locs hP hS => ?_)
          obtain ⟨S_11, eS_11, hf⟩ := z_nm hf
          have hP := zW_putI hP eS_11 (by decide) rfl
          refine lv_iconst (v := 0) hx hb dX8_fewest_71 (by decide) ?_
          refine lv_istore (lv' := [(5, .int (0 : Int32)), (0, .ref (ad 138)), (2, .int x_1), (3, .int x_3), (4, .int x_6)]) hx hb dX8_fewest_72 hl (by decide) rfl (fun ls hl => ?_)
          obtain ⟨j_151, ej_151, hf⟩ := z_nm hf
          have J_151 : ∀ (S_12 : zSt) (H : Heap) (locs : List Loc) (ls : Array Slot), j_151  S_12 = some (ro, So) → va_P D vwCl (zX cy ad S_12) H → va_S A s.heap H locs → lv_has ls 7 [(0, .ref (ad 138)), (2, .int x_1), (3, .int x_3), (4, .int x_6)] → W p l e ({ frames := 1, cells := 0, slots := 0, locals := 200 }) s m ([.ref (ad 138), .ref (ad 4)] : List Value).toArray below meth c H locs 0 0 Q (F0 m 151 ls []) := by
            intro  S_12 H locs ls hf hP hS hl
            have hf := z_e1 ej_151 hf
            refine lv_aload_n hx hb dX8_fewest_151 rfl (lv_at hl 0 rfl) ?_
            refine va_get (D := D) (ci := 8) (v := .ref (ad 140)) (C := RX8) (T := TX8) (N := 3) hx hb hts k0 hown hK hP 138 (zX_138 cy ad S_12) rfl 1 (by decide) k2 (fun _ h9 => h9) rfl dX8_fewest_152 ?_
            refine lv_iload hx hb dX8_fewest_155 (lv_at hl 3 rfl) ?_
            obtain ⟨h_13, hf⟩ := z_ix hf
            refine z_iald hx hb hK hP 140 0 (zX_140 cy ad S_12) rfl h_13 (k := (x_6.toNatClampNeg)) rfl dX8_fewest_157 ?_
            obtain ⟨j_172, ej_172, hf⟩ := z_nm hf
            have J_172 : ∀ (S_14 : zSt) (H : Heap) (locs : List Loc) (ls : Array Slot), j_172  S_14 = some (ro, So) → va_P D vwCl (zX cy ad S_14) H → va_S A s.heap H locs → lv_has ls 7 [(0, .ref (ad 138)), (2, .int x_1), (3, .int x_3), (4, .int x_6)] → W p l e ({ frames := 1, cells := 0, slots := 0, locals := 200 }) s m ([.ref (ad 138), .ref (ad 4)] : List Value).toArray below meth c H locs 0 0 Q (F0 m 172 ls []) := by
              intro  S_14 H locs ls hf hP hS hl
              have hf := z_e1 ej_172 hf
              obtain ⟨x_15, ex_15, hf⟩ := z_nm hf
              refine lv_iinc (v := x_15) (lv' := [(4, .int x_15), (0, .ref (ad 138)), (2, .int x_1), (3, .int x_3)]) hx hb dX8_fewest_172 hl (k := 3) rfl (by rw [ex_15]; rfl) (by decide) rfl (fun ls hl => ?_)
              refine lv_goto (tgt := 49) hx hb dX8_fewest_175 (by decide) ?_
              exact ih_49 x_15 S_14 _ _ _ hf hP hS (lv_sub hl [1, 2, 3, 0] rfl)
            refine lv_if_ne (tgt := 172) hx hb dX8_fewest_158 (by decide) (fun c_19 => ?_) (fun c_19 => ?_)
            · have hf := z_if c_19 hf
              exact J_172  S_12 _ _ _ hf hP hS (lv_sub hl [0, 1, 2, 3] rfl)
            · have hf := z_it c_19 hf
              refine lv_aload_n hx hb dX8_fewest_161 rfl (lv_at hl 0 rfl) ?_
              refine va_get (D := D) (ci := 8) (v := .ref (ad 141)) (C := RX8) (T := TX8) (N := 3) hx hb hts k0 hown hK hP 138 (zX_138 cy ad S_12) rfl 2 (by decide) k1 (fun _ h9 => h9) rfl dX8_fewest_162 ?_
              refine lv_iload hx hb dX8_fewest_165 (lv_at hl 3 rfl) ?_
              refine lv_dup2_11 hx hb dX8_fewest_167 rfl rfl ?_
              obtain ⟨h_16, hf⟩ := z_ix hf
              refine z_iald hx hb hK hP 141 0 (zX_141 cy ad S_12) rfl h_16 (k := (x_6.toNatClampNeg)) rfl dX8_fewest_168 ?_
              refine lv_iconst (v := 1) hx hb dX8_fewest_169 (by decide) ?_
              refine lv_iadd hx hb dX8_fewest_170 ?_
              obtain ⟨h_17, hf⟩ := z_ix hf
              refine z_iast hx hb hK hP (hD S_12) hS 141 0 (zX_141 cy ad S_12) rfl h_17 (k := (x_6.toNatClampNeg)) rfl dX8_fewest_171 (fun H locs hP hS => ?_)
              obtain ⟨S_18, eS_18, hf⟩ := z_nm hf
              have hP := zW_putI hP eS_18 (by decide) rfl
              exact J_172  S_18 _ _ _ hf hP hS (lv_sub hl [0, 1, 2, 3] rfl)
          have L_74 : ∀ (n_74 : Nat) (x_20 : Int32) (S_21 : zSt) (H : Heap) (locs : List Loc) (ls : Array Slot), fx_Settling_fewest_L74 x_1 x_3 x_6 j_151 n_74 x_20 S_21 = some (ro, So) → va_P D vwCl (zX cy ad S_21) H → va_S A s.heap H locs → lv_has ls 7 [(0, .ref (ad 138)), (2, .int x_1), (3, .int x_3), (4, .int x_6), (5, .int x_20)] → W p l e ({ frames := 1, cells := 0, slots := 0, locals := 200 }) s m ([.ref (ad 138), .ref (ad 4)] : List Value).toArray below meth c H locs 0 0 Q (F0 m 74 ls []) := by
            intro n_74
            induction n_74 with
            | zero =>
              intro x_20 S_21 H locs ls hf hP hS hl
              exact z_no hf
            | succ n_74 ih_74 =>
              intro x_20 S_21 H locs ls hf hP hS hl
              rw [fx_Settling_fewest_L74] at hf
              refine lv_iload hx hb dX8_fewest_74 (lv_at hl 4 rfl) ?_
              refine lv_iload_n hx hb dX8_fewest_76 rfl (lv_at hl 1 rfl) ?_
              refine lv_icmp_ge (tgt := 151) hx hb dX8_fewest_77 (by decide) (fun c_34 => ?_) (fun c_34 => ?_)
              · have hf := z_it c_34 hf
                exact J_151  S_21 _ _ _ hf hP hS (lv_sub hl [0, 1, 2, 3] rfl)
              · have hf := z_if c_34 hf
                refine lv_iload hx hb dX8_fewest_80 (lv_at hl 3 rfl) ?_
                refine lv_iconst (v := 1) hx hb dX8_fewest_82 (by decide) ?_
                refine lv_iload hx hb dX8_fewest_83 (lv_at hl 4 rfl) ?_
                refine lv_ishl hx hb dX8_fewest_85 ?_
                refine lv_iand hx hb dX8_fewest_86 ?_
                obtain ⟨j_145, ej_145, hf⟩ := z_nm hf
                have J_145 : ∀ (S_22 : zSt) (H : Heap) (locs : List Loc) (ls : Array Slot), j_145  S_22 = some (ro, So) → va_P D vwCl (zX cy ad S_22) H → va_S A s.heap H locs → lv_has ls 7 [(0, .ref (ad 138)), (2, .int x_1), (3, .int x_3), (4, .int x_6), (5, .int x_20)] → W p l e ({ frames := 1, cells := 0, slots := 0, locals := 200 }) s m ([.ref (ad 138), .ref (ad 4)] : List Value).toArray below meth c H locs 0 0 Q (F0 m 145 ls []) := by
                  intro  S_22 H locs ls hf hP hS hl
                  have hf := z_e1 ej_145 hf
                  obtain ⟨x_23, ex_23, hf⟩ := z_nm hf
                  refine lv_iinc (v := x_23) (lv' := [(5, .int x_23), (0, .ref (ad 138)), (2, .int x_1), (3, .int x_3), (4, .int x_6)]) hx hb dX8_fewest_145 hl (k := 4) rfl (by rw [ex_23]; rfl) (by decide) rfl (fun ls hl => ?_)
                  refine lv_goto (tgt := 74) hx hb dX8_fewest_148 (by decide) ?_
                  exact ih_74 x_23 S_22 _ _ _ hf hP hS (lv_sub hl [1, 2, 3, 4, 0] rfl)
                refine lv_if_eq (tgt := 145) hx hb dX8_fewest_87 (by decide) (fun c_33 => ?_) (fun c_33 => ?_)
                · have hf := z_it c_33 hf
                  exact J_145  S_21 _ _ _ hf hP hS (lv_sub hl [0, 1, 2, 3, 4] rfl)
                · have hf := z_if c_33 hf
                  refine lv_iload hx hb dX8_fewest_90 (lv_at hl 3 rfl) ?_
                  refine lv_iconst (v := 1) hx hb dX8_fewest_92 (by decide) ?_
                  refine lv_iload hx hb dX8_fewest_93 (lv_at hl 4 rfl) ?_
                  refine lv_ishl hx hb dX8_fewest_95 ?_
                  refine lv_ixor hx hb dX8_fewest_96 ?_
                  refine lv_topi (fun x_24 ex_24 => ?_)
                  have hf := z_nv ex_24 hf
                  refine lv_istore (lv' := [(6, .int x_24), (0, .ref (ad 138)), (2, .int x_1), (3, .int x_3), (4, .int x_6), (5, .int x_20)]) hx hb dX8_fewest_97 hl (by decide) rfl (fun ls hl => ?_)
                  refine lv_aload_n hx hb dX8_fewest_99 rfl (lv_at hl 1 rfl) ?_
                  refine va_get (D := D) (ci := 8) (v := .ref (ad 140)) (C := RX8) (T := TX8) (N := 3) hx hb hts k0 hown hK hP 138 (zX_138 cy ad S_21) rfl 1 (by decide) k2 (fun _ h9 => h9) rfl dX8_fewest_100 ?_
                  refine lv_iload hx hb dX8_fewest_103 (lv_at hl 4 rfl) ?_
                  refine lv_aload_n hx hb dX8_fewest_105 rfl (lv_at hl 1 rfl) ?_
                  refine va_get (D := D) (ci := 8) (v := .ref (ad 140)) (C := RX8) (T := TX8) (N := 3) hx hb hts k0 hown hK hP 138 (zX_138 cy ad S_21) rfl 1 (by decide) k2 (fun _ h9 => h9) rfl dX8_fewest_106 ?_
                  refine lv_iload hx hb dX8_fewest_109 (lv_at hl 0 rfl) ?_
                  obtain ⟨h_25, hf⟩ := z_ix hf
                  refine z_iald hx hb hK hP 140 0 (zX_140 cy ad S_21) rfl h_25 (k := (x_24.toNatClampNeg)) rfl dX8_fewest_111 ?_
                  refine lv_aload_n hx hb dX8_fewest_112 rfl (lv_at hl 1 rfl) ?_
                  refine va_get (D := D) (ci := 8) (v := .ref (ad 139)) (C := RX8) (T := TX8) (N := 3) hx hb hts k0 hown hK hP 138 (zX_138 cy ad S_21) rfl 0 (by decide) k3 (fun _ h9 => h9) rfl dX8_fewest_113 ?_
                  refine lv_iload hx hb dX8_fewest_116 (lv_at hl 5 rfl) ?_
                  obtain ⟨h_26, hf⟩ := z_ix hf
                  refine z_iald hx hb hK hP 139 0 (zX_139 cy ad S_21) rfl h_26 (k := (x_20.toNatClampNeg)) rfl dX8_fewest_118 ?_
                  refine lv_iadd hx hb dX8_fewest_119 ?_
                  obtain ⟨h_27, hf⟩ := z_ix hf
                  refine z_iast hx hb hK hP (hD S_21) hS 140 0 (zX_140 cy ad S_21) rfl h_27 (k := (x_6.toNatClampNeg)) rfl dX8_fewest_120 (fun H locs hP hS => ?_)
                  obtain ⟨S_28, eS_28, hf⟩ := z_nm hf
                  have hP := zW_putI hP eS_28 (by decide) rfl
                  refine lv_aload_n hx hb dX8_fewest_121 rfl (lv_at hl 1 rfl) ?_
                  refine va_get (D := D) (ci := 8) (v := .ref (ad 141)) (C := RX8) (T := TX8) (N := 3) hx hb hts k0 hown hK hP 138 (zX_138 cy ad S_28) rfl 2 (by decide) k1 (fun _ h9 => h9) rfl dX8_fewest_122 ?_
                  refine lv_iload hx hb dX8_fewest_125 (lv_at hl 4 rfl) ?_
                  refine lv_aload_n hx hb dX8_fewest_127 rfl (lv_at hl 1 rfl) ?_
                  refine va_get (D := D) (ci := 8) (v := .ref (ad 141)) (C := RX8) (T := TX8) (N := 3) hx hb hts k0 hown hK hP 138 (zX_138 cy ad S_28) rfl 2 (by decide) k1 (fun _ h9 => h9) rfl dX8_fewest_128 ?_
                  refine lv_iload hx hb dX8_fewest_131 (lv_at hl 4 rfl) ?_
                  obtain ⟨h_29, hf⟩ := z_ix hf
                  refine z_iald hx hb hK hP 141 0 (zX_141 cy ad S_28) rfl h_29 (k := (x_6.toNatClampNeg)) rfl dX8_fewest_133 ?_
                  refine lv_aload_n hx hb dX8_fewest_134 rfl (lv_at hl 1 rfl) ?_
                  refine va_get (D := D) (ci := 8) (v := .ref (ad 141)) (C := RX8) (T := TX8) (N := 3) hx hb hts k0 hown hK hP 138 (zX_138 cy ad S_28) rfl 2 (by decide) k1 (fun _ h9 => h9) rfl dX8_fewest_135 ?_
                  refine lv_iload hx hb dX8_fewest_138 (lv_at hl 0 rfl) ?_
                  obtain ⟨h_30, hf⟩ := z_ix hf
                  refine z_iald hx hb hK hP 141 0 (zX_141 cy ad S_28) rfl h_30 (k := (x_24.toNatClampNeg)) rfl dX8_fewest_140 ?_
                  refine va_mmax hx hb (by rw [hml]; exact hl.1.symm) hown k4 k5 k6 k7 (Nat.le_of_ble_eq_true rfl) (Nat.le_of_ble_eq_true rfl) (Nat.zero_le _) (Nat.zero_le _) dX8_fewest_141 ?_
                  obtain ⟨h_31, hf⟩ := z_ix hf
                  refine z_iast hx hb hK hP (hD S_28) hS 141 0 (zX_141 cy ad S_28) rfl h_31 (k := (x_6.toNatClampNeg)) rfl dX8_fewest_144 (fun H locs hP hS => ?_)
                  obtain ⟨S_32, eS_32, hf⟩ := z_nm hf
                  have hP := zW_putI hP eS_32 (by decide) rfl
                  exact J_145  S_32 _ _ _ hf hP hS (lv_sub hl [1, 2, 3, 4, 5] rfl)
          exact L_74 zFU (0 : Int32) S_11 _ _ _ hf hP hS (lv_sub hl [1, 2, 3, 4, 0] rfl)
    exact L_49 zFU (1 : Int32) S_2 _ _ _ hf hP hS (lv_sub hl [2, 3, 1, 0] rfl)
  have L_4 : ∀ (n_4 : Nat) (x_36 : Int32) (x_37 : Int32) (S_38 : zSt) (H : Heap) (locs : List Loc) (ls : Array Slot), fx_Settling_fewest_L4 j_42 n_4 x_36 x_37 S_38 = some (ro, So) → va_P D vwCl (zX cy ad S_38) H → va_S A s.heap H locs → lv_has ls 7 [(0, .ref (ad 138)), (1, .ref (ad 4)), (2, .int x_36), (3, .int x_37)] → W p l e ({ frames := 1, cells := 0, slots := 0, locals := 200 }) s m ([.ref (ad 138), .ref (ad 4)] : List Value).toArray below meth c H locs 0 0 Q (F0 m 4 ls []) := by
    intro n_4
    induction n_4 with
    | zero =>
      intro x_36 x_37 S_38 H locs ls hf hP hS hl
      exact z_no hf
    | succ n_4 ih_4 =>
      intro x_36 x_37 S_38 H locs ls hf hP hS hl
      rw [fx_Settling_fewest_L4] at hf
      refine lv_iload_n hx hb dX8_fewest_4 rfl (lv_at hl 3 rfl) ?_
      refine lv_aload_n hx hb dX8_fewest_5 rfl (lv_at hl 1 rfl) ?_
      refine va_get (D := D) (ci := 2) (v := .int (S_38.1 4 0)) (C := RX2) (T := TX2) (N := 7) hx hb hts k8 hown hK hP 4 (zX_4 cy ad S_38) rfl 0 (by decide) k9 (fun _ h9 => h9) rfl dX8_fewest_6 ?_
      refine lv_icmp_ge (tgt := 42) hx hb dX8_fewest_9 (by decide) (fun c_48 => ?_) (fun c_48 => ?_)
      · have hf := z_it c_48 hf
        exact J_42 x_36 S_38 _ _ _ hf hP hS (lv_sub hl [0, 2] rfl)
      · have hf := z_if c_48 hf
        refine lv_aload_n hx hb dX8_fewest_12 rfl (lv_at hl 1 rfl) ?_
        refine va_get (D := D) (ci := 2) (v := .ref (ad 10)) (C := RX2) (T := TX2) (N := 7) hx hb hts k8 hown hK hP 4 (zX_4 cy ad S_38) rfl 6 (by decide) k10 (fun _ h9 => h9) rfl dX8_fewest_13 ?_
        refine lv_iload_n hx hb dX8_fewest_16 rfl (lv_at hl 3 rfl) ?_
        obtain ⟨h_39, hf⟩ := z_ix hf
        refine z_iald hx hb hK hP 10 0 (zX_10 cy ad S_38) rfl h_39 (k := (x_37.toNatClampNeg)) rfl dX8_fewest_17 ?_
        obtain ⟨j_36, ej_36, hf⟩ := z_nm hf
        have J_36 : ∀ (x_40 : Int32) (S_41 : zSt) (H : Heap) (locs : List Loc) (ls : Array Slot), j_36 x_40 S_41 = some (ro, So) → va_P D vwCl (zX cy ad S_41) H → va_S A s.heap H locs → lv_has ls 7 [(0, .ref (ad 138)), (1, .ref (ad 4)), (2, .int x_40), (3, .int x_37)] → W p l e ({ frames := 1, cells := 0, slots := 0, locals := 200 }) s m ([.ref (ad 138), .ref (ad 4)] : List Value).toArray below meth c H locs 0 0 Q (F0 m 36 ls []) := by
          intro x_40 S_41 H locs ls hf hP hS hl
          have hf := z_e2 ej_36 hf
          obtain ⟨x_42, ex_42, hf⟩ := z_nm hf
          refine lv_iinc (v := x_42) (lv' := [(3, .int x_42), (0, .ref (ad 138)), (1, .ref (ad 4)), (2, .int x_40)]) hx hb dX8_fewest_36 hl (k := 3) rfl (by rw [ex_42]; rfl) (by decide) rfl (fun ls hl => ?_)
          refine lv_goto (tgt := 4) hx hb dX8_fewest_39 (by decide) ?_
          exact ih_4 x_40 x_42 S_41 _ _ _ hf hP hS (lv_sub hl [1, 2, 3, 0] rfl)
        refine lv_if_eq (tgt := 36) hx hb dX8_fewest_18 (by decide) (fun c_47 => ?_) (fun c_47 => ?_)
        · have hf := z_it c_47 hf
          exact J_36 x_36 S_38 _ _ _ hf hP hS (lv_sub hl [0, 1, 2, 3] rfl)
        · have hf := z_if c_47 hf
          refine lv_aload_n hx hb dX8_fewest_21 rfl (lv_at hl 0 rfl) ?_
          refine va_get (D := D) (ci := 8) (v := .ref (ad 139)) (C := RX8) (T := TX8) (N := 3) hx hb hts k0 hown hK hP 138 (zX_138 cy ad S_38) rfl 0 (by decide) k3 (fun _ h9 => h9) rfl dX8_fewest_22 ?_
          refine lv_iload_n hx hb dX8_fewest_25 rfl (lv_at hl 2 rfl) ?_
          refine lv_aload_n hx hb dX8_fewest_26 rfl (lv_at hl 1 rfl) ?_
          refine va_get (D := D) (ci := 2) (v := .ref (ad 10)) (C := RX2) (T := TX2) (N := 7) hx hb hts k8 hown hK hP 4 (zX_4 cy ad S_38) rfl 6 (by decide) k10 (fun _ h9 => h9) rfl dX8_fewest_27 ?_
          refine lv_iload_n hx hb dX8_fewest_30 rfl (lv_at hl 3 rfl) ?_
          obtain ⟨h_43, hf⟩ := z_ix hf
          refine z_iald hx hb hK hP 10 0 (zX_10 cy ad S_38) rfl h_43 (k := (x_37.toNatClampNeg)) rfl dX8_fewest_31 ?_
          obtain ⟨h_44, hf⟩ := z_ix hf
          refine z_iast hx hb hK hP (hD S_38) hS 139 0 (zX_139 cy ad S_38) rfl h_44 (k := (x_36.toNatClampNeg)) rfl dX8_fewest_32 (fun H locs hP hS => ?_)
          obtain ⟨S_45, eS_45, hf⟩ := z_nm hf
          have hP := zW_putI hP eS_45 (by decide) rfl
          obtain ⟨x_46, ex_46, hf⟩ := z_nm hf
          refine lv_iinc (v := x_46) (lv' := [(2, .int x_46), (0, .ref (ad 138)), (1, .ref (ad 4)), (3, .int x_37)]) hx hb dX8_fewest_33 hl (k := 2) rfl (by rw [ex_46]; rfl) (by decide) rfl (fun ls hl => ?_)
          exact J_36 x_46 S_45 _ _ _ hf hP hS (lv_sub hl [1, 2, 0, 3] rfl)
  exact L_4 zFU (0 : Int32) (0 : Int32) S_0 _ _ _ hf hP hS (lv_sub hl [2, 3, 1, 0] rfl)
def fx_Tape_add_L3 (a_1 : Int32) (j_49 : zSt → Option (Unit × zSt)) : Nat → Int32 → zSt → Option (Unit × zSt)
  | 0, _, _ => none
  | n_3 + 1, x_2, S_3 =>
    if x_2 < 0 then (
    j_49  S_3) else (
    if (400 : Int32) ≤ (S_3.1 1 1) then (
    j_49  S_3) else (
    zck (zix (S_3.1 1 1) 400) <|
    znm (zpI S_3 2 ((S_3.1 1 1).toNatClampNeg) (((a_1.toUInt32 >>> (x_2.toUInt32 &&& Int32.toUInt32 31)).toInt32) &&& (255 : Int32))) fun S_5 =>
    znm (zpI S_5 1 1 ((S_5.1 1 1) + (1 : Int32))) fun S_6 =>
    znm (x_2 + (-8 : Int32)) fun x_7 =>
    fx_Tape_add_L3 a_1 j_49 n_3 x_7 S_6))
def fx_Tape_add (S_0 : zSt) (a_1 : Int32) : Option (Unit × zSt) :=
  znm (fun (S_1 : zSt) =>
  some ((), S_1)) fun j_49 =>
  fx_Tape_add_L3 a_1 j_49 zFU (24 : Int32) S_0
set_option maxHeartbeats 4000000 in
set_option maxRecDepth 100000 in
theorem cx_Tape_add (l : Launch) (D : va_G) (K : (Nat → Nat) × (Nat → Nat)) (cy : Nat → ClassId) (ad : Nat → Nat) (S_0 : zSt) (a_1 : Int32) (So : zSt) (hf : fx_Tape_add S_0 a_1 = some ((), So)) : zMV l yX9_add (zws yX9_add cX9_add 3 none) ({ frames := 0, cells := 0, slots := 0, locals := 0 }) D (zTy cy) K (zX cy ad) [.ref (ad 1), .int a_1] S_0 So := by
  refine z_metV (own := RX9) (lv := [(0, .ref (ad 1)), (1, .int a_1)]) (by decide) rfl rfl (Nat.le_of_ble_eq_true rfl) rfl ?_
  intro p e s m below meth c A Q X hK hE hD hA hret hP hS ls hl
  obtain ⟨hx, hb, hml, hown, hts⟩ := id X
  have k0 := (fun w h => List.mem_cons_of_mem _ (zFX9 w h) : ∀ w ∈ u_ws RX9 TX9 2, w ∈ zws yX9_add cX9_add 3 none)
  have k1 := hts _ (List.mem_cons_of_mem _ wt_1_41)
  have k2 := hts _ (List.mem_cons_of_mem _ wt_1_37)
  refine lv_bipush (v := 24) hx hb dX9_add_0 (by decide) ?_
  refine lv_istore_n (lv' := [(2, .int (24 : Int32)), (0, .ref (ad 1)), (1, .int a_1)]) hx hb dX9_add_2 rfl hl (by decide) rfl (fun ls hl => ?_)
  obtain ⟨j_49, ej_49, hf⟩ := z_nm hf
  have J_49 : ∀ (S_1 : zSt) (H : Heap) (locs : List Loc) (ls : Array Slot), j_49  S_1 = some ((), So) → va_P D vwCl (zX cy ad S_1) H → va_S A s.heap H locs → lv_has ls 3 [] → W p l e ({ frames := 0, cells := 0, slots := 0, locals := 0 }) s m ([.ref (ad 1), .int a_1] : List Value).toArray below meth c H locs 0 0 Q (F0 m 49 ls []) := by
    intro  S_1 H locs ls hf hP hS hl
    have hf := z_e1 ej_49 hf
    obtain ⟨h1, h2⟩ := z_s2 hf
    subst h2
    exact hret _ _ _ _ hP hS dX9_add_49
  have L_3 : ∀ (n_3 : Nat) (x_2 : Int32) (S_3 : zSt) (H : Heap) (locs : List Loc) (ls : Array Slot), fx_Tape_add_L3 a_1 j_49 n_3 x_2 S_3 = some ((), So) → va_P D vwCl (zX cy ad S_3) H → va_S A s.heap H locs → lv_has ls 3 [(0, .ref (ad 1)), (1, .int a_1), (2, .int x_2)] → W p l e ({ frames := 0, cells := 0, slots := 0, locals := 0 }) s m ([.ref (ad 1), .int a_1] : List Value).toArray below meth c H locs 0 0 Q (F0 m 3 ls []) := by
    intro n_3
    induction n_3 with
    | zero =>
      intro x_2 S_3 H locs ls hf hP hS hl
      exact z_no hf
    | succ n_3 ih_3 =>
      intro x_2 S_3 H locs ls hf hP hS hl
      rw [fx_Tape_add_L3] at hf
      refine lv_iload_n hx hb dX9_add_3 rfl (lv_at hl 2 rfl) ?_
      refine lv_if_lt (tgt := 49) hx hb dX9_add_4 (by decide) (fun c_9 => ?_) (fun c_9 => ?_)
      · have hf := z_it c_9 hf
        exact J_49  S_3 _ _ _ hf hP hS (lv_sub hl [] rfl)
      · have hf := z_if c_9 hf
        refine lv_aload_n hx hb dX9_add_7 rfl (lv_at hl 0 rfl) ?_
        refine va_get (D := D) (ci := 9) (v := .int (S_3.1 1 1)) (C := RX9) (T := TX9) (N := 2) hx hb hts k0 hown hK hP 1 (zX_1 cy ad S_3) rfl 1 (by decide) k1 (fun _ h9 => h9) rfl dX9_add_8 ?_
        refine lv_sipush (v := 400) hx hb dX9_add_11 (by decide) ?_
        refine lv_icmp_ge (tgt := 49) hx hb dX9_add_14 (by decide) (fun c_8 => ?_) (fun c_8 => ?_)
        · have hf := z_it c_8 hf
          exact J_49  S_3 _ _ _ hf hP hS (lv_sub hl [] rfl)
        · have hf := z_if c_8 hf
          refine lv_aload_n hx hb dX9_add_17 rfl (lv_at hl 0 rfl) ?_
          refine va_get (D := D) (ci := 9) (v := .ref (ad 2)) (C := RX9) (T := TX9) (N := 2) hx hb hts k0 hown hK hP 1 (zX_1 cy ad S_3) rfl 0 (by decide) k2 (fun _ h9 => h9) rfl dX9_add_18 ?_
          refine lv_aload_n hx hb dX9_add_21 rfl (lv_at hl 0 rfl) ?_
          refine va_get (D := D) (ci := 9) (v := .int (S_3.1 1 1)) (C := RX9) (T := TX9) (N := 2) hx hb hts k0 hown hK hP 1 (zX_1 cy ad S_3) rfl 1 (by decide) k1 (fun _ h9 => h9) rfl dX9_add_22 ?_
          refine lv_iload_n hx hb dX9_add_25 rfl (lv_at hl 1 rfl) ?_
          refine lv_iload_n hx hb dX9_add_26 rfl (lv_at hl 2 rfl) ?_
          refine lv_iushr hx hb dX9_add_27 rfl ?_
          refine lv_sipush (v := 255) hx hb dX9_add_28 (by decide) ?_
          refine lv_iand hx hb dX9_add_31 ?_
          obtain ⟨h_4, hf⟩ := z_ix hf
          refine z_iast hx hb hK hP (hD S_3) hS 2 0 (zX_2 cy ad S_3) rfl h_4 (k := ((S_3.1 1 1).toNatClampNeg)) rfl dX9_add_32 (fun H locs hP hS => ?_)
          obtain ⟨S_5, eS_5, hf⟩ := z_nm hf
          have hP := zW_putI hP eS_5 (by decide) rfl
          refine lv_aload_n hx hb dX9_add_33 rfl (lv_at hl 0 rfl) ?_
          refine lv_dup hx hb dX9_add_34 rfl ?_
          refine va_get (D := D) (ci := 9) (v := .int (S_5.1 1 1)) (C := RX9) (T := TX9) (N := 2) hx hb hts k0 hown hK hP 1 (zX_1 cy ad S_5) rfl 1 (by decide) k1 (fun _ h9 => h9) rfl dX9_add_35 ?_
          refine lv_iconst (v := 1) hx hb dX9_add_38 (by decide) ?_
          refine lv_iadd hx hb dX9_add_39 ?_
          refine va_put (D := D) (ci := 9) (v := .int ((S_5.1 1 1) + (1 : Int32))) (ty := .int) (C := RX9) (T := TX9) (N := 2) hx hb hts k0 tyX9 tyX9_ok nmX9 hown hK hP (hD S_5) hS 1 (zX_1 cy ad S_5) rfl 1 (by decide) k1 (fun _ h9 => h9) rfl (tyX9_ok 1 (by decide)) rfl rfl (Nat.le_of_ble_eq_true rfl) dX9_add_40 (fun H locs hP _ hS => ?_)
          obtain ⟨S_6, eS_6, hf⟩ := z_nm hf
          have hP := zW_putI hP eS_6 (by decide) rfl
          obtain ⟨x_7, ex_7, hf⟩ := z_nm hf
          refine lv_iinc (v := x_7) (lv' := [(2, .int x_7), (0, .ref (ad 1)), (1, .int a_1)]) hx hb dX9_add_43 hl (k := 2) rfl (by rw [ex_7]; rfl) (by decide) rfl (fun ls hl => ?_)
          refine lv_goto (tgt := 3) hx hb dX9_add_46 (by decide) ?_
          exact ih_3 x_7 S_6 _ _ _ hf hP hS (lv_sub hl [1, 2, 0] rfl)
  exact L_3 zFU (24 : Int32) S_0 _ _ _ hf hP hS (lv_sub hl [1, 2, 0] rfl)
def fx_Tape_isMark_L20 (j_46 : zSt → Option (Int32 × zSt)) : Nat → Int32 → zSt → Option (Int32 × zSt)
  | 0, _, _ => none
  | n_20 + 1, x_3, S_4 =>
    if (S_4.1 1 1) ≤ x_3 then (
    some ((1 : Int32), S_4)) else (
    zbd (fx_Tape_letterAt S_4 x_3) fun r_5 S_6 =>
    if r_5 < 0 then (
    j_46  S_6) else (
    zbd (fx_Tape_letterAt S_6 x_3) fun r_8 S_9 =>
    if r_8 < (8 : Int32) then (
    znm (x_3 + (1 : Int32)) fun x_11 =>
    fx_Tape_isMark_L20 j_46 n_20 x_11 S_9) else (
    j_46  S_9)))
def fx_Tape_isMark (S_0 : zSt) : Option (Int32 × zSt) :=
  znm (fun (S_1 : zSt) =>
  some ((0 : Int32), S_1)) fun j_16 =>
  if (S_0.1 1 1) < (1 : Int32) then (
  j_16  S_0) else (
  if (S_0.1 1 1) ≤ (5 : Int32) then (
  znm (fun (S_2 : zSt) =>
  some ((0 : Int32), S_2)) fun j_46 =>
  fx_Tape_isMark_L20 j_46 zFU (0 : Int32) S_0) else (
  j_16  S_0))
set_option maxHeartbeats 4000000 in
set_option maxRecDepth 100000 in
theorem cx_Tape_isMark (l : Launch) (D : va_G) (K : (Nat → Nat) × (Nat → Nat)) (cy : Nat → ClassId) (ad : Nat → Nat) (S_0 : zSt) (ro : Int32) (So : zSt) (hf : fx_Tape_isMark S_0 = some (ro, So)) : zMI l yX9_isMark (zws yX9_isMark cX9_isMark 2 (Option.some .boolean)) ({ frames := 1, cells := 0, slots := 0, locals := 21 }) D (zTy cy) K (zX cy ad) [.ref (ad 1)] S_0 ro So := by
  refine z_metZ (own := RX9) (lv := [(0, .ref (ad 1))]) (by decide) rfl rfl (Nat.le_of_ble_eq_true rfl) rfl ?_
  intro p e s m below meth c A Q X hK hE hD hA hret hP hS ls hl
  obtain ⟨hx, hb, hml, hown, hts⟩ := id X
  have k0 := (fun w h => List.mem_cons_of_mem _ (zFX9 w h) : ∀ w ∈ u_ws RX9 TX9 2, w ∈ zws yX9_isMark cX9_isMark 2 (Option.some .boolean))
  have k1 := hts _ (List.mem_cons_of_mem _ wt_1_41)
  refine lv_aload_n hx hb dX9_isMark_0 rfl (lv_at hl 0 rfl) ?_
  refine va_get (D := D) (ci := 9) (v := .int (S_0.1 1 1)) (C := RX9) (T := TX9) (N := 2) hx hb hts k0 hown hK hP 1 (zX_1 cy ad S_0) rfl 1 (by decide) k1 (fun _ h9 => h9) rfl dX9_isMark_1 ?_
  refine lv_iconst (v := 1) hx hb dX9_isMark_4 (by decide) ?_
  obtain ⟨j_16, ej_16, hf⟩ := z_nm hf
  have J_16 : ∀ (S_1 : zSt) (H : Heap) (locs : List Loc) (ls : Array Slot), j_16  S_1 = some (ro, So) → va_P D vwCl (zX cy ad S_1) H → va_S A s.heap H locs → lv_has ls 2 [] → W p l e ({ frames := 1, cells := 0, slots := 0, locals := 21 }) s m ([.ref (ad 1)] : List Value).toArray below meth c H locs 0 0 Q (F0 m 16 ls []) := by
    intro  S_1 H locs ls hf hP hS hl
    have hf := z_e1 ej_16 hf
    refine lv_iconst (v := 0) hx hb dX9_isMark_16 (by decide) ?_
    obtain ⟨h1, h2⟩ := z_s2 hf
    subst h1 h2
    exact hret _ _ _ _ rfl hP hS dX9_isMark_17
  refine lv_icmp_lt (tgt := 16) hx hb dX9_isMark_5 (by decide) (fun c_16 => ?_) (fun c_16 => ?_)
  · have hf := z_it c_16 hf
    exact J_16  S_0 _ _ _ hf hP hS (lv_sub hl [] rfl)
  · have hf := z_if c_16 hf
    refine lv_aload_n hx hb dX9_isMark_8 rfl (lv_at hl 0 rfl) ?_
    refine va_get (D := D) (ci := 9) (v := .int (S_0.1 1 1)) (C := RX9) (T := TX9) (N := 2) hx hb hts k0 hown hK hP 1 (zX_1 cy ad S_0) rfl 1 (by decide) k1 (fun _ h9 => h9) rfl dX9_isMark_9 ?_
    refine lv_iconst (v := 5) hx hb dX9_isMark_12 (by decide) ?_
    refine lv_icmp_le (tgt := 18) hx hb dX9_isMark_13 (by decide) (fun c_15 => ?_) (fun c_15 => ?_)
    · have hf := z_it c_15 hf
      refine lv_iconst (v := 0) hx hb dX9_isMark_18 (by decide) ?_
      refine lv_istore_n (lv' := [(1, .int (0 : Int32)), (0, .ref (ad 1))]) hx hb dX9_isMark_19 rfl hl (by decide) rfl (fun ls hl => ?_)
      obtain ⟨j_46, ej_46, hf⟩ := z_nm hf
      have J_46 : ∀ (S_2 : zSt) (H : Heap) (locs : List Loc) (ls : Array Slot), j_46  S_2 = some (ro, So) → va_P D vwCl (zX cy ad S_2) H → va_S A s.heap H locs → lv_has ls 2 [] → W p l e ({ frames := 1, cells := 0, slots := 0, locals := 21 }) s m ([.ref (ad 1)] : List Value).toArray below meth c H locs 0 0 Q (F0 m 46 ls []) := by
        intro  S_2 H locs ls hf hP hS hl
        have hf := z_e1 ej_46 hf
        refine lv_iconst (v := 0) hx hb dX9_isMark_46 (by decide) ?_
        obtain ⟨h1, h2⟩ := z_s2 hf
        subst h1 h2
        exact hret _ _ _ _ rfl hP hS dX9_isMark_47
      have L_20 : ∀ (n_20 : Nat) (x_3 : Int32) (S_4 : zSt) (H : Heap) (locs : List Loc) (ls : Array Slot), fx_Tape_isMark_L20 j_46 n_20 x_3 S_4 = some (ro, So) → va_P D vwCl (zX cy ad S_4) H → va_S A s.heap H locs → lv_has ls 2 [(0, .ref (ad 1)), (1, .int x_3)] → W p l e ({ frames := 1, cells := 0, slots := 0, locals := 21 }) s m ([.ref (ad 1)] : List Value).toArray below meth c H locs 0 0 Q (F0 m 20 ls []) := by
        intro n_20
        induction n_20 with
        | zero =>
          intro x_3 S_4 H locs ls hf hP hS hl
          exact z_no hf
        | succ n_20 ih_20 =>
          intro x_3 S_4 H locs ls hf hP hS hl
          rw [fx_Tape_isMark_L20] at hf
          refine lv_iload_n hx hb dX9_isMark_20 rfl (lv_at hl 1 rfl) ?_
          refine lv_aload_n hx hb dX9_isMark_21 rfl (lv_at hl 0 rfl) ?_
          refine va_get (D := D) (ci := 9) (v := .int (S_4.1 1 1)) (C := RX9) (T := TX9) (N := 2) hx hb hts k0 hown hK hP 1 (zX_1 cy ad S_4) rfl 1 (by decide) k1 (fun _ h9 => h9) rfl dX9_isMark_22 ?_
          refine lv_icmp_ge (tgt := 54) hx hb dX9_isMark_25 (by decide) (fun c_14 => ?_) (fun c_14 => ?_)
          · have hf := z_it c_14 hf
            refine lv_iconst (v := 1) hx hb dX9_isMark_54 (by decide) ?_
            obtain ⟨h1, h2⟩ := z_s2 hf
            subst h1 h2
            exact hret _ _ _ _ rfl hP hS dX9_isMark_55
          · have hf := z_if c_14 hf
            refine lv_aload_n hx hb dX9_isMark_28 rfl (lv_at hl 0 rfl) ?_
            refine lv_iload_n hx hb dX9_isMark_29 rfl (lv_at hl 1 rfl) ?_
            obtain ⟨r_5, S_6, h_7, hf⟩ := z_bd hf
            refine z_cVI (As := [.int x_3]) (rest := []) X hK hE hD hA hP hS (cx_Tape_letterAt l D K cy ad S_4 _ _ _ h_7) (cwV 1 hts (z_gV wt_2_226 wt_2_227 wt_2_228 wt_1_2 wt_2_229) rfl rfl rfl ⟨rfl, yd_yX9_letterAt⟩ ⟨Nat.le_of_ble_eq_true rfl, Nat.le_of_ble_eq_true rfl⟩) (va_recv hK hP (ci := 9) (q0 := 1) rfl (zX_1 cy ad S_4)) hl.1 rfl rfl (Nat.le_of_ble_eq_true rfl) dX9_isMark_30 (fun H locs hP hS => ?_)
            refine lv_if_lt (tgt := 46) hx hb dX9_isMark_33 (by decide) (fun c_13 => ?_) (fun c_13 => ?_)
            · have hf := z_it c_13 hf
              exact J_46  S_6 _ _ _ hf hP hS (lv_sub hl [] rfl)
            · have hf := z_if c_13 hf
              refine lv_aload_n hx hb dX9_isMark_36 rfl (lv_at hl 0 rfl) ?_
              refine lv_iload_n hx hb dX9_isMark_37 rfl (lv_at hl 1 rfl) ?_
              obtain ⟨r_8, S_9, h_10, hf⟩ := z_bd hf
              refine z_cVI (As := [.int x_3]) (rest := []) X hK hE hD hA hP hS (cx_Tape_letterAt l D K cy ad S_6 _ _ _ h_10) (cwV 1 hts (z_gV wt_2_226 wt_2_227 wt_2_228 wt_1_2 wt_2_229) rfl rfl rfl ⟨rfl, yd_yX9_letterAt⟩ ⟨Nat.le_of_ble_eq_true rfl, Nat.le_of_ble_eq_true rfl⟩) (va_recv hK hP (ci := 9) (q0 := 1) rfl (zX_1 cy ad S_6)) hl.1 rfl rfl (Nat.le_of_ble_eq_true rfl) dX9_isMark_38 (fun H locs hP hS => ?_)
              refine lv_bipush (v := 8) hx hb dX9_isMark_41 (by decide) ?_
              refine lv_icmp_lt (tgt := 48) hx hb dX9_isMark_43 (by decide) (fun c_12 => ?_) (fun c_12 => ?_)
              · have hf := z_it c_12 hf
                obtain ⟨x_11, ex_11, hf⟩ := z_nm hf
                refine lv_iinc (v := x_11) (lv' := [(1, .int x_11), (0, .ref (ad 1))]) hx hb dX9_isMark_48 hl (k := 1) rfl (by rw [ex_11]; rfl) (by decide) rfl (fun ls hl => ?_)
                refine lv_goto (tgt := 20) hx hb dX9_isMark_51 (by decide) ?_
                exact ih_20 x_11 S_9 _ _ _ hf hP hS (lv_sub hl [1, 0] rfl)
              · have hf := z_if c_12 hf
                exact J_46  S_9 _ _ _ hf hP hS (lv_sub hl [] rfl)
      exact L_20 zFU (0 : Int32) S_0 _ _ _ hf hP hS (lv_sub hl [1, 0] rfl)
    · have hf := z_if c_15 hf
      exact J_16  S_0 _ _ _ hf hP hS (lv_sub hl [] rfl)
def fx_state (S_0 : zSt) (a_1 : Int32) : Option (Int32 × zSt) :=
  znm (S_0.1 11 0) fun x_1 =>
  znm (zpI S_0 11 0 a_1) fun S_2 =>
  some (x_1, S_2)
set_option maxHeartbeats 4000000 in
set_option maxRecDepth 100000 in
theorem cx_state (l : Launch) (D : va_G) (K : (Nat → Nat) × (Nat → Nat)) (cy : Nat → ClassId) (ad : Nat → Nat) (S_0 : zSt) (a_1 : Int32) (ro : Int32) (So : zSt) (hf : fx_state S_0 a_1 = some (ro, So)) : zMI l yX11_state (zws yX11_state cX11_state 3 (Option.some .int)) ({ frames := 0, cells := 0, slots := 0, locals := 0 }) D (zTy cy) K (zX cy ad) [.ref (ad 0), .int a_1] S_0 ro So := by
  refine z_metI (own := RX11) (lv := [(0, .ref (ad 0)), (1, .int a_1)]) (by decide) rfl rfl (Nat.le_of_ble_eq_true rfl) rfl ?_
  intro p e s m below meth c A Q X hK hE hD hA hret hP hS ls hl
  obtain ⟨hx, hb, hml, hown, hts⟩ := id X
  have k0 := (fun w h => List.mem_cons_of_mem _ (zFX11 w h) : ∀ w ∈ u_ws RX11 TX11 8, w ∈ zws yX11_state cX11_state 3 (Option.some .int))
  have k1 := hts _ (List.mem_cons_of_mem _ wt_2_175)
  have k2 := (fun w h => List.mem_cons_of_mem _ (zFX0 w h) : ∀ w ∈ u_ws RX0 TX0 6, w ∈ zws yX11_state cX11_state 3 (Option.some .int))
  have k3 := hts _ (List.mem_cons_of_mem _ wt_1_237)
  have k4 := (fun w h => List.mem_cons_of_mem _ (zFX10 w h) : ∀ w ∈ u_ws RX10 TX10 12, w ∈ zws yX11_state cX11_state 3 (Option.some .int))
  have k5 := hts _ (List.mem_cons_of_mem _ wt_1_108)
  refine lv_aload_n hx hb dX11_state_0 rfl (lv_at hl 0 rfl) ?_
  refine va_get (D := D) (ci := 11) (v := .ref (ad 3)) (C := RX11) (T := TX11) (N := 8) hx hb hts k0 hown hK hP 0 (zX_0 cy ad S_0) rfl 1 (by decide) k1 (fun _ h9 => h9) rfl dX11_state_1 ?_
  refine va_get (D := D) (ci := 0) (v := .ref (ad 11)) (C := RX0) (T := TX0) (N := 6) hx hb hts k2 hown hK hP 3 (zX_3 cy ad S_0) rfl 1 (by decide) k3 (fun _ h9 => h9) rfl dX11_state_4 ?_
  refine va_get (D := D) (ci := 10) (v := .int (S_0.1 11 0)) (C := RX10) (T := TX10) (N := 12) hx hb hts k4 hown hK hP 11 (zX_11 cy ad S_0) rfl 0 (by decide) k5 (fun _ h9 => h9) rfl dX11_state_7 ?_
  refine lv_topi (fun x_1 ex_1 => ?_)
  have hf := z_nv ex_1 hf
  refine lv_istore_n (lv' := [(2, .int x_1), (0, .ref (ad 0)), (1, .int a_1)]) hx hb dX11_state_10 rfl hl (by decide) rfl (fun ls hl => ?_)
  refine lv_aload_n hx hb dX11_state_11 rfl (lv_at hl 1 rfl) ?_
  refine va_get (D := D) (ci := 11) (v := .ref (ad 3)) (C := RX11) (T := TX11) (N := 8) hx hb hts k0 hown hK hP 0 (zX_0 cy ad S_0) rfl 1 (by decide) k1 (fun _ h9 => h9) rfl dX11_state_12 ?_
  refine va_get (D := D) (ci := 0) (v := .ref (ad 11)) (C := RX0) (T := TX0) (N := 6) hx hb hts k2 hown hK hP 3 (zX_3 cy ad S_0) rfl 1 (by decide) k3 (fun _ h9 => h9) rfl dX11_state_15 ?_
  refine lv_iload_n hx hb dX11_state_18 rfl (lv_at hl 2 rfl) ?_
  refine va_put (D := D) (ci := 10) (v := .int a_1) (ty := .int) (C := RX10) (T := TX10) (N := 12) hx hb hts k4 tyX10 tyX10_ok nmX10 hown hK hP (hD S_0) hS 11 (zX_11 cy ad S_0) rfl 0 (by decide) k5 (fun _ h9 => h9) rfl (tyX10_ok 0 (by decide)) rfl rfl (Nat.le_of_ble_eq_true rfl) dX11_state_19 (fun H locs hP _ hS => ?_)
  obtain ⟨S_2, eS_2, hf⟩ := z_nm hf
  have hP := zW_putI hP eS_2 (by decide) rfl
  refine lv_iload_n hx hb dX11_state_22 rfl (lv_at hl 0 rfl) ?_
  obtain ⟨h1, h2⟩ := z_s2 hf
  subst h1 h2
  exact hret _ _ _ _ hP hS dX11_state_23
def fx_feed (S_0 : zSt) (a_1 : Int32) (a_2 : Int32) (a_3 : Int32) (a_4 : Int32) (a_5 : Int32) : Option (Int32 × zSt) :=
  if (S_0.1 1 1) ≤ (380 : Int32) then (
  zbd (fx_Tape_add S_0 a_1) fun _ S_2 =>
  zbd (fx_Tape_add S_2 a_2) fun _ S_5 =>
  zbd (fx_Tape_add S_5 a_3) fun _ S_8 =>
  zbd (fx_Tape_add S_8 a_4) fun _ S_11 =>
  zbd (fx_Tape_add S_11 a_5) fun _ S_14 =>
  some (S_14.1 1 1, S_14)) else (
  some ((-1 : Int32), S_0))
set_option maxHeartbeats 4000000 in
set_option maxRecDepth 100000 in
theorem cx_feed (l : Launch) (D : va_G) (K : (Nat → Nat) × (Nat → Nat)) (cy : Nat → ClassId) (ad : Nat → Nat) (S_0 : zSt) (a_1 : Int32) (a_2 : Int32) (a_3 : Int32) (a_4 : Int32) (a_5 : Int32) (ro : Int32) (So : zSt) (hf : fx_feed S_0 a_1 a_2 a_3 a_4 a_5 = some (ro, So)) : zMI l yX11_feed (zws yX11_feed cX11_feed 6 (Option.some .int)) ({ frames := 1, cells := 0, slots := 0, locals := 22 }) D (zTy cy) K (zX cy ad) [.ref (ad 0), .int a_1, .int a_2, .int a_3, .int a_4, .int a_5] S_0 ro So := by
  refine z_metI (own := RX11) (lv := [(0, .ref (ad 0)), (1, .int a_1), (2, .int a_2), (3, .int a_3), (4, .int a_4), (5, .int a_5)]) (by decide) rfl rfl (Nat.le_of_ble_eq_true rfl) rfl ?_
  intro p e s m below meth c A Q X hK hE hD hA hret hP hS ls hl
  obtain ⟨hx, hb, hml, hown, hts⟩ := id X
  have k0 := (fun w h => List.mem_cons_of_mem _ (zFX11 w h) : ∀ w ∈ u_ws RX11 TX11 8, w ∈ zws yX11_feed cX11_feed 6 (Option.some .int))
  have k1 := hts _ (List.mem_cons_of_mem _ wt_2_174)
  have k2 := (fun w h => List.mem_cons_of_mem _ (zFX9 w h) : ∀ w ∈ u_ws RX9 TX9 2, w ∈ zws yX11_feed cX11_feed 6 (Option.some .int))
  have k3 := hts _ (List.mem_cons_of_mem _ wt_1_44)
  refine lv_aload_n hx hb dX11_feed_0 rfl (lv_at hl 0 rfl) ?_
  refine va_get (D := D) (ci := 11) (v := .ref (ad 1)) (C := RX11) (T := TX11) (N := 8) hx hb hts k0 hown hK hP 0 (zX_0 cy ad S_0) rfl 0 (by decide) k1 (fun _ h9 => h9) rfl dX11_feed_1 ?_
  refine va_get (D := D) (ci := 9) (v := .int (S_0.1 1 1)) (C := RX9) (T := TX9) (N := 2) hx hb hts k2 hown hK hP 1 (zX_1 cy ad S_0) rfl 1 (by decide) k3 (fun _ h9 => h9) rfl dX11_feed_4 ?_
  refine lv_sipush (v := 380) hx hb dX11_feed_7 (by decide) ?_
  refine lv_icmp_le (tgt := 15) hx hb dX11_feed_10 (by decide) (fun c_16 => ?_) (fun c_16 => ?_)
  · have hf := z_it c_16 hf
    refine lv_aload_n hx hb dX11_feed_15 rfl (lv_at hl 0 rfl) ?_
    refine va_get (D := D) (ci := 11) (v := .ref (ad 1)) (C := RX11) (T := TX11) (N := 8) hx hb hts k0 hown hK hP 0 (zX_0 cy ad S_0) rfl 0 (by decide) k1 (fun _ h9 => h9) rfl dX11_feed_16 ?_
    refine lv_iload_n hx hb dX11_feed_19 rfl (lv_at hl 1 rfl) ?_
    obtain ⟨r_1, S_2, h_3, hf⟩ := z_bd hf
    refine z_cVV (As := [.int a_1]) (rest := []) X hK hE hD hA hP hS (cx_Tape_add l D K cy ad S_0 _ _ h_3) (cwV 1 hts (z_gV wt_2_207 wt_2_208 wt_2_209 wt_1_2 wt_2_210) rfl rfl rfl ⟨rfl, yd_yX9_add⟩ ⟨Nat.le_of_ble_eq_true rfl, Nat.le_of_ble_eq_true rfl⟩) (va_recv hK hP (ci := 9) (q0 := 1) rfl (zX_1 cy ad S_0)) hl.1 rfl rfl (Nat.le_of_ble_eq_true rfl) dX11_feed_20 (fun H locs hP hS => ?_)
    refine lv_aload_n hx hb dX11_feed_23 rfl (lv_at hl 0 rfl) ?_
    refine va_get (D := D) (ci := 11) (v := .ref (ad 1)) (C := RX11) (T := TX11) (N := 8) hx hb hts k0 hown hK hP 0 (zX_0 cy ad S_2) rfl 0 (by decide) k1 (fun _ h9 => h9) rfl dX11_feed_24 ?_
    refine lv_iload_n hx hb dX11_feed_27 rfl (lv_at hl 2 rfl) ?_
    obtain ⟨r_4, S_5, h_6, hf⟩ := z_bd hf
    refine z_cVV (As := [.int a_2]) (rest := []) X hK hE hD hA hP hS (cx_Tape_add l D K cy ad S_2 _ _ h_6) (cwV 1 hts (z_gV wt_2_207 wt_2_208 wt_2_209 wt_1_2 wt_2_210) rfl rfl rfl ⟨rfl, yd_yX9_add⟩ ⟨Nat.le_of_ble_eq_true rfl, Nat.le_of_ble_eq_true rfl⟩) (va_recv hK hP (ci := 9) (q0 := 1) rfl (zX_1 cy ad S_2)) hl.1 rfl rfl (Nat.le_of_ble_eq_true rfl) dX11_feed_28 (fun H locs hP hS => ?_)
    refine lv_aload_n hx hb dX11_feed_31 rfl (lv_at hl 0 rfl) ?_
    refine va_get (D := D) (ci := 11) (v := .ref (ad 1)) (C := RX11) (T := TX11) (N := 8) hx hb hts k0 hown hK hP 0 (zX_0 cy ad S_5) rfl 0 (by decide) k1 (fun _ h9 => h9) rfl dX11_feed_32 ?_
    refine lv_iload_n hx hb dX11_feed_35 rfl (lv_at hl 3 rfl) ?_
    obtain ⟨r_7, S_8, h_9, hf⟩ := z_bd hf
    refine z_cVV (As := [.int a_3]) (rest := []) X hK hE hD hA hP hS (cx_Tape_add l D K cy ad S_5 _ _ h_9) (cwV 1 hts (z_gV wt_2_207 wt_2_208 wt_2_209 wt_1_2 wt_2_210) rfl rfl rfl ⟨rfl, yd_yX9_add⟩ ⟨Nat.le_of_ble_eq_true rfl, Nat.le_of_ble_eq_true rfl⟩) (va_recv hK hP (ci := 9) (q0 := 1) rfl (zX_1 cy ad S_5)) hl.1 rfl rfl (Nat.le_of_ble_eq_true rfl) dX11_feed_36 (fun H locs hP hS => ?_)
    refine lv_aload_n hx hb dX11_feed_39 rfl (lv_at hl 0 rfl) ?_
    refine va_get (D := D) (ci := 11) (v := .ref (ad 1)) (C := RX11) (T := TX11) (N := 8) hx hb hts k0 hown hK hP 0 (zX_0 cy ad S_8) rfl 0 (by decide) k1 (fun _ h9 => h9) rfl dX11_feed_40 ?_
    refine lv_iload hx hb dX11_feed_43 (lv_at hl 4 rfl) ?_
    obtain ⟨r_10, S_11, h_12, hf⟩ := z_bd hf
    refine z_cVV (As := [.int a_4]) (rest := []) X hK hE hD hA hP hS (cx_Tape_add l D K cy ad S_8 _ _ h_12) (cwV 1 hts (z_gV wt_2_207 wt_2_208 wt_2_209 wt_1_2 wt_2_210) rfl rfl rfl ⟨rfl, yd_yX9_add⟩ ⟨Nat.le_of_ble_eq_true rfl, Nat.le_of_ble_eq_true rfl⟩) (va_recv hK hP (ci := 9) (q0 := 1) rfl (zX_1 cy ad S_8)) hl.1 rfl rfl (Nat.le_of_ble_eq_true rfl) dX11_feed_45 (fun H locs hP hS => ?_)
    refine lv_aload_n hx hb dX11_feed_48 rfl (lv_at hl 0 rfl) ?_
    refine va_get (D := D) (ci := 11) (v := .ref (ad 1)) (C := RX11) (T := TX11) (N := 8) hx hb hts k0 hown hK hP 0 (zX_0 cy ad S_11) rfl 0 (by decide) k1 (fun _ h9 => h9) rfl dX11_feed_49 ?_
    refine lv_iload hx hb dX11_feed_52 (lv_at hl 5 rfl) ?_
    obtain ⟨r_13, S_14, h_15, hf⟩ := z_bd hf
    refine z_cVV (As := [.int a_5]) (rest := []) X hK hE hD hA hP hS (cx_Tape_add l D K cy ad S_11 _ _ h_15) (cwV 1 hts (z_gV wt_2_207 wt_2_208 wt_2_209 wt_1_2 wt_2_210) rfl rfl rfl ⟨rfl, yd_yX9_add⟩ ⟨Nat.le_of_ble_eq_true rfl, Nat.le_of_ble_eq_true rfl⟩) (va_recv hK hP (ci := 9) (q0 := 1) rfl (zX_1 cy ad S_11)) hl.1 rfl rfl (Nat.le_of_ble_eq_true rfl) dX11_feed_54 (fun H locs hP hS => ?_)
    refine lv_aload_n hx hb dX11_feed_57 rfl (lv_at hl 0 rfl) ?_
    refine va_get (D := D) (ci := 11) (v := .ref (ad 1)) (C := RX11) (T := TX11) (N := 8) hx hb hts k0 hown hK hP 0 (zX_0 cy ad S_14) rfl 0 (by decide) k1 (fun _ h9 => h9) rfl dX11_feed_58 ?_
    refine va_get (D := D) (ci := 9) (v := .int (S_14.1 1 1)) (C := RX9) (T := TX9) (N := 2) hx hb hts k2 hown hK hP 1 (zX_1 cy ad S_14) rfl 1 (by decide) k3 (fun _ h9 => h9) rfl dX11_feed_61 ?_
    obtain ⟨h1, h2⟩ := z_s2 hf
    subst h1 h2
    exact hret _ _ _ _ hP hS dX11_feed_64
  · have hf := z_if c_16 hf
    refine lv_iconst (v := -1) hx hb dX11_feed_13 (by decide) ?_
    obtain ⟨h1, h2⟩ := z_s2 hf
    subst h1 h2
    exact hret _ _ _ _ hP hS dX11_feed_14
def fx_end (S_0 : zSt) (a_1 : Int32) : Option (Int32 × zSt) :=
  znm (fun (S_1 : zSt) =>
  some ((0 : Int32), S_1)) fun j_15 =>
  if a_1 < 0 then (
  j_15  S_0) else (
  if a_1 ≤ (S_0.1 1 1) then (
  znm (zpI S_0 1 1 a_1) fun S_2 =>
  some ((1 : Int32), S_2)) else (
  j_15  S_0))
set_option maxHeartbeats 4000000 in
set_option maxRecDepth 100000 in
theorem cx_end (l : Launch) (D : va_G) (K : (Nat → Nat) × (Nat → Nat)) (cy : Nat → ClassId) (ad : Nat → Nat) (S_0 : zSt) (a_1 : Int32) (ro : Int32) (So : zSt) (hf : fx_end S_0 a_1 = some (ro, So)) : zMI l yX11_end (zws yX11_end cX11_end 2 (Option.some .boolean)) ({ frames := 0, cells := 0, slots := 0, locals := 0 }) D (zTy cy) K (zX cy ad) [.ref (ad 0), .int a_1] S_0 ro So := by
  refine z_metZ (own := RX11) (lv := [(0, .ref (ad 0)), (1, .int a_1)]) (by decide) rfl rfl (Nat.le_of_ble_eq_true rfl) rfl ?_
  intro p e s m below meth c A Q X hK hE hD hA hret hP hS ls hl
  obtain ⟨hx, hb, hml, hown, hts⟩ := id X
  have k0 := (fun w h => List.mem_cons_of_mem _ (zFX11 w h) : ∀ w ∈ u_ws RX11 TX11 8, w ∈ zws yX11_end cX11_end 2 (Option.some .boolean))
  have k1 := hts _ (List.mem_cons_of_mem _ wt_2_174)
  have k2 := (fun w h => List.mem_cons_of_mem _ (zFX9 w h) : ∀ w ∈ u_ws RX9 TX9 2, w ∈ zws yX11_end cX11_end 2 (Option.some .boolean))
  have k3 := hts _ (List.mem_cons_of_mem _ wt_1_44)
  refine lv_iload_n hx hb dX11_end_0 rfl (lv_at hl 1 rfl) ?_
  obtain ⟨j_15, ej_15, hf⟩ := z_nm hf
  have J_15 : ∀ (S_1 : zSt) (H : Heap) (locs : List Loc) (ls : Array Slot), j_15  S_1 = some (ro, So) → va_P D vwCl (zX cy ad S_1) H → va_S A s.heap H locs → lv_has ls 2 [] → W p l e ({ frames := 0, cells := 0, slots := 0, locals := 0 }) s m ([.ref (ad 0), .int a_1] : List Value).toArray below meth c H locs 0 0 Q (F0 m 15 ls []) := by
    intro  S_1 H locs ls hf hP hS hl
    have hf := z_e1 ej_15 hf
    refine lv_iconst (v := 0) hx hb dX11_end_15 (by decide) ?_
    obtain ⟨h1, h2⟩ := z_s2 hf
    subst h1 h2
    exact hret _ _ _ _ rfl hP hS dX11_end_16
  refine lv_if_lt (tgt := 15) hx hb dX11_end_1 (by decide) (fun c_4 => ?_) (fun c_4 => ?_)
  · have hf := z_it c_4 hf
    exact J_15  S_0 _ _ _ hf hP hS (lv_sub hl [] rfl)
  · have hf := z_if c_4 hf
    refine lv_iload_n hx hb dX11_end_4 rfl (lv_at hl 1 rfl) ?_
    refine lv_aload_n hx hb dX11_end_5 rfl (lv_at hl 0 rfl) ?_
    refine va_get (D := D) (ci := 11) (v := .ref (ad 1)) (C := RX11) (T := TX11) (N := 8) hx hb hts k0 hown hK hP 0 (zX_0 cy ad S_0) rfl 0 (by decide) k1 (fun _ h9 => h9) rfl dX11_end_6 ?_
    refine va_get (D := D) (ci := 9) (v := .int (S_0.1 1 1)) (C := RX9) (T := TX9) (N := 2) hx hb hts k2 hown hK hP 1 (zX_1 cy ad S_0) rfl 1 (by decide) k3 (fun _ h9 => h9) rfl dX11_end_9 ?_
    refine lv_icmp_le (tgt := 17) hx hb dX11_end_12 (by decide) (fun c_3 => ?_) (fun c_3 => ?_)
    · have hf := z_it c_3 hf
      refine lv_aload_n hx hb dX11_end_17 rfl (lv_at hl 0 rfl) ?_
      refine va_get (D := D) (ci := 11) (v := .ref (ad 1)) (C := RX11) (T := TX11) (N := 8) hx hb hts k0 hown hK hP 0 (zX_0 cy ad S_0) rfl 0 (by decide) k1 (fun _ h9 => h9) rfl dX11_end_18 ?_
      refine lv_iload_n hx hb dX11_end_21 rfl (lv_at hl 1 rfl) ?_
      refine va_put (D := D) (ci := 9) (v := .int a_1) (ty := .int) (C := RX9) (T := TX9) (N := 2) hx hb hts k2 tyX9 tyX9_ok nmX9 hown hK hP (hD S_0) hS 1 (zX_1 cy ad S_0) rfl 1 (by decide) k3 (fun _ h9 => h9) rfl (tyX9_ok 1 (by decide)) rfl rfl (Nat.le_of_ble_eq_true rfl) dX11_end_22 (fun H locs hP _ hS => ?_)
      obtain ⟨S_2, eS_2, hf⟩ := z_nm hf
      have hP := zW_putI hP eS_2 (by decide) rfl
      refine lv_iconst (v := 1) hx hb dX11_end_25 (by decide) ?_
      obtain ⟨h1, h2⟩ := z_s2 hf
      subst h1 h2
      exact hret _ _ _ _ rfl hP hS dX11_end_26
    · have hf := z_if c_3 hf
      exact J_15  S_0 _ _ _ hf hP hS (lv_sub hl [] rfl)
