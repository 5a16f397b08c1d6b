def fm_least (S_0 : zSt) (a_1 : Int32) : Option (Int32 × zSt) :=
  zbd (fm_isTold S_0 a_1) fun r_1 S_2 =>
  znm (fun (x_4 : Int32) (S_5 : zSt) =>
  some (x_4, S_5)) fun j_32 =>
  if r_1 = 0 then (
  j_32 (-1 : Int32) S_2) else (
  if a_1 = 0 then (
  j_32 (S_2.1 0 30) S_2) else (
  zck (zix (a_1 - (10 : Int32)) 9) <|
  j_32 (S_2.1 14 ((a_1 - (10 : Int32)).toNatClampNeg)) S_2))
set_option maxHeartbeats 4000000 in
set_option maxRecDepth 100000 in
theorem cm_least (l : Launch) (D : va_G) (K : (Nat → Nat) × (Nat → Nat)) (cy : Nat → ClassId) (ad : Nat → Nat) (S_0 : zSt) (a_1 : Int32) (ro : Int32) (So : zSt) (hf : fm_least S_0 a_1 = some (ro, So)) : zMI l yX12_least (zws yX12_least cX12_least 2 (Option.some .int)) ({ frames := 98, cells := 0, slots := 0, locals := 2158 }) D (zTy cy) K (zM cy ad) [.ref (ad 0), .int a_1] S_0 ro So := by
  refine z_metI (own := RX12) (lv := [(0, .ref (ad 0)), (1, .int a_1)]) (by decide) rfl rfl (Nat.le_of_ble_eq_true rfl) rfl ?_
  intro p e s m below meth c A Q X hK hE hD hA hret hP hS ls hl
  obtain ⟨hx, hb, hml, hown, hts⟩ := id X
  have k0 := (fun w h => List.mem_cons_of_mem _ (zFX12 w h) : ∀ w ∈ u_ws RX12 TX12 36, w ∈ zws yX12_least cX12_least 2 (Option.some .int))
  have k1 := hts _ (List.mem_cons_of_mem _ wt_5_123)
  have k2 := hts _ (List.mem_cons_of_mem _ wt_5_125)
  refine lv_aload_n hx hb dX12_least_0 rfl (lv_at hl 0 rfl) ?_
  refine lv_iload_n hx hb dX12_least_1 rfl (lv_at hl 1 rfl) ?_
  obtain ⟨r_1, S_2, h_3, hf⟩ := z_bd hf
  refine z_cVI (As := [.int a_1]) (rest := []) X hK hE hD hA hP hS (cm_isTold l D K cy ad S_0 _ _ _ h_3) (cwV 1 hts (z_gV wt_6_186 wt_6_188 wp_77 wt_1_13 wt_6_189) rfl rfl rfl ⟨rfl, yd_yX12_isTold⟩ ⟨Nat.le_of_ble_eq_true rfl, Nat.le_of_ble_eq_true rfl⟩) (va_recv hK hP (ci := 12) (q0 := 0) rfl (zM_0 cy ad S_0)) hl.1 rfl rfl (Nat.le_of_ble_eq_true rfl) dX12_least_2 (fun H locs hP hS => ?_)
  obtain ⟨j_32, ej_32, hf⟩ := z_nm hf
  have J_32 : ∀ (x_4 : Int32) (S_5 : zSt) (H : Heap) (locs : List Loc) (ls : Array Slot), j_32 x_4 S_5 = some (ro, So) → va_P D vwCl (zM cy ad S_5) H → va_S A s.heap H locs → lv_has ls 2 [] → W p l e ({ frames := 98, cells := 0, slots := 0, locals := 2158 }) s m ([.ref (ad 0), .int a_1] : List Value).toArray below meth c H locs 0 0 Q (F0 m 32 ls [.int x_4]) := by
    intro x_4 S_5 H locs ls hf hP hS hl
    have hf := z_e2 ej_32 hf
    obtain ⟨h1, h2⟩ := z_s2 hf
    subst h1 h2
    exact hret _ _ _ _ hP hS dX12_least_32
  refine lv_if_ne (tgt := 12) hx hb dX12_least_5 (by decide) (fun c_8 => ?_) (fun c_8 => ?_)
  · have hf := z_if c_8 hf
    refine lv_iload_n hx hb dX12_least_12 rfl (lv_at hl 1 rfl) ?_
    refine lv_if_ne (tgt := 23) hx hb dX12_least_13 (by decide) (fun c_7 => ?_) (fun c_7 => ?_)
    · have hf := z_if c_7 hf
      refine lv_aload_n hx hb dX12_least_23 rfl (lv_at hl 0 rfl) ?_
      refine va_get (D := D) (ci := 12) (v := .ref (ad 14)) (C := RX12) (T := TX12) (N := 36) hx hb hts k0 hown hK hP 0 (zM_0 cy ad S_2) rfl 28 (by decide) k1 (fun _ h9 => h9) rfl dX12_least_24 ?_
      refine lv_iload_n hx hb dX12_least_27 rfl (lv_at hl 1 rfl) ?_
      refine lv_bipush (v := 10) hx hb dX12_least_28 (by decide) ?_
      refine lv_isub hx hb dX12_least_30 ?_
      obtain ⟨h_6, hf⟩ := z_ix hf
      refine z_iald hx hb hK hP 14 0 (zM_14 cy ad S_2) rfl h_6 (k := ((a_1 - (10 : Int32)).toNatClampNeg)) rfl dX12_least_31 ?_
      exact J_32 (S_2.1 14 ((a_1 - (10 : Int32)).toNatClampNeg)) S_2 _ _ _ hf hP hS (lv_sub hl [] rfl)
    · have hf := z_it c_7 hf
      refine lv_aload_n hx hb dX12_least_16 rfl (lv_at hl 0 rfl) ?_
      refine va_get (D := D) (ci := 12) (v := .int (S_2.1 0 30)) (C := RX12) (T := TX12) (N := 36) hx hb hts k0 hown hK hP 0 (zM_0 cy ad S_2) rfl 30 (by decide) k2 (fun _ h9 => h9) rfl dX12_least_17 ?_
      refine lv_goto (tgt := 32) hx hb dX12_least_20 (by decide) ?_
      exact J_32 (S_2.1 0 30) S_2 _ _ _ hf hP hS (lv_sub hl [] rfl)
  · have hf := z_it c_8 hf
    refine lv_iconst (v := -1) hx hb dX12_least_8 (by decide) ?_
    refine lv_goto (tgt := 32) hx hb dX12_least_9 (by decide) ?_
    exact J_32 (-1 : Int32) S_2 _ _ _ hf hP hS (lv_sub hl [] rfl)
def fm_isRow_L2 (a_1 : Int32) : Nat → Int32 → zSt → Option (Int32 × zSt)
  | 0, _, _ => none
  | n_2 + 1, x_1, S_2 =>
    if (S_2.1 1 4) ≤ x_1 then (
    some ((1 : Int32), S_2)) else (
    zck (zix (((9 : Int32) * a_1) + x_1) 1809) <|
    zck (zix x_1 9) <|
    if (S_2.1 15 ((((9 : Int32) * a_1) + x_1).toNatClampNeg)) = (S_2.1 11 (x_1.toNatClampNeg)) then (
    znm (x_1 + (1 : Int32)) fun x_5 =>
    fm_isRow_L2 a_1 n_2 x_5 S_2) else (
    some ((0 : Int32), S_2)))
def fm_isRow (S_0 : zSt) (a_1 : Int32) : Option (Int32 × zSt) :=
  fm_isRow_L2 a_1 zFU (0 : Int32) S_0
set_option maxHeartbeats 4000000 in
set_option maxRecDepth 100000 in
theorem cm_isRow (l : Launch) (D : va_G) (K : (Nat → Nat) × (Nat → Nat)) (cy : Nat → ClassId) (ad : Nat → Nat) (S_0 : zSt) (a_1 : Int32) (ro : Int32) (So : zSt) (hf : fm_isRow S_0 a_1 = some (ro, So)) : zMI l yX12_isRow (zws yX12_isRow cX12_isRow 3 (Option.some .boolean)) ({ frames := 0, cells := 0, slots := 0, locals := 0 }) D (zTy cy) K (zM cy ad) [.ref (ad 0), .int a_1] S_0 ro So := by
  refine z_metZ (own := RX12) (lv := [(0, .ref (ad 0)), (1, .int a_1)]) (by decide) rfl rfl (Nat.le_of_ble_eq_true rfl) rfl ?_
  intro p e s m below meth c A Q X hK hE hD hA hret hP hS ls hl
  obtain ⟨hx, hb, hml, hown, hts⟩ := id X
  have k0 := (fun w h => List.mem_cons_of_mem _ (zFX12 w h) : ∀ w ∈ u_ws RX12 TX12 36, w ∈ zws yX12_isRow cX12_isRow 3 (Option.some .boolean))
  have k1 := hts _ (List.mem_cons_of_mem _ wt_5_95)
  have k2 := hts _ (List.mem_cons_of_mem _ wt_5_126)
  have k3 := hts _ (List.mem_cons_of_mem _ wt_5_120)
  refine lv_iconst (v := 0) hx hb dX12_isRow_0 (by decide) ?_
  refine lv_istore_n (lv' := [(2, .int (0 : Int32)), (0, .ref (ad 0)), (1, .int a_1)]) hx hb dX12_isRow_1 rfl hl (by decide) rfl (fun ls hl => ?_)
  have L_2 : ∀ (n_2 : Nat) (x_1 : Int32) (S_2 : zSt) (H : Heap) (locs : List Loc) (ls : Array Slot), fm_isRow_L2 a_1 n_2 x_1 S_2 = some (ro, So) → va_P D vwCl (zM cy ad S_2) H → va_S A s.heap H locs → lv_has ls 3 [(0, .ref (ad 0)), (1, .int a_1), (2, .int x_1)] → W p l e ({ frames := 0, cells := 0, slots := 0, locals := 0 }) s m ([.ref (ad 0), .int a_1] : List Value).toArray below meth c H locs 0 0 Q (F0 m 2 ls []) := by
    intro n_2
    induction n_2 with
    | zero =>
      intro x_1 S_2 H locs ls hf hP hS hl
      exact z_no hf
    | succ n_2 ih_2 =>
      intro x_1 S_2 H locs ls hf hP hS hl
      rw [fm_isRow_L2] at hf
      refine lv_iload_n hx hb dX12_isRow_2 rfl (lv_at hl 2 rfl) ?_
      refine lv_aload_n hx hb dX12_isRow_3 rfl (lv_at hl 0 rfl) ?_
      refine va_get (D := D) (ci := 12) (v := .ref (ad 1)) (C := RX12) (T := TX12) (N := 36) hx hb hts k0 hown hK hP 0 (zM_0 cy ad S_2) rfl 0 (by decide) k1 (fun _ h9 => h9) rfl dX12_isRow_4 ?_
      refine lv_iconst (v := 4) hx hb dX12_isRow_7 (by decide) ?_
      refine z_iald hx hb hK hP 1 0 (zM_1 cy ad S_2) rfl (vp_in_iff.mpr (by decide)) (k := 4) (by decide) dX12_isRow_8 ?_
      refine lv_icmp_ge (tgt := 40) hx hb dX12_isRow_9 (by decide) (fun c_7 => ?_) (fun c_7 => ?_)
      · have hf := z_it c_7 hf
        refine lv_iconst (v := 1) hx hb dX12_isRow_40 (by decide) ?_
        obtain ⟨h1, h2⟩ := z_s2 hf
        subst h1 h2
        exact hret _ _ _ _ rfl hP hS dX12_isRow_41
      · have hf := z_if c_7 hf
        refine lv_aload_n hx hb dX12_isRow_12 rfl (lv_at hl 0 rfl) ?_
        refine va_get (D := D) (ci := 12) (v := .ref (ad 15)) (C := RX12) (T := TX12) (N := 36) hx hb hts k0 hown hK hP 0 (zM_0 cy ad S_2) rfl 31 (by decide) k2 (fun _ h9 => h9) rfl dX12_isRow_13 ?_
        refine lv_bipush (v := 9) hx hb dX12_isRow_16 (by decide) ?_
        refine lv_iload_n hx hb dX12_isRow_18 rfl (lv_at hl 1 rfl) ?_
        refine lv_imul hx hb dX12_isRow_19 ?_
        refine lv_iload_n hx hb dX12_isRow_20 rfl (lv_at hl 2 rfl) ?_
        refine lv_iadd hx hb dX12_isRow_21 ?_
        obtain ⟨h_3, hf⟩ := z_ix hf
        refine z_iald hx hb hK hP 15 0 (zM_15 cy ad S_2) rfl h_3 (k := ((((9 : Int32) * a_1) + x_1).toNatClampNeg)) rfl dX12_isRow_22 ?_
        refine lv_aload_n hx hb dX12_isRow_23 rfl (lv_at hl 0 rfl) ?_
        refine va_get (D := D) (ci := 12) (v := .ref (ad 11)) (C := RX12) (T := TX12) (N := 36) hx hb hts k0 hown hK hP 0 (zM_0 cy ad S_2) rfl 25 (by decide) k3 (fun _ h9 => h9) rfl dX12_isRow_24 ?_
        refine lv_iload_n hx hb dX12_isRow_27 rfl (lv_at hl 2 rfl) ?_
        obtain ⟨h_4, hf⟩ := z_ix hf
        refine z_iald hx hb hK hP 11 0 (zM_11 cy ad S_2) rfl h_4 (k := (x_1.toNatClampNeg)) rfl dX12_isRow_28 ?_
        refine lv_icmp_eq (tgt := 34) hx hb dX12_isRow_29 (by decide) (fun c_6 => ?_) (fun c_6 => ?_)
        · have hf := z_it c_6 hf
          obtain ⟨x_5, ex_5, hf⟩ := z_nm hf
          refine lv_iinc (v := x_5) (lv' := [(2, .int x_5), (0, .ref (ad 0)), (1, .int a_1)]) hx hb dX12_isRow_34 hl (k := 2) rfl (by rw [ex_5]; rfl) (by decide) rfl (fun ls hl => ?_)
          refine lv_goto (tgt := 2) hx hb dX12_isRow_37 (by decide) ?_
          exact ih_2 x_5 S_2 _ _ _ hf hP hS (lv_sub hl [1, 2, 0] rfl)
        · have hf := z_if c_6 hf
          refine lv_iconst (v := 0) hx hb dX12_isRow_32 (by decide) ?_
          obtain ⟨h1, h2⟩ := z_s2 hf
          subst h1 h2
          exact hret _ _ _ _ rfl hP hS dX12_isRow_33
  exact L_2 zFU (0 : Int32) S_0 _ _ _ hf hP hS (lv_sub hl [1, 2, 0] rfl)
def fm_round_L90 (a_1 : Int32) (x_23 : Int32) (j_123 : zSt → Option (Int32 × zSt)) : Nat → Int32 → zSt → Option (Int32 × zSt)
  | 0, _, _ => none
  | n_90 + 1, x_35, S_36 =>
    if (S_36.1 1 4) ≤ x_35 then (
    j_123  S_36) else (
    zck (zix x_35 9) <|
    zck (zix (((9 : Int32) * x_23) + x_35) 1809) <|
    znm (zpI S_36 15 ((((9 : Int32) * x_23) + x_35).toNatClampNeg) (S_36.1 11 (x_35.toNatClampNeg))) fun S_39 =>
    znm (x_35 + (1 : Int32)) fun x_40 =>
    fm_round_L90 a_1 x_23 j_123 n_90 x_40 S_39)
def fm_round_L57 (a_1 : Int32) (x_23 : Int32) (j_88 : zSt → Option (Int32 × zSt)) (j_70 : Int32 → Int32 → zSt → Option (Int32 × zSt)) : Nat → Int32 → zSt → Option (Int32 × zSt)
  | 0, _, _ => none
  | n_57 + 1, x_42, S_43 =>
    if x_23 ≤ x_42 then (
    j_88  S_43) else (
    zbd (fm_isRow S_43 x_42) fun r_44 S_45 =>
    if r_44 = 0 then (
    znm (x_42 + (1 : Int32)) fun x_47 =>
    fm_round_L57 a_1 x_23 j_88 j_70 n_57 x_47 S_45) else (
    j_70 x_23 x_42 S_45))
def fm_round_L48 (a_1 : Int32) (j_154 : zSt → Option (Int32 × zSt)) (j_133 : Int32 → zSt → Option (Int32 × zSt)) (j_70 : Int32 → Int32 → zSt → Option (Int32 × zSt)) : Nat → Int32 → zSt → Option (Int32 × zSt)
  | 0, _, _ => none
  | n_48 + 1, x_23, S_24 =>
    if (200 : Int32) < x_23 then (
    j_154  S_24) else (
    znm (fun (S_25 : zSt) =>
    znm (fun (S_26 : zSt) =>
    zbd (fm_firstChange S_26) fun r_27 S_28 =>
    if r_27 = (-1 : Int32) then (
    j_133 x_23 S_28) else (
    zbd (fm_exchanges S_28 r_27) fun _ S_31 =>
    znm (x_23 + (1 : Int32)) fun x_33 =>
    fm_round_L48 a_1 j_154 j_133 j_70 n_48 x_33 S_31)) fun j_123 =>
    fm_round_L90 a_1 x_23 j_123 zFU (0 : Int32) S_25) fun j_88 =>
    fm_round_L57 a_1 x_23 j_88 j_70 zFU (0 : Int32) S_24)
def fm_round_L18 (a_1 : Int32) (j_46 : zSt → Option (Int32 × zSt)) : Nat → Int32 → zSt → Option (Int32 × zSt)
  | 0, _, _ => none
  | n_18 + 1, x_51, S_52 =>
    if (S_52.1 1 4) ≤ x_51 then (
    j_46  S_52) else (
    zck (zix x_51 9) <|
    zck (zix x_51 9) <|
    znm (zpI S_52 11 (x_51.toNatClampNeg) (S_52.1 9 (x_51.toNatClampNeg))) fun S_55 =>
    znm (x_51 + (1 : Int32)) fun x_56 =>
    fm_round_L18 a_1 j_46 n_18 x_56 S_55)
def fm_round (S_0 : zSt) (a_1 : Int32) : Option (Int32 × zSt) :=
  zbd (fm_isIn S_0 a_1 (0 : Int32) (1 : Int32)) fun r_1 S_2 =>
  if r_1 = 0 then (
  some ((-1 : Int32), S_2)) else (
  zbd (fm_laysOrder S_2 (0 : Int32)) fun _ S_5 =>
  znm (fun (S_7 : zSt) =>
  znm (fun (S_8 : zSt) =>
  znm (fun (x_9 : Int32) (S_10 : zSt) =>
  some (x_9, S_10)) fun j_163 =>
  if a_1 = 0 then (
  j_163 (-1 : Int32) S_8) else (
  j_163 (0 : Int32) S_8)) fun j_154 =>
  znm (fun (x_12 : Int32) (S_13 : zSt) =>
  znm (fun (x_14 : Int32) (S_15 : zSt) =>
  some (x_14, S_15)) fun j_142 =>
  if a_1 = 0 then (
  j_142 x_12 S_13) else (
  j_142 (0 : Int32) S_13)) fun j_133 =>
  znm (fun (x_17 : Int32) (x_18 : Int32) (S_19 : zSt) =>
  znm (fun (x_20 : Int32) (S_21 : zSt) =>
  some (x_20, S_21)) fun j_81 =>
  if a_1 = 0 then (
  j_81 (-1 : Int32) S_19) else (
  j_81 (x_17 - x_18) S_19)) fun j_70 =>
  fm_round_L48 a_1 j_154 j_133 j_70 zFU (0 : Int32) S_7) fun j_46 =>
  fm_round_L18 a_1 j_46 zFU (0 : Int32) S_5)
set_option maxHeartbeats 4000000 in
set_option maxRecDepth 100000 in
theorem cm_round (l : Launch) (D : va_G) (K : (Nat → Nat) × (Nat → Nat)) (cy : Nat → ClassId) (ad : Nat → Nat) (S_0 : zSt) (a_1 : Int32) (ro : Int32) (So : zSt) (hf : fm_round S_0 a_1 = some (ro, So)) : zMI l yX12_round (zws yX12_round cX12_round 4 (Option.some .int)) ({ frames := 6, cells := 0, slots := 0, locals := 132 }) D (zTy cy) K (zM cy ad) [.ref (ad 0), .int a_1] S_0 ro So := by
  refine z_metI (own := RX12) (lv := [(0, .ref (ad 0)), (1, .int a_1)]) (by decide) rfl rfl (Nat.le_of_ble_eq_true rfl) rfl ?_
  intro p e s m below meth c A Q X hK hE hD hA hret hP hS ls hl
  obtain ⟨hx, hb, hml, hown, hts⟩ := id X
  have k0 := (fun w h => List.mem_cons_of_mem _ (zFX12 w h) : ∀ w ∈ u_ws RX12 TX12 36, w ∈ zws yX12_round cX12_round 4 (Option.some .int))
  have k1 := hts _ (List.mem_cons_of_mem _ wt_5_95)
  have k2 := hts _ (List.mem_cons_of_mem _ wt_5_126)
  have k3 := hts _ (List.mem_cons_of_mem _ wt_5_120)
  have k4 := hts _ (List.mem_cons_of_mem _ wt_5_117)
  refine lv_iload_n hx hb dX12_round_0 rfl (lv_at hl 1 rfl) ?_
  refine lv_iconst (v := 0) hx hb dX12_round_1 (by decide) ?_
  refine lv_iconst (v := 1) hx hb dX12_round_2 (by decide) ?_
  obtain ⟨r_1, S_2, h_3, hf⟩ := z_bd hf
  refine z_cSI (As := [.int a_1, .int (0 : Int32), .int (1 : Int32)]) (rest := []) X hK hE hD hA hP hS (cm_isIn l D K cy ad S_0 _ _ _ _ _ h_3) (va_cwS 3 hts (z_gS wt_5_216 wt_5_217 wt_1_13 wt_5_218) rfl rfl rfl yd_yX12_isIn ⟨Nat.le_of_ble_eq_true rfl, Nat.le_of_ble_eq_true rfl⟩) hl.1 rfl rfl (Nat.le_of_ble_eq_true rfl) dX12_round_3 (fun H locs hP hS => ?_)
  refine lv_if_ne (tgt := 11) hx hb dX12_round_6 (by decide) (fun c_58 => ?_) (fun c_58 => ?_)
  · have hf := z_if c_58 hf
    refine lv_aload_n hx hb dX12_round_11 rfl (lv_at hl 0 rfl) ?_
    refine lv_iconst (v := 0) hx hb dX12_round_12 (by decide) ?_
    obtain ⟨r_4, S_5, h_6, hf⟩ := z_bd hf
    refine z_cVV (As := [.int (0 : Int32)]) (rest := []) X hK hE hD hA hP hS (cm_laysOrder l D K cy ad S_2 _ _ h_6) (cwV 1 hts (z_gV wt_6_112 wt_6_114 wp_66 wt_1_13 wt_6_115) rfl rfl rfl ⟨rfl, yd_yX12_laysOrder⟩ ⟨Nat.le_of_ble_eq_true rfl, Nat.le_of_ble_eq_true rfl⟩) (va_recv hK hP (ci := 12) (q0 := 0) rfl (zM_0 cy ad S_2)) hl.1 rfl rfl (Nat.le_of_ble_eq_true rfl) dX12_round_13 (fun H locs hP hS => ?_)
    refine lv_iconst (v := 0) hx hb dX12_round_16 (by decide) ?_
    refine lv_istore_n (lv' := [(2, .int (0 : Int32)), (0, .ref (ad 0)), (1, .int a_1)]) hx hb dX12_round_17 rfl hl (by decide) rfl (fun ls hl => ?_)
    obtain ⟨j_46, ej_46, hf⟩ := z_nm hf
    have J_46 : ∀ (S_7 : zSt) (H : Heap) (locs : List Loc) (ls : Array Slot), j_46  S_7 = some (ro, So) → va_P D vwCl (zM cy ad S_7) H → va_S A s.heap H locs → lv_has ls 4 [(0, .ref (ad 0)), (1, .int a_1)] → W p l e ({ frames := 6, cells := 0, slots := 0, locals := 132 }) s m ([.ref (ad 0), .int a_1] : List Value).toArray below meth c H locs 0 0 Q (F0 m 46 ls []) := by
      intro  S_7 H locs ls hf hP hS hl
      have hf := z_e1 ej_46 hf
      refine lv_iconst (v := 0) hx hb dX12_round_46 (by decide) ?_
      refine lv_istore_n (lv' := [(2, .int (0 : Int32)), (0, .ref (ad 0)), (1, .int a_1)]) hx hb dX12_round_47 rfl hl (by decide) rfl (fun ls hl => ?_)
      obtain ⟨j_154, ej_154, hf⟩ := z_nm hf
      have J_154 : ∀ (S_8 : zSt) (H : Heap) (locs : List Loc) (ls : Array Slot), j_154  S_8 = some (ro, So) → va_P D vwCl (zM cy ad S_8) H → va_S A s.heap H locs → lv_has ls 4 [(1, .int a_1)] → W p l e ({ frames := 6, cells := 0, slots := 0, locals := 132 }) s m ([.ref (ad 0), .int a_1] : List Value).toArray below meth c H locs 0 0 Q (F0 m 154 ls []) := by
        intro  S_8 H locs ls hf hP hS hl
        have hf := z_e1 ej_154 hf
        refine lv_iload_n hx hb dX12_round_154 rfl (lv_at hl 0 rfl) ?_
        obtain ⟨j_163, ej_163, hf⟩ := z_nm hf
        have J_163 : ∀ (x_9 : Int32) (S_10 : zSt) (H : Heap) (locs : List Loc) (ls : Array Slot), j_163 x_9 S_10 = some (ro, So) → va_P D vwCl (zM cy ad S_10) H → va_S A s.heap H locs → lv_has ls 4 [] → W p l e ({ frames := 6, cells := 0, slots := 0, locals := 132 }) s m ([.ref (ad 0), .int a_1] : List Value).toArray below meth c H locs 0 0 Q (F0 m 163 ls [.int x_9]) := by
          intro x_9 S_10 H locs ls hf hP hS hl
          have hf := z_e2 ej_163 hf
          obtain ⟨h1, h2⟩ := z_s2 hf
          subst h1 h2
          exact hret _ _ _ _ hP hS dX12_round_163
        refine lv_if_ne (tgt := 162) hx hb dX12_round_155 (by decide) (fun c_11 => ?_) (fun c_11 => ?_)
        · have hf := z_if c_11 hf
          refine lv_iconst (v := 0) hx hb dX12_round_162 (by decide) ?_
          exact J_163 (0 : Int32) S_8 _ _ _ hf hP hS (lv_sub hl [] rfl)
        · have hf := z_it c_11 hf
          refine lv_iconst (v := -1) hx hb dX12_round_158 (by decide) ?_
          refine lv_goto (tgt := 163) hx hb dX12_round_159 (by decide) ?_
          exact J_163 (-1 : Int32) S_8 _ _ _ hf hP hS (lv_sub hl [] rfl)
      obtain ⟨j_133, ej_133, hf⟩ := z_nm hf
      have J_133 : ∀ (x_12 : Int32) (S_13 : zSt) (H : Heap) (locs : List Loc) (ls : Array Slot), j_133 x_12 S_13 = some (ro, So) → va_P D vwCl (zM cy ad S_13) H → va_S A s.heap H locs → lv_has ls 4 [(1, .int a_1), (2, .int x_12)] → W p l e ({ frames := 6, cells := 0, slots := 0, locals := 132 }) s m ([.ref (ad 0), .int a_1] : List Value).toArray below meth c H locs 0 0 Q (F0 m 133 ls []) := by
        intro x_12 S_13 H locs ls hf hP hS hl
        have hf := z_e2 ej_133 hf
        refine lv_iload_n hx hb dX12_round_133 rfl (lv_at hl 0 rfl) ?_
        obtain ⟨j_142, ej_142, hf⟩ := z_nm hf
        have J_142 : ∀ (x_14 : Int32) (S_15 : zSt) (H : Heap) (locs : List Loc) (ls : Array Slot), j_142 x_14 S_15 = some (ro, So) → va_P D vwCl (zM cy ad S_15) H → va_S A s.heap H locs → lv_has ls 4 [] → W p l e ({ frames := 6, cells := 0, slots := 0, locals := 132 }) s m ([.ref (ad 0), .int a_1] : List Value).toArray below meth c H locs 0 0 Q (F0 m 142 ls [.int x_14]) := by
          intro x_14 S_15 H locs ls hf hP hS hl
          have hf := z_e2 ej_142 hf
          obtain ⟨h1, h2⟩ := z_s2 hf
          subst h1 h2
          exact hret _ _ _ _ hP hS dX12_round_142
        refine lv_if_ne (tgt := 141) hx hb dX12_round_134 (by decide) (fun c_16 => ?_) (fun c_16 => ?_)
        · have hf := z_if c_16 hf
          refine lv_iconst (v := 0) hx hb dX12_round_141 (by decide) ?_
          exact J_142 (0 : Int32) S_13 _ _ _ hf hP hS (lv_sub hl [] rfl)
        · have hf := z_it c_16 hf
          refine lv_iload_n hx hb dX12_round_137 rfl (lv_at hl 1 rfl) ?_
          refine lv_goto (tgt := 142) hx hb dX12_round_138 (by decide) ?_
          exact J_142 x_12 S_13 _ _ _ hf hP hS (lv_sub hl [] rfl)
      obtain ⟨j_70, ej_70, hf⟩ := z_nm hf
      have J_70 : ∀ (x_17 : Int32) (x_18 : Int32) (S_19 : zSt) (H : Heap) (locs : List Loc) (ls : Array Slot), j_70 x_17 x_18 S_19 = some (ro, So) → va_P D vwCl (zM cy ad S_19) H → va_S A s.heap H locs → lv_has ls 4 [(1, .int a_1), (2, .int x_17), (3, .int x_18)] → W p l e ({ frames := 6, cells := 0, slots := 0, locals := 132 }) s m ([.ref (ad 0), .int a_1] : List Value).toArray below meth c H locs 0 0 Q (F0 m 70 ls []) := by
        intro x_17 x_18 S_19 H locs ls hf hP hS hl
        have hf := z_e3 ej_70 hf
        refine lv_iload_n hx hb dX12_round_70 rfl (lv_at hl 0 rfl) ?_
        obtain ⟨j_81, ej_81, hf⟩ := z_nm hf
        have J_81 : ∀ (x_20 : Int32) (S_21 : zSt) (H : Heap) (locs : List Loc) (ls : Array Slot), j_81 x_20 S_21 = some (ro, So) → va_P D vwCl (zM cy ad S_21) H → va_S A s.heap H locs → lv_has ls 4 [] → W p l e ({ frames := 6, cells := 0, slots := 0, locals := 132 }) s m ([.ref (ad 0), .int a_1] : List Value).toArray below meth c H locs 0 0 Q (F0 m 81 ls [.int x_20]) := by
          intro x_20 S_21 H locs ls hf hP hS hl
          have hf := z_e2 ej_81 hf
          obtain ⟨h1, h2⟩ := z_s2 hf
          subst h1 h2
          exact hret _ _ _ _ hP hS dX12_round_81
        refine lv_if_ne (tgt := 78) hx hb dX12_round_71 (by decide) (fun c_22 => ?_) (fun c_22 => ?_)
        · have hf := z_if c_22 hf
          refine lv_iload_n hx hb dX12_round_78 rfl (lv_at hl 1 rfl) ?_
          refine lv_iload_n hx hb dX12_round_79 rfl (lv_at hl 2 rfl) ?_
          refine lv_isub hx hb dX12_round_80 ?_
          exact J_81 (x_17 - x_18) S_19 _ _ _ hf hP hS (lv_sub hl [] rfl)
        · have hf := z_it c_22 hf
          refine lv_iconst (v := -1) hx hb dX12_round_74 (by decide) ?_
          refine lv_goto (tgt := 81) hx hb dX12_round_75 (by decide) ?_
          exact J_81 (-1 : Int32) S_19 _ _ _ hf hP hS (lv_sub hl [] rfl)
      have L_48 : ∀ (n_48 : Nat) (x_23 : Int32) (S_24 : zSt) (H : Heap) (locs : List Loc) (ls : Array Slot), fm_round_L48 a_1 j_154 j_133 j_70 n_48 x_23 S_24 = some (ro, So) → va_P D vwCl (zM cy ad S_24) H → va_S A s.heap H locs → lv_has ls 4 [(0, .ref (ad 0)), (1, .int a_1), (2, .int x_23)] → W p l e ({ frames := 6, cells := 0, slots := 0, locals := 132 }) s m ([.ref (ad 0), .int a_1] : List Value).toArray below meth c H locs 0 0 Q (F0 m 48 ls []) := by
        intro n_48
        induction n_48 with
        | zero =>
          intro x_23 S_24 H locs ls hf hP hS hl
          exact z_no hf
        | succ n_48 ih_48 =>
          intro x_23 S_24 H locs ls hf hP hS hl
          rw [fm_round_L48] at hf
          refine lv_iload_n hx hb dX12_round_48 rfl (lv_at hl 2 rfl) ?_
          refine lv_sipush (v := 200) hx hb dX12_round_49 (by decide) ?_
          refine lv_icmp_gt (tgt := 154) hx hb dX12_round_52 (by decide) (fun c_50 => ?_) (fun c_50 => ?_)
          · have hf := z_it c_50 hf
            exact J_154  S_24 _ _ _ hf hP hS (lv_sub hl [1] rfl)
          · have hf := z_if c_50 hf
            refine lv_iconst (v := 0) hx hb dX12_round_55 (by decide) ?_
            refine lv_istore_n (lv' := [(3, .int (0 : Int32)), (0, .ref (ad 0)), (1, .int a_1), (2, .int x_23)]) hx hb dX12_round_56 rfl hl (by decide) rfl (fun ls hl => ?_)
            obtain ⟨j_88, ej_88, hf⟩ := z_nm hf
            have J_88 : ∀ (S_25 : zSt) (H : Heap) (locs : List Loc) (ls : Array Slot), j_88  S_25 = some (ro, So) → va_P D vwCl (zM cy ad S_25) H → va_S A s.heap H locs → lv_has ls 4 [(0, .ref (ad 0)), (1, .int a_1), (2, .int x_23)] → W p l e ({ frames := 6, cells := 0, slots := 0, locals := 132 }) s m ([.ref (ad 0), .int a_1] : List Value).toArray below meth c H locs 0 0 Q (F0 m 88 ls []) := by
              intro  S_25 H locs ls hf hP hS hl
              have hf := z_e1 ej_88 hf
              refine lv_iconst (v := 0) hx hb dX12_round_88 (by decide) ?_
              refine lv_istore_n (lv' := [(3, .int (0 : Int32)), (0, .ref (ad 0)), (1, .int a_1), (2, .int x_23)]) hx hb dX12_round_89 rfl hl (by decide) rfl (fun ls hl => ?_)
              obtain ⟨j_123, ej_123, hf⟩ := z_nm hf
              have J_123 : ∀ (S_26 : zSt) (H : Heap) (locs : List Loc) (ls : Array Slot), j_123  S_26 = some (ro, So) → va_P D vwCl (zM cy ad S_26) H → va_S A s.heap H locs → lv_has ls 4 [(0, .ref (ad 0)), (1, .int a_1), (2, .int x_23)] → W p l e ({ frames := 6, cells := 0, slots := 0, locals := 132 }) s m ([.ref (ad 0), .int a_1] : List Value).toArray below meth c H locs 0 0 Q (F0 m 123 ls []) := by
                intro  S_26 H locs ls hf hP hS hl
                have hf := z_e1 ej_123 hf
                refine lv_aload_n hx hb dX12_round_123 rfl (lv_at hl 0 rfl) ?_
                obtain ⟨r_27, S_28, h_29, hf⟩ := z_bd hf
                refine z_cVI (As := []) (rest := []) X hK hE hD hA hP hS (cm_firstChange l D K cy ad S_26 _ _ h_29) (cwV 0 hts (z_gV wt_6_194 wt_6_196 wp_79 wt_1_13 wt_6_197) rfl rfl rfl ⟨rfl, yd_yX12_firstChange⟩ ⟨Nat.le_of_ble_eq_true rfl, Nat.le_of_ble_eq_true rfl⟩) (va_recv hK hP (ci := 12) (q0 := 0) rfl (zM_0 cy ad S_26)) hl.1 rfl rfl (Nat.le_of_ble_eq_true rfl) dX12_round_124 (fun H locs hP hS => ?_)
                refine lv_istore_n (lv' := [(3, .int r_27), (0, .ref (ad 0)), (1, .int a_1), (2, .int x_23)]) hx hb dX12_round_127 rfl hl (by decide) rfl (fun ls hl => ?_)
                refine lv_iload_n hx hb dX12_round_128 rfl (lv_at hl 0 rfl) ?_
                refine lv_iconst (v := -1) hx hb dX12_round_129 (by decide) ?_
                refine lv_icmp_ne (tgt := 143) hx hb dX12_round_130 (by decide) (fun c_34 => ?_) (fun c_34 => ?_)
                · have hf := z_if c_34 hf
                  refine lv_aload_n hx hb dX12_round_143 rfl (lv_at hl 1 rfl) ?_
                  refine lv_iload_n hx hb dX12_round_144 rfl (lv_at hl 0 rfl) ?_
                  obtain ⟨r_30, S_31, h_32, hf⟩ := z_bd hf
                  refine z_cVV (As := [.int r_27]) (rest := []) X hK hE hD hA hP hS (cm_exchanges l D K cy ad S_28 _ _ h_32) (cwV 1 hts (z_gV wt_6_202 wt_6_204 wp_81 wt_1_13 wt_6_205) rfl rfl rfl ⟨rfl, yd_yX12_exchanges⟩ ⟨Nat.le_of_ble_eq_true rfl, Nat.le_of_ble_eq_true rfl⟩) (va_recv hK hP (ci := 12) (q0 := 0) rfl (zM_0 cy ad S_28)) hl.1 rfl rfl (Nat.le_of_ble_eq_true rfl) dX12_round_145 (fun H locs hP hS => ?_)
                  obtain ⟨x_33, ex_33, hf⟩ := z_nm hf
                  refine lv_iinc (v := x_33) (lv' := [(2, .int x_33), (3, .int r_27), (0, .ref (ad 0)), (1, .int a_1)]) hx hb dX12_round_148 hl (k := 3) rfl (by rw [ex_33]; rfl) (by decide) rfl (fun ls hl => ?_)
                  refine lv_goto (tgt := 48) hx hb dX12_round_151 (by decide) ?_
                  exact ih_48 x_33 S_31 _ _ _ hf hP hS (lv_sub hl [2, 3, 0] rfl)
                · have hf := z_it c_34 hf
                  exact J_133 x_23 S_28 _ _ _ hf hP hS (lv_sub hl [2, 3] rfl)
              have L_90 : ∀ (n_90 : Nat) (x_35 : Int32) (S_36 : zSt) (H : Heap) (locs : List Loc) (ls : Array Slot), fm_round_L90 a_1 x_23 j_123 n_90 x_35 S_36 = some (ro, So) → va_P D vwCl (zM cy ad S_36) H → va_S A s.heap H locs → lv_has ls 4 [(0, .ref (ad 0)), (1, .int a_1), (2, .int x_23), (3, .int x_35)] → W p l e ({ frames := 6, cells := 0, slots := 0, locals := 132 }) s m ([.ref (ad 0), .int a_1] : List Value).toArray below meth c H locs 0 0 Q (F0 m 90 ls []) := by
                intro n_90
                induction n_90 with
                | zero =>
                  intro x_35 S_36 H locs ls hf hP hS hl
                  exact z_no hf
                | succ n_90 ih_90 =>
                  intro x_35 S_36 H locs ls hf hP hS hl
                  rw [fm_round_L90] at hf
                  refine lv_iload_n hx hb dX12_round_90 rfl (lv_at hl 3 rfl) ?_
                  refine lv_aload_n hx hb dX12_round_91 rfl (lv_at hl 0 rfl) ?_
                  refine va_get (D := D) (ci := 12) (v := .ref (ad 1)) (C := RX12) (T := TX12) (N := 36) hx hb hts k0 hown hK hP 0 (zM_0 cy ad S_36) rfl 0 (by decide) k1 (fun _ h9 => h9) rfl dX12_round_92 ?_
                  refine lv_iconst (v := 4) hx hb dX12_round_95 (by decide) ?_
                  refine z_iald hx hb hK hP 1 0 (zM_1 cy ad S_36) rfl (vp_in_iff.mpr (by decide)) (k := 4) (by decide) dX12_round_96 ?_
                  refine lv_icmp_ge (tgt := 123) hx hb dX12_round_97 (by decide) (fun c_41 => ?_) (fun c_41 => ?_)
                  · have hf := z_it c_41 hf
                    exact J_123  S_36 _ _ _ hf hP hS (lv_sub hl [0, 1, 2] rfl)
                  · have hf := z_if c_41 hf
                    refine lv_aload_n hx hb dX12_round_100 rfl (lv_at hl 0 rfl) ?_
                    refine va_get (D := D) (ci := 12) (v := .ref (ad 15)) (C := RX12) (T := TX12) (N := 36) hx hb hts k0 hown hK hP 0 (zM_0 cy ad S_36) rfl 31 (by decide) k2 (fun _ h9 => h9) rfl dX12_round_101 ?_
                    refine lv_bipush (v := 9) hx hb dX12_round_104 (by decide) ?_
                    refine lv_iload_n hx hb dX12_round_106 rfl (lv_at hl 2 rfl) ?_
                    refine lv_imul hx hb dX12_round_107 ?_
                    refine lv_iload_n hx hb dX12_round_108 rfl (lv_at hl 3 rfl) ?_
                    refine lv_iadd hx hb dX12_round_109 ?_
                    refine lv_aload_n hx hb dX12_round_110 rfl (lv_at hl 0 rfl) ?_
                    refine va_get (D := D) (ci := 12) (v := .ref (ad 11)) (C := RX12) (T := TX12) (N := 36) hx hb hts k0 hown hK hP 0 (zM_0 cy ad S_36) rfl 25 (by decide) k3 (fun _ h9 => h9) rfl dX12_round_111 ?_
                    refine lv_iload_n hx hb dX12_round_114 rfl (lv_at hl 3 rfl) ?_
                    obtain ⟨h_37, hf⟩ := z_ix hf
                    refine z_iald hx hb hK hP 11 0 (zM_11 cy ad S_36) rfl h_37 (k := (x_35.toNatClampNeg)) rfl dX12_round_115 ?_
                    obtain ⟨h_38, hf⟩ := z_ix hf
                    refine z_iast hx hb hK hP (hD S_36) hS 15 0 (zM_15 cy ad S_36) rfl h_38 (k := ((((9 : Int32) * x_23) + x_35).toNatClampNeg)) rfl dX12_round_116 (fun H locs hP hS => ?_)
                    obtain ⟨S_39, eS_39, hf⟩ := z_nm hf
                    have hP := zW_putI hP eS_39 (by decide) rfl
                    obtain ⟨x_40, ex_40, hf⟩ := z_nm hf
                    refine lv_iinc (v := x_40) (lv' := [(3, .int x_40), (0, .ref (ad 0)), (1, .int a_1), (2, .int x_23)]) hx hb dX12_round_117 hl (k := 3) rfl (by rw [ex_40]; rfl) (by decide) rfl (fun ls hl => ?_)
                    refine lv_goto (tgt := 90) hx hb dX12_round_120 (by decide) ?_
                    exact ih_90 x_40 S_39 _ _ _ hf hP hS (lv_sub hl [1, 2, 3, 0] rfl)
              exact L_90 zFU (0 : Int32) S_25 _ _ _ hf hP hS (lv_sub hl [1, 2, 3, 0] rfl)
            have L_57 : ∀ (n_57 : Nat) (x_42 : Int32) (S_43 : zSt) (H : Heap) (locs : List Loc) (ls : Array Slot), fm_round_L57 a_1 x_23 j_88 j_70 n_57 x_42 S_43 = some (ro, So) → va_P D vwCl (zM cy ad S_43) H → va_S A s.heap H locs → lv_has ls 4 [(0, .ref (ad 0)), (1, .int a_1), (2, .int x_23), (3, .int x_42)] → W p l e ({ frames := 6, cells := 0, slots := 0, locals := 132 }) s m ([.ref (ad 0), .int a_1] : List Value).toArray below meth c H locs 0 0 Q (F0 m 57 ls []) := by
              intro n_57
              induction n_57 with
              | zero =>
                intro x_42 S_43 H locs ls hf hP hS hl
                exact z_no hf
              | succ n_57 ih_57 =>
                intro x_42 S_43 H locs ls hf hP hS hl
                rw [fm_round_L57] at hf
                refine lv_iload_n hx hb dX12_round_57 rfl (lv_at hl 3 rfl) ?_
                refine lv_iload_n hx hb dX12_round_58 rfl (lv_at hl 2 rfl) ?_
                refine lv_icmp_ge (tgt := 88) hx hb dX12_round_59 (by decide) (fun c_49 => ?_) (fun c_49 => ?_)
                · have hf := z_it c_49 hf
                  exact J_88  S_43 _ _ _ hf hP hS (lv_sub hl [0, 1, 2] rfl)
                · have hf := z_if c_49 hf
                  refine lv_aload_n hx hb dX12_round_62 rfl (lv_at hl 0 rfl) ?_
                  refine lv_iload_n hx hb dX12_round_63 rfl (lv_at hl 3 rfl) ?_
                  obtain ⟨r_44, S_45, h_46, hf⟩ := z_bd hf
                  refine z_cVI (As := [.int x_42]) (rest := []) X hK hE hD hA hP hS (cm_isRow l D K cy ad S_43 _ _ _ h_46) (cwV 1 hts (z_gV wt_6_214 wt_6_216 wp_82 wt_1_13 wt_6_217) rfl rfl rfl ⟨rfl, yd_yX12_isRow⟩ ⟨Nat.le_of_ble_eq_true rfl, Nat.le_of_ble_eq_true rfl⟩) (va_recv hK hP (ci := 12) (q0 := 0) rfl (zM_0 cy ad S_43)) hl.1 rfl rfl (Nat.le_of_ble_eq_true rfl) dX12_round_64 (fun H locs hP hS => ?_)
                  refine lv_if_eq (tgt := 82) hx hb dX12_round_67 (by decide) (fun c_48 => ?_) (fun c_48 => ?_)
                  · have hf := z_it c_48 hf
                    obtain ⟨x_47, ex_47, hf⟩ := z_nm hf
                    refine lv_iinc (v := x_47) (lv' := [(3, .int x_47), (0, .ref (ad 0)), (1, .int a_1), (2, .int x_23)]) hx hb dX12_round_82 hl (k := 3) rfl (by rw [ex_47]; rfl) (by decide) rfl (fun ls hl => ?_)
                    refine lv_goto (tgt := 57) hx hb dX12_round_85 (by decide) ?_
                    exact ih_57 x_47 S_45 _ _ _ hf hP hS (lv_sub hl [1, 2, 3, 0] rfl)
                  · have hf := z_if c_48 hf
                    exact J_70 x_23 x_42 S_45 _ _ _ hf hP hS (lv_sub hl [1, 2, 3] rfl)
            exact L_57 zFU (0 : Int32) S_24 _ _ _ hf hP hS (lv_sub hl [1, 2, 3, 0] rfl)
      exact L_48 zFU (0 : Int32) S_7 _ _ _ hf hP hS (lv_sub hl [1, 2, 0] rfl)
    have L_18 : ∀ (n_18 : Nat) (x_51 : Int32) (S_52 : zSt) (H : Heap) (locs : List Loc) (ls : Array Slot), fm_round_L18 a_1 j_46 n_18 x_51 S_52 = some (ro, So) → va_P D vwCl (zM cy ad S_52) H → va_S A s.heap H locs → lv_has ls 4 [(0, .ref (ad 0)), (1, .int a_1), (2, .int x_51)] → W p l e ({ frames := 6, cells := 0, slots := 0, locals := 132 }) s m ([.ref (ad 0), .int a_1] : List Value).toArray below meth c H locs 0 0 Q (F0 m 18 ls []) := by
      intro n_18
      induction n_18 with
      | zero =>
        intro x_51 S_52 H locs ls hf hP hS hl
        exact z_no hf
      | succ n_18 ih_18 =>
        intro x_51 S_52 H locs ls hf hP hS hl
        rw [fm_round_L18] at hf
        refine lv_iload_n hx hb dX12_round_18 rfl (lv_at hl 2 rfl) ?_
        refine lv_aload_n hx hb dX12_round_19 rfl (lv_at hl 0 rfl) ?_
        refine va_get (D := D) (ci := 12) (v := .ref (ad 1)) (C := RX12) (T := TX12) (N := 36) hx hb hts k0 hown hK hP 0 (zM_0 cy ad S_52) rfl 0 (by decide) k1 (fun _ h9 => h9) rfl dX12_round_20 ?_
        refine lv_iconst (v := 4) hx hb dX12_round_23 (by decide) ?_
        refine z_iald hx hb hK hP 1 0 (zM_1 cy ad S_52) rfl (vp_in_iff.mpr (by decide)) (k := 4) (by decide) dX12_round_24 ?_
        refine lv_icmp_ge (tgt := 46) hx hb dX12_round_25 (by decide) (fun c_57 => ?_) (fun c_57 => ?_)
        · have hf := z_it c_57 hf
          exact J_46  S_52 _ _ _ hf hP hS (lv_sub hl [0, 1] rfl)
        · have hf := z_if c_57 hf
          refine lv_aload_n hx hb dX12_round_28 rfl (lv_at hl 0 rfl) ?_
          refine va_get (D := D) (ci := 12) (v := .ref (ad 11)) (C := RX12) (T := TX12) (N := 36) hx hb hts k0 hown hK hP 0 (zM_0 cy ad S_52) rfl 25 (by decide) k3 (fun _ h9 => h9) rfl dX12_round_29 ?_
          refine lv_iload_n hx hb dX12_round_32 rfl (lv_at hl 2 rfl) ?_
          refine lv_aload_n hx hb dX12_round_33 rfl (lv_at hl 0 rfl) ?_
          refine va_get (D := D) (ci := 12) (v := .ref (ad 9)) (C := RX12) (T := TX12) (N := 36) hx hb hts k0 hown hK hP 0 (zM_0 cy ad S_52) rfl 22 (by decide) k4 (fun _ h9 => h9) rfl dX12_round_34 ?_
          refine lv_iload_n hx hb dX12_round_37 rfl (lv_at hl 2 rfl) ?_
          obtain ⟨h_53, hf⟩ := z_ix hf
          refine z_iald hx hb hK hP 9 0 (zM_9 cy ad S_52) rfl h_53 (k := (x_51.toNatClampNeg)) rfl dX12_round_38 ?_
          obtain ⟨h_54, hf⟩ := z_ix hf
          refine z_iast hx hb hK hP (hD S_52) hS 11 0 (zM_11 cy ad S_52) rfl h_54 (k := (x_51.toNatClampNeg)) rfl dX12_round_39 (fun H locs hP hS => ?_)
          obtain ⟨S_55, eS_55, hf⟩ := z_nm hf
          have hP := zW_putI hP eS_55 (by decide) rfl
          obtain ⟨x_56, ex_56, hf⟩ := z_nm hf
          refine lv_iinc (v := x_56) (lv' := [(2, .int x_56), (0, .ref (ad 0)), (1, .int a_1)]) hx hb dX12_round_40 hl (k := 2) rfl (by rw [ex_56]; rfl) (by decide) rfl (fun ls hl => ?_)
          refine lv_goto (tgt := 18) hx hb dX12_round_43 (by decide) ?_
          exact ih_18 x_56 S_55 _ _ _ hf hP hS (lv_sub hl [1, 2, 0] rfl)
    exact L_18 zFU (0 : Int32) S_5 _ _ _ hf hP hS (lv_sub hl [1, 2, 0] rfl)
  · have hf := z_it c_58 hf
    refine lv_iconst (v := -1) hx hb dX12_round_9 (by decide) ?_
    obtain ⟨h1, h2⟩ := z_s2 hf
    subst h1 h2
    exact hret _ _ _ _ hP hS dX12_round_10
def fm_isLeaven (S_0 : zSt) (a_1 : Int32) : Option (Int32 × zSt) :=
  zbd (fm_isIn S_0 a_1 (0 : Int32) ((S_0.1 1 585) - (1 : Int32))) fun r_1 S_2 =>
  zck (zbo r_1) <|
  some (r_1, S_2)
set_option maxHeartbeats 4000000 in
set_option maxRecDepth 100000 in
theorem cm_isLeaven (l : Launch) (D : va_G) (K : (Nat → Nat) × (Nat → Nat)) (cy : Nat → ClassId) (ad : Nat → Nat) (S_0 : zSt) (a_1 : Int32) (ro : Int32) (So : zSt) (hf : fm_isLeaven S_0 a_1 = some (ro, So)) : zMI l yX12_isLeaven (zws yX12_isLeaven cX12_isLeaven 2 (Option.some .boolean)) ({ frames := 1, cells := 0, slots := 0, locals := 22 }) D (zTy cy) K (zM cy ad) [.ref (ad 0), .int a_1] S_0 ro So := by
  refine z_metZ (own := RX12) (lv := [(0, .ref (ad 0)), (1, .int a_1)]) (by decide) rfl rfl (Nat.le_of_ble_eq_true rfl) rfl ?_
  intro p e s m below meth c A Q X hK hE hD hA hret hP hS ls hl
  obtain ⟨hx, hb, hml, hown, hts⟩ := id X
  have k0 := (fun w h => List.mem_cons_of_mem _ (zFX12 w h) : ∀ w ∈ u_ws RX12 TX12 36, w ∈ zws yX12_isLeaven cX12_isLeaven 2 (Option.some .boolean))
  have k1 := hts _ (List.mem_cons_of_mem _ wt_5_95)
  refine lv_iload_n hx hb dX12_isLeaven_0 rfl (lv_at hl 1 rfl) ?_
  refine lv_iconst (v := 0) hx hb dX12_isLeaven_1 (by decide) ?_
  refine lv_aload_n hx hb dX12_isLeaven_2 rfl (lv_at hl 0 rfl) ?_
  refine va_get (D := D) (ci := 12) (v := .ref (ad 1)) (C := RX12) (T := TX12) (N := 36) hx hb hts k0 hown hK hP 0 (zM_0 cy ad S_0) rfl 0 (by decide) k1 (fun _ h9 => h9) rfl dX12_isLeaven_3 ?_
  refine lv_sipush (v := 585) hx hb dX12_isLeaven_6 (by decide) ?_
  refine z_iald hx hb hK hP 1 0 (zM_1 cy ad S_0) rfl (vp_in_iff.mpr (by decide)) (k := 585) (by decide) dX12_isLeaven_9 ?_
  refine lv_iconst (v := 1) hx hb dX12_isLeaven_10 (by decide) ?_
  refine lv_isub hx hb dX12_isLeaven_11 ?_
  obtain ⟨r_1, S_2, h_3, hf⟩ := z_bd hf
  refine z_cSI (As := [.int a_1, .int (0 : Int32), .int ((S_0.1 1 585) - (1 : Int32))]) (rest := []) X hK hE hD hA hP hS (cm_isIn l D K cy ad S_0 _ _ _ _ _ h_3) (va_cwS 3 hts (z_gS wt_5_216 wt_5_217 wt_1_13 wt_5_218) rfl rfl rfl yd_yX12_isIn ⟨Nat.le_of_ble_eq_true rfl, Nat.le_of_ble_eq_true rfl⟩) hl.1 rfl rfl (Nat.le_of_ble_eq_true rfl) dX12_isLeaven_12 (fun H locs hP hS => ?_)
  obtain ⟨h_4, hf⟩ := z_bo hf
  obtain ⟨h1, h2⟩ := z_s2 hf
  subst h1 h2
  exact hret _ _ _ _ h_4 hP hS dX12_isLeaven_15
def fm_ofLeaven (S_0 : zSt) (a_1 : Int32) (a_2 : Int32) : Option (Int32 × zSt) :=
  zck (zix (((340 : Int32) + ((4 : Int32) * a_1)) + a_2) 1480) <|
  some (S_0.1 1 ((((340 : Int32) + ((4 : Int32) * a_1)) + a_2).toNatClampNeg), S_0)
set_option maxHeartbeats 4000000 in
set_option maxRecDepth 100000 in
theorem cm_ofLeaven (l : Launch) (D : va_G) (K : (Nat → Nat) × (Nat → Nat)) (cy : Nat → ClassId) (ad : Nat → Nat) (S_0 : zSt) (a_1 : Int32) (a_2 : Int32) (ro : Int32) (So : zSt) (hf : fm_ofLeaven S_0 a_1 a_2 = some (ro, So)) : zMI l yX12_ofLeaven (zws yX12_ofLeaven cX12_ofLeaven 3 (Option.some .int)) ({ frames := 0, cells := 0, slots := 0, locals := 0 }) D (zTy cy) K (zM cy ad) [.ref (ad 0), .int a_1, .int a_2] S_0 ro So := by
  refine z_metI (own := RX12) (lv := [(0, .ref (ad 0)), (1, .int a_1), (2, .int a_2)]) (by decide) rfl rfl (Nat.le_of_ble_eq_true rfl) rfl ?_
  intro p e s m below meth c A Q X hK hE hD hA hret hP hS ls hl
  obtain ⟨hx, hb, hml, hown, hts⟩ := id X
  have k0 := (fun w h => List.mem_cons_of_mem _ (zFX12 w h) : ∀ w ∈ u_ws RX12 TX12 36, w ∈ zws yX12_ofLeaven cX12_ofLeaven 3 (Option.some .int))
  have k1 := hts _ (List.mem_cons_of_mem _ wt_5_95)
  refine lv_aload_n hx hb dX12_ofLeaven_0 rfl (lv_at hl 0 rfl) ?_
  refine va_get (D := D) (ci := 12) (v := .ref (ad 1)) (C := RX12) (T := TX12) (N := 36) hx hb hts k0 hown hK hP 0 (zM_0 cy ad S_0) rfl 0 (by decide) k1 (fun _ h9 => h9) rfl dX12_ofLeaven_1 ?_
  refine lv_sipush (v := 340) hx hb dX12_ofLeaven_4 (by decide) ?_
  refine lv_iconst (v := 4) hx hb dX12_ofLeaven_7 (by decide) ?_
  refine lv_iload_n hx hb dX12_ofLeaven_8 rfl (lv_at hl 1 rfl) ?_
  refine lv_imul hx hb dX12_ofLeaven_9 ?_
  refine lv_iadd hx hb dX12_ofLeaven_10 ?_
  refine lv_iload_n hx hb dX12_ofLeaven_11 rfl (lv_at hl 2 rfl) ?_
  refine lv_iadd hx hb dX12_ofLeaven_12 ?_
  obtain ⟨h_1, hf⟩ := z_ix hf
  refine z_iald hx hb hK hP 1 0 (zM_1 cy ad S_0) rfl h_1 (k := ((((340 : Int32) + ((4 : Int32) * a_1)) + a_2).toNatClampNeg)) rfl dX12_ofLeaven_13 ?_
  obtain ⟨h1, h2⟩ := z_s2 hf
  subst h1 h2
  exact hret _ _ _ _ hP hS dX12_ofLeaven_14
def fm_leaven (S_0 : zSt) (a_1 : Int32) (a_2 : Int32) : Option (Int32 × zSt) :=
  if (S_0.1 1 585) = (60 : Int32) then (
  some ((-1 : Int32), S_0)) else (
  znm ((340 : Int32) + ((4 : Int32) * (S_0.1 1 585))) fun x_1 =>
  znm (fun (S_2 : zSt) =>
  znm (zpI S_2 1 585 ((S_2.1 1 585) + (1 : Int32))) fun S_3 =>
  some ((S_3.1 1 585) - (1 : Int32), S_3)) fun j_178 =>
  if a_2 = (-1 : Int32) then (
  zbd (fm_isHouse S_0 a_1) fun r_38 S_39 =>
  if r_38 = 0 then (
  some ((-1 : Int32), S_39)) else (
  zck (zix x_1 1480) <|
  znm (zpI S_39 1 (x_1.toNatClampNeg) (-1 : Int32)) fun S_42 =>
  zck (zix (x_1 + (1 : Int32)) 1480) <|
  znm (zpI S_42 1 ((x_1 + (1 : Int32)).toNatClampNeg) (-1 : Int32)) fun S_44 =>
  zck (zix (x_1 + (2 : Int32)) 1480) <|
  znm (zpI S_44 1 ((x_1 + (2 : Int32)).toNatClampNeg) a_1) fun S_46 =>
  zck (zix (x_1 + (3 : Int32)) 1480) <|
  znm (zpI S_46 1 ((x_1 + (3 : Int32)).toNatClampNeg) (0 : Int32)) fun S_48 =>
  j_178  S_48)) else (
  zbd (fm_isLeaven S_0 a_1) fun r_4 S_5 =>
  znm (fun (S_7 : zSt) =>
  some ((-1 : Int32), S_7)) fun j_98 =>
  if r_4 = 0 then (
  j_98  S_5) else (
  zbd (fm_isLeaven S_5 a_2) fun r_8 S_9 =>
  if r_8 = 0 then (
  j_98  S_9) else (
  zbd (fm_ofLeaven S_9 a_1 (3 : Int32)) fun r_11 S_12 =>
  zbd (fm_ofLeaven S_12 a_2 (3 : Int32)) fun r_14 S_15 =>
  znm (fun (x_17 : Int32) (S_18 : zSt) =>
  znm ((1 : Int32) + x_17) fun x_19 =>
  if x_19 ≤ (30 : Int32) then (
  zck (zix x_1 1480) <|
  znm (zpI S_18 1 (x_1.toNatClampNeg) a_1) fun S_21 =>
  zck (zix (x_1 + (1 : Int32)) 1480) <|
  znm (zpI S_21 1 ((x_1 + (1 : Int32)).toNatClampNeg) a_2) fun S_23 =>
  zck (zix (x_1 + (2 : Int32)) 1480) <|
  znm (zpI S_23 1 ((x_1 + (2 : Int32)).toNatClampNeg) (-1 : Int32)) fun S_25 =>
  zck (zix (x_1 + (3 : Int32)) 1480) <|
  znm (zpI S_25 1 ((x_1 + (3 : Int32)).toNatClampNeg) x_19) fun S_27 =>
  j_178  S_27) else (
  some ((-1 : Int32), S_18))) fun j_131 =>
  if r_11 ≤ r_14 then (
  zbd (fm_ofLeaven S_15 a_2 (3 : Int32)) fun r_29 S_30 =>
  j_131 r_29 S_30) else (
  zbd (fm_ofLeaven S_15 a_1 (3 : Int32)) fun r_32 S_33 =>
  j_131 r_32 S_33)))))
set_option maxHeartbeats 4000000 in
set_option maxRecDepth 100000 in
theorem cm_leaven (l : Launch) (D : va_G) (K : (Nat → Nat) × (Nat → Nat)) (cy : Nat → ClassId) (ad : Nat → Nat) (S_0 : zSt) (a_1 : Int32) (a_2 : Int32) (ro : Int32) (So : zSt) (hf : fm_leaven S_0 a_1 a_2 = some (ro, So)) : zMI l yX12_leaven (zws yX12_leaven cX12_leaven 5 (Option.some .int)) ({ frames := 2, cells := 0, slots := 0, locals := 43 }) D (zTy cy) K (zM cy ad) [.ref (ad 0), .int a_1, .int a_2] S_0 ro So := by
  refine z_metI (own := RX12) (lv := [(0, .ref (ad 0)), (1, .int a_1), (2, .int a_2)]) (by decide) rfl rfl (Nat.le_of_ble_eq_true rfl) rfl ?_
  intro p e s m below meth c A Q X hK hE hD hA hret hP hS ls hl
  obtain ⟨hx, hb, hml, hown, hts⟩ := id X
  have k0 := (fun w h => List.mem_cons_of_mem _ (zFX12 w h) : ∀ w ∈ u_ws RX12 TX12 36, w ∈ zws yX12_leaven cX12_leaven 5 (Option.some .int))
  have k1 := hts _ (List.mem_cons_of_mem _ wt_5_95)
  refine lv_aload_n hx hb dX12_leaven_0 rfl (lv_at hl 0 rfl) ?_
  refine va_get (D := D) (ci := 12) (v := .ref (ad 1)) (C := RX12) (T := TX12) (N := 36) hx hb hts k0 hown hK hP 0 (zM_0 cy ad S_0) rfl 0 (by decide) k1 (fun _ h9 => h9) rfl dX12_leaven_1 ?_
  refine lv_sipush (v := 585) hx hb dX12_leaven_4 (by decide) ?_
  refine z_iald hx hb hK hP 1 0 (zM_1 cy ad S_0) rfl (vp_in_iff.mpr (by decide)) (k := 585) (by decide) dX12_leaven_7 ?_
  refine lv_bipush (v := 60) hx hb dX12_leaven_8 (by decide) ?_
  refine lv_icmp_ne (tgt := 15) hx hb dX12_leaven_10 (by decide) (fun c_51 => ?_) (fun c_51 => ?_)
  · have hf := z_if c_51 hf
    refine lv_sipush (v := 340) hx hb dX12_leaven_15 (by decide) ?_
    refine lv_iconst (v := 4) hx hb dX12_leaven_18 (by decide) ?_
    refine lv_aload_n hx hb dX12_leaven_19 rfl (lv_at hl 0 rfl) ?_
    refine va_get (D := D) (ci := 12) (v := .ref (ad 1)) (C := RX12) (T := TX12) (N := 36) hx hb hts k0 hown hK hP 0 (zM_0 cy ad S_0) rfl 0 (by decide) k1 (fun _ h9 => h9) rfl dX12_leaven_20 ?_
    refine lv_sipush (v := 585) hx hb dX12_leaven_23 (by decide) ?_
    refine z_iald hx hb hK hP 1 0 (zM_1 cy ad S_0) rfl (vp_in_iff.mpr (by decide)) (k := 585) (by decide) dX12_leaven_26 ?_
    refine lv_imul hx hb dX12_leaven_27 ?_
    refine lv_iadd hx hb dX12_leaven_28 ?_
    refine lv_topi (fun x_1 ex_1 => ?_)
    have hf := z_nv ex_1 hf
    refine lv_istore_n (lv' := [(3, .int x_1), (0, .ref (ad 0)), (1, .int a_1), (2, .int a_2)]) hx hb dX12_leaven_29 rfl hl (by decide) rfl (fun ls hl => ?_)
    refine lv_iload_n hx hb dX12_leaven_30 rfl (lv_at hl 3 rfl) ?_
    refine lv_iconst (v := -1) hx hb dX12_leaven_31 (by decide) ?_
    obtain ⟨j_178, ej_178, hf⟩ := z_nm hf
    have J_178 : ∀ (S_2 : zSt) (H : Heap) (locs : List Loc) (ls : Array Slot), j_178  S_2 = some (ro, So) → va_P D vwCl (zM cy ad S_2) H → va_S A s.heap H locs → lv_has ls 5 [(0, .ref (ad 0))] → W p l e ({ frames := 2, cells := 0, slots := 0, locals := 43 }) s m ([.ref (ad 0), .int a_1, .int a_2] : List Value).toArray below meth c H locs 0 0 Q (F0 m 178 ls []) := by
      intro  S_2 H locs ls hf hP hS hl
      have hf := z_e1 ej_178 hf
      refine lv_aload_n hx hb dX12_leaven_178 rfl (lv_at hl 0 rfl) ?_
      refine va_get (D := D) (ci := 12) (v := .ref (ad 1)) (C := RX12) (T := TX12) (N := 36) hx hb hts k0 hown hK hP 0 (zM_0 cy ad S_2) rfl 0 (by decide) k1 (fun _ h9 => h9) rfl dX12_leaven_179 ?_
      refine lv_sipush (v := 585) hx hb dX12_leaven_182 (by decide) ?_
      refine lv_dup2_11 hx hb dX12_leaven_185 rfl rfl ?_
      refine z_iald hx hb hK hP 1 0 (zM_1 cy ad S_2) rfl (vp_in_iff.mpr (by decide)) (k := 585) (by decide) dX12_leaven_186 ?_
      refine lv_iconst (v := 1) hx hb dX12_leaven_187 (by decide) ?_
      refine lv_iadd hx hb dX12_leaven_188 ?_
      refine z_iast hx hb hK hP (hD S_2) hS 1 0 (zM_1 cy ad S_2) rfl (vp_in_iff.mpr (by decide)) (k := 585) (by decide) dX12_leaven_189 (fun H locs hP hS => ?_)
      obtain ⟨S_3, eS_3, hf⟩ := z_nm hf
      have hP := zW_putI hP eS_3 (by decide) rfl
      refine lv_aload_n hx hb dX12_leaven_190 rfl (lv_at hl 0 rfl) ?_
      refine va_get (D := D) (ci := 12) (v := .ref (ad 1)) (C := RX12) (T := TX12) (N := 36) hx hb hts k0 hown hK hP 0 (zM_0 cy ad S_3) rfl 0 (by decide) k1 (fun _ h9 => h9) rfl dX12_leaven_191 ?_
      refine lv_sipush (v := 585) hx hb dX12_leaven_194 (by decide) ?_
      refine z_iald hx hb hK hP 1 0 (zM_1 cy ad S_3) rfl (vp_in_iff.mpr (by decide)) (k := 585) (by decide) dX12_leaven_197 ?_
      refine lv_iconst (v := 1) hx hb dX12_leaven_198 (by decide) ?_
      refine lv_isub hx hb dX12_leaven_199 ?_
      obtain ⟨h1, h2⟩ := z_s2 hf
      subst h1 h2
      exact hret _ _ _ _ hP hS dX12_leaven_200
    refine lv_icmp_ne (tgt := 82) hx hb dX12_leaven_32 (by decide) (fun c_50 => ?_) (fun c_50 => ?_)
    · have hf := z_if c_50 hf
      refine lv_aload_n hx hb dX12_leaven_82 rfl (lv_at hl 1 rfl) ?_
      refine lv_iload_n hx hb dX12_leaven_83 rfl (lv_at hl 2 rfl) ?_
      obtain ⟨r_4, S_5, h_6, hf⟩ := z_bd hf
      refine z_cVI (As := [.int a_1]) (rest := []) X hK hE hD hA hP hS (cm_isLeaven l D K cy ad S_0 _ _ _ h_6) (cwV 1 hts (z_gV wt_6_222 wt_6_224 wp_83 wt_1_13 wt_6_225) rfl rfl rfl ⟨rfl, yd_yX12_isLeaven⟩ ⟨Nat.le_of_ble_eq_true rfl, Nat.le_of_ble_eq_true rfl⟩) (va_recv hK hP (ci := 12) (q0 := 0) rfl (zM_0 cy ad S_0)) hl.1 rfl rfl (Nat.le_of_ble_eq_true rfl) dX12_leaven_84 (fun H locs hP hS => ?_)
      obtain ⟨j_98, ej_98, hf⟩ := z_nm hf
      have J_98 : ∀ (S_7 : zSt) (H : Heap) (locs : List Loc) (ls : Array Slot), j_98  S_7 = some (ro, So) → va_P D vwCl (zM cy ad S_7) H → va_S A s.heap H locs → lv_has ls 5 [] → W p l e ({ frames := 2, cells := 0, slots := 0, locals := 43 }) s m ([.ref (ad 0), .int a_1, .int a_2] : List Value).toArray below meth c H locs 0 0 Q (F0 m 98 ls []) := by
        intro  S_7 H locs ls hf hP hS hl
        have hf := z_e1 ej_98 hf
        refine lv_iconst (v := -1) hx hb dX12_leaven_98 (by decide) ?_
        obtain ⟨h1, h2⟩ := z_s2 hf
        subst h1 h2
        exact hret _ _ _ _ hP hS dX12_leaven_99
      refine lv_if_eq (tgt := 98) hx hb dX12_leaven_87 (by decide) (fun c_37 => ?_) (fun c_37 => ?_)
      · have hf := z_it c_37 hf
        exact J_98  S_5 _ _ _ hf hP hS (lv_sub hl [] rfl)
      · have hf := z_if c_37 hf
        refine lv_aload_n hx hb dX12_leaven_90 rfl (lv_at hl 1 rfl) ?_
        refine lv_iload_n hx hb dX12_leaven_91 rfl (lv_at hl 3 rfl) ?_
        obtain ⟨r_8, S_9, h_10, hf⟩ := z_bd hf
        refine z_cVI (As := [.int a_2]) (rest := []) X hK hE hD hA hP hS (cm_isLeaven l D K cy ad S_5 _ _ _ h_10) (cwV 1 hts (z_gV wt_6_222 wt_6_224 wp_83 wt_1_13 wt_6_225) rfl rfl rfl ⟨rfl, yd_yX12_isLeaven⟩ ⟨Nat.le_of_ble_eq_true rfl, Nat.le_of_ble_eq_true rfl⟩) (va_recv hK hP (ci := 12) (q0 := 0) rfl (zM_0 cy ad S_5)) hl.1 rfl rfl (Nat.le_of_ble_eq_true rfl) dX12_leaven_92 (fun H locs hP hS => ?_)
        refine lv_if_ne (tgt := 100) hx hb dX12_leaven_95 (by decide) (fun c_36 => ?_) (fun c_36 => ?_)
        · have hf := z_if c_36 hf
          refine lv_iconst (v := 1) hx hb dX12_leaven_100 (by decide) ?_
          refine lv_aload_n hx hb dX12_leaven_101 rfl (lv_at hl 1 rfl) ?_
          refine lv_iload_n hx hb dX12_leaven_102 rfl (lv_at hl 2 rfl) ?_
          refine lv_iconst (v := 3) hx hb dX12_leaven_103 (by decide) ?_
          obtain ⟨r_11, S_12, h_13, hf⟩ := z_bd hf
          refine z_cVI (As := [.int a_1, .int (3 : Int32)]) (rest := [.int (1 : Int32)]) X hK hE hD hA hP hS (cm_ofLeaven l D K cy ad S_9 _ _ _ _ h_13) (cwV 2 hts (z_gV wt_6_226 wt_6_228 wp_84 wt_1_13 wt_6_229) rfl rfl rfl ⟨rfl, yd_yX12_ofLeaven⟩ ⟨Nat.le_of_ble_eq_true rfl, Nat.le_of_ble_eq_true rfl⟩) (va_recv hK hP (ci := 12) (q0 := 0) rfl (zM_0 cy ad S_9)) hl.1 rfl rfl (Nat.le_of_ble_eq_true rfl) dX12_leaven_104 (fun H locs hP hS => ?_)
          refine lv_aload_n hx hb dX12_leaven_107 rfl (lv_at hl 1 rfl) ?_
          refine lv_iload_n hx hb dX12_leaven_108 rfl (lv_at hl 3 rfl) ?_
          refine lv_iconst (v := 3) hx hb dX12_leaven_109 (by decide) ?_
          obtain ⟨r_14, S_15, h_16, hf⟩ := z_bd hf
          refine z_cVI (As := [.int a_2, .int (3 : Int32)]) (rest := [.int r_11, .int (1 : Int32)]) X hK hE hD hA hP hS (cm_ofLeaven l D K cy ad S_12 _ _ _ _ h_16) (cwV 2 hts (z_gV wt_6_226 wt_6_228 wp_84 wt_1_13 wt_6_229) rfl rfl rfl ⟨rfl, yd_yX12_ofLeaven⟩ ⟨Nat.le_of_ble_eq_true rfl, Nat.le_of_ble_eq_true rfl⟩) (va_recv hK hP (ci := 12) (q0 := 0) rfl (zM_0 cy ad S_12)) hl.1 rfl rfl (Nat.le_of_ble_eq_true rfl) dX12_leaven_110 (fun H locs hP hS => ?_)
          obtain ⟨j_131, ej_131, hf⟩ := z_nm hf
          have J_131 : ∀ (x_17 : Int32) (S_18 : zSt) (H : Heap) (locs : List Loc) (ls : Array Slot), j_131 x_17 S_18 = some (ro, So) → va_P D vwCl (zM cy ad S_18) H → va_S A s.heap H locs → lv_has ls 5 [(0, .ref (ad 0)), (1, .int a_1), (2, .int a_2), (3, .int x_1)] → W p l e ({ frames := 2, cells := 0, slots := 0, locals := 43 }) s m ([.ref (ad 0), .int a_1, .int a_2] : List Value).toArray below meth c H locs 0 0 Q (F0 m 131 ls [.int x_17, .int (1 : Int32)]) := by
            intro x_17 S_18 H locs ls hf hP hS hl
            have hf := z_e2 ej_131 hf
            refine lv_iadd hx hb dX12_leaven_131 ?_
            refine lv_topi (fun x_19 ex_19 => ?_)
            have hf := z_nv ex_19 hf
            refine lv_istore (lv' := [(4, .int x_19), (0, .ref (ad 0)), (1, .int a_1), (2, .int a_2), (3, .int x_1)]) hx hb dX12_leaven_132 hl (by decide) rfl (fun ls hl => ?_)
            refine lv_iload hx hb dX12_leaven_134 (lv_at hl 0 rfl) ?_
            refine lv_bipush (v := 30) hx hb dX12_leaven_136 (by decide) ?_
            refine lv_icmp_le (tgt := 143) hx hb dX12_leaven_138 (by decide) (fun c_28 => ?_) (fun c_28 => ?_)
            · have hf := z_it c_28 hf
              refine lv_aload_n hx hb dX12_leaven_143 rfl (lv_at hl 1 rfl) ?_
              refine va_get (D := D) (ci := 12) (v := .ref (ad 1)) (C := RX12) (T := TX12) (N := 36) hx hb hts k0 hown hK hP 0 (zM_0 cy ad S_18) rfl 0 (by decide) k1 (fun _ h9 => h9) rfl dX12_leaven_144 ?_
              refine lv_iload_n hx hb dX12_leaven_147 rfl (lv_at hl 4 rfl) ?_
              refine lv_iload_n hx hb dX12_leaven_148 rfl (lv_at hl 2 rfl) ?_
              obtain ⟨h_20, hf⟩ := z_ix hf
              refine z_iast hx hb hK hP (hD S_18) hS 1 0 (zM_1 cy ad S_18) rfl h_20 (k := (x_1.toNatClampNeg)) rfl dX12_leaven_149 (fun H locs hP hS => ?_)
              obtain ⟨S_21, eS_21, hf⟩ := z_nm hf
              have hP := zW_putI hP eS_21 (by decide) rfl
              refine lv_aload_n hx hb dX12_leaven_150 rfl (lv_at hl 1 rfl) ?_
              refine va_get (D := D) (ci := 12) (v := .ref (ad 1)) (C := RX12) (T := TX12) (N := 36) hx hb hts k0 hown hK hP 0 (zM_0 cy ad S_21) rfl 0 (by decide) k1 (fun _ h9 => h9) rfl dX12_leaven_151 ?_
              refine lv_iload_n hx hb dX12_leaven_154 rfl (lv_at hl 4 rfl) ?_
              refine lv_iconst (v := 1) hx hb dX12_leaven_155 (by decide) ?_
              refine lv_iadd hx hb dX12_leaven_156 ?_
              refine lv_iload_n hx hb dX12_leaven_157 rfl (lv_at hl 3 rfl) ?_
              obtain ⟨h_22, hf⟩ := z_ix hf
              refine z_iast hx hb hK hP (hD S_21) hS 1 0 (zM_1 cy ad S_21) rfl h_22 (k := ((x_1 + (1 : Int32)).toNatClampNeg)) rfl dX12_leaven_158 (fun H locs hP hS => ?_)
              obtain ⟨S_23, eS_23, hf⟩ := z_nm hf
              have hP := zW_putI hP eS_23 (by decide) rfl
              refine lv_aload_n hx hb dX12_leaven_159 rfl (lv_at hl 1 rfl) ?_
              refine va_get (D := D) (ci := 12) (v := .ref (ad 1)) (C := RX12) (T := TX12) (N := 36) hx hb hts k0 hown hK hP 0 (zM_0 cy ad S_23) rfl 0 (by decide) k1 (fun _ h9 => h9) rfl dX12_leaven_160 ?_
              refine lv_iload_n hx hb dX12_leaven_163 rfl (lv_at hl 4 rfl) ?_
              refine lv_iconst (v := 2) hx hb dX12_leaven_164 (by decide) ?_
              refine lv_iadd hx hb dX12_leaven_165 ?_
              refine lv_iconst (v := -1) hx hb dX12_leaven_166 (by decide) ?_
              obtain ⟨h_24, hf⟩ := z_ix hf
              refine z_iast hx hb hK hP (hD S_23) hS 1 0 (zM_1 cy ad S_23) rfl h_24 (k := ((x_1 + (2 : Int32)).toNatClampNeg)) rfl dX12_leaven_167 (fun H locs hP hS => ?_)
              obtain ⟨S_25, eS_25, hf⟩ := z_nm hf
              have hP := zW_putI hP eS_25 (by decide) rfl
              refine lv_aload_n hx hb dX12_leaven_168 rfl (lv_at hl 1 rfl) ?_
              refine va_get (D := D) (ci := 12) (v := .ref (ad 1)) (C := RX12) (T := TX12) (N := 36) hx hb hts k0 hown hK hP 0 (zM_0 cy ad S_25) rfl 0 (by decide) k1 (fun _ h9 => h9) rfl dX12_leaven_169 ?_
              refine lv_iload_n hx hb dX12_leaven_172 rfl (lv_at hl 4 rfl) ?_
              refine lv_iconst (v := 3) hx hb dX12_leaven_173 (by decide) ?_
              refine lv_iadd hx hb dX12_leaven_174 ?_
              refine lv_iload hx hb dX12_leaven_175 (lv_at hl 0 rfl) ?_
              obtain ⟨h_26, hf⟩ := z_ix hf
              refine z_iast hx hb hK hP (hD S_25) hS 1 0 (zM_1 cy ad S_25) rfl h_26 (k := ((x_1 + (3 : Int32)).toNatClampNeg)) rfl dX12_leaven_177 (fun H locs hP hS => ?_)
              obtain ⟨S_27, eS_27, hf⟩ := z_nm hf
              have hP := zW_putI hP eS_27 (by decide) rfl
              exact J_178  S_27 _ _ _ hf hP hS (lv_sub hl [1] rfl)
            · have hf := z_if c_28 hf
              refine lv_iconst (v := -1) hx hb dX12_leaven_141 (by decide) ?_
              obtain ⟨h1, h2⟩ := z_s2 hf
              subst h1 h2
              exact hret _ _ _ _ hP hS dX12_leaven_142
          refine lv_icmp_le (tgt := 125) hx hb dX12_leaven_113 (by decide) (fun c_35 => ?_) (fun c_35 => ?_)
          · have hf := z_it c_35 hf
            refine lv_aload_n hx hb dX12_leaven_125 rfl (lv_at hl 1 rfl) ?_
            refine lv_iload_n hx hb dX12_leaven_126 rfl (lv_at hl 3 rfl) ?_
            refine lv_iconst (v := 3) hx hb dX12_leaven_127 (by decide) ?_
            obtain ⟨r_29, S_30, h_31, hf⟩ := z_bd hf
            refine z_cVI (As := [.int a_2, .int (3 : Int32)]) (rest := [.int (1 : Int32)]) X hK hE hD hA hP hS (cm_ofLeaven l D K cy ad S_15 _ _ _ _ h_31) (cwV 2 hts (z_gV wt_6_226 wt_6_228 wp_84 wt_1_13 wt_6_229) rfl rfl rfl ⟨rfl, yd_yX12_ofLeaven⟩ ⟨Nat.le_of_ble_eq_true rfl, Nat.le_of_ble_eq_true rfl⟩) (va_recv hK hP (ci := 12) (q0 := 0) rfl (zM_0 cy ad S_15)) hl.1 rfl rfl (Nat.le_of_ble_eq_true rfl) dX12_leaven_128 (fun H locs hP hS => ?_)
            exact J_131 r_29 S_30 _ _ _ hf hP hS (lv_sub hl [1, 2, 3, 0] rfl)
          · have hf := z_if c_35 hf
            refine lv_aload_n hx hb dX12_leaven_116 rfl (lv_at hl 1 rfl) ?_
            refine lv_iload_n hx hb dX12_leaven_117 rfl (lv_at hl 2 rfl) ?_
            refine lv_iconst (v := 3) hx hb dX12_leaven_118 (by decide) ?_
            obtain ⟨r_32, S_33, h_34, hf⟩ := z_bd hf
            refine z_cVI (As := [.int a_1, .int (3 : Int32)]) (rest := [.int (1 : Int32)]) X hK hE hD hA hP hS (cm_ofLeaven l D K cy ad S_15 _ _ _ _ h_34) (cwV 2 hts (z_gV wt_6_226 wt_6_228 wp_84 wt_1_13 wt_6_229) rfl rfl rfl ⟨rfl, yd_yX12_ofLeaven⟩ ⟨Nat.le_of_ble_eq_true rfl, Nat.le_of_ble_eq_true rfl⟩) (va_recv hK hP (ci := 12) (q0 := 0) rfl (zM_0 cy ad S_15)) hl.1 rfl rfl (Nat.le_of_ble_eq_true rfl) dX12_leaven_119 (fun H locs hP hS => ?_)
            refine lv_goto (tgt := 131) hx hb dX12_leaven_122 (by decide) ?_
            exact J_131 r_32 S_33 _ _ _ hf hP hS (lv_sub hl [1, 2, 3, 0] rfl)
        · have hf := z_it c_36 hf
          exact J_98  S_9 _ _ _ hf hP hS (lv_sub hl [] rfl)
    · have hf := z_it c_50 hf
      refine lv_aload_n hx hb dX12_leaven_35 rfl (lv_at hl 1 rfl) ?_
      refine lv_iload_n hx hb dX12_leaven_36 rfl (lv_at hl 2 rfl) ?_
      obtain ⟨r_38, S_39, h_40, hf⟩ := z_bd hf
      refine z_cVI (As := [.int a_1]) (rest := []) X hK hE hD hA hP hS (cm_isHouse l D K cy ad S_0 _ _ _ h_40) (cwV 1 hts (z_gV wt_6_90 wt_6_92 wp_63 wt_1_13 wt_6_93) rfl rfl rfl ⟨rfl, yd_yX12_isHouse⟩ ⟨Nat.le_of_ble_eq_true rfl, Nat.le_of_ble_eq_true rfl⟩) (va_recv hK hP (ci := 12) (q0 := 0) rfl (zM_0 cy ad S_0)) hl.1 rfl rfl (Nat.le_of_ble_eq_true rfl) dX12_leaven_37 (fun H locs hP hS => ?_)
      refine lv_if_ne (tgt := 45) hx hb dX12_leaven_40 (by decide) (fun c_49 => ?_) (fun c_49 => ?_)
      · have hf := z_if c_49 hf
        refine lv_aload_n hx hb dX12_leaven_45 rfl (lv_at hl 1 rfl) ?_
        refine va_get (D := D) (ci := 12) (v := .ref (ad 1)) (C := RX12) (T := TX12) (N := 36) hx hb hts k0 hown hK hP 0 (zM_0 cy ad S_39) rfl 0 (by decide) k1 (fun _ h9 => h9) rfl dX12_leaven_46 ?_
        refine lv_iload_n hx hb dX12_leaven_49 rfl (lv_at hl 0 rfl) ?_
        refine lv_iconst (v := -1) hx hb dX12_leaven_50 (by decide) ?_
        obtain ⟨h_41, hf⟩ := z_ix hf
        refine z_iast hx hb hK hP (hD S_39) hS 1 0 (zM_1 cy ad S_39) rfl h_41 (k := (x_1.toNatClampNeg)) rfl dX12_leaven_51 (fun H locs hP hS => ?_)
        obtain ⟨S_42, eS_42, hf⟩ := z_nm hf
        have hP := zW_putI hP eS_42 (by decide) rfl
        refine lv_aload_n hx hb dX12_leaven_52 rfl (lv_at hl 1 rfl) ?_
        refine va_get (D := D) (ci := 12) (v := .ref (ad 1)) (C := RX12) (T := TX12) (N := 36) hx hb hts k0 hown hK hP 0 (zM_0 cy ad S_42) rfl 0 (by decide) k1 (fun _ h9 => h9) rfl dX12_leaven_53 ?_
        refine lv_iload_n hx hb dX12_leaven_56 rfl (lv_at hl 0 rfl) ?_
        refine lv_iconst (v := 1) hx hb dX12_leaven_57 (by decide) ?_
        refine lv_iadd hx hb dX12_leaven_58 ?_
        refine lv_iconst (v := -1) hx hb dX12_leaven_59 (by decide) ?_
        obtain ⟨h_43, hf⟩ := z_ix hf
        refine z_iast hx hb hK hP (hD S_42) hS 1 0 (zM_1 cy ad S_42) rfl h_43 (k := ((x_1 + (1 : Int32)).toNatClampNeg)) rfl dX12_leaven_60 (fun H locs hP hS => ?_)
        obtain ⟨S_44, eS_44, hf⟩ := z_nm hf
        have hP := zW_putI hP eS_44 (by decide) rfl
        refine lv_aload_n hx hb dX12_leaven_61 rfl (lv_at hl 1 rfl) ?_
        refine va_get (D := D) (ci := 12) (v := .ref (ad 1)) (C := RX12) (T := TX12) (N := 36) hx hb hts k0 hown hK hP 0 (zM_0 cy ad S_44) rfl 0 (by decide) k1 (fun _ h9 => h9) rfl dX12_leaven_62 ?_
        refine lv_iload_n hx hb dX12_leaven_65 rfl (lv_at hl 0 rfl) ?_
        refine lv_iconst (v := 2) hx hb dX12_leaven_66 (by decide) ?_
        refine lv_iadd hx hb dX12_leaven_67 ?_
        refine lv_iload_n hx hb dX12_leaven_68 rfl (lv_at hl 2 rfl) ?_
        obtain ⟨h_45, hf⟩ := z_ix hf
        refine z_iast hx hb hK hP (hD S_44) hS 1 0 (zM_1 cy ad S_44) rfl h_45 (k := ((x_1 + (2 : Int32)).toNatClampNeg)) rfl dX12_leaven_69 (fun H locs hP hS => ?_)
        obtain ⟨S_46, eS_46, hf⟩ := z_nm hf
        have hP := zW_putI hP eS_46 (by decide) rfl
        refine lv_aload_n hx hb dX12_leaven_70 rfl (lv_at hl 1 rfl) ?_
        refine va_get (D := D) (ci := 12) (v := .ref (ad 1)) (C := RX12) (T := TX12) (N := 36) hx hb hts k0 hown hK hP 0 (zM_0 cy ad S_46) rfl 0 (by decide) k1 (fun _ h9 => h9) rfl dX12_leaven_71 ?_
        refine lv_iload_n hx hb dX12_leaven_74 rfl (lv_at hl 0 rfl) ?_
        refine lv_iconst (v := 3) hx hb dX12_leaven_75 (by decide) ?_
        refine lv_iadd hx hb dX12_leaven_76 ?_
        refine lv_iconst (v := 0) hx hb dX12_leaven_77 (by decide) ?_
        obtain ⟨h_47, hf⟩ := z_ix hf
        refine z_iast hx hb hK hP (hD S_46) hS 1 0 (zM_1 cy ad S_46) rfl h_47 (k := ((x_1 + (3 : Int32)).toNatClampNeg)) rfl dX12_leaven_78 (fun H locs hP hS => ?_)
        obtain ⟨S_48, eS_48, hf⟩ := z_nm hf
        have hP := zW_putI hP eS_48 (by decide) rfl
        refine lv_goto (tgt := 178) hx hb dX12_leaven_79 (by decide) ?_
        exact J_178  S_48 _ _ _ hf hP hS (lv_sub hl [1] rfl)
      · have hf := z_it c_49 hf
        refine lv_iconst (v := -1) hx hb dX12_leaven_43 (by decide) ?_
        obtain ⟨h1, h2⟩ := z_s2 hf
        subst h1 h2
        exact hret _ _ _ _ hP hS dX12_leaven_44
  · have hf := z_it c_51 hf
    refine lv_iconst (v := -1) hx hb dX12_leaven_13 (by decide) ?_
    obtain ⟨h1, h2⟩ := z_s2 hf
    subst h1 h2
    exact hret _ _ _ _ hP hS dX12_leaven_14
def fm_laysParts_L2 (a_1 : Int32) : Nat → Int32 → zSt → Option (Unit × zSt)
  | 0, _, _ => none
  | n_2 + 1, x_1, S_2 =>
    if (S_2.1 1 585) ≤ x_1 then (
    some ((), S_2)) else (
    zbd (fm_ofLeaven S_2 x_1 (0 : Int32)) fun r_3 S_4 =>
    zbd (fm_ofLeaven S_4 x_1 (1 : Int32)) fun r_6 S_7 =>
    zbd (fm_ofLeaven S_7 x_1 (3 : Int32)) fun r_9 S_10 =>
    znm (fun (x_12 : Int64) (S_13 : zSt) =>
    zck (zix x_1 60) <|
    znm (zpL S_13 16 (x_1.toNatClampNeg) x_12) fun S_15 =>
    znm (fun (S_16 : zSt) =>
    znm (x_1 + (1 : Int32)) fun x_17 =>
    fm_laysParts_L2 a_1 n_2 x_17 S_16) fun j_114 =>
    if x_1 = a_1 then (
    j_114  S_15) else (
    if r_3 = (-1 : Int32) then (
    j_114  S_15) else (
    zck (zix r_3 60) <|
    zbd (fm_ofLeaven S_15 r_3 (3 : Int32)) fun r_19 S_20 =>
    zck (zix r_6 60) <|
    zbd (fm_ofLeaven S_20 r_6 (3 : Int32)) fun r_23 S_24 =>
    zck (zix x_1 60) <|
    znm (zpL S_24 16 (x_1.toNatClampNeg) (((S_15.2 16 (r_3.toNatClampNeg)) <<< (((r_9 - (1 : Int32)) - r_19).toInt64 &&& 63)) + ((S_20.2 16 (r_6.toNatClampNeg)) <<< (((r_9 - (1 : Int32)) - r_23).toInt64 &&& 63)))) fun S_27 =>
    j_114  S_27))) fun j_55 =>
    if x_1 = a_1 then (
    j_55 ((1 : Int64) <<< (r_9.toInt64 &&& 63)) S_10) else (
    j_55 (0 : Int64) S_10))
def fm_laysParts (S_0 : zSt) (a_1 : Int32) : Option (Unit × zSt) :=
  fm_laysParts_L2 a_1 zFU (0 : Int32) S_0
set_option maxHeartbeats 4000000 in
set_option maxRecDepth 100000 in
theorem cm_laysParts (l : Launch) (D : va_G) (K : (Nat → Nat) × (Nat → Nat)) (cy : Nat → ClassId) (ad : Nat → Nat) (S_0 : zSt) (a_1 : Int32) (So : zSt) (hf : fm_laysParts S_0 a_1 = some ((), So)) : zMV l yX12_laysParts (zws yX12_laysParts cX12_laysParts 6 none) ({ frames := 1, cells := 0, slots := 0, locals := 22 }) D (zTy cy) K (zM cy ad) [.ref (ad 0), .int a_1] S_0 So := by
  refine z_metV (own := RX12) (lv := [(0, .ref (ad 0)), (1, .int a_1)]) (by decide) rfl rfl (Nat.le_of_ble_eq_true rfl) rfl ?_
  intro p e s m below meth c A Q X hK hE hD hA hret hP hS ls hl
  obtain ⟨hx, hb, hml, hown, hts⟩ := id X
  have k0 := (fun w h => List.mem_cons_of_mem _ (zFX12 w h) : ∀ w ∈ u_ws RX12 TX12 36, w ∈ zws yX12_laysParts cX12_laysParts 6 none)
  have k1 := hts _ (List.mem_cons_of_mem _ wt_5_95)
  have k2 := hts _ (List.mem_cons_of_mem _ wt_5_127)
  refine lv_iconst (v := 0) hx hb dX12_laysParts_0 (by decide) ?_
  refine lv_istore_n (lv' := [(2, .int (0 : Int32)), (0, .ref (ad 0)), (1, .int a_1)]) hx hb dX12_laysParts_1 rfl hl (by decide) rfl (fun ls hl => ?_)
  have L_2 : ∀ (n_2 : Nat) (x_1 : Int32) (S_2 : zSt) (H : Heap) (locs : List Loc) (ls : Array Slot), fm_laysParts_L2 a_1 n_2 x_1 S_2 = some ((), So) → va_P D vwCl (zM cy ad S_2) H → va_S A s.heap H locs → lv_has ls 6 [(0, .ref (ad 0)), (1, .int a_1), (2, .int x_1)] → W p l e ({ frames := 1, cells := 0, slots := 0, locals := 22 }) s m ([.ref (ad 0), .int a_1] : List Value).toArray below meth c H locs 0 0 Q (F0 m 2 ls []) := by
    intro n_2
    induction n_2 with
    | zero =>
      intro x_1 S_2 H locs ls hf hP hS hl
      exact z_no hf
    | succ n_2 ih_2 =>
      intro x_1 S_2 H locs ls hf hP hS hl
      rw [fm_laysParts_L2] at hf
      refine lv_iload_n hx hb dX12_laysParts_2 rfl (lv_at hl 2 rfl) ?_
      refine lv_aload_n hx hb dX12_laysParts_3 rfl (lv_at hl 0 rfl) ?_
      refine va_get (D := D) (ci := 12) (v := .ref (ad 1)) (C := RX12) (T := TX12) (N := 36) hx hb hts k0 hown hK hP 0 (zM_0 cy ad S_2) rfl 0 (by decide) k1 (fun _ h9 => h9) rfl dX12_laysParts_4 ?_
      refine lv_sipush (v := 585) hx hb dX12_laysParts_7 (by decide) ?_
      refine z_iald hx hb hK hP 1 0 (zM_1 cy ad S_2) rfl (vp_in_iff.mpr (by decide)) (k := 585) (by decide) dX12_laysParts_10 ?_
      refine lv_icmp_ge (tgt := 120) hx hb dX12_laysParts_11 (by decide) (fun c_31 => ?_) (fun c_31 => ?_)
      · have hf := z_it c_31 hf
        obtain ⟨h1, h2⟩ := z_s2 hf
        subst h2
        exact hret _ _ _ _ hP hS dX12_laysParts_120
      · have hf := z_if c_31 hf
        refine lv_aload_n hx hb dX12_laysParts_14 rfl (lv_at hl 0 rfl) ?_
        refine lv_iload_n hx hb dX12_laysParts_15 rfl (lv_at hl 2 rfl) ?_
        refine lv_iconst (v := 0) hx hb dX12_laysParts_16 (by decide) ?_
        obtain ⟨r_3, S_4, h_5, hf⟩ := z_bd hf
        refine z_cVI (As := [.int x_1, .int (0 : Int32)]) (rest := []) X hK hE hD hA hP hS (cm_ofLeaven l D K cy ad S_2 _ _ _ _ h_5) (cwV 2 hts (z_gV wt_6_226 wt_6_228 wp_84 wt_1_13 wt_6_229) rfl rfl rfl ⟨rfl, yd_yX12_ofLeaven⟩ ⟨Nat.le_of_ble_eq_true rfl, Nat.le_of_ble_eq_true rfl⟩) (va_recv hK hP (ci := 12) (q0 := 0) rfl (zM_0 cy ad S_2)) hl.1 rfl rfl (Nat.le_of_ble_eq_true rfl) dX12_laysParts_17 (fun H locs hP hS => ?_)
        refine lv_istore_n (lv' := [(3, .int r_3), (0, .ref (ad 0)), (1, .int a_1), (2, .int x_1)]) hx hb dX12_laysParts_20 rfl hl (by decide) rfl (fun ls hl => ?_)
        refine lv_aload_n hx hb dX12_laysParts_21 rfl (lv_at hl 1 rfl) ?_
        refine lv_iload_n hx hb dX12_laysParts_22 rfl (lv_at hl 3 rfl) ?_
        refine lv_iconst (v := 1) hx hb dX12_laysParts_23 (by decide) ?_
        obtain ⟨r_6, S_7, h_8, hf⟩ := z_bd hf
        refine z_cVI (As := [.int x_1, .int (1 : Int32)]) (rest := []) X hK hE hD hA hP hS (cm_ofLeaven l D K cy ad S_4 _ _ _ _ h_8) (cwV 2 hts (z_gV wt_6_226 wt_6_228 wp_84 wt_1_13 wt_6_229) rfl rfl rfl ⟨rfl, yd_yX12_ofLeaven⟩ ⟨Nat.le_of_ble_eq_true rfl, Nat.le_of_ble_eq_true rfl⟩) (va_recv hK hP (ci := 12) (q0 := 0) rfl (zM_0 cy ad S_4)) hl.1 rfl rfl (Nat.le_of_ble_eq_true rfl) dX12_laysParts_24 (fun H locs hP hS => ?_)
        refine lv_istore (lv' := [(4, .int r_6), (3, .int r_3), (0, .ref (ad 0)), (1, .int a_1), (2, .int x_1)]) hx hb dX12_laysParts_27 hl (by decide) rfl (fun ls hl => ?_)
        refine lv_aload_n hx hb dX12_laysParts_29 rfl (lv_at hl 2 rfl) ?_
        refine lv_iload_n hx hb dX12_laysParts_30 rfl (lv_at hl 4 rfl) ?_
        refine lv_iconst (v := 3) hx hb dX12_laysParts_31 (by decide) ?_
        obtain ⟨r_9, S_10, h_11, hf⟩ := z_bd hf
        refine z_cVI (As := [.int x_1, .int (3 : Int32)]) (rest := []) X hK hE hD hA hP hS (cm_ofLeaven l D K cy ad S_7 _ _ _ _ h_11) (cwV 2 hts (z_gV wt_6_226 wt_6_228 wp_84 wt_1_13 wt_6_229) rfl rfl rfl ⟨rfl, yd_yX12_ofLeaven⟩ ⟨Nat.le_of_ble_eq_true rfl, Nat.le_of_ble_eq_true rfl⟩) (va_recv hK hP (ci := 12) (q0 := 0) rfl (zM_0 cy ad S_7)) hl.1 rfl rfl (Nat.le_of_ble_eq_true rfl) dX12_laysParts_32 (fun H locs hP hS => ?_)
        refine lv_istore (lv' := [(5, .int r_9), (4, .int r_6), (3, .int r_3), (0, .ref (ad 0)), (1, .int a_1), (2, .int x_1)]) hx hb dX12_laysParts_35 hl (by decide) rfl (fun ls hl => ?_)
        refine lv_aload_n hx hb dX12_laysParts_37 rfl (lv_at hl 3 rfl) ?_
        refine va_get (D := D) (ci := 12) (v := .ref (ad 16)) (C := RX12) (T := TX12) (N := 36) hx hb hts k0 hown hK hP 0 (zM_0 cy ad S_10) rfl 32 (by decide) k2 (fun _ h9 => h9) rfl dX12_laysParts_38 ?_
        refine lv_iload_n hx hb dX12_laysParts_41 rfl (lv_at hl 5 rfl) ?_
        refine lv_iload_n hx hb dX12_laysParts_42 rfl (lv_at hl 5 rfl) ?_
        refine lv_iload_n hx hb dX12_laysParts_43 rfl (lv_at hl 4 rfl) ?_
        obtain ⟨j_55, ej_55, hf⟩ := z_nm hf
        have J_55 : ∀ (x_12 : Int64) (S_13 : zSt) (H : Heap) (locs : List Loc) (ls : Array Slot), j_55 x_12 S_13 = some ((), So) → va_P D vwCl (zM cy ad S_13) H → va_S A s.heap H locs → lv_has ls 6 [(0, .ref (ad 0)), (1, .int a_1), (2, .int x_1), (3, .int r_3), (4, .int r_6), (5, .int r_9)] → W p l e ({ frames := 1, cells := 0, slots := 0, locals := 22 }) s m ([.ref (ad 0), .int a_1] : List Value).toArray below meth c H locs 0 0 Q (F0 m 55 ls [.long x_12, .int x_1, .ref (ad 16)]) := by
          intro x_12 S_13 H locs ls hf hP hS hl
          have hf := z_e2 ej_55 hf
          obtain ⟨h_14, hf⟩ := z_ix hf
          refine z_last hx hb hK hP (hD S_13) hS 16 1 (zM_16 cy ad S_13) rfl h_14 (k := (x_1.toNatClampNeg)) rfl dX12_laysParts_55 (fun H locs hP hS => ?_)
          obtain ⟨S_15, eS_15, hf⟩ := z_nm hf
          have hP := zW_putL hP eS_15 (by decide) rfl
          refine lv_iload_n hx hb dX12_laysParts_56 rfl (lv_at hl 2 rfl) ?_
          refine lv_iload_n hx hb dX12_laysParts_57 rfl (lv_at hl 1 rfl) ?_
          obtain ⟨j_114, ej_114, hf⟩ := z_nm hf
          have J_114 : ∀ (S_16 : zSt) (H : Heap) (locs : List Loc) (ls : Array Slot), j_114  S_16 = some ((), So) → va_P D vwCl (zM cy ad S_16) H → va_S A s.heap H locs → lv_has ls 6 [(0, .ref (ad 0)), (1, .int a_1), (2, .int x_1)] → W p l e ({ frames := 1, cells := 0, slots := 0, locals := 22 }) s m ([.ref (ad 0), .int a_1] : List Value).toArray below meth c H locs 0 0 Q (F0 m 114 ls []) := by
            intro  S_16 H locs ls hf hP hS hl
            have hf := z_e1 ej_114 hf
            obtain ⟨x_17, ex_17, hf⟩ := z_nm hf
            refine lv_iinc (v := x_17) (lv' := [(2, .int x_17), (0, .ref (ad 0)), (1, .int a_1)]) hx hb dX12_laysParts_114 hl (k := 2) rfl (by rw [ex_17]; rfl) (by decide) rfl (fun ls hl => ?_)
            refine lv_goto (tgt := 2) hx hb dX12_laysParts_117 (by decide) ?_
            exact ih_2 x_17 S_16 _ _ _ hf hP hS (lv_sub hl [1, 2, 0] rfl)
          refine lv_icmp_eq (tgt := 114) hx hb dX12_laysParts_58 (by decide) (fun c_29 => ?_) (fun c_29 => ?_)
          · have hf := z_it c_29 hf
            exact J_114  S_15 _ _ _ hf hP hS (lv_sub hl [0, 1, 2] rfl)
          · have hf := z_if c_29 hf
            refine lv_iload_n hx hb dX12_laysParts_61 rfl (lv_at hl 3 rfl) ?_
            refine lv_iconst (v := -1) hx hb dX12_laysParts_62 (by decide) ?_
            refine lv_icmp_ne (tgt := 69) hx hb dX12_laysParts_63 (by decide) (fun c_28 => ?_) (fun c_28 => ?_)
            · have hf := z_if c_28 hf
              refine lv_aload_n hx hb dX12_laysParts_69 rfl (lv_at hl 0 rfl) ?_
              refine va_get (D := D) (ci := 12) (v := .ref (ad 16)) (C := RX12) (T := TX12) (N := 36) hx hb hts k0 hown hK hP 0 (zM_0 cy ad S_15) rfl 32 (by decide) k2 (fun _ h9 => h9) rfl dX12_laysParts_70 ?_
              refine lv_iload_n hx hb dX12_laysParts_73 rfl (lv_at hl 2 rfl) ?_
              refine lv_aload_n hx hb dX12_laysParts_74 rfl (lv_at hl 0 rfl) ?_
              refine va_get (D := D) (ci := 12) (v := .ref (ad 16)) (C := RX12) (T := TX12) (N := 36) hx hb hts k0 hown hK hP 0 (zM_0 cy ad S_15) rfl 32 (by decide) k2 (fun _ h9 => h9) rfl dX12_laysParts_75 ?_
              refine lv_iload_n hx hb dX12_laysParts_78 rfl (lv_at hl 3 rfl) ?_
              obtain ⟨h_18, hf⟩ := z_ix hf
              refine z_lald hx hb hK hP 16 1 (zM_16 cy ad S_15) rfl h_18 (k := (r_3.toNatClampNeg)) rfl dX12_laysParts_79 ?_
              refine lv_iload hx hb dX12_laysParts_80 (lv_at hl 5 rfl) ?_
              refine lv_iconst (v := 1) hx hb dX12_laysParts_82 (by decide) ?_
              refine lv_isub hx hb dX12_laysParts_83 ?_
              refine lv_aload_n hx hb dX12_laysParts_84 rfl (lv_at hl 0 rfl) ?_
              refine lv_iload_n hx hb dX12_laysParts_85 rfl (lv_at hl 3 rfl) ?_
              refine lv_iconst (v := 3) hx hb dX12_laysParts_86 (by decide) ?_
              obtain ⟨r_19, S_20, h_21, hf⟩ := z_bd hf
              refine z_cVI (As := [.int r_3, .int (3 : Int32)]) (rest := [.int (r_9 - (1 : Int32)), .long (S_15.2 16 (r_3.toNatClampNeg)), .int x_1, .ref (ad 16)]) X hK hE hD hA hP hS (cm_ofLeaven l D K cy ad S_15 _ _ _ _ h_21) (cwV 2 hts (z_gV wt_6_226 wt_6_228 wp_84 wt_1_13 wt_6_229) rfl rfl rfl ⟨rfl, yd_yX12_ofLeaven⟩ ⟨Nat.le_of_ble_eq_true rfl, Nat.le_of_ble_eq_true rfl⟩) (va_recv hK hP (ci := 12) (q0 := 0) rfl (zM_0 cy ad S_15)) hl.1 rfl rfl (Nat.le_of_ble_eq_true rfl) dX12_laysParts_87 (fun H locs hP hS => ?_)
              refine lv_isub hx hb dX12_laysParts_90 ?_
              refine lv_lshl hx hb dX12_laysParts_91 rfl ?_
              refine lv_aload_n hx hb dX12_laysParts_92 rfl (lv_at hl 0 rfl) ?_
              refine va_get (D := D) (ci := 12) (v := .ref (ad 16)) (C := RX12) (T := TX12) (N := 36) hx hb hts k0 hown hK hP 0 (zM_0 cy ad S_20) rfl 32 (by decide) k2 (fun _ h9 => h9) rfl dX12_laysParts_93 ?_
              refine lv_iload hx hb dX12_laysParts_96 (lv_at hl 4 rfl) ?_
              obtain ⟨h_22, hf⟩ := z_ix hf
              refine z_lald hx hb hK hP 16 1 (zM_16 cy ad S_20) rfl h_22 (k := (r_6.toNatClampNeg)) rfl dX12_laysParts_98 ?_
              refine lv_iload hx hb dX12_laysParts_99 (lv_at hl 5 rfl) ?_
              refine lv_iconst (v := 1) hx hb dX12_laysParts_101 (by decide) ?_
              refine lv_isub hx hb dX12_laysParts_102 ?_
              refine lv_aload_n hx hb dX12_laysParts_103 rfl (lv_at hl 0 rfl) ?_
              refine lv_iload hx hb dX12_laysParts_104 (lv_at hl 4 rfl) ?_
              refine lv_iconst (v := 3) hx hb dX12_laysParts_106 (by decide) ?_
              obtain ⟨r_23, S_24, h_25, hf⟩ := z_bd hf
              refine z_cVI (As := [.int r_6, .int (3 : Int32)]) (rest := [.int (r_9 - (1 : Int32)), .long (S_20.2 16 (r_6.toNatClampNeg)), .long ((S_15.2 16 (r_3.toNatClampNeg)) <<< (((r_9 - (1 : Int32)) - r_19).toInt64 &&& 63)), .int x_1, .ref (ad 16)]) X hK hE hD hA hP hS (cm_ofLeaven l D K cy ad S_20 _ _ _ _ h_25) (cwV 2 hts (z_gV wt_6_226 wt_6_228 wp_84 wt_1_13 wt_6_229) rfl rfl rfl ⟨rfl, yd_yX12_ofLeaven⟩ ⟨Nat.le_of_ble_eq_true rfl, Nat.le_of_ble_eq_true rfl⟩) (va_recv hK hP (ci := 12) (q0 := 0) rfl (zM_0 cy ad S_20)) hl.1 rfl rfl (Nat.le_of_ble_eq_true rfl) dX12_laysParts_107 (fun H locs hP hS => ?_)
              refine lv_isub hx hb dX12_laysParts_110 ?_
              refine lv_lshl hx hb dX12_laysParts_111 rfl ?_
              refine lv_ladd hx hb dX12_laysParts_112 ?_
              obtain ⟨h_26, hf⟩ := z_ix hf
              refine z_last hx hb hK hP (hD S_24) hS 16 1 (zM_16 cy ad S_24) rfl h_26 (k := (x_1.toNatClampNeg)) rfl dX12_laysParts_113 (fun H locs hP hS => ?_)
              obtain ⟨S_27, eS_27, hf⟩ := z_nm hf
              have hP := zW_putL hP eS_27 (by decide) rfl
              exact J_114  S_27 _ _ _ hf hP hS (lv_sub hl [0, 1, 2] rfl)
            · have hf := z_it c_28 hf
              refine lv_goto (tgt := 114) hx hb dX12_laysParts_66 (by decide) ?_
              exact J_114  S_15 _ _ _ hf hP hS (lv_sub hl [0, 1, 2] rfl)
        refine lv_icmp_ne (tgt := 54) hx hb dX12_laysParts_44 (by decide) (fun c_30 => ?_) (fun c_30 => ?_)
        · have hf := z_if c_30 hf
          refine lv_lconst (v := 0) hx hb dX12_laysParts_54 (by decide) ?_
          exact J_55 (0 : Int64) S_10 _ _ _ hf hP hS (lv_sub hl [3, 4, 5, 2, 1, 0] rfl)
        · have hf := z_it c_30 hf
          refine lv_lconst (v := 1) hx hb dX12_laysParts_47 (by decide) ?_
          refine lv_iload hx hb dX12_laysParts_48 (lv_at hl 0 rfl) ?_
          refine lv_lshl hx hb dX12_laysParts_50 rfl ?_
          refine lv_goto (tgt := 55) hx hb dX12_laysParts_51 (by decide) ?_
          exact J_55 ((1 : Int64) <<< (r_9.toInt64 &&& 63)) S_10 _ _ _ hf hP hS (lv_sub hl [3, 4, 5, 2, 1, 0] rfl)
  exact L_2 zFU (0 : Int32) S_0 _ _ _ hf hP hS (lv_sub hl [1, 2, 0] rfl)
def fm_part_L69 (a_3 : Int32) (j_106 : Int64 → Int64 → zSt → Option (Int32 × zSt)) : Nat → Int64 → Int64 → zSt → Option (Int32 × zSt)
  | 0, _, _, _ => none
  | n_69 + 1, x_29, x_30, S_31 =>
    if (lg_cmp (x_29 - x_29 / (2 : Int64) * (2 : Int64)) (0 : Int64)) = 0 then (
    if (lg_cmp x_30 (1 : Int64)) ≤ 0 then (
    j_106 x_29 x_30 S_31) else (
    znm (x_29 / (2 : Int64)) fun x_32 =>
    znm (x_30 / (2 : Int64)) fun x_33 =>
    fm_part_L69 a_3 j_106 n_69 x_32 x_33 S_31)) else (
    j_106 x_29 x_30 S_31)
def fm_part (S_0 : zSt) (a_1 : Int32) (a_2 : Int32) (a_3 : Int32) : Option (Int32 × zSt) :=
  zbd (fm_isLeaven S_0 a_1) fun r_1 S_2 =>
  znm (fun (S_4 : zSt) =>
  some ((-1 : Int32), S_4)) fun j_35 =>
  if r_1 = 0 then (
  j_35  S_2) else (
  zbd (fm_isLeaven S_2 a_2) fun r_5 S_6 =>
  if r_5 = 0 then (
  j_35  S_6) else (
  zbd (fm_ofLeaven S_6 a_2 (0 : Int32)) fun r_8 S_9 =>
  if r_8 = (-1 : Int32) then (
  zbd (fm_isIn S_9 a_3 (0 : Int32) (1 : Int32)) fun r_11 S_12 =>
  if r_11 = 0 then (
  j_35  S_12) else (
  zbd (fm_laysParts S_12 a_2) fun _ S_15 =>
  zck (zix a_1 60) <|
  znm (S_15.2 16 (a_1.toNatClampNeg)) fun x_18 =>
  zbd (fm_ofLeaven S_15 a_1 (3 : Int32)) fun r_19 S_20 =>
  znm ((1 : Int64) <<< (r_19.toInt64 &&& 63)) fun x_22 =>
  if (lg_cmp x_18 (0 : Int64)) = 0 then (
  some (a_3, S_20)) else (
  znm (fun (x_23 : Int64) (x_24 : Int64) (S_25 : zSt) =>
  znm (fun (x_26 : Int64) (S_27 : zSt) =>
  some (x_26.toInt32, S_27)) fun j_117 =>
  if a_3 = 0 then (
  j_117 x_23 S_25) else (
  j_117 x_24 S_25)) fun j_106 =>
  fm_part_L69 a_3 j_106 zFU x_18 x_22 S_20))) else (
  j_35  S_9)))
set_option maxHeartbeats 4000000 in
set_option maxRecDepth 100000 in
theorem cm_part (l : Launch) (D : va_G) (K : (Nat → Nat) × (Nat → Nat)) (cy : Nat → ClassId) (ad : Nat → Nat) (S_0 : zSt) (a_1 : Int32) (a_2 : Int32) (a_3 : Int32) (ro : Int32) (So : zSt) (hf : fm_part S_0 a_1 a_2 a_3 = some (ro, So)) : zMI l yX12_part (zws yX12_part cX12_part 8 (Option.some .int)) ({ frames := 2, cells := 0, slots := 0, locals := 47 }) D (zTy cy) K (zM cy ad) [.ref (ad 0), .int a_1, .int a_2, .int a_3] S_0 ro So := by
  refine z_metI (own := RX12) (lv := [(0, .ref (ad 0)), (1, .int a_1), (2, .int a_2), (3, .int a_3)]) (by decide) rfl rfl (Nat.le_of_ble_eq_true rfl) rfl ?_
  intro p e s m below meth c A Q X hK hE hD hA hret hP hS ls hl
  obtain ⟨hx, hb, hml, hown, hts⟩ := id X
  have k0 := (fun w h => List.mem_cons_of_mem _ (zFX12 w h) : ∀ w ∈ u_ws RX12 TX12 36, w ∈ zws yX12_part cX12_part 8 (Option.some .int))
  have k1 := hts _ (List.mem_cons_of_mem _ wt_5_127)
  have k2 := hts _ (List.mem_cons_of_mem _ wt_6_238)
  refine lv_aload_n hx hb dX12_part_0 rfl (lv_at hl 0 rfl) ?_
  refine lv_iload_n hx hb dX12_part_1 rfl (lv_at hl 1 rfl) ?_
  obtain ⟨r_1, S_2, h_3, hf⟩ := z_bd hf
  refine z_cVI (As := [.int a_1]) (rest := []) X hK hE hD hA hP hS (cm_isLeaven l D K cy ad S_0 _ _ _ h_3) (cwV 1 hts (z_gV wt_6_222 wt_6_224 wp_83 wt_1_13 wt_6_225) rfl rfl rfl ⟨rfl, yd_yX12_isLeaven⟩ ⟨Nat.le_of_ble_eq_true rfl, Nat.le_of_ble_eq_true rfl⟩) (va_recv hK hP (ci := 12) (q0 := 0) rfl (zM_0 cy ad S_0)) hl.1 rfl rfl (Nat.le_of_ble_eq_true rfl) dX12_part_2 (fun H locs hP hS => ?_)
  obtain ⟨j_35, ej_35, hf⟩ := z_nm hf
  have J_35 : ∀ (S_4 : zSt) (H : Heap) (locs : List Loc) (ls : Array Slot), j_35  S_4 = some (ro, So) → va_P D vwCl (zM cy ad S_4) H → va_S A s.heap H locs → lv_has ls 8 [] → W p l e ({ frames := 2, cells := 0, slots := 0, locals := 47 }) s m ([.ref (ad 0), .int a_1, .int a_2, .int a_3] : List Value).toArray below meth c H locs 0 0 Q (F0 m 35 ls []) := by
    intro  S_4 H locs ls hf hP hS hl
    have hf := z_e1 ej_35 hf
    refine lv_iconst (v := -1) hx hb dX12_part_35 (by decide) ?_
    obtain ⟨h1, h2⟩ := z_s2 hf
    subst h1 h2
    exact hret _ _ _ _ hP hS dX12_part_36
  refine lv_if_eq (tgt := 35) hx hb dX12_part_5 (by decide) (fun c_40 => ?_) (fun c_40 => ?_)
  · have hf := z_it c_40 hf
    exact J_35  S_2 _ _ _ hf hP hS (lv_sub hl [] rfl)
  · have hf := z_if c_40 hf
    refine lv_aload_n hx hb dX12_part_8 rfl (lv_at hl 0 rfl) ?_
    refine lv_iload_n hx hb dX12_part_9 rfl (lv_at hl 2 rfl) ?_
    obtain ⟨r_5, S_6, h_7, hf⟩ := z_bd hf
    refine z_cVI (As := [.int a_2]) (rest := []) X hK hE hD hA hP hS (cm_isLeaven l D K cy ad S_2 _ _ _ h_7) (cwV 1 hts (z_gV wt_6_222 wt_6_224 wp_83 wt_1_13 wt_6_225) rfl rfl rfl ⟨rfl, yd_yX12_isLeaven⟩ ⟨Nat.le_of_ble_eq_true rfl, Nat.le_of_ble_eq_true rfl⟩) (va_recv hK hP (ci := 12) (q0 := 0) rfl (zM_0 cy ad S_2)) hl.1 rfl rfl (Nat.le_of_ble_eq_true rfl) dX12_part_10 (fun H locs hP hS => ?_)
    refine lv_if_eq (tgt := 35) hx hb dX12_part_13 (by decide) (fun c_39 => ?_) (fun c_39 => ?_)
    · have hf := z_it c_39 hf
      exact J_35  S_6 _ _ _ hf hP hS (lv_sub hl [] rfl)
    · have hf := z_if c_39 hf
      refine lv_aload_n hx hb dX12_part_16 rfl (lv_at hl 0 rfl) ?_
      refine lv_iload_n hx hb dX12_part_17 rfl (lv_at hl 2 rfl) ?_
      refine lv_iconst (v := 0) hx hb dX12_part_18 (by decide) ?_
      obtain ⟨r_8, S_9, h_10, hf⟩ := z_bd hf
      refine z_cVI (As := [.int a_2, .int (0 : Int32)]) (rest := []) X hK hE hD hA hP hS (cm_ofLeaven l D K cy ad S_6 _ _ _ _ h_10) (cwV 2 hts (z_gV wt_6_226 wt_6_228 wp_84 wt_1_13 wt_6_229) rfl rfl rfl ⟨rfl, yd_yX12_ofLeaven⟩ ⟨Nat.le_of_ble_eq_true rfl, Nat.le_of_ble_eq_true rfl⟩) (va_recv hK hP (ci := 12) (q0 := 0) rfl (zM_0 cy ad S_6)) hl.1 rfl rfl (Nat.le_of_ble_eq_true rfl) dX12_part_19 (fun H locs hP hS => ?_)
      refine lv_iconst (v := -1) hx hb dX12_part_22 (by decide) ?_
      refine lv_icmp_ne (tgt := 35) hx hb dX12_part_23 (by decide) (fun c_38 => ?_) (fun c_38 => ?_)
      · have hf := z_if c_38 hf
        exact J_35  S_9 _ _ _ hf hP hS (lv_sub hl [] rfl)
      · have hf := z_it c_38 hf
        refine lv_iload_n hx hb dX12_part_26 rfl (lv_at hl 3 rfl) ?_
        refine lv_iconst (v := 0) hx hb dX12_part_27 (by decide) ?_
        refine lv_iconst (v := 1) hx hb dX12_part_28 (by decide) ?_
        obtain ⟨r_11, S_12, h_13, hf⟩ := z_bd hf
        refine z_cSI (As := [.int a_3, .int (0 : Int32), .int (1 : Int32)]) (rest := []) X hK hE hD hA hP hS (cm_isIn l D K cy ad S_9 _ _ _ _ _ h_13) (va_cwS 3 hts (z_gS wt_5_216 wt_5_217 wt_1_13 wt_5_218) rfl rfl rfl yd_yX12_isIn ⟨Nat.le_of_ble_eq_true rfl, Nat.le_of_ble_eq_true rfl⟩) hl.1 rfl rfl (Nat.le_of_ble_eq_true rfl) dX12_part_29 (fun H locs hP hS => ?_)
        refine lv_if_ne (tgt := 37) hx hb dX12_part_32 (by decide) (fun c_37 => ?_) (fun c_37 => ?_)
        · have hf := z_if c_37 hf
          refine lv_aload_n hx hb dX12_part_37 rfl (lv_at hl 0 rfl) ?_
          refine lv_iload_n hx hb dX12_part_38 rfl (lv_at hl 2 rfl) ?_
          obtain ⟨r_14, S_15, h_16, hf⟩ := z_bd hf
          refine z_cVV (As := [.int a_2]) (rest := []) X hK hE hD hA hP hS (cm_laysParts l D K cy ad S_12 _ _ h_16) (cwV 1 hts (z_gV wt_6_234 wt_6_236 wp_85 wt_1_13 wt_6_237) rfl rfl rfl ⟨rfl, yd_yX12_laysParts⟩ ⟨Nat.le_of_ble_eq_true rfl, Nat.le_of_ble_eq_true rfl⟩) (va_recv hK hP (ci := 12) (q0 := 0) rfl (zM_0 cy ad S_12)) hl.1 rfl rfl (Nat.le_of_ble_eq_true rfl) dX12_part_39 (fun H locs hP hS => ?_)
          refine lv_aload_n hx hb dX12_part_42 rfl (lv_at hl 0 rfl) ?_
          refine va_get (D := D) (ci := 12) (v := .ref (ad 16)) (C := RX12) (T := TX12) (N := 36) hx hb hts k0 hown hK hP 0 (zM_0 cy ad S_15) rfl 32 (by decide) k1 (fun _ h9 => h9) rfl dX12_part_43 ?_
          refine lv_iload_n hx hb dX12_part_46 rfl (lv_at hl 1 rfl) ?_
          obtain ⟨h_17, hf⟩ := z_ix hf
          refine z_lald hx hb hK hP 16 1 (zM_16 cy ad S_15) rfl h_17 (k := (a_1.toNatClampNeg)) rfl dX12_part_47 ?_
          refine lv_topl (fun x_18 ex_18 => ?_)
          have hf := z_nv ex_18 hf
          refine lv_lstore (lv' := [(4, .long x_18), (0, .ref (ad 0)), (1, .int a_1), (2, .int a_2), (3, .int a_3)]) hx hb dX12_part_48 hl (by decide) rfl (fun ls hl => ?_)
          refine lv_lconst (v := 1) hx hb dX12_part_50 (by decide) ?_
          refine lv_aload_n hx hb dX12_part_51 rfl (lv_at hl 1 rfl) ?_
          refine lv_iload_n hx hb dX12_part_52 rfl (lv_at hl 2 rfl) ?_
          refine lv_iconst (v := 3) hx hb dX12_part_53 (by decide) ?_
          obtain ⟨r_19, S_20, h_21, hf⟩ := z_bd hf
          refine z_cVI (As := [.int a_1, .int (3 : Int32)]) (rest := [.long (1 : Int64)]) X hK hE hD hA hP hS (cm_ofLeaven l D K cy ad S_15 _ _ _ _ h_21) (cwV 2 hts (z_gV wt_6_226 wt_6_228 wp_84 wt_1_13 wt_6_229) rfl rfl rfl ⟨rfl, yd_yX12_ofLeaven⟩ ⟨Nat.le_of_ble_eq_true rfl, Nat.le_of_ble_eq_true rfl⟩) (va_recv hK hP (ci := 12) (q0 := 0) rfl (zM_0 cy ad S_15)) hl.1 rfl rfl (Nat.le_of_ble_eq_true rfl) dX12_part_54 (fun H locs hP hS => ?_)
          refine lv_lshl hx hb dX12_part_57 rfl ?_
          refine lv_topl (fun x_22 ex_22 => ?_)
          have hf := z_nv ex_22 hf
          refine lv_lstore (lv' := [(6, .long x_22), (4, .long x_18), (0, .ref (ad 0)), (1, .int a_1), (2, .int a_2), (3, .int a_3)]) hx hb dX12_part_58 hl (by decide) rfl (fun ls hl => ?_)
          refine lv_lload hx hb dX12_part_60 (lv_at hl 1 rfl) ?_
          refine lv_lconst (v := 0) hx hb dX12_part_62 (by decide) ?_
          refine W.lcmp hx hb dX12_part_63 ?_
          refine lv_if_ne (tgt := 69) hx hb dX12_part_64 (by decide) (fun c_36 => ?_) (fun c_36 => ?_)
          · have hf := z_if c_36 hf
            obtain ⟨j_106, ej_106, hf⟩ := z_nm hf
            have J_106 : ∀ (x_23 : Int64) (x_24 : Int64) (S_25 : zSt) (H : Heap) (locs : List Loc) (ls : Array Slot), j_106 x_23 x_24 S_25 = some (ro, So) → va_P D vwCl (zM cy ad S_25) H → va_S A s.heap H locs → lv_has ls 8 [(3, .int a_3), (4, .long x_23), (6, .long x_24)] → W p l e ({ frames := 2, cells := 0, slots := 0, locals := 47 }) s m ([.ref (ad 0), .int a_1, .int a_2, .int a_3] : List Value).toArray below meth c H locs 0 0 Q (F0 m 106 ls []) := by
              intro x_23 x_24 S_25 H locs ls hf hP hS hl
              have hf := z_e3 ej_106 hf
              refine lv_iload_n hx hb dX12_part_106 rfl (lv_at hl 0 rfl) ?_
              obtain ⟨j_117, ej_117, hf⟩ := z_nm hf
              have J_117 : ∀ (x_26 : Int64) (S_27 : zSt) (H : Heap) (locs : List Loc) (ls : Array Slot), j_117 x_26 S_27 = some (ro, So) → va_P D vwCl (zM cy ad S_27) H → va_S A s.heap H locs → lv_has ls 8 [] → W p l e ({ frames := 2, cells := 0, slots := 0, locals := 47 }) s m ([.ref (ad 0), .int a_1, .int a_2, .int a_3] : List Value).toArray below meth c H locs 0 0 Q (F0 m 117 ls [.long x_26]) := by
                intro x_26 S_27 H locs ls hf hP hS hl
                have hf := z_e2 ej_117 hf
                refine lv_l2i hx hb dX12_part_117 rfl ?_
                obtain ⟨h1, h2⟩ := z_s2 hf
                subst h1 h2
                exact hret _ _ _ _ hP hS dX12_part_118
              refine lv_if_ne (tgt := 115) hx hb dX12_part_107 (by decide) (fun c_28 => ?_) (fun c_28 => ?_)
              · have hf := z_if c_28 hf
                refine lv_lload hx hb dX12_part_115 (lv_at hl 2 rfl) ?_
                exact J_117 x_24 S_25 _ _ _ hf hP hS (lv_sub hl [] rfl)
              · have hf := z_it c_28 hf
                refine lv_lload hx hb dX12_part_110 (lv_at hl 1 rfl) ?_
                refine lv_goto (tgt := 117) hx hb dX12_part_112 (by decide) ?_
                exact J_117 x_23 S_25 _ _ _ hf hP hS (lv_sub hl [] rfl)
            have L_69 : ∀ (n_69 : Nat) (x_29 : Int64) (x_30 : Int64) (S_31 : zSt) (H : Heap) (locs : List Loc) (ls : Array Slot), fm_part_L69 a_3 j_106 n_69 x_29 x_30 S_31 = some (ro, So) → va_P D vwCl (zM cy ad S_31) H → va_S A s.heap H locs → lv_has ls 8 [(3, .int a_3), (4, .long x_29), (6, .long x_30)] → W p l e ({ frames := 2, cells := 0, slots := 0, locals := 47 }) s m ([.ref (ad 0), .int a_1, .int a_2, .int a_3] : List Value).toArray below meth c H locs 0 0 Q (F0 m 69 ls []) := by
              intro n_69
              induction n_69 with
              | zero =>
                intro x_29 x_30 S_31 H locs ls hf hP hS hl
                exact z_no hf
              | succ n_69 ih_69 =>
                intro x_29 x_30 S_31 H locs ls hf hP hS hl
                rw [fm_part_L69] at hf
                refine lv_lload hx hb dX12_part_69 (lv_at hl 1 rfl) ?_
                refine lv_ldc2 hx hb hown k2 dX12_part_71 ?_
                refine lv_lrem hx hb dX12_part_74 (by decide) ?_
                refine lv_lconst (v := 0) hx hb dX12_part_75 (by decide) ?_
                refine W.lcmp hx hb dX12_part_76 ?_
                refine lv_if_ne (tgt := 106) hx hb dX12_part_77 (by decide) (fun c_35 => ?_) (fun c_35 => ?_)
                · have hf := z_if c_35 hf
                  exact J_106 x_29 x_30 S_31 _ _ _ hf hP hS (lv_sub hl [0, 1, 2] rfl)
                · have hf := z_it c_35 hf
                  refine lv_lload hx hb dX12_part_80 (lv_at hl 2 rfl) ?_
                  refine lv_lconst (v := 1) hx hb dX12_part_82 (by decide) ?_
                  refine W.lcmp hx hb dX12_part_83 ?_
                  refine lv_if_le (tgt := 106) hx hb dX12_part_84 (by decide) (fun c_34 => ?_) (fun c_34 => ?_)
                  · have hf := z_it c_34 hf
                    exact J_106 x_29 x_30 S_31 _ _ _ hf hP hS (lv_sub hl [0, 1, 2] rfl)
                  · have hf := z_if c_34 hf
                    refine lv_lload hx hb dX12_part_87 (lv_at hl 1 rfl) ?_
                    refine lv_ldc2 hx hb hown k2 dX12_part_89 ?_
                    refine lv_ldiv hx hb dX12_part_92 (by decide) ?_
                    refine lv_topl (fun x_32 ex_32 => ?_)
                    have hf := z_nv ex_32 hf
                    refine lv_lstore (lv' := [(4, .long x_32), (3, .int a_3), (6, .long x_30)]) hx hb dX12_part_93 hl (by decide) rfl (fun ls hl => ?_)
                    refine lv_lload hx hb dX12_part_95 (lv_at hl 2 rfl) ?_
                    refine lv_ldc2 hx hb hown k2 dX12_part_97 ?_
                    refine lv_ldiv hx hb dX12_part_100 (by decide) ?_
                    refine lv_topl (fun x_33 ex_33 => ?_)
                    have hf := z_nv ex_33 hf
                    refine lv_lstore (lv' := [(6, .long x_33), (4, .long x_32), (3, .int a_3)]) hx hb dX12_part_101 hl (by decide) rfl (fun ls hl => ?_)
                    refine lv_goto (tgt := 69) hx hb dX12_part_103 (by decide) ?_
                    exact ih_69 x_32 x_33 S_31 _ _ _ hf hP hS (lv_sub hl [2, 1, 0] rfl)
            exact L_69 zFU x_18 x_22 S_20 _ _ _ hf hP hS (lv_sub hl [5, 1, 0] rfl)
          · have hf := z_it c_36 hf
            refine lv_iload_n hx hb dX12_part_67 rfl (lv_at hl 5 rfl) ?_
            obtain ⟨h1, h2⟩ := z_s2 hf
            subst h1 h2
            exact hret _ _ _ _ hP hS dX12_part_68
        · have hf := z_it c_37 hf
          exact J_35  S_12 _ _ _ hf hP hS (lv_sub hl [] rfl)
def fm_isLed (S_0 : zSt) (a_1 : Int32) (a_2 : Int32) : Option (Int32 × zSt) :=
  zbd (fm_laysParts S_0 a_2) fun _ S_2 =>
  zck (zix a_1 60) <|
  znm (fun (x_5 : Int32) (S_6 : zSt) =>
  zck (zbo x_5) <|
  some (x_5, S_6)) fun j_21 =>
  if (lg_cmp (S_2.2 16 (a_1.toNatClampNeg)) (0 : Int64)) ≤ 0 then (
  j_21 (0 : Int32) S_2) else (
  j_21 (1 : Int32) S_2)
set_option maxHeartbeats 4000000 in
set_option maxRecDepth 100000 in
theorem cm_isLed (l : Launch) (D : va_G) (K : (Nat → Nat) × (Nat → Nat)) (cy : Nat → ClassId) (ad : Nat → Nat) (S_0 : zSt) (a_1 : Int32) (a_2 : Int32) (ro : Int32) (So : zSt) (hf : fm_isLed S_0 a_1 a_2 = some (ro, So)) : zMI l yX12_isLed (zws yX12_isLed cX12_isLed 3 (Option.some .boolean)) ({ frames := 2, cells := 0, slots := 0, locals := 47 }) D (zTy cy) K (zM cy ad) [.ref (ad 0), .int a_1, .int a_2] S_0 ro So := by
  refine z_metZ (own := RX12) (lv := [(0, .ref (ad 0)), (1, .int a_1), (2, .int a_2)]) (by decide) rfl rfl (Nat.le_of_ble_eq_true rfl) rfl ?_
  intro p e s m below meth c A Q X hK hE hD hA hret hP hS ls hl
  obtain ⟨hx, hb, hml, hown, hts⟩ := id X
  have k0 := (fun w h => List.mem_cons_of_mem _ (zFX12 w h) : ∀ w ∈ u_ws RX12 TX12 36, w ∈ zws yX12_isLed cX12_isLed 3 (Option.some .boolean))
  have k1 := hts _ (List.mem_cons_of_mem _ wt_5_127)
  refine lv_aload_n hx hb dX12_isLed_0 rfl (lv_at hl 0 rfl) ?_
  refine lv_iload_n hx hb dX12_isLed_1 rfl (lv_at hl 2 rfl) ?_
  obtain ⟨r_1, S_2, h_3, hf⟩ := z_bd hf
  refine z_cVV (As := [.int a_2]) (rest := []) X hK hE hD hA hP hS (cm_laysParts l D K cy ad S_0 _ _ h_3) (cwV 1 hts (z_gV wt_6_234 wt_6_236 wp_85 wt_1_13 wt_6_237) rfl rfl rfl ⟨rfl, yd_yX12_laysParts⟩ ⟨Nat.le_of_ble_eq_true rfl, Nat.le_of_ble_eq_true rfl⟩) (va_recv hK hP (ci := 12) (q0 := 0) rfl (zM_0 cy ad S_0)) hl.1 rfl rfl (Nat.le_of_ble_eq_true rfl) dX12_isLed_2 (fun H locs hP hS => ?_)
  refine lv_aload_n hx hb dX12_isLed_5 rfl (lv_at hl 0 rfl) ?_
  refine va_get (D := D) (ci := 12) (v := .ref (ad 16)) (C := RX12) (T := TX12) (N := 36) hx hb hts k0 hown hK hP 0 (zM_0 cy ad S_2) rfl 32 (by decide) k1 (fun _ h9 => h9) rfl dX12_isLed_6 ?_
  refine lv_iload_n hx hb dX12_isLed_9 rfl (lv_at hl 1 rfl) ?_
  obtain ⟨h_4, hf⟩ := z_ix hf
  refine z_lald hx hb hK hP 16 1 (zM_16 cy ad S_2) rfl h_4 (k := (a_1.toNatClampNeg)) rfl dX12_isLed_10 ?_
  refine lv_lconst (v := 0) hx hb dX12_isLed_11 (by decide) ?_
  refine W.lcmp hx hb dX12_isLed_12 ?_
  obtain ⟨j_21, ej_21, hf⟩ := z_nm hf
  have J_21 : ∀ (x_5 : Int32) (S_6 : zSt) (H : Heap) (locs : List Loc) (ls : Array Slot), j_21 x_5 S_6 = some (ro, So) → va_P D vwCl (zM cy ad S_6) H → va_S A s.heap H locs → lv_has ls 3 [] → W p l e ({ frames := 2, cells := 0, slots := 0, locals := 47 }) s m ([.ref (ad 0), .int a_1, .int a_2] : List Value).toArray below meth c H locs 0 0 Q (F0 m 21 ls [.int x_5]) := by
    intro x_5 S_6 H locs ls hf hP hS hl
    have hf := z_e2 ej_21 hf
    obtain ⟨h_7, hf⟩ := z_bo hf
    obtain ⟨h1, h2⟩ := z_s2 hf
    subst h1 h2
    exact hret _ _ _ _ h_7 hP hS dX12_isLed_21
  refine lv_if_le (tgt := 20) hx hb dX12_isLed_13 (by decide) (fun c_8 => ?_) (fun c_8 => ?_)
  · have hf := z_it c_8 hf
    refine lv_iconst (v := 0) hx hb dX12_isLed_20 (by decide) ?_
    exact J_21 (0 : Int32) S_2 _ _ _ hf hP hS (lv_sub hl [] rfl)
  · have hf := z_if c_8 hf
    refine lv_iconst (v := 1) hx hb dX12_isLed_16 (by decide) ?_
    refine lv_goto (tgt := 21) hx hb dX12_isLed_17 (by decide) ?_
    exact J_21 (1 : Int32) S_2 _ _ _ hf hP hS (lv_sub hl [] rfl)
def fm_led (S_0 : zSt) (a_1 : Int32) (a_2 : Int32) : Option (Int32 × zSt) :=
  zbd (fm_isLeaven S_0 a_1) fun r_1 S_2 =>
  znm (fun (x_4 : Int32) (S_5 : zSt) =>
  some (x_4, S_5)) fun j_34 =>
  znm (fun (S_6 : zSt) =>
  j_34 (-1 : Int32) S_6) fun j_16 =>
  if r_1 = 0 then (
  j_16  S_2) else (
  zbd (fm_isLeaven S_2 a_2) fun r_7 S_8 =>
  if r_7 = 0 then (
  j_16  S_8) else (
  zbd (fm_isLed S_8 a_1 a_2) fun r_10 S_11 =>
  if r_10 = 0 then (
  j_34 (0 : Int32) S_11) else (
  j_34 (1 : Int32) S_11)))
set_option maxHeartbeats 4000000 in
set_option maxRecDepth 100000 in
theorem cm_led (l : Launch) (D : va_G) (K : (Nat → Nat) × (Nat → Nat)) (cy : Nat → ClassId) (ad : Nat → Nat) (S_0 : zSt) (a_1 : Int32) (a_2 : Int32) (ro : Int32) (So : zSt) (hf : fm_led S_0 a_1 a_2 = some (ro, So)) : zMI l yX12_led (zws yX12_led cX12_led 3 (Option.some .int)) ({ frames := 3, cells := 0, slots := 0, locals := 69 }) D (zTy cy) K (zM cy ad) [.ref (ad 0), .int a_1, .int a_2] S_0 ro So := by
  refine z_metI (own := RX12) (lv := [(0, .ref (ad 0)), (1, .int a_1), (2, .int a_2)]) (by decide) rfl rfl (Nat.le_of_ble_eq_true rfl) rfl ?_
  intro p e s m below meth c A Q X hK hE hD hA hret hP hS ls hl
  obtain ⟨hx, hb, hml, hown, hts⟩ := id X
  refine lv_aload_n hx hb dX12_led_0 rfl (lv_at hl 0 rfl) ?_
  refine lv_iload_n hx hb dX12_led_1 rfl (lv_at hl 1 rfl) ?_
  obtain ⟨r_1, S_2, h_3, hf⟩ := z_bd hf
  refine z_cVI (As := [.int a_1]) (rest := []) X hK hE hD hA hP hS (cm_isLeaven l D K cy ad S_0 _ _ _ h_3) (cwV 1 hts (z_gV wt_6_222 wt_6_224 wp_83 wt_1_13 wt_6_225) rfl rfl rfl ⟨rfl, yd_yX12_isLeaven⟩ ⟨Nat.le_of_ble_eq_true rfl, Nat.le_of_ble_eq_true rfl⟩) (va_recv hK hP (ci := 12) (q0 := 0) rfl (zM_0 cy ad S_0)) hl.1 rfl rfl (Nat.le_of_ble_eq_true rfl) dX12_led_2 (fun H locs hP hS => ?_)
  obtain ⟨j_34, ej_34, hf⟩ := z_nm hf
  have J_34 : ∀ (x_4 : Int32) (S_5 : zSt) (H : Heap) (locs : List Loc) (ls : Array Slot), j_34 x_4 S_5 = some (ro, So) → va_P D vwCl (zM cy ad S_5) H → va_S A s.heap H locs → lv_has ls 3 [] → W p l e ({ frames := 3, cells := 0, slots := 0, locals := 69 }) s m ([.ref (ad 0), .int a_1, .int a_2] : List Value).toArray below meth c H locs 0 0 Q (F0 m 34 ls [.int x_4]) := by
    intro x_4 S_5 H locs ls hf hP hS hl
    have hf := z_e2 ej_34 hf
    obtain ⟨h1, h2⟩ := z_s2 hf
    subst h1 h2
    exact hret _ _ _ _ hP hS dX12_led_34
  obtain ⟨j_16, ej_16, hf⟩ := z_nm hf
  have J_16 : ∀ (S_6 : zSt) (H : Heap) (locs : List Loc) (ls : Array Slot), j_16  S_6 = some (ro, So) → va_P D vwCl (zM cy ad S_6) H → va_S A s.heap H locs → lv_has ls 3 [] → W p l e ({ frames := 3, cells := 0, slots := 0, locals := 69 }) s m ([.ref (ad 0), .int a_1, .int a_2] : List Value).toArray below meth c H locs 0 0 Q (F0 m 16 ls []) := by
    intro  S_6 H locs ls hf hP hS hl
    have hf := z_e1 ej_16 hf
    refine lv_iconst (v := -1) hx hb dX12_led_16 (by decide) ?_
    refine lv_goto (tgt := 34) hx hb dX12_led_17 (by decide) ?_
    exact J_34 (-1 : Int32) S_6 _ _ _ hf hP hS (lv_sub hl [] rfl)
  refine lv_if_eq (tgt := 16) hx hb dX12_led_5 (by decide) (fun c_15 => ?_) (fun c_15 => ?_)
  · have hf := z_it c_15 hf
    exact J_16  S_2 _ _ _ hf hP hS (lv_sub hl [] rfl)
  · have hf := z_if c_15 hf
    refine lv_aload_n hx hb dX12_led_8 rfl (lv_at hl 0 rfl) ?_
    refine lv_iload_n hx hb dX12_led_9 rfl (lv_at hl 2 rfl) ?_
    obtain ⟨r_7, S_8, h_9, hf⟩ := z_bd hf
    refine z_cVI (As := [.int a_2]) (rest := []) X hK hE hD hA hP hS (cm_isLeaven l D K cy ad S_2 _ _ _ h_9) (cwV 1 hts (z_gV wt_6_222 wt_6_224 wp_83 wt_1_13 wt_6_225) rfl rfl rfl ⟨rfl, yd_yX12_isLeaven⟩ ⟨Nat.le_of_ble_eq_true rfl, Nat.le_of_ble_eq_true rfl⟩) (va_recv hK hP (ci := 12) (q0 := 0) rfl (zM_0 cy ad S_2)) hl.1 rfl rfl (Nat.le_of_ble_eq_true rfl) dX12_led_10 (fun H locs hP hS => ?_)
    refine lv_if_ne (tgt := 20) hx hb dX12_led_13 (by decide) (fun c_14 => ?_) (fun c_14 => ?_)
    · have hf := z_if c_14 hf
      refine lv_aload_n hx hb dX12_led_20 rfl (lv_at hl 0 rfl) ?_
      refine lv_iload_n hx hb dX12_led_21 rfl (lv_at hl 1 rfl) ?_
      refine lv_iload_n hx hb dX12_led_22 rfl (lv_at hl 2 rfl) ?_
      obtain ⟨r_10, S_11, h_12, hf⟩ := z_bd hf
      refine z_cVI (As := [.int a_1, .int a_2]) (rest := []) X hK hE hD hA hP hS (cm_isLed l D K cy ad S_8 _ _ _ _ h_12) (cwV 2 hts (z_gV wt_7_3 wt_7_5 wp_86 wt_1_13 wt_7_6) rfl rfl rfl ⟨rfl, yd_yX12_isLed⟩ ⟨Nat.le_of_ble_eq_true rfl, Nat.le_of_ble_eq_true rfl⟩) (va_recv hK hP (ci := 12) (q0 := 0) rfl (zM_0 cy ad S_8)) hl.1 rfl rfl (Nat.le_of_ble_eq_true rfl) dX12_led_23 (fun H locs hP hS => ?_)
      refine lv_if_eq (tgt := 33) hx hb dX12_led_26 (by decide) (fun c_13 => ?_) (fun c_13 => ?_)
      · have hf := z_it c_13 hf
        refine lv_iconst (v := 0) hx hb dX12_led_33 (by decide) ?_
        exact J_34 (0 : Int32) S_11 _ _ _ hf hP hS (lv_sub hl [] rfl)
      · have hf := z_if c_13 hf
        refine lv_iconst (v := 1) hx hb dX12_led_29 (by decide) ?_
        refine lv_goto (tgt := 34) hx hb dX12_led_30 (by decide) ?_
        exact J_34 (1 : Int32) S_11 _ _ _ hf hP hS (lv_sub hl [] rfl)
    · have hf := z_it c_14 hf
      exact J_16  S_8 _ _ _ hf hP hS (lv_sub hl [] rfl)
def fm_lent_L104 (x_8 : Int32) : Nat → Int32 → Int32 → zSt → Option (Int32 × zSt)
  | 0, _, _, _ => none
  | n_104 + 1, x_10, x_11, S_12 =>
    if (9 : Int32) ≤ x_11 then (
    some (x_10, S_12)) else (
    znm (x_10 + ((x_8 >>> (x_11 &&& 31)) &&& (1 : Int32))) fun x_13 =>
    znm (x_11 + (1 : Int32)) fun x_14 =>
    fm_lent_L104 x_8 n_104 x_13 x_14 S_12)
def fm_lent_L53 (a_1 : Int32) (j_98 : Int32 → zSt → Option (Int32 × zSt)) : Nat → Int32 → Int32 → zSt → Option (Int32 × zSt)
  | 0, _, _, _ => none
  | n_53 + 1, x_16, x_17, S_18 =>
    if a_1 < x_17 then (
    j_98 x_16 S_18) else (
    zbd (fm_ofLeaven S_18 x_17 (0 : Int32)) fun r_19 S_20 =>
    znm (fun (x_22 : Int32) (S_23 : zSt) =>
    znm (x_17 + (1 : Int32)) fun x_24 =>
    fm_lent_L53 a_1 j_98 n_53 x_22 x_24 S_23) fun j_92 =>
    if r_19 = (-1 : Int32) then (
    zbd (fm_isLed S_20 a_1 x_17) fun r_25 S_26 =>
    if r_25 = 0 then (
    j_92 x_16 S_26) else (
    zbd (fm_ofLeaven S_26 x_17 (2 : Int32)) fun r_28 S_29 =>
    znm (x_16 ||| ((1 : Int32) <<< (r_28 &&& 31))) fun x_31 =>
    j_92 x_31 S_29)) else (
    j_92 x_16 S_20))
def fm_lent (S_0 : zSt) (a_1 : Int32) (a_2 : Int32) : Option (Int32 × zSt) :=
  zbd (fm_isLeaven S_0 a_1) fun r_1 S_2 =>
  znm (fun (S_4 : zSt) =>
  some ((-2 : Int32), S_4)) fun j_17 =>
  if r_1 = 0 then (
  j_17  S_2) else (
  zbd (fm_isIn S_2 a_2 (0 : Int32) (4 : Int32)) fun r_5 S_6 =>
  if r_5 = 0 then (
  j_17  S_6) else (
  if (2 : Int32) ≤ a_2 then (
  if (4 : Int32) ≤ a_2 then (
  znm (fun (x_8 : Int32) (S_9 : zSt) =>
  fm_lent_L104 x_8 zFU (0 : Int32) (0 : Int32) S_9) fun j_98 =>
  fm_lent_L53 a_1 j_98 zFU (0 : Int32) (0 : Int32) S_6) else (
  zbd (fm_ofLeaven S_6 a_1 (a_2 - (2 : Int32))) fun r_35 S_36 =>
  some (r_35, S_36))) else (
  zbd (fm_ofLeaven S_6 a_1 ((3 : Int32) - a_2)) fun r_39 S_40 =>
  some (r_39, S_40))))
set_option maxHeartbeats 4000000 in
set_option maxRecDepth 100000 in
theorem cm_lent (l : Launch) (D : va_G) (K : (Nat → Nat) × (Nat → Nat)) (cy : Nat → ClassId) (ad : Nat → Nat) (S_0 : zSt) (a_1 : Int32) (a_2 : Int32) (ro : Int32) (So : zSt) (hf : fm_lent S_0 a_1 a_2 = some (ro, So)) : zMI l yX12_lent (zws yX12_lent cX12_lent 6 (Option.some .int)) ({ frames := 3, cells := 0, slots := 0, locals := 69 }) D (zTy cy) K (zM cy ad) [.ref (ad 0), .int a_1, .int a_2] S_0 ro So := by
  refine z_metI (own := RX12) (lv := [(0, .ref (ad 0)), (1, .int a_1), (2, .int a_2)]) (by decide) rfl rfl (Nat.le_of_ble_eq_true rfl) rfl ?_
  intro p e s m below meth c A Q X hK hE hD hA hret hP hS ls hl
  obtain ⟨hx, hb, hml, hown, hts⟩ := id X
  refine lv_aload_n hx hb dX12_lent_0 rfl (lv_at hl 0 rfl) ?_
  refine lv_iload_n hx hb dX12_lent_1 rfl (lv_at hl 1 rfl) ?_
  obtain ⟨r_1, S_2, h_3, hf⟩ := z_bd hf
  refine z_cVI (As := [.int a_1]) (rest := []) X hK hE hD hA hP hS (cm_isLeaven l D K cy ad S_0 _ _ _ h_3) (cwV 1 hts (z_gV wt_6_222 wt_6_224 wp_83 wt_1_13 wt_6_225) rfl rfl rfl ⟨rfl, yd_yX12_isLeaven⟩ ⟨Nat.le_of_ble_eq_true rfl, Nat.le_of_ble_eq_true rfl⟩) (va_recv hK hP (ci := 12) (q0 := 0) rfl (zM_0 cy ad S_0)) hl.1 rfl rfl (Nat.le_of_ble_eq_true rfl) dX12_lent_2 (fun H locs hP hS => ?_)
  obtain ⟨j_17, ej_17, hf⟩ := z_nm hf
  have J_17 : ∀ (S_4 : zSt) (H : Heap) (locs : List Loc) (ls : Array Slot), j_17  S_4 = some (ro, So) → va_P D vwCl (zM cy ad S_4) H → va_S A s.heap H locs → lv_has ls 6 [] → W p l e ({ frames := 3, cells := 0, slots := 0, locals := 69 }) s m ([.ref (ad 0), .int a_1, .int a_2] : List Value).toArray below meth c H locs 0 0 Q (F0 m 17 ls []) := by
    intro  S_4 H locs ls hf hP hS hl
    have hf := z_e1 ej_17 hf
    refine lv_bipush (v := -2) hx hb dX12_lent_17 (by decide) ?_
    obtain ⟨h1, h2⟩ := z_s2 hf
    subst h1 h2
    exact hret _ _ _ _ hP hS dX12_lent_19
  refine lv_if_eq (tgt := 17) hx hb dX12_lent_5 (by decide) (fun c_44 => ?_) (fun c_44 => ?_)
  · have hf := z_it c_44 hf
    exact J_17  S_2 _ _ _ hf hP hS (lv_sub hl [] rfl)
  · have hf := z_if c_44 hf
    refine lv_iload_n hx hb dX12_lent_8 rfl (lv_at hl 2 rfl) ?_
    refine lv_iconst (v := 0) hx hb dX12_lent_9 (by decide) ?_
    refine lv_iconst (v := 4) hx hb dX12_lent_10 (by decide) ?_
    obtain ⟨r_5, S_6, h_7, hf⟩ := z_bd hf
    refine z_cSI (As := [.int a_2, .int (0 : Int32), .int (4 : Int32)]) (rest := []) X hK hE hD hA hP hS (cm_isIn l D K cy ad S_2 _ _ _ _ _ h_7) (va_cwS 3 hts (z_gS wt_5_216 wt_5_217 wt_1_13 wt_5_218) rfl rfl rfl yd_yX12_isIn ⟨Nat.le_of_ble_eq_true rfl, Nat.le_of_ble_eq_true rfl⟩) hl.1 rfl rfl (Nat.le_of_ble_eq_true rfl) dX12_lent_11 (fun H locs hP hS => ?_)
    refine lv_if_ne (tgt := 20) hx hb dX12_lent_14 (by decide) (fun c_43 => ?_) (fun c_43 => ?_)
    · have hf := z_if c_43 hf
      refine lv_iload_n hx hb dX12_lent_20 rfl (lv_at hl 2 rfl) ?_
      refine lv_iconst (v := 2) hx hb dX12_lent_21 (by decide) ?_
      refine lv_icmp_ge (tgt := 34) hx hb dX12_lent_22 (by decide) (fun c_42 => ?_) (fun c_42 => ?_)
      · have hf := z_it c_42 hf
        refine lv_iload_n hx hb dX12_lent_34 rfl (lv_at hl 2 rfl) ?_
        refine lv_iconst (v := 4) hx hb dX12_lent_35 (by decide) ?_
        refine lv_icmp_ge (tgt := 48) hx hb dX12_lent_36 (by decide) (fun c_38 => ?_) (fun c_38 => ?_)
        · have hf := z_it c_38 hf
          refine lv_iconst (v := 0) hx hb dX12_lent_48 (by decide) ?_
          refine lv_istore_n (lv' := [(3, .int (0 : Int32)), (0, .ref (ad 0)), (1, .int a_1), (2, .int a_2)]) hx hb dX12_lent_49 rfl hl (by decide) rfl (fun ls hl => ?_)
          refine lv_iconst (v := 0) hx hb dX12_lent_50 (by decide) ?_
          refine lv_istore (lv' := [(4, .int (0 : Int32)), (3, .int (0 : Int32)), (0, .ref (ad 0)), (1, .int a_1), (2, .int a_2)]) hx hb dX12_lent_51 hl (by decide) rfl (fun ls hl => ?_)
          obtain ⟨j_98, ej_98, hf⟩ := z_nm hf
          have J_98 : ∀ (x_8 : Int32) (S_9 : zSt) (H : Heap) (locs : List Loc) (ls : Array Slot), j_98 x_8 S_9 = some (ro, So) → va_P D vwCl (zM cy ad S_9) H → va_S A s.heap H locs → lv_has ls 6 [(3, .int x_8)] → W p l e ({ frames := 3, cells := 0, slots := 0, locals := 69 }) s m ([.ref (ad 0), .int a_1, .int a_2] : List Value).toArray below meth c H locs 0 0 Q (F0 m 98 ls []) := by
            intro x_8 S_9 H locs ls hf hP hS hl
            have hf := z_e2 ej_98 hf
            refine lv_iconst (v := 0) hx hb dX12_lent_98 (by decide) ?_
            refine lv_istore (lv' := [(4, .int (0 : Int32)), (3, .int x_8)]) hx hb dX12_lent_99 hl (by decide) rfl (fun ls hl => ?_)
            refine lv_iconst (v := 0) hx hb dX12_lent_101 (by decide) ?_
            refine lv_istore (lv' := [(5, .int (0 : Int32)), (4, .int (0 : Int32)), (3, .int x_8)]) hx hb dX12_lent_102 hl (by decide) rfl (fun ls hl => ?_)
            have L_104 : ∀ (n_104 : Nat) (x_10 : Int32) (x_11 : Int32) (S_12 : zSt) (H : Heap) (locs : List Loc) (ls : Array Slot), fm_lent_L104 x_8 n_104 x_10 x_11 S_12 = some (ro, So) → va_P D vwCl (zM cy ad S_12) H → va_S A s.heap H locs → lv_has ls 6 [(3, .int x_8), (4, .int x_10), (5, .int x_11)] → W p l e ({ frames := 3, cells := 0, slots := 0, locals := 69 }) s m ([.ref (ad 0), .int a_1, .int a_2] : List Value).toArray below meth c H locs 0 0 Q (F0 m 104 ls []) := by
              intro n_104
              induction n_104 with
              | zero =>
                intro x_10 x_11 S_12 H locs ls hf hP hS hl
                exact z_no hf
              | succ n_104 ih_104 =>
                intro x_10 x_11 S_12 H locs ls hf hP hS hl
                rw [fm_lent_L104] at hf
                refine lv_iload hx hb dX12_lent_104 (lv_at hl 2 rfl) ?_
                refine lv_bipush (v := 9) hx hb dX12_lent_106 (by decide) ?_
                refine lv_icmp_ge (tgt := 128) hx hb dX12_lent_108 (by decide) (fun c_15 => ?_) (fun c_15 => ?_)
                · have hf := z_it c_15 hf
                  refine lv_iload hx hb dX12_lent_128 (lv_at hl 1 rfl) ?_
                  obtain ⟨h1, h2⟩ := z_s2 hf
                  subst h1 h2
                  exact hret _ _ _ _ hP hS dX12_lent_130
                · have hf := z_if c_15 hf
                  refine lv_iload hx hb dX12_lent_111 (lv_at hl 1 rfl) ?_
                  refine lv_iload_n hx hb dX12_lent_113 rfl (lv_at hl 0 rfl) ?_
                  refine lv_iload hx hb dX12_lent_114 (lv_at hl 2 rfl) ?_
                  refine lv_ishr hx hb dX12_lent_116 ?_
                  refine lv_iconst (v := 1) hx hb dX12_lent_117 (by decide) ?_
                  refine lv_iand hx hb dX12_lent_118 ?_
                  refine lv_iadd hx hb dX12_lent_119 ?_
                  refine lv_topi (fun x_13 ex_13 => ?_)
                  have hf := z_nv ex_13 hf
                  refine lv_istore (lv' := [(4, .int x_13), (3, .int x_8), (5, .int x_11)]) hx hb dX12_lent_120 hl (by decide) rfl (fun ls hl => ?_)
                  obtain ⟨x_14, ex_14, hf⟩ := z_nm hf
                  refine lv_iinc (v := x_14) (lv' := [(5, .int x_14), (4, .int x_13), (3, .int x_8)]) hx hb dX12_lent_122 hl (k := 2) rfl (by rw [ex_14]; rfl) (by decide) rfl (fun ls hl => ?_)
                  refine lv_goto (tgt := 104) hx hb dX12_lent_125 (by decide) ?_
                  exact ih_104 x_13 x_14 S_12 _ _ _ hf hP hS (lv_sub hl [2, 1, 0] rfl)
            exact L_104 zFU (0 : Int32) (0 : Int32) S_9 _ _ _ hf hP hS (lv_sub hl [2, 1, 0] rfl)
          have L_53 : ∀ (n_53 : Nat) (x_16 : Int32) (x_17 : Int32) (S_18 : zSt) (H : Heap) (locs : List Loc) (ls : Array Slot), fm_lent_L53 a_1 j_98 n_53 x_16 x_17 S_18 = some (ro, So) → va_P D vwCl (zM cy ad S_18) H → va_S A s.heap H locs → lv_has ls 6 [(0, .ref (ad 0)), (1, .int a_1), (3, .int x_16), (4, .int x_17)] → W p l e ({ frames := 3, cells := 0, slots := 0, locals := 69 }) s m ([.ref (ad 0), .int a_1, .int a_2] : List Value).toArray below meth c H locs 0 0 Q (F0 m 53 ls []) := by
            intro n_53
            induction n_53 with
            | zero =>
              intro x_16 x_17 S_18 H locs ls hf hP hS hl
              exact z_no hf
            | succ n_53 ih_53 =>
              intro x_16 x_17 S_18 H locs ls hf hP hS hl
              rw [fm_lent_L53] at hf
              refine lv_iload hx hb dX12_lent_53 (lv_at hl 3 rfl) ?_
              refine lv_iload_n hx hb dX12_lent_55 rfl (lv_at hl 1 rfl) ?_
              refine lv_icmp_gt (tgt := 98) hx hb dX12_lent_56 (by decide) (fun c_34 => ?_) (fun c_34 => ?_)
              · have hf := z_it c_34 hf
                exact J_98 x_16 S_18 _ _ _ hf hP hS (lv_sub hl [2] rfl)
              · have hf := z_if c_34 hf
                refine lv_aload_n hx hb dX12_lent_59 rfl (lv_at hl 0 rfl) ?_
                refine lv_iload hx hb dX12_lent_60 (lv_at hl 3 rfl) ?_
                refine lv_iconst (v := 0) hx hb dX12_lent_62 (by decide) ?_
                obtain ⟨r_19, S_20, h_21, hf⟩ := z_bd hf
                refine z_cVI (As := [.int x_17, .int (0 : Int32)]) (rest := []) X hK hE hD hA hP hS (cm_ofLeaven l D K cy ad S_18 _ _ _ _ h_21) (cwV 2 hts (z_gV wt_6_226 wt_6_228 wp_84 wt_1_13 wt_6_229) rfl rfl rfl ⟨rfl, yd_yX12_ofLeaven⟩ ⟨Nat.le_of_ble_eq_true rfl, Nat.le_of_ble_eq_true rfl⟩) (va_recv hK hP (ci := 12) (q0 := 0) rfl (zM_0 cy ad S_18)) hl.1 rfl rfl (Nat.le_of_ble_eq_true rfl) dX12_lent_63 (fun H locs hP hS => ?_)
                refine lv_iconst (v := -1) hx hb dX12_lent_66 (by decide) ?_
                obtain ⟨j_92, ej_92, hf⟩ := z_nm hf
                have J_92 : ∀ (x_22 : Int32) (S_23 : zSt) (H : Heap) (locs : List Loc) (ls : Array Slot), j_92 x_22 S_23 = some (ro, So) → va_P D vwCl (zM cy ad S_23) H → va_S A s.heap H locs → lv_has ls 6 [(0, .ref (ad 0)), (1, .int a_1), (3, .int x_22), (4, .int x_17)] → W p l e ({ frames := 3, cells := 0, slots := 0, locals := 69 }) s m ([.ref (ad 0), .int a_1, .int a_2] : List Value).toArray below meth c H locs 0 0 Q (F0 m 92 ls []) := by
                  intro x_22 S_23 H locs ls hf hP hS hl
                  have hf := z_e2 ej_92 hf
                  obtain ⟨x_24, ex_24, hf⟩ := z_nm hf
                  refine lv_iinc (v := x_24) (lv' := [(4, .int x_24), (0, .ref (ad 0)), (1, .int a_1), (3, .int x_22)]) hx hb dX12_lent_92 hl (k := 3) rfl (by rw [ex_24]; rfl) (by decide) rfl (fun ls hl => ?_)
                  refine lv_goto (tgt := 53) hx hb dX12_lent_95 (by decide) ?_
                  exact ih_53 x_22 x_24 S_23 _ _ _ hf hP hS (lv_sub hl [1, 2, 3, 0] rfl)
                refine lv_icmp_ne (tgt := 92) hx hb dX12_lent_67 (by decide) (fun c_33 => ?_) (fun c_33 => ?_)
                · have hf := z_if c_33 hf
                  exact J_92 x_16 S_20 _ _ _ hf hP hS (lv_sub hl [0, 1, 2, 3] rfl)
                · have hf := z_it c_33 hf
                  refine lv_aload_n hx hb dX12_lent_70 rfl (lv_at hl 0 rfl) ?_
                  refine lv_iload_n hx hb dX12_lent_71 rfl (lv_at hl 1 rfl) ?_
                  refine lv_iload hx hb dX12_lent_72 (lv_at hl 3 rfl) ?_
                  obtain ⟨r_25, S_26, h_27, hf⟩ := z_bd hf
                  refine z_cVI (As := [.int a_1, .int x_17]) (rest := []) X hK hE hD hA hP hS (cm_isLed l D K cy ad S_20 _ _ _ _ h_27) (cwV 2 hts (z_gV wt_7_3 wt_7_5 wp_86 wt_1_13 wt_7_6) rfl rfl rfl ⟨rfl, yd_yX12_isLed⟩ ⟨Nat.le_of_ble_eq_true rfl, Nat.le_of_ble_eq_true rfl⟩) (va_recv hK hP (ci := 12) (q0 := 0) rfl (zM_0 cy ad S_20)) hl.1 rfl rfl (Nat.le_of_ble_eq_true rfl) dX12_lent_74 (fun H locs hP hS => ?_)
                  refine lv_if_eq (tgt := 92) hx hb dX12_lent_77 (by decide) (fun c_32 => ?_) (fun c_32 => ?_)
                  · have hf := z_it c_32 hf
                    exact J_92 x_16 S_26 _ _ _ hf hP hS (lv_sub hl [0, 1, 2, 3] rfl)
                  · have hf := z_if c_32 hf
                    refine lv_iload_n hx hb dX12_lent_80 rfl (lv_at hl 2 rfl) ?_
                    refine lv_iconst (v := 1) hx hb dX12_lent_81 (by decide) ?_
                    refine lv_aload_n hx hb dX12_lent_82 rfl (lv_at hl 0 rfl) ?_
                    refine lv_iload hx hb dX12_lent_83 (lv_at hl 3 rfl) ?_
                    refine lv_iconst (v := 2) hx hb dX12_lent_85 (by decide) ?_
                    obtain ⟨r_28, S_29, h_30, hf⟩ := z_bd hf
                    refine z_cVI (As := [.int x_17, .int (2 : Int32)]) (rest := [.int (1 : Int32), .int x_16]) X hK hE hD hA hP hS (cm_ofLeaven l D K cy ad S_26 _ _ _ _ h_30) (cwV 2 hts (z_gV wt_6_226 wt_6_228 wp_84 wt_1_13 wt_6_229) rfl rfl rfl ⟨rfl, yd_yX12_ofLeaven⟩ ⟨Nat.le_of_ble_eq_true rfl, Nat.le_of_ble_eq_true rfl⟩) (va_recv hK hP (ci := 12) (q0 := 0) rfl (zM_0 cy ad S_26)) hl.1 rfl rfl (Nat.le_of_ble_eq_true rfl) dX12_lent_86 (fun H locs hP hS => ?_)
                    refine lv_ishl hx hb dX12_lent_89 ?_
                    refine lv_ior hx hb dX12_lent_90 ?_
                    refine lv_topi (fun x_31 ex_31 => ?_)
                    have hf := z_nv ex_31 hf
                    refine lv_istore_n (lv' := [(3, .int x_31), (0, .ref (ad 0)), (1, .int a_1), (4, .int x_17)]) hx hb dX12_lent_91 rfl hl (by decide) rfl (fun ls hl => ?_)
                    exact J_92 x_31 S_29 _ _ _ hf hP hS (lv_sub hl [1, 2, 0, 3] rfl)
          exact L_53 zFU (0 : Int32) (0 : Int32) S_6 _ _ _ hf hP hS (lv_sub hl [2, 3, 1, 0] rfl)
        · have hf := z_if c_38 hf
          refine lv_aload_n hx hb dX12_lent_39 rfl (lv_at hl 0 rfl) ?_
          refine lv_iload_n hx hb dX12_lent_40 rfl (lv_at hl 1 rfl) ?_
          refine lv_iload_n hx hb dX12_lent_41 rfl (lv_at hl 2 rfl) ?_
          refine lv_iconst (v := 2) hx hb dX12_lent_42 (by decide) ?_
          refine lv_isub hx hb dX12_lent_43 ?_
          obtain ⟨r_35, S_36, h_37, hf⟩ := z_bd hf
          refine z_cVI (As := [.int a_1, .int (a_2 - (2 : Int32))]) (rest := []) X hK hE hD hA hP hS (cm_ofLeaven l D K cy ad S_6 _ _ _ _ h_37) (cwV 2 hts (z_gV wt_6_226 wt_6_228 wp_84 wt_1_13 wt_6_229) rfl rfl rfl ⟨rfl, yd_yX12_ofLeaven⟩ ⟨Nat.le_of_ble_eq_true rfl, Nat.le_of_ble_eq_true rfl⟩) (va_recv hK hP (ci := 12) (q0 := 0) rfl (zM_0 cy ad S_6)) hl.1 rfl rfl (Nat.le_of_ble_eq_true rfl) dX12_lent_44 (fun H locs hP hS => ?_)
          obtain ⟨h1, h2⟩ := z_s2 hf
          subst h1 h2
          exact hret _ _ _ _ hP hS dX12_lent_47
      · have hf := z_if c_42 hf
        refine lv_aload_n hx hb dX12_lent_25 rfl (lv_at hl 0 rfl) ?_
        refine lv_iload_n hx hb dX12_lent_26 rfl (lv_at hl 1 rfl) ?_
        refine lv_iconst (v := 3) hx hb dX12_lent_27 (by decide) ?_
        refine lv_iload_n hx hb dX12_lent_28 rfl (lv_at hl 2 rfl) ?_
        refine lv_isub hx hb dX12_lent_29 ?_
        obtain ⟨r_39, S_40, h_41, hf⟩ := z_bd hf
        refine z_cVI (As := [.int a_1, .int ((3 : Int32) - a_2)]) (rest := []) X hK hE hD hA hP hS (cm_ofLeaven l D K cy ad S_6 _ _ _ _ h_41) (cwV 2 hts (z_gV wt_6_226 wt_6_228 wp_84 wt_1_13 wt_6_229) rfl rfl rfl ⟨rfl, yd_yX12_ofLeaven⟩ ⟨Nat.le_of_ble_eq_true rfl, Nat.le_of_ble_eq_true rfl⟩) (va_recv hK hP (ci := 12) (q0 := 0) rfl (zM_0 cy ad S_6)) hl.1 rfl rfl (Nat.le_of_ble_eq_true rfl) dX12_lent_30 (fun H locs hP hS => ?_)
        obtain ⟨h1, h2⟩ := z_s2 hf
        subst h1 h2
        exact hret _ _ _ _ hP hS dX12_lent_33
    · have hf := z_it c_43 hf
      exact J_17  S_6 _ _ _ hf hP hS (lv_sub hl [] rfl)
def fm_rise (S_0 : zSt) (a_1 : Int32) (a_2 : Int32) (a_3 : Int32) : Option (Int32 × zSt) :=
  zbd (fm_isIn S_0 a_1 (0 : Int32) (7 : Int32)) fun r_1 S_2 =>
  znm (fun (S_4 : zSt) =>
  some ((0 : Int32), S_4)) fun j_30 =>
  if r_1 = 0 then (
  j_30  S_2) else (
  zbd (fm_isIn S_2 a_2 (0 : Int32) (7 : Int32)) fun r_5 S_6 =>
  if r_5 = 0 then (
  j_30  S_6) else (
  zbd (fm_isIn S_6 a_3 (0 : Int32) (9 : Int32)) fun r_8 S_9 =>
  if r_8 = 0 then (
  j_30  S_9) else (
  zck (zix (((270 : Int32) + ((8 : Int32) * a_1)) + a_2) 1480) <|
  znm (zpI S_9 1 ((((270 : Int32) + ((8 : Int32) * a_1)) + a_2).toNatClampNeg) a_3) fun S_12 =>
  some ((1 : Int32), S_12))))
set_option maxHeartbeats 4000000 in
set_option maxRecDepth 100000 in
theorem cm_rise (l : Launch) (D : va_G) (K : (Nat → Nat) × (Nat → Nat)) (cy : Nat → ClassId) (ad : Nat → Nat) (S_0 : zSt) (a_1 : Int32) (a_2 : Int32) (a_3 : Int32) (ro : Int32) (So : zSt) (hf : fm_rise S_0 a_1 a_2 a_3 = some (ro, So)) : zMI l yX12_rise (zws yX12_rise cX12_rise 4 (Option.some .boolean)) ({ frames := 1, cells := 0, slots := 0, locals := 22 }) D (zTy cy) K (zM cy ad) [.ref (ad 0), .int a_1, .int a_2, .int a_3] S_0 ro So := by
  refine z_metZ (own := RX12) (lv := [(0, .ref (ad 0)), (1, .int a_1), (2, .int a_2), (3, .int a_3)]) (by decide) rfl rfl (Nat.le_of_ble_eq_true rfl) rfl ?_
  intro p e s m below meth c A Q X hK hE hD hA hret hP hS ls hl
  obtain ⟨hx, hb, hml, hown, hts⟩ := id X
  have k0 := (fun w h => List.mem_cons_of_mem _ (zFX12 w h) : ∀ w ∈ u_ws RX12 TX12 36, w ∈ zws yX12_rise cX12_rise 4 (Option.some .boolean))
  have k1 := hts _ (List.mem_cons_of_mem _ wt_5_95)
  refine lv_iload_n hx hb dX12_rise_0 rfl (lv_at hl 1 rfl) ?_
  refine lv_iconst (v := 0) hx hb dX12_rise_1 (by decide) ?_
  refine lv_bipush (v := 7) hx hb dX12_rise_2 (by decide) ?_
  obtain ⟨r_1, S_2, h_3, hf⟩ := z_bd hf
  refine z_cSI (As := [.int a_1, .int (0 : Int32), .int (7 : Int32)]) (rest := []) X hK hE hD hA hP hS (cm_isIn l D K cy ad S_0 _ _ _ _ _ h_3) (va_cwS 3 hts (z_gS wt_5_216 wt_5_217 wt_1_13 wt_5_218) rfl rfl rfl yd_yX12_isIn ⟨Nat.le_of_ble_eq_true rfl, Nat.le_of_ble_eq_true rfl⟩) hl.1 rfl rfl (Nat.le_of_ble_eq_true rfl) dX12_rise_4 (fun H locs hP hS => ?_)
  obtain ⟨j_30, ej_30, hf⟩ := z_nm hf
  have J_30 : ∀ (S_4 : zSt) (H : Heap) (locs : List Loc) (ls : Array Slot), j_30  S_4 = some (ro, So) → va_P D vwCl (zM cy ad S_4) H → va_S A s.heap H locs → lv_has ls 4 [] → W p l e ({ frames := 1, cells := 0, slots := 0, locals := 22 }) s m ([.ref (ad 0), .int a_1, .int a_2, .int a_3] : List Value).toArray below meth c H locs 0 0 Q (F0 m 30 ls []) := by
    intro  S_4 H locs ls hf hP hS hl
    have hf := z_e1 ej_30 hf
    refine lv_iconst (v := 0) hx hb dX12_rise_30 (by decide) ?_
    obtain ⟨h1, h2⟩ := z_s2 hf
    subst h1 h2
    exact hret _ _ _ _ rfl hP hS dX12_rise_31
  refine lv_if_eq (tgt := 30) hx hb dX12_rise_7 (by decide) (fun c_15 => ?_) (fun c_15 => ?_)
  · have hf := z_it c_15 hf
    exact J_30  S_2 _ _ _ hf hP hS (lv_sub hl [] rfl)
  · have hf := z_if c_15 hf
    refine lv_iload_n hx hb dX12_rise_10 rfl (lv_at hl 2 rfl) ?_
    refine lv_iconst (v := 0) hx hb dX12_rise_11 (by decide) ?_
    refine lv_bipush (v := 7) hx hb dX12_rise_12 (by decide) ?_
    obtain ⟨r_5, S_6, h_7, hf⟩ := z_bd hf
    refine z_cSI (As := [.int a_2, .int (0 : Int32), .int (7 : Int32)]) (rest := []) X hK hE hD hA hP hS (cm_isIn l D K cy ad S_2 _ _ _ _ _ h_7) (va_cwS 3 hts (z_gS wt_5_216 wt_5_217 wt_1_13 wt_5_218) rfl rfl rfl yd_yX12_isIn ⟨Nat.le_of_ble_eq_true rfl, Nat.le_of_ble_eq_true rfl⟩) hl.1 rfl rfl (Nat.le_of_ble_eq_true rfl) dX12_rise_14 (fun H locs hP hS => ?_)
    refine lv_if_eq (tgt := 30) hx hb dX12_rise_17 (by decide) (fun c_14 => ?_) (fun c_14 => ?_)
    · have hf := z_it c_14 hf
      exact J_30  S_6 _ _ _ hf hP hS (lv_sub hl [] rfl)
    · have hf := z_if c_14 hf
      refine lv_iload_n hx hb dX12_rise_20 rfl (lv_at hl 3 rfl) ?_
      refine lv_iconst (v := 0) hx hb dX12_rise_21 (by decide) ?_
      refine lv_bipush (v := 9) hx hb dX12_rise_22 (by decide) ?_
      obtain ⟨r_8, S_9, h_10, hf⟩ := z_bd hf
      refine z_cSI (As := [.int a_3, .int (0 : Int32), .int (9 : Int32)]) (rest := []) X hK hE hD hA hP hS (cm_isIn l D K cy ad S_6 _ _ _ _ _ h_10) (va_cwS 3 hts (z_gS wt_5_216 wt_5_217 wt_1_13 wt_5_218) rfl rfl rfl yd_yX12_isIn ⟨Nat.le_of_ble_eq_true rfl, Nat.le_of_ble_eq_true rfl⟩) hl.1 rfl rfl (Nat.le_of_ble_eq_true rfl) dX12_rise_24 (fun H locs hP hS => ?_)
      refine lv_if_ne (tgt := 32) hx hb dX12_rise_27 (by decide) (fun c_13 => ?_) (fun c_13 => ?_)
      · have hf := z_if c_13 hf
        refine lv_aload_n hx hb dX12_rise_32 rfl (lv_at hl 0 rfl) ?_
        refine va_get (D := D) (ci := 12) (v := .ref (ad 1)) (C := RX12) (T := TX12) (N := 36) hx hb hts k0 hown hK hP 0 (zM_0 cy ad S_9) rfl 0 (by decide) k1 (fun _ h9 => h9) rfl dX12_rise_33 ?_
        refine lv_sipush (v := 270) hx hb dX12_rise_36 (by decide) ?_
        refine lv_bipush (v := 8) hx hb dX12_rise_39 (by decide) ?_
        refine lv_iload_n hx hb dX12_rise_41 rfl (lv_at hl 1 rfl) ?_
        refine lv_imul hx hb dX12_rise_42 ?_
        refine lv_iadd hx hb dX12_rise_43 ?_
        refine lv_iload_n hx hb dX12_rise_44 rfl (lv_at hl 2 rfl) ?_
        refine lv_iadd hx hb dX12_rise_45 ?_
        refine lv_iload_n hx hb dX12_rise_46 rfl (lv_at hl 3 rfl) ?_
        obtain ⟨h_11, hf⟩ := z_ix hf
        refine z_iast hx hb hK hP (hD S_9) hS 1 0 (zM_1 cy ad S_9) rfl h_11 (k := ((((270 : Int32) + ((8 : Int32) * a_1)) + a_2).toNatClampNeg)) rfl dX12_rise_47 (fun H locs hP hS => ?_)
        obtain ⟨S_12, eS_12, hf⟩ := z_nm hf
        have hP := zW_putI hP eS_12 (by decide) rfl
        refine lv_iconst (v := 1) hx hb dX12_rise_48 (by decide) ?_
        obtain ⟨h1, h2⟩ := z_s2 hf
        subst h1 h2
        exact hret _ _ _ _ rfl hP hS dX12_rise_49
      · have hf := z_it c_13 hf
        exact J_30  S_9 _ _ _ hf hP hS (lv_sub hl [] rfl)
