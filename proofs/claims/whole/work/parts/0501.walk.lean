def fx_Leavens_add (S_0 : zSt) (a_1 : Int32) (a_2 : Int32) (a_3 : Int32) (a_4 : Int32) (a_5 : Int64) : Option (Int32 × zSt) :=
  if (S_0.1 22 0) < (60 : Int32) then (
  zck (zix (S_0.1 22 0) 60) <|
  znm (zpI S_0 23 ((S_0.1 22 0).toNatClampNeg) a_1) fun S_2 =>
  zck (zix (S_2.1 22 0) 60) <|
  znm (zpI S_2 24 ((S_2.1 22 0).toNatClampNeg) a_2) fun S_4 =>
  zck (zix (S_4.1 22 0) 60) <|
  znm (zpI S_4 25 ((S_4.1 22 0).toNatClampNeg) a_3) fun S_6 =>
  zck (zix (S_6.1 22 0) 60) <|
  znm (zpI S_6 26 ((S_6.1 22 0).toNatClampNeg) a_4) fun S_8 =>
  zck (zix (S_8.1 22 0) 60) <|
  znm (zpL S_8 27 ((S_8.1 22 0).toNatClampNeg) (a_5 ||| ((1 : Int64) <<< ((S_8.1 22 0).toInt64 &&& 63)))) fun S_10 =>
  znm (zpI S_10 22 0 ((S_10.1 22 0) + (1 : Int32))) fun S_11 =>
  some ((S_11.1 22 0) - (1 : Int32), S_11)) else (
  some ((-1 : Int32), S_0))
set_option maxHeartbeats 4000000 in
set_option maxRecDepth 100000 in
theorem cx_Leavens_add (l : Launch) (D : va_G) (K : (Nat → Nat) × (Nat → Nat)) (cy : Nat → ClassId) (ad : Nat → Nat) (S_0 : zSt) (a_1 : Int32) (a_2 : Int32) (a_3 : Int32) (a_4 : Int32) (a_5 : Int64) (ro : Int32) (So : zSt) (hf : fx_Leavens_add S_0 a_1 a_2 a_3 a_4 a_5 = some (ro, So)) : zMI l yX3_add (zws yX3_add cX3_add 7 (Option.some .int)) ({ frames := 0, cells := 0, slots := 0, locals := 0 }) D (zTy cy) K (zX cy ad) [.ref (ad 22), .int a_1, .int a_2, .int a_3, .int a_4, .long a_5] S_0 ro So := by
  refine z_metI (own := RX3) (lv := [(0, .ref (ad 22)), (1, .int a_1), (2, .int a_2), (3, .int a_3), (4, .int a_4), (5, .long a_5)]) (by decide) rfl rfl (Nat.le_of_ble_eq_true rfl) rfl ?_
  intro p e s m below meth c A Q X hK hE hD hA hret hP hS ls hl
  obtain ⟨hx, hb, hml, hown, hts⟩ := id X
  have k0 := (fun w h => List.mem_cons_of_mem _ (zFX3 w h) : ∀ w ∈ u_ws RX3 TX3 7, w ∈ zws yX3_add cX3_add 7 (Option.some .int))
  have k1 := hts _ (List.mem_cons_of_mem _ wt_1_193)
  have k2 := hts _ (List.mem_cons_of_mem _ wt_1_195)
  have k3 := hts _ (List.mem_cons_of_mem _ wt_1_197)
  have k4 := hts _ (List.mem_cons_of_mem _ wt_1_199)
  have k5 := hts _ (List.mem_cons_of_mem _ wt_1_201)
  have k6 := hts _ (List.mem_cons_of_mem _ wt_1_203)
  refine lv_aload_n hx hb dX3_add_0 rfl (lv_at hl 0 rfl) ?_
  refine va_get (D := D) (ci := 3) (v := .int (S_0.1 22 0)) (C := RX3) (T := TX3) (N := 7) hx hb hts k0 hown hK hP 22 (zX_22 cy ad S_0) rfl 0 (by decide) k1 (fun _ h9 => h9) rfl dX3_add_1 ?_
  refine lv_bipush (v := 60) hx hb dX3_add_4 (by decide) ?_
  refine lv_icmp_lt (tgt := 11) hx hb dX3_add_6 (by decide) (fun c_12 => ?_) (fun c_12 => ?_)
  · have hf := z_it c_12 hf
    refine lv_aload_n hx hb dX3_add_11 rfl (lv_at hl 0 rfl) ?_
    refine va_get (D := D) (ci := 3) (v := .ref (ad 23)) (C := RX3) (T := TX3) (N := 7) hx hb hts k0 hown hK hP 22 (zX_22 cy ad S_0) rfl 1 (by decide) k2 (fun _ h9 => h9) rfl dX3_add_12 ?_
    refine lv_aload_n hx hb dX3_add_15 rfl (lv_at hl 0 rfl) ?_
    refine va_get (D := D) (ci := 3) (v := .int (S_0.1 22 0)) (C := RX3) (T := TX3) (N := 7) hx hb hts k0 hown hK hP 22 (zX_22 cy ad S_0) rfl 0 (by decide) k1 (fun _ h9 => h9) rfl dX3_add_16 ?_
    refine lv_iload_n hx hb dX3_add_19 rfl (lv_at hl 1 rfl) ?_
    obtain ⟨h_1, hf⟩ := z_ix hf
    refine z_iast hx hb hK hP (hD S_0) hS 23 0 (zX_23 cy ad S_0) rfl h_1 (k := ((S_0.1 22 0).toNatClampNeg)) rfl dX3_add_20 (fun H locs hP hS => ?_)
    obtain ⟨S_2, eS_2, hf⟩ := z_nm hf
    have hP := zW_putI hP eS_2 (by decide) rfl
    refine lv_aload_n hx hb dX3_add_21 rfl (lv_at hl 0 rfl) ?_
    refine va_get (D := D) (ci := 3) (v := .ref (ad 24)) (C := RX3) (T := TX3) (N := 7) hx hb hts k0 hown hK hP 22 (zX_22 cy ad S_2) rfl 2 (by decide) k3 (fun _ h9 => h9) rfl dX3_add_22 ?_
    refine lv_aload_n hx hb dX3_add_25 rfl (lv_at hl 0 rfl) ?_
    refine va_get (D := D) (ci := 3) (v := .int (S_2.1 22 0)) (C := RX3) (T := TX3) (N := 7) hx hb hts k0 hown hK hP 22 (zX_22 cy ad S_2) rfl 0 (by decide) k1 (fun _ h9 => h9) rfl dX3_add_26 ?_
    refine lv_iload_n hx hb dX3_add_29 rfl (lv_at hl 2 rfl) ?_
    obtain ⟨h_3, hf⟩ := z_ix hf
    refine z_iast hx hb hK hP (hD S_2) hS 24 0 (zX_24 cy ad S_2) rfl h_3 (k := ((S_2.1 22 0).toNatClampNeg)) rfl dX3_add_30 (fun H locs hP hS => ?_)
    obtain ⟨S_4, eS_4, hf⟩ := z_nm hf
    have hP := zW_putI hP eS_4 (by decide) rfl
    refine lv_aload_n hx hb dX3_add_31 rfl (lv_at hl 0 rfl) ?_
    refine va_get (D := D) (ci := 3) (v := .ref (ad 25)) (C := RX3) (T := TX3) (N := 7) hx hb hts k0 hown hK hP 22 (zX_22 cy ad S_4) rfl 3 (by decide) k4 (fun _ h9 => h9) rfl dX3_add_32 ?_
    refine lv_aload_n hx hb dX3_add_35 rfl (lv_at hl 0 rfl) ?_
    refine va_get (D := D) (ci := 3) (v := .int (S_4.1 22 0)) (C := RX3) (T := TX3) (N := 7) hx hb hts k0 hown hK hP 22 (zX_22 cy ad S_4) rfl 0 (by decide) k1 (fun _ h9 => h9) rfl dX3_add_36 ?_
    refine lv_iload_n hx hb dX3_add_39 rfl (lv_at hl 3 rfl) ?_
    obtain ⟨h_5, hf⟩ := z_ix hf
    refine z_iast hx hb hK hP (hD S_4) hS 25 0 (zX_25 cy ad S_4) rfl h_5 (k := ((S_4.1 22 0).toNatClampNeg)) rfl dX3_add_40 (fun H locs hP hS => ?_)
    obtain ⟨S_6, eS_6, hf⟩ := z_nm hf
    have hP := zW_putI hP eS_6 (by decide) rfl
    refine lv_aload_n hx hb dX3_add_41 rfl (lv_at hl 0 rfl) ?_
    refine va_get (D := D) (ci := 3) (v := .ref (ad 26)) (C := RX3) (T := TX3) (N := 7) hx hb hts k0 hown hK hP 22 (zX_22 cy ad S_6) rfl 4 (by decide) k5 (fun _ h9 => h9) rfl dX3_add_42 ?_
    refine lv_aload_n hx hb dX3_add_45 rfl (lv_at hl 0 rfl) ?_
    refine va_get (D := D) (ci := 3) (v := .int (S_6.1 22 0)) (C := RX3) (T := TX3) (N := 7) hx hb hts k0 hown hK hP 22 (zX_22 cy ad S_6) rfl 0 (by decide) k1 (fun _ h9 => h9) rfl dX3_add_46 ?_
    refine lv_iload hx hb dX3_add_49 (lv_at hl 4 rfl) ?_
    obtain ⟨h_7, hf⟩ := z_ix hf
    refine z_iast hx hb hK hP (hD S_6) hS 26 0 (zX_26 cy ad S_6) rfl h_7 (k := ((S_6.1 22 0).toNatClampNeg)) rfl dX3_add_51 (fun H locs hP hS => ?_)
    obtain ⟨S_8, eS_8, hf⟩ := z_nm hf
    have hP := zW_putI hP eS_8 (by decide) rfl
    refine lv_aload_n hx hb dX3_add_52 rfl (lv_at hl 0 rfl) ?_
    refine va_get (D := D) (ci := 3) (v := .ref (ad 27)) (C := RX3) (T := TX3) (N := 7) hx hb hts k0 hown hK hP 22 (zX_22 cy ad S_8) rfl 5 (by decide) k6 (fun _ h9 => h9) rfl dX3_add_53 ?_
    refine lv_aload_n hx hb dX3_add_56 rfl (lv_at hl 0 rfl) ?_
    refine va_get (D := D) (ci := 3) (v := .int (S_8.1 22 0)) (C := RX3) (T := TX3) (N := 7) hx hb hts k0 hown hK hP 22 (zX_22 cy ad S_8) rfl 0 (by decide) k1 (fun _ h9 => h9) rfl dX3_add_57 ?_
    refine lv_lload hx hb dX3_add_60 (lv_at hl 5 rfl) ?_
    refine lv_lconst (v := 1) hx hb dX3_add_62 (by decide) ?_
    refine lv_aload_n hx hb dX3_add_63 rfl (lv_at hl 0 rfl) ?_
    refine va_get (D := D) (ci := 3) (v := .int (S_8.1 22 0)) (C := RX3) (T := TX3) (N := 7) hx hb hts k0 hown hK hP 22 (zX_22 cy ad S_8) rfl 0 (by decide) k1 (fun _ h9 => h9) rfl dX3_add_64 ?_
    refine lv_lshl hx hb dX3_add_67 rfl ?_
    refine lv_lor hx hb dX3_add_68 ?_
    obtain ⟨h_9, hf⟩ := z_ix hf
    refine z_last hx hb hK hP (hD S_8) hS 27 1 (zX_27 cy ad S_8) rfl h_9 (k := ((S_8.1 22 0).toNatClampNeg)) rfl dX3_add_69 (fun H locs hP hS => ?_)
    obtain ⟨S_10, eS_10, hf⟩ := z_nm hf
    have hP := zW_putL hP eS_10 (by decide) rfl
    refine lv_aload_n hx hb dX3_add_70 rfl (lv_at hl 0 rfl) ?_
    refine lv_dup hx hb dX3_add_71 rfl ?_
    refine va_get (D := D) (ci := 3) (v := .int (S_10.1 22 0)) (C := RX3) (T := TX3) (N := 7) hx hb hts k0 hown hK hP 22 (zX_22 cy ad S_10) rfl 0 (by decide) k1 (fun _ h9 => h9) rfl dX3_add_72 ?_
    refine lv_iconst (v := 1) hx hb dX3_add_75 (by decide) ?_
    refine lv_iadd hx hb dX3_add_76 ?_
    refine va_put (D := D) (ci := 3) (v := .int ((S_10.1 22 0) + (1 : Int32))) (ty := .int) (C := RX3) (T := TX3) (N := 7) hx hb hts k0 tyX3 tyX3_ok nmX3 hown hK hP (hD S_10) hS 22 (zX_22 cy ad S_10) rfl 0 (by decide) k1 (fun _ h9 => h9) rfl (tyX3_ok 0 (by decide)) rfl rfl (Nat.le_of_ble_eq_true rfl) dX3_add_77 (fun H locs hP _ hS => ?_)
    obtain ⟨S_11, eS_11, hf⟩ := z_nm hf
    have hP := zW_putI hP eS_11 (by decide) rfl
    refine lv_aload_n hx hb dX3_add_80 rfl (lv_at hl 0 rfl) ?_
    refine va_get (D := D) (ci := 3) (v := .int (S_11.1 22 0)) (C := RX3) (T := TX3) (N := 7) hx hb hts k0 hown hK hP 22 (zX_22 cy ad S_11) rfl 0 (by decide) k1 (fun _ h9 => h9) rfl dX3_add_81 ?_
    refine lv_iconst (v := 1) hx hb dX3_add_84 (by decide) ?_
    refine lv_isub hx hb dX3_add_85 ?_
    obtain ⟨h1, h2⟩ := z_s2 hf
    subst h1 h2
    exact hret _ _ _ _ hP hS dX3_add_86
  · have hf := z_if c_12 hf
    refine lv_iconst (v := -1) hx hb dX3_add_9 (by decide) ?_
    obtain ⟨h1, h2⟩ := z_s2 hf
    subst h1 h2
    exact hret _ _ _ _ hP hS dX3_add_10
def fx_Leavens_addNew (S_0 : zSt) (a_1 : Int32) : Option (Int32 × zSt) :=
  zbd (fx_Leavens_add S_0 (0 : Int32) a_1 (-1 : Int32) (-1 : Int32) (0 : Int64)) fun r_1 S_2 =>
  some (r_1, S_2)
set_option maxHeartbeats 4000000 in
set_option maxRecDepth 100000 in
theorem cx_Leavens_addNew (l : Launch) (D : va_G) (K : (Nat → Nat) × (Nat → Nat)) (cy : Nat → ClassId) (ad : Nat → Nat) (S_0 : zSt) (a_1 : Int32) (ro : Int32) (So : zSt) (hf : fx_Leavens_addNew S_0 a_1 = some (ro, So)) : zMI l yX3_addNew (zws yX3_addNew cX3_addNew 2 (Option.some .int)) ({ frames := 1, cells := 0, slots := 0, locals := 26 }) D (zTy cy) K (zX cy ad) [.ref (ad 22), .int a_1] S_0 ro So := by
  refine z_metI (own := RX3) (lv := [(0, .ref (ad 22)), (1, .int a_1)]) (by decide) rfl rfl (Nat.le_of_ble_eq_true rfl) rfl ?_
  intro p e s m below meth c A Q X hK hE hD hA hret hP hS ls hl
  obtain ⟨hx, hb, hml, hown, hts⟩ := id X
  refine lv_aload_n hx hb dX3_addNew_0 rfl (lv_at hl 0 rfl) ?_
  refine lv_iconst (v := 0) hx hb dX3_addNew_1 (by decide) ?_
  refine lv_iload_n hx hb dX3_addNew_2 rfl (lv_at hl 1 rfl) ?_
  refine lv_iconst (v := -1) hx hb dX3_addNew_3 (by decide) ?_
  refine lv_iconst (v := -1) hx hb dX3_addNew_4 (by decide) ?_
  refine lv_lconst (v := 0) hx hb dX3_addNew_5 (by decide) ?_
  obtain ⟨r_1, S_2, h_3, hf⟩ := z_bd hf
  refine z_cVI (As := [.int (0 : Int32), .int a_1, .int (-1 : Int32), .int (-1 : Int32), .long (0 : Int64)]) (rest := []) X hK hE hD hA hP hS (cx_Leavens_add l D K cy ad S_0 _ _ _ _ _ _ _ h_3) (cwV 5 hts (z_gV wt_4_191 wt_4_193 wp_43 wt_1_7 wt_4_194) rfl rfl rfl ⟨rfl, yd_yX3_add⟩ ⟨Nat.le_of_ble_eq_true rfl, Nat.le_of_ble_eq_true rfl⟩) (va_recv hK hP (ci := 3) (q0 := 22) rfl (zX_22 cy ad S_0)) hl.1 rfl rfl (Nat.le_of_ble_eq_true rfl) dX3_addNew_6 (fun H locs hP hS => ?_)
  obtain ⟨h1, h2⟩ := z_s2 hf
  subst h1 h2
  exact hret _ _ _ _ hP hS dX3_addNew_9
def fx_Leavens_addMixed (S_0 : zSt) (a_1 : Int32) (a_2 : Int32) : Option (Int32 × zSt) :=
  zck (zix a_1 60) <|
  zck (zix a_2 60) <|
  znm ((1 : Int32) + (if (S_0.1 23 (a_1.toNatClampNeg)) < (S_0.1 23 (a_2.toNatClampNeg)) then (S_0.1 23 (a_2.toNatClampNeg)) else (S_0.1 23 (a_1.toNatClampNeg)))) fun x_3 =>
  znm (fun (x_4 : Int32) (S_5 : zSt) =>
  some (x_4, S_5)) fun j_49 =>
  if x_3 ≤ (30 : Int32) then (
  zck (zix a_1 60) <|
  zck (zix a_2 60) <|
  zbd (fx_Leavens_add S_0 x_3 (-1 : Int32) a_1 a_2 ((S_0.2 27 (a_1.toNatClampNeg)) ||| (S_0.2 27 (a_2.toNatClampNeg)))) fun r_8 S_9 =>
  j_49 r_8 S_9) else (
  j_49 (-1 : Int32) S_0)
set_option maxHeartbeats 4000000 in
set_option maxRecDepth 100000 in
theorem cx_Leavens_addMixed (l : Launch) (D : va_G) (K : (Nat → Nat) × (Nat → Nat)) (cy : Nat → ClassId) (ad : Nat → Nat) (S_0 : zSt) (a_1 : Int32) (a_2 : Int32) (ro : Int32) (So : zSt) (hf : fx_Leavens_addMixed S_0 a_1 a_2 = some (ro, So)) : zMI l yX3_addMixed (zws yX3_addMixed cX3_addMixed 4 (Option.some .int)) ({ frames := 1, cells := 0, slots := 0, locals := 200 }) D (zTy cy) K (zX cy ad) [.ref (ad 22), .int a_1, .int a_2] S_0 ro So := by
  refine z_metI (own := RX3) (lv := [(0, .ref (ad 22)), (1, .int a_1), (2, .int a_2)]) (by decide) rfl rfl (Nat.le_of_ble_eq_true rfl) rfl ?_
  intro p e s m below meth c A Q X hK hE hD hA hret hP hS ls hl
  obtain ⟨hx, hb, hml, hown, hts⟩ := id X
  have k0 := (fun w h => List.mem_cons_of_mem _ (zFX3 w h) : ∀ w ∈ u_ws RX3 TX3 7, w ∈ zws yX3_addMixed cX3_addMixed 4 (Option.some .int))
  have k1 := hts _ (List.mem_cons_of_mem _ wt_1_195)
  have k2 := hts _ (List.mem_cons_of_mem _ wt_4_203)
  have k3 := hts _ (List.mem_cons_of_mem _ wt_3_122)
  have k4 := hts _ (List.mem_cons_of_mem _ wt_1_18)
  have k5 := hts _ (List.mem_cons_of_mem _ wt_3_123)
  have k6 := hts _ (List.mem_cons_of_mem _ wt_1_203)
  refine lv_iconst (v := 1) hx hb dX3_addMixed_0 (by decide) ?_
  refine lv_aload_n hx hb dX3_addMixed_1 rfl (lv_at hl 0 rfl) ?_
  refine va_get (D := D) (ci := 3) (v := .ref (ad 23)) (C := RX3) (T := TX3) (N := 7) hx hb hts k0 hown hK hP 22 (zX_22 cy ad S_0) rfl 1 (by decide) k1 (fun _ h9 => h9) rfl dX3_addMixed_2 ?_
  refine lv_iload_n hx hb dX3_addMixed_5 rfl (lv_at hl 1 rfl) ?_
  obtain ⟨h_1, hf⟩ := z_ix hf
  refine z_iald hx hb hK hP 23 0 (zX_23 cy ad S_0) rfl h_1 (k := (a_1.toNatClampNeg)) rfl dX3_addMixed_6 ?_
  refine lv_aload_n hx hb dX3_addMixed_7 rfl (lv_at hl 0 rfl) ?_
  refine va_get (D := D) (ci := 3) (v := .ref (ad 23)) (C := RX3) (T := TX3) (N := 7) hx hb hts k0 hown hK hP 22 (zX_22 cy ad S_0) rfl 1 (by decide) k1 (fun _ h9 => h9) rfl dX3_addMixed_8 ?_
  refine lv_iload_n hx hb dX3_addMixed_11 rfl (lv_at hl 2 rfl) ?_
  obtain ⟨h_2, hf⟩ := z_ix hf
  refine z_iald hx hb hK hP 23 0 (zX_23 cy ad S_0) rfl h_2 (k := (a_2.toNatClampNeg)) rfl dX3_addMixed_12 ?_
  refine va_mmax hx hb (by rw [hml]; exact hl.1.symm) hown k2 k3 k4 k5 (Nat.le_of_ble_eq_true rfl) (Nat.le_of_ble_eq_true rfl) (Nat.zero_le _) (Nat.zero_le _) dX3_addMixed_13 ?_
  refine lv_iadd hx hb dX3_addMixed_16 ?_
  refine lv_topi (fun x_3 ex_3 => ?_)
  have hf := z_nv ex_3 hf
  refine lv_istore_n (lv' := [(3, .int x_3), (0, .ref (ad 22)), (1, .int a_1), (2, .int a_2)]) hx hb dX3_addMixed_17 rfl hl (by decide) rfl (fun ls hl => ?_)
  refine lv_iload_n hx hb dX3_addMixed_18 rfl (lv_at hl 0 rfl) ?_
  refine lv_bipush (v := 30) hx hb dX3_addMixed_19 (by decide) ?_
  obtain ⟨j_49, ej_49, hf⟩ := z_nm hf
  have J_49 : ∀ (x_4 : Int32) (S_5 : zSt) (H : Heap) (locs : List Loc) (ls : Array Slot), j_49 x_4 S_5 = some (ro, So) → va_P D vwCl (zX cy ad S_5) H → va_S A s.heap H locs → lv_has ls 4 [] → W p l e ({ frames := 1, cells := 0, slots := 0, locals := 200 }) s m ([.ref (ad 22), .int a_1, .int a_2] : List Value).toArray below meth c H locs 0 0 Q (F0 m 49 ls [.int x_4]) := by
    intro x_4 S_5 H locs ls hf hP hS hl
    have hf := z_e2 ej_49 hf
    obtain ⟨h1, h2⟩ := z_s2 hf
    subst h1 h2
    exact hret _ _ _ _ hP hS dX3_addMixed_49
  refine lv_icmp_le (tgt := 28) hx hb dX3_addMixed_21 (by decide) (fun c_11 => ?_) (fun c_11 => ?_)
  · have hf := z_it c_11 hf
    refine lv_aload_n hx hb dX3_addMixed_28 rfl (lv_at hl 1 rfl) ?_
    refine lv_iload_n hx hb dX3_addMixed_29 rfl (lv_at hl 0 rfl) ?_
    refine lv_iconst (v := -1) hx hb dX3_addMixed_30 (by decide) ?_
    refine lv_iload_n hx hb dX3_addMixed_31 rfl (lv_at hl 2 rfl) ?_
    refine lv_iload_n hx hb dX3_addMixed_32 rfl (lv_at hl 3 rfl) ?_
    refine lv_aload_n hx hb dX3_addMixed_33 rfl (lv_at hl 1 rfl) ?_
    refine va_get (D := D) (ci := 3) (v := .ref (ad 27)) (C := RX3) (T := TX3) (N := 7) hx hb hts k0 hown hK hP 22 (zX_22 cy ad S_0) rfl 5 (by decide) k6 (fun _ h9 => h9) rfl dX3_addMixed_34 ?_
    refine lv_iload_n hx hb dX3_addMixed_37 rfl (lv_at hl 2 rfl) ?_
    obtain ⟨h_6, hf⟩ := z_ix hf
    refine z_lald hx hb hK hP 27 1 (zX_27 cy ad S_0) rfl h_6 (k := (a_1.toNatClampNeg)) rfl dX3_addMixed_38 ?_
    refine lv_aload_n hx hb dX3_addMixed_39 rfl (lv_at hl 1 rfl) ?_
    refine va_get (D := D) (ci := 3) (v := .ref (ad 27)) (C := RX3) (T := TX3) (N := 7) hx hb hts k0 hown hK hP 22 (zX_22 cy ad S_0) rfl 5 (by decide) k6 (fun _ h9 => h9) rfl dX3_addMixed_40 ?_
    refine lv_iload_n hx hb dX3_addMixed_43 rfl (lv_at hl 3 rfl) ?_
    obtain ⟨h_7, hf⟩ := z_ix hf
    refine z_lald hx hb hK hP 27 1 (zX_27 cy ad S_0) rfl h_7 (k := (a_2.toNatClampNeg)) rfl dX3_addMixed_44 ?_
    refine lv_lor hx hb dX3_addMixed_45 ?_
    obtain ⟨r_8, S_9, h_10, hf⟩ := z_bd hf
    refine z_cVI (As := [.int x_3, .int (-1 : Int32), .int a_1, .int a_2, .long ((S_0.2 27 (a_1.toNatClampNeg)) ||| (S_0.2 27 (a_2.toNatClampNeg)))]) (rest := []) X hK hE hD hA hP hS (cx_Leavens_add l D K cy ad S_0 _ _ _ _ _ _ _ h_10) (cwV 5 hts (z_gV wt_4_191 wt_4_193 wp_43 wt_1_7 wt_4_194) rfl rfl rfl ⟨rfl, yd_yX3_add⟩ ⟨Nat.le_of_ble_eq_true rfl, Nat.le_of_ble_eq_true rfl⟩) (va_recv hK hP (ci := 3) (q0 := 22) rfl (zX_22 cy ad S_0)) hl.1 rfl rfl (Nat.le_of_ble_eq_true rfl) dX3_addMixed_46 (fun H locs hP hS => ?_)
    exact J_49 r_8 S_9 _ _ _ hf hP hS (lv_sub hl [] rfl)
  · have hf := z_if c_11 hf
    refine lv_iconst (v := -1) hx hb dX3_addMixed_24 (by decide) ?_
    refine lv_goto (tgt := 49) hx hb dX3_addMixed_25 (by decide) ?_
    exact J_49 (-1 : Int32) S_0 _ _ _ hf hP hS (lv_sub hl [] rfl)
def fx_Leavens_isLed (S_0 : zSt) (a_1 : Int32) (a_2 : Int32) : Option (Int32 × zSt) :=
  zck (zix a_1 60) <|
  znm (fun (x_2 : Int32) (S_3 : zSt) =>
  zck (zbo x_2) <|
  some (x_2, S_3)) fun j_20 =>
  if (lg_cmp ((((S_0.2 27 (a_1.toNatClampNeg)).toUInt64 >>> (a_2.toInt64.toUInt64 &&& Int64.toUInt64 63)).toInt64) &&& (1 : Int64)) (0 : Int64)) = 0 then (
  j_20 (0 : Int32) S_0) else (
  j_20 (1 : Int32) S_0)
set_option maxHeartbeats 4000000 in
set_option maxRecDepth 100000 in
theorem cx_Leavens_isLed (l : Launch) (D : va_G) (K : (Nat → Nat) × (Nat → Nat)) (cy : Nat → ClassId) (ad : Nat → Nat) (S_0 : zSt) (a_1 : Int32) (a_2 : Int32) (ro : Int32) (So : zSt) (hf : fx_Leavens_isLed S_0 a_1 a_2 = some (ro, So)) : zMI l yX3_isLed (zws yX3_isLed cX3_isLed 3 (Option.some .boolean)) ({ frames := 0, cells := 0, slots := 0, locals := 0 }) D (zTy cy) K (zX cy ad) [.ref (ad 22), .int a_1, .int a_2] S_0 ro So := by
  refine z_metZ (own := RX3) (lv := [(0, .ref (ad 22)), (1, .int a_1), (2, .int a_2)]) (by decide) rfl rfl (Nat.le_of_ble_eq_true rfl) rfl ?_
  intro p e s m below meth c A Q X hK hE hD hA hret hP hS ls hl
  obtain ⟨hx, hb, hml, hown, hts⟩ := id X
  have k0 := (fun w h => List.mem_cons_of_mem _ (zFX3 w h) : ∀ w ∈ u_ws RX3 TX3 7, w ∈ zws yX3_isLed cX3_isLed 3 (Option.some .boolean))
  have k1 := hts _ (List.mem_cons_of_mem _ wt_1_203)
  refine lv_aload_n hx hb dX3_isLed_0 rfl (lv_at hl 0 rfl) ?_
  refine va_get (D := D) (ci := 3) (v := .ref (ad 27)) (C := RX3) (T := TX3) (N := 7) hx hb hts k0 hown hK hP 22 (zX_22 cy ad S_0) rfl 5 (by decide) k1 (fun _ h9 => h9) rfl dX3_isLed_1 ?_
  refine lv_iload_n hx hb dX3_isLed_4 rfl (lv_at hl 1 rfl) ?_
  obtain ⟨h_1, hf⟩ := z_ix hf
  refine z_lald hx hb hK hP 27 1 (zX_27 cy ad S_0) rfl h_1 (k := (a_1.toNatClampNeg)) rfl dX3_isLed_5 ?_
  refine lv_iload_n hx hb dX3_isLed_6 rfl (lv_at hl 2 rfl) ?_
  refine lv_lushr hx hb dX3_isLed_7 rfl ?_
  refine lv_lconst (v := 1) hx hb dX3_isLed_8 (by decide) ?_
  refine lv_land hx hb dX3_isLed_9 ?_
  refine lv_lconst (v := 0) hx hb dX3_isLed_10 (by decide) ?_
  refine W.lcmp hx hb dX3_isLed_11 ?_
  obtain ⟨j_20, ej_20, hf⟩ := z_nm hf
  have J_20 : ∀ (x_2 : Int32) (S_3 : zSt) (H : Heap) (locs : List Loc) (ls : Array Slot), j_20 x_2 S_3 = some (ro, So) → va_P D vwCl (zX cy ad S_3) H → va_S A s.heap H locs → lv_has ls 3 [] → W p l e ({ frames := 0, cells := 0, slots := 0, locals := 0 }) s m ([.ref (ad 22), .int a_1, .int a_2] : List Value).toArray below meth c H locs 0 0 Q (F0 m 20 ls [.int x_2]) := by
    intro x_2 S_3 H locs ls hf hP hS hl
    have hf := z_e2 ej_20 hf
    obtain ⟨h_4, hf⟩ := z_bo hf
    obtain ⟨h1, h2⟩ := z_s2 hf
    subst h1 h2
    exact hret _ _ _ _ h_4 hP hS dX3_isLed_20
  refine lv_if_eq (tgt := 19) hx hb dX3_isLed_12 (by decide) (fun c_5 => ?_) (fun c_5 => ?_)
  · have hf := z_it c_5 hf
    refine lv_iconst (v := 0) hx hb dX3_isLed_19 (by decide) ?_
    exact J_20 (0 : Int32) S_0 _ _ _ hf hP hS (lv_sub hl [] rfl)
  · have hf := z_if c_5 hf
    refine lv_iconst (v := 1) hx hb dX3_isLed_15 (by decide) ?_
    refine lv_goto (tgt := 20) hx hb dX3_isLed_16 (by decide) ?_
    exact J_20 (1 : Int32) S_0 _ _ _ hf hP hS (lv_sub hl [] rfl)
def fx_Leavens_shareOf_L2 (a_1 : Int32) (a_2 : Int32) : Nat → Int32 → zSt → Option (Int64 × zSt)
  | 0, _, _ => none
  | n_2 + 1, x_1, S_2 =>
    if a_1 < x_1 then (
    zck (zix a_1 60) <|
    some (S_2.2 28 (a_1.toNatClampNeg), S_2)) else (
    zbd (fx_Leavens_isNew S_2 x_1) fun r_4 S_5 =>
    znm (fun (S_7 : zSt) =>
    znm (x_1 + (1 : Int32)) fun x_8 =>
    fx_Leavens_shareOf_L2 a_1 a_2 n_2 x_8 S_7) fun j_69 =>
    if r_4 = 0 then (
    zck (zix x_1 60) <|
    zck (zix (S_5.1 25 (x_1.toNatClampNeg)) 60) <|
    zck (zix x_1 60) <|
    zck (zix (S_5.1 26 (x_1.toNatClampNeg)) 60) <|
    zck (zix x_1 60) <|
    znm (zpL S_5 28 (x_1.toNatClampNeg) (((S_5.2 28 ((S_5.1 25 (x_1.toNatClampNeg)).toNatClampNeg)) + (S_5.2 28 ((S_5.1 26 (x_1.toNatClampNeg)).toNatClampNeg))) / (2 : Int64))) fun S_14 =>
    j_69  S_14) else (
    znm (fun (x_15 : Int64) (S_16 : zSt) =>
    zck (zix x_1 60) <|
    znm (zpL S_16 28 (x_1.toNatClampNeg) x_15) fun S_18 =>
    j_69  S_18) fun j_32 =>
    if x_1 = a_2 then (
    j_32 (1073741824 : Int64) S_5) else (
    j_32 (0 : Int64) S_5)))
def fx_Leavens_shareOf (S_0 : zSt) (a_1 : Int32) (a_2 : Int32) : Option (Int64 × zSt) :=
  fx_Leavens_shareOf_L2 a_1 a_2 zFU (0 : Int32) S_0
set_option maxHeartbeats 4000000 in
set_option maxRecDepth 100000 in
theorem cx_Leavens_shareOf (l : Launch) (D : va_G) (K : (Nat → Nat) × (Nat → Nat)) (cy : Nat → ClassId) (ad : Nat → Nat) (S_0 : zSt) (a_1 : Int32) (a_2 : Int32) (ro : Int64) (So : zSt) (hf : fx_Leavens_shareOf S_0 a_1 a_2 = some (ro, So)) : zML l yX3_shareOf (zws yX3_shareOf cX3_shareOf 4 (Option.some .long)) ({ frames := 1, cells := 0, slots := 0, locals := 21 }) D (zTy cy) K (zX cy ad) [.ref (ad 22), .int a_1, .int a_2] S_0 ro So := by
  refine z_metL (own := RX3) (lv := [(0, .ref (ad 22)), (1, .int a_1), (2, .int a_2)]) (by decide) rfl rfl (Nat.le_of_ble_eq_true rfl) rfl ?_
  intro p e s m below meth c A Q X hK hE hD hA hret hP hS ls hl
  obtain ⟨hx, hb, hml, hown, hts⟩ := id X
  have k0 := (fun w h => List.mem_cons_of_mem _ (zFX3 w h) : ∀ w ∈ u_ws RX3 TX3 7, w ∈ zws yX3_shareOf cX3_shareOf 4 (Option.some .long))
  have k1 := hts _ (List.mem_cons_of_mem _ wt_1_204)
  have k2 := hts _ (List.mem_cons_of_mem _ wt_1_199)
  have k3 := hts _ (List.mem_cons_of_mem _ wt_1_201)
  have k4 := hts _ (List.mem_cons_of_mem _ wt_4_218)
  have k5 := hts _ (List.mem_cons_of_mem _ wt_4_217)
  refine lv_iconst (v := 0) hx hb dX3_shareOf_0 (by decide) ?_
  refine lv_istore_n (lv' := [(3, .int (0 : Int32)), (0, .ref (ad 22)), (1, .int a_1), (2, .int a_2)]) hx hb dX3_shareOf_1 rfl hl (by decide) rfl (fun ls hl => ?_)
  have L_2 : ∀ (n_2 : Nat) (x_1 : Int32) (S_2 : zSt) (H : Heap) (locs : List Loc) (ls : Array Slot), fx_Leavens_shareOf_L2 a_1 a_2 n_2 x_1 S_2 = some (ro, So) → va_P D vwCl (zX cy ad S_2) H → va_S A s.heap H locs → lv_has ls 4 [(0, .ref (ad 22)), (1, .int a_1), (2, .int a_2), (3, .int x_1)] → W p l e ({ frames := 1, cells := 0, slots := 0, locals := 21 }) s m ([.ref (ad 22), .int a_1, .int a_2] : List Value).toArray below meth c H locs 0 0 Q (F0 m 2 ls []) := by
    intro n_2
    induction n_2 with
    | zero =>
      intro x_1 S_2 H locs ls hf hP hS hl
      exact z_no hf
    | succ n_2 ih_2 =>
      intro x_1 S_2 H locs ls hf hP hS hl
      rw [fx_Leavens_shareOf_L2] at hf
      refine lv_iload_n hx hb dX3_shareOf_2 rfl (lv_at hl 3 rfl) ?_
      refine lv_iload_n hx hb dX3_shareOf_3 rfl (lv_at hl 1 rfl) ?_
      refine lv_icmp_gt (tgt := 75) hx hb dX3_shareOf_4 (by decide) (fun c_21 => ?_) (fun c_21 => ?_)
      · have hf := z_it c_21 hf
        refine lv_aload_n hx hb dX3_shareOf_75 rfl (lv_at hl 0 rfl) ?_
        refine va_get (D := D) (ci := 3) (v := .ref (ad 28)) (C := RX3) (T := TX3) (N := 7) hx hb hts k0 hown hK hP 22 (zX_22 cy ad S_2) rfl 6 (by decide) k1 (fun _ h9 => h9) rfl dX3_shareOf_76 ?_
        refine lv_iload_n hx hb dX3_shareOf_79 rfl (lv_at hl 1 rfl) ?_
        obtain ⟨h_3, hf⟩ := z_ix hf
        refine z_lald hx hb hK hP 28 1 (zX_28 cy ad S_2) rfl h_3 (k := (a_1.toNatClampNeg)) rfl dX3_shareOf_80 ?_
        obtain ⟨h1, h2⟩ := z_s2 hf
        subst h1 h2
        exact hret _ _ _ _ hP hS dX3_shareOf_81
      · have hf := z_if c_21 hf
        refine lv_aload_n hx hb dX3_shareOf_7 rfl (lv_at hl 0 rfl) ?_
        refine lv_iload_n hx hb dX3_shareOf_8 rfl (lv_at hl 3 rfl) ?_
        obtain ⟨r_4, S_5, h_6, hf⟩ := z_bd hf
        refine z_cVI (As := [.int x_1]) (rest := []) X hK hE hD hA hP hS (cx_Leavens_isNew l D K cy ad S_2 _ _ _ h_6) (cwV 1 hts (z_gV wt_4_216 wt_4_209 wt_4_210 wt_1_7 wt_4_211) rfl rfl rfl ⟨rfl, yd_yX3_isNew⟩ ⟨Nat.le_of_ble_eq_true rfl, Nat.le_of_ble_eq_true rfl⟩) (va_recv hK hP (ci := 3) (q0 := 22) rfl (zX_22 cy ad S_2)) hl.1 rfl rfl (Nat.le_of_ble_eq_true rfl) dX3_shareOf_9 (fun H locs hP hS => ?_)
        obtain ⟨j_69, ej_69, hf⟩ := z_nm hf
        have J_69 : ∀ (S_7 : zSt) (H : Heap) (locs : List Loc) (ls : Array Slot), j_69  S_7 = some (ro, So) → va_P D vwCl (zX cy ad S_7) H → va_S A s.heap H locs → lv_has ls 4 [(0, .ref (ad 22)), (1, .int a_1), (2, .int a_2), (3, .int x_1)] → W p l e ({ frames := 1, cells := 0, slots := 0, locals := 21 }) s m ([.ref (ad 22), .int a_1, .int a_2] : List Value).toArray below meth c H locs 0 0 Q (F0 m 69 ls []) := by
          intro  S_7 H locs ls hf hP hS hl
          have hf := z_e1 ej_69 hf
          obtain ⟨x_8, ex_8, hf⟩ := z_nm hf
          refine lv_iinc (v := x_8) (lv' := [(3, .int x_8), (0, .ref (ad 22)), (1, .int a_1), (2, .int a_2)]) hx hb dX3_shareOf_69 hl (k := 3) rfl (by rw [ex_8]; rfl) (by decide) rfl (fun ls hl => ?_)
          refine lv_goto (tgt := 2) hx hb dX3_shareOf_72 (by decide) ?_
          exact ih_2 x_8 S_7 _ _ _ hf hP hS (lv_sub hl [1, 2, 3, 0] rfl)
        refine lv_if_eq (tgt := 36) hx hb dX3_shareOf_12 (by decide) (fun c_20 => ?_) (fun c_20 => ?_)
        · have hf := z_it c_20 hf
          refine lv_aload_n hx hb dX3_shareOf_36 rfl (lv_at hl 0 rfl) ?_
          refine va_get (D := D) (ci := 3) (v := .ref (ad 28)) (C := RX3) (T := TX3) (N := 7) hx hb hts k0 hown hK hP 22 (zX_22 cy ad S_5) rfl 6 (by decide) k1 (fun _ h9 => h9) rfl dX3_shareOf_37 ?_
          refine lv_iload_n hx hb dX3_shareOf_40 rfl (lv_at hl 3 rfl) ?_
          refine lv_aload_n hx hb dX3_shareOf_41 rfl (lv_at hl 0 rfl) ?_
          refine va_get (D := D) (ci := 3) (v := .ref (ad 28)) (C := RX3) (T := TX3) (N := 7) hx hb hts k0 hown hK hP 22 (zX_22 cy ad S_5) rfl 6 (by decide) k1 (fun _ h9 => h9) rfl dX3_shareOf_42 ?_
          refine lv_aload_n hx hb dX3_shareOf_45 rfl (lv_at hl 0 rfl) ?_
          refine va_get (D := D) (ci := 3) (v := .ref (ad 25)) (C := RX3) (T := TX3) (N := 7) hx hb hts k0 hown hK hP 22 (zX_22 cy ad S_5) rfl 3 (by decide) k2 (fun _ h9 => h9) rfl dX3_shareOf_46 ?_
          refine lv_iload_n hx hb dX3_shareOf_49 rfl (lv_at hl 3 rfl) ?_
          obtain ⟨h_9, hf⟩ := z_ix hf
          refine z_iald hx hb hK hP 25 0 (zX_25 cy ad S_5) rfl h_9 (k := (x_1.toNatClampNeg)) rfl dX3_shareOf_50 ?_
          obtain ⟨h_10, hf⟩ := z_ix hf
          refine z_lald hx hb hK hP 28 1 (zX_28 cy ad S_5) rfl h_10 (k := ((S_5.1 25 (x_1.toNatClampNeg)).toNatClampNeg)) rfl dX3_shareOf_51 ?_
          refine lv_aload_n hx hb dX3_shareOf_52 rfl (lv_at hl 0 rfl) ?_
          refine va_get (D := D) (ci := 3) (v := .ref (ad 28)) (C := RX3) (T := TX3) (N := 7) hx hb hts k0 hown hK hP 22 (zX_22 cy ad S_5) rfl 6 (by decide) k1 (fun _ h9 => h9) rfl dX3_shareOf_53 ?_
          refine lv_aload_n hx hb dX3_shareOf_56 rfl (lv_at hl 0 rfl) ?_
          refine va_get (D := D) (ci := 3) (v := .ref (ad 26)) (C := RX3) (T := TX3) (N := 7) hx hb hts k0 hown hK hP 22 (zX_22 cy ad S_5) rfl 4 (by decide) k3 (fun _ h9 => h9) rfl dX3_shareOf_57 ?_
          refine lv_iload_n hx hb dX3_shareOf_60 rfl (lv_at hl 3 rfl) ?_
          obtain ⟨h_11, hf⟩ := z_ix hf
          refine z_iald hx hb hK hP 26 0 (zX_26 cy ad S_5) rfl h_11 (k := (x_1.toNatClampNeg)) rfl dX3_shareOf_61 ?_
          obtain ⟨h_12, hf⟩ := z_ix hf
          refine z_lald hx hb hK hP 28 1 (zX_28 cy ad S_5) rfl h_12 (k := ((S_5.1 26 (x_1.toNatClampNeg)).toNatClampNeg)) rfl dX3_shareOf_62 ?_
          refine lv_ladd hx hb dX3_shareOf_63 ?_
          refine lv_ldc2 hx hb hown k4 dX3_shareOf_64 ?_
          refine lv_ldiv hx hb dX3_shareOf_67 (by decide) ?_
          obtain ⟨h_13, hf⟩ := z_ix hf
          refine z_last hx hb hK hP (hD S_5) hS 28 1 (zX_28 cy ad S_5) rfl h_13 (k := (x_1.toNatClampNeg)) rfl dX3_shareOf_68 (fun H locs hP hS => ?_)
          obtain ⟨S_14, eS_14, hf⟩ := z_nm hf
          have hP := zW_putL hP eS_14 (by decide) rfl
          exact J_69  S_14 _ _ _ hf hP hS (lv_sub hl [0, 1, 2, 3] rfl)
        · have hf := z_if c_20 hf
          refine lv_aload_n hx hb dX3_shareOf_15 rfl (lv_at hl 0 rfl) ?_
          refine va_get (D := D) (ci := 3) (v := .ref (ad 28)) (C := RX3) (T := TX3) (N := 7) hx hb hts k0 hown hK hP 22 (zX_22 cy ad S_5) rfl 6 (by decide) k1 (fun _ h9 => h9) rfl dX3_shareOf_16 ?_
          refine lv_iload_n hx hb dX3_shareOf_19 rfl (lv_at hl 3 rfl) ?_
          refine lv_iload_n hx hb dX3_shareOf_20 rfl (lv_at hl 3 rfl) ?_
          refine lv_iload_n hx hb dX3_shareOf_21 rfl (lv_at hl 2 rfl) ?_
          obtain ⟨j_32, ej_32, hf⟩ := z_nm hf
          have J_32 : ∀ (x_15 : Int64) (S_16 : zSt) (H : Heap) (locs : List Loc) (ls : Array Slot), j_32 x_15 S_16 = some (ro, So) → va_P D vwCl (zX cy ad S_16) H → va_S A s.heap H locs → lv_has ls 4 [(0, .ref (ad 22)), (1, .int a_1), (2, .int a_2), (3, .int x_1)] → W p l e ({ frames := 1, cells := 0, slots := 0, locals := 21 }) s m ([.ref (ad 22), .int a_1, .int a_2] : List Value).toArray below meth c H locs 0 0 Q (F0 m 32 ls [.long x_15, .int x_1, .ref (ad 28)]) := by
            intro x_15 S_16 H locs ls hf hP hS hl
            have hf := z_e2 ej_32 hf
            obtain ⟨h_17, hf⟩ := z_ix hf
            refine z_last hx hb hK hP (hD S_16) hS 28 1 (zX_28 cy ad S_16) rfl h_17 (k := (x_1.toNatClampNeg)) rfl dX3_shareOf_32 (fun H locs hP hS => ?_)
            obtain ⟨S_18, eS_18, hf⟩ := z_nm hf
            have hP := zW_putL hP eS_18 (by decide) rfl
            refine lv_goto (tgt := 69) hx hb dX3_shareOf_33 (by decide) ?_
            exact J_69  S_18 _ _ _ hf hP hS (lv_sub hl [0, 1, 2, 3] rfl)
          refine lv_icmp_ne (tgt := 31) hx hb dX3_shareOf_22 (by decide) (fun c_19 => ?_) (fun c_19 => ?_)
          · have hf := z_if c_19 hf
            refine lv_lconst (v := 0) hx hb dX3_shareOf_31 (by decide) ?_
            exact J_32 (0 : Int64) S_5 _ _ _ hf hP hS (lv_sub hl [0, 1, 2, 3] rfl)
          · have hf := z_it c_19 hf
            refine lv_ldc2 hx hb hown k5 dX3_shareOf_25 ?_
            refine lv_goto (tgt := 32) hx hb dX3_shareOf_28 (by decide) ?_
            exact J_32 (1073741824 : Int64) S_5 _ _ _ hf hP hS (lv_sub hl [0, 1, 2, 3] rfl)
  exact L_2 zFU (0 : Int32) S_0 _ _ _ hf hP hS (lv_sub hl [1, 2, 3, 0] rfl)
def fj6_bitCount (S_0 : zSt) (a_1 : Int32) : Option (Int32 × zSt) :=
  znm (a_1 - (((a_1.toUInt32 >>> ((1 : Int32).toUInt32 &&& Int32.toUInt32 31)).toInt32) &&& (1431655765 : Int32))) fun x_1 =>
  znm ((x_1 &&& (858993459 : Int32)) + (((x_1.toUInt32 >>> ((2 : Int32).toUInt32 &&& Int32.toUInt32 31)).toInt32) &&& (858993459 : Int32))) fun x_2 =>
  znm ((x_2 + ((x_2.toUInt32 >>> ((4 : Int32).toUInt32 &&& Int32.toUInt32 31)).toInt32)) &&& (252645135 : Int32)) fun x_3 =>
  znm (x_3 + ((x_3.toUInt32 >>> ((8 : Int32).toUInt32 &&& Int32.toUInt32 31)).toInt32)) fun x_4 =>
  znm (x_4 + ((x_4.toUInt32 >>> ((16 : Int32).toUInt32 &&& Int32.toUInt32 31)).toInt32)) fun x_5 =>
  some (x_5 &&& (63 : Int32), S_0)
set_option maxHeartbeats 4000000 in
set_option maxRecDepth 100000 in
theorem cj6_bitCount (l : Launch) (D : va_G) (K : (Nat → Nat) × (Nat → Nat)) (tys : List (ClassId × FieldType)) (N : Nat) (ad : Nat → Nat) (C : Nat → (Nat → Int32) → (Nat → Int64) → va_E) (S_0 : zSt) (a_1 : Int32) (ro : Int32) (So : zSt) (hf : fj6_bitCount S_0 a_1 = some (ro, So)) : zMI l yJ6_bitCount_0f7a4 (zws yJ6_bitCount_0f7a4 cJ6_bitCount_0f7a4 1 (Option.some .int)) ({ frames := 0, cells := 0, slots := 0, locals := 0 }) D tys K (zW N ad C) [.int a_1] S_0 ro So := by
  refine z_metI (own := RJ6) (lv := [(0, .int a_1)]) (by decide) rfl rfl (Nat.le_of_ble_eq_true rfl) rfl ?_
  intro p e s m below meth c A Q X hK hE hD hA hret hP hS ls hl
  obtain ⟨hx, hb, hml, hown, hts⟩ := id X
  have k0 := hts _ (List.mem_cons_of_mem _ wt_4_238)
  have k1 := hts _ (List.mem_cons_of_mem _ wt_4_239)
  have k2 := hts _ (List.mem_cons_of_mem _ wt_5_0)
  refine lv_iload_n hx hb dJ6_bitCount_0f7a4_0 rfl (lv_at hl 0 rfl) ?_
  refine lv_iload_n hx hb dJ6_bitCount_0f7a4_1 rfl (lv_at hl 0 rfl) ?_
  refine lv_iconst (v := 1) hx hb dJ6_bitCount_0f7a4_2 (by decide) ?_
  refine lv_iushr hx hb dJ6_bitCount_0f7a4_3 rfl ?_
  refine lv_ldcw hx hb hown k0 dJ6_bitCount_0f7a4_4 ?_
  refine lv_iand hx hb dJ6_bitCount_0f7a4_7 ?_
  refine lv_isub hx hb dJ6_bitCount_0f7a4_8 ?_
  refine lv_topi (fun x_1 ex_1 => ?_)
  have hf := z_nv ex_1 hf
  refine lv_istore_n (lv' := [(0, .int x_1)]) hx hb dJ6_bitCount_0f7a4_9 rfl hl (by decide) rfl (fun ls hl => ?_)
  refine lv_iload_n hx hb dJ6_bitCount_0f7a4_10 rfl (lv_at hl 0 rfl) ?_
  refine lv_ldcw hx hb hown k1 dJ6_bitCount_0f7a4_11 ?_
  refine lv_iand hx hb dJ6_bitCount_0f7a4_14 ?_
  refine lv_iload_n hx hb dJ6_bitCount_0f7a4_15 rfl (lv_at hl 0 rfl) ?_
  refine lv_iconst (v := 2) hx hb dJ6_bitCount_0f7a4_16 (by decide) ?_
  refine lv_iushr hx hb dJ6_bitCount_0f7a4_17 rfl ?_
  refine lv_ldcw hx hb hown k1 dJ6_bitCount_0f7a4_18 ?_
  refine lv_iand hx hb dJ6_bitCount_0f7a4_21 ?_
  refine lv_iadd hx hb dJ6_bitCount_0f7a4_22 ?_
  refine lv_topi (fun x_2 ex_2 => ?_)
  have hf := z_nv ex_2 hf
  refine lv_istore_n (lv' := [(0, .int x_2)]) hx hb dJ6_bitCount_0f7a4_23 rfl hl (by decide) rfl (fun ls hl => ?_)
  refine lv_iload_n hx hb dJ6_bitCount_0f7a4_24 rfl (lv_at hl 0 rfl) ?_
  refine lv_iload_n hx hb dJ6_bitCount_0f7a4_25 rfl (lv_at hl 0 rfl) ?_
  refine lv_iconst (v := 4) hx hb dJ6_bitCount_0f7a4_26 (by decide) ?_
  refine lv_iushr hx hb dJ6_bitCount_0f7a4_27 rfl ?_
  refine lv_iadd hx hb dJ6_bitCount_0f7a4_28 ?_
  refine lv_ldcw hx hb hown k2 dJ6_bitCount_0f7a4_29 ?_
  refine lv_iand hx hb dJ6_bitCount_0f7a4_32 ?_
  refine lv_topi (fun x_3 ex_3 => ?_)
  have hf := z_nv ex_3 hf
  refine lv_istore_n (lv' := [(0, .int x_3)]) hx hb dJ6_bitCount_0f7a4_33 rfl hl (by decide) rfl (fun ls hl => ?_)
  refine lv_iload_n hx hb dJ6_bitCount_0f7a4_34 rfl (lv_at hl 0 rfl) ?_
  refine lv_iload_n hx hb dJ6_bitCount_0f7a4_35 rfl (lv_at hl 0 rfl) ?_
  refine lv_bipush (v := 8) hx hb dJ6_bitCount_0f7a4_36 (by decide) ?_
  refine lv_iushr hx hb dJ6_bitCount_0f7a4_38 rfl ?_
  refine lv_iadd hx hb dJ6_bitCount_0f7a4_39 ?_
  refine lv_topi (fun x_4 ex_4 => ?_)
  have hf := z_nv ex_4 hf
  refine lv_istore_n (lv' := [(0, .int x_4)]) hx hb dJ6_bitCount_0f7a4_40 rfl hl (by decide) rfl (fun ls hl => ?_)
  refine lv_iload_n hx hb dJ6_bitCount_0f7a4_41 rfl (lv_at hl 0 rfl) ?_
  refine lv_iload_n hx hb dJ6_bitCount_0f7a4_42 rfl (lv_at hl 0 rfl) ?_
  refine lv_bipush (v := 16) hx hb dJ6_bitCount_0f7a4_43 (by decide) ?_
  refine lv_iushr hx hb dJ6_bitCount_0f7a4_45 rfl ?_
  refine lv_iadd hx hb dJ6_bitCount_0f7a4_46 ?_
  refine lv_topi (fun x_5 ex_5 => ?_)
  have hf := z_nv ex_5 hf
  refine lv_istore_n (lv' := [(0, .int x_5)]) hx hb dJ6_bitCount_0f7a4_47 rfl hl (by decide) rfl (fun ls hl => ?_)
  refine lv_iload_n hx hb dJ6_bitCount_0f7a4_48 rfl (lv_at hl 0 rfl) ?_
  refine lv_bipush (v := 63) hx hb dJ6_bitCount_0f7a4_49 (by decide) ?_
  refine lv_iand hx hb dJ6_bitCount_0f7a4_51 ?_
  obtain ⟨h1, h2⟩ := z_s2 hf
  subst h1 h2
  exact hret _ _ _ _ hP hS dJ6_bitCount_0f7a4_52
def fx_Leavens_ownersWithin_L4 (a_1 : Int32) : Nat → Int32 → Int32 → zSt → Option (Int32 × zSt)
  | 0, _, _, _ => none
  | n_4 + 1, x_1, x_2, S_3 =>
    if a_1 < x_2 then (
    zbd (fj6_bitCount S_3 x_1) fun r_4 S_5 =>
    some (r_4, S_5)) else (
    zbd (fx_Leavens_isNew S_3 x_2) fun r_7 S_8 =>
    znm (fun (x_10 : Int32) (S_11 : zSt) =>
    znm (x_2 + (1 : Int32)) fun x_12 =>
    fx_Leavens_ownersWithin_L4 a_1 n_4 x_10 x_12 S_11) fun j_37 =>
    if r_7 = 0 then (
    j_37 x_1 S_8) else (
    zbd (fx_Leavens_isLed S_8 a_1 x_2) fun r_13 S_14 =>
    if r_13 = 0 then (
    j_37 x_1 S_14) else (
    zck (zix x_2 60) <|
    znm (x_1 ||| ((1 : Int32) <<< ((S_14.1 24 (x_2.toNatClampNeg)) &&& 31))) fun x_17 =>
    j_37 x_17 S_14)))
def fx_Leavens_ownersWithin (S_0 : zSt) (a_1 : Int32) : Option (Int32 × zSt) :=
  fx_Leavens_ownersWithin_L4 a_1 zFU (0 : Int32) (0 : Int32) S_0
set_option maxHeartbeats 4000000 in
set_option maxRecDepth 100000 in
theorem cx_Leavens_ownersWithin (l : Launch) (D : va_G) (K : (Nat → Nat) × (Nat → Nat)) (cy : Nat → ClassId) (ad : Nat → Nat) (S_0 : zSt) (a_1 : Int32) (ro : Int32) (So : zSt) (hf : fx_Leavens_ownersWithin S_0 a_1 = some (ro, So)) : zMI l yX3_ownersWithin (zws yX3_ownersWithin cX3_ownersWithin 4 (Option.some .int)) ({ frames := 1, cells := 0, slots := 0, locals := 22 }) D (zTy cy) K (zX cy ad) [.ref (ad 22), .int a_1] S_0 ro So := by
  refine z_metI (own := RX3) (lv := [(0, .ref (ad 22)), (1, .int a_1)]) (by decide) rfl rfl (Nat.le_of_ble_eq_true rfl) rfl ?_
  intro p e s m below meth c A Q X hK hE hD hA hret hP hS ls hl
  obtain ⟨hx, hb, hml, hown, hts⟩ := id X
  have k0 := (fun w h => List.mem_cons_of_mem _ (zFX3 w h) : ∀ w ∈ u_ws RX3 TX3 7, w ∈ zws yX3_ownersWithin cX3_ownersWithin 4 (Option.some .int))
  have k1 := hts _ (List.mem_cons_of_mem _ wt_1_197)
  refine lv_iconst (v := 0) hx hb dX3_ownersWithin_0 (by decide) ?_
  refine lv_istore_n (lv' := [(2, .int (0 : Int32)), (0, .ref (ad 22)), (1, .int a_1)]) hx hb dX3_ownersWithin_1 rfl hl (by decide) rfl (fun ls hl => ?_)
  refine lv_iconst (v := 0) hx hb dX3_ownersWithin_2 (by decide) ?_
  refine lv_istore_n (lv' := [(3, .int (0 : Int32)), (2, .int (0 : Int32)), (0, .ref (ad 22)), (1, .int a_1)]) hx hb dX3_ownersWithin_3 rfl hl (by decide) rfl (fun ls hl => ?_)
  have L_4 : ∀ (n_4 : Nat) (x_1 : Int32) (x_2 : Int32) (S_3 : zSt) (H : Heap) (locs : List Loc) (ls : Array Slot), fx_Leavens_ownersWithin_L4 a_1 n_4 x_1 x_2 S_3 = some (ro, So) → va_P D vwCl (zX cy ad S_3) H → va_S A s.heap H locs → lv_has ls 4 [(0, .ref (ad 22)), (1, .int a_1), (2, .int x_1), (3, .int x_2)] → W p l e ({ frames := 1, cells := 0, slots := 0, locals := 22 }) s m ([.ref (ad 22), .int a_1] : List Value).toArray below meth c H locs 0 0 Q (F0 m 4 ls []) := by
    intro n_4
    induction n_4 with
    | zero =>
      intro x_1 x_2 S_3 H locs ls hf hP hS hl
      exact z_no hf
    | succ n_4 ih_4 =>
      intro x_1 x_2 S_3 H locs ls hf hP hS hl
      rw [fx_Leavens_ownersWithin_L4] at hf
      refine lv_iload_n hx hb dX3_ownersWithin_4 rfl (lv_at hl 3 rfl) ?_
      refine lv_iload_n hx hb dX3_ownersWithin_5 rfl (lv_at hl 1 rfl) ?_
      refine lv_icmp_gt (tgt := 43) hx hb dX3_ownersWithin_6 (by decide) (fun c_20 => ?_) (fun c_20 => ?_)
      · have hf := z_it c_20 hf
        refine lv_iload_n hx hb dX3_ownersWithin_43 rfl (lv_at hl 2 rfl) ?_
        obtain ⟨r_4, S_5, h_6, hf⟩ := z_bd hf
        refine z_cSI (As := [.int x_1]) (rest := []) X hK hE hD hA hP hS (cj6_bitCount l D K _ _ _ _ S_3 _ _ _ h_6) (va_cwS 1 hts (z_gS wt_4_235 wt_4_236 wt_1_21 wt_4_237) rfl rfl rfl yd_yJ6_bitCount_0f7a4 ⟨Nat.le_of_ble_eq_true rfl, Nat.le_of_ble_eq_true rfl⟩) hl.1 rfl rfl (Nat.le_of_ble_eq_true rfl) dX3_ownersWithin_44 (fun H locs hP hS => ?_)
        obtain ⟨h1, h2⟩ := z_s2 hf
        subst h1 h2
        exact hret _ _ _ _ hP hS dX3_ownersWithin_47
      · have hf := z_if c_20 hf
        refine lv_aload_n hx hb dX3_ownersWithin_9 rfl (lv_at hl 0 rfl) ?_
        refine lv_iload_n hx hb dX3_ownersWithin_10 rfl (lv_at hl 3 rfl) ?_
        obtain ⟨r_7, S_8, h_9, hf⟩ := z_bd hf
        refine z_cVI (As := [.int x_2]) (rest := []) X hK hE hD hA hP hS (cx_Leavens_isNew l D K cy ad S_3 _ _ _ h_9) (cwV 1 hts (z_gV wt_4_216 wt_4_209 wt_4_210 wt_1_7 wt_4_211) rfl rfl rfl ⟨rfl, yd_yX3_isNew⟩ ⟨Nat.le_of_ble_eq_true rfl, Nat.le_of_ble_eq_true rfl⟩) (va_recv hK hP (ci := 3) (q0 := 22) rfl (zX_22 cy ad S_3)) hl.1 rfl rfl (Nat.le_of_ble_eq_true rfl) dX3_ownersWithin_11 (fun H locs hP hS => ?_)
        obtain ⟨j_37, ej_37, hf⟩ := z_nm hf
        have J_37 : ∀ (x_10 : Int32) (S_11 : zSt) (H : Heap) (locs : List Loc) (ls : Array Slot), j_37 x_10 S_11 = some (ro, So) → va_P D vwCl (zX cy ad S_11) H → va_S A s.heap H locs → lv_has ls 4 [(0, .ref (ad 22)), (1, .int a_1), (2, .int x_10), (3, .int x_2)] → W p l e ({ frames := 1, cells := 0, slots := 0, locals := 22 }) s m ([.ref (ad 22), .int a_1] : List Value).toArray below meth c H locs 0 0 Q (F0 m 37 ls []) := by
          intro x_10 S_11 H locs ls hf hP hS hl
          have hf := z_e2 ej_37 hf
          obtain ⟨x_12, ex_12, hf⟩ := z_nm hf
          refine lv_iinc (v := x_12) (lv' := [(3, .int x_12), (0, .ref (ad 22)), (1, .int a_1), (2, .int x_10)]) hx hb dX3_ownersWithin_37 hl (k := 3) rfl (by rw [ex_12]; rfl) (by decide) rfl (fun ls hl => ?_)
          refine lv_goto (tgt := 4) hx hb dX3_ownersWithin_40 (by decide) ?_
          exact ih_4 x_10 x_12 S_11 _ _ _ hf hP hS (lv_sub hl [1, 2, 3, 0] rfl)
        refine lv_if_eq (tgt := 37) hx hb dX3_ownersWithin_14 (by decide) (fun c_19 => ?_) (fun c_19 => ?_)
        · have hf := z_it c_19 hf
          exact J_37 x_1 S_8 _ _ _ hf hP hS (lv_sub hl [0, 1, 2, 3] rfl)
        · have hf := z_if c_19 hf
          refine lv_aload_n hx hb dX3_ownersWithin_17 rfl (lv_at hl 0 rfl) ?_
          refine lv_iload_n hx hb dX3_ownersWithin_18 rfl (lv_at hl 1 rfl) ?_
          refine lv_iload_n hx hb dX3_ownersWithin_19 rfl (lv_at hl 3 rfl) ?_
          obtain ⟨r_13, S_14, h_15, hf⟩ := z_bd hf
          refine z_cVI (As := [.int a_1, .int x_2]) (rest := []) X hK hE hD hA hP hS (cx_Leavens_isLed l D K cy ad S_8 _ _ _ _ h_15) (cwV 2 hts (z_gV wt_4_231 wt_4_232 wt_4_233 wt_1_7 wt_4_234) rfl rfl rfl ⟨rfl, yd_yX3_isLed⟩ ⟨Nat.le_of_ble_eq_true rfl, Nat.le_of_ble_eq_true rfl⟩) (va_recv hK hP (ci := 3) (q0 := 22) rfl (zX_22 cy ad S_8)) hl.1 rfl rfl (Nat.le_of_ble_eq_true rfl) dX3_ownersWithin_20 (fun H locs hP hS => ?_)
          refine lv_if_eq (tgt := 37) hx hb dX3_ownersWithin_23 (by decide) (fun c_18 => ?_) (fun c_18 => ?_)
          · have hf := z_it c_18 hf
            exact J_37 x_1 S_14 _ _ _ hf hP hS (lv_sub hl [0, 1, 2, 3] rfl)
          · have hf := z_if c_18 hf
            refine lv_iload_n hx hb dX3_ownersWithin_26 rfl (lv_at hl 2 rfl) ?_
            refine lv_iconst (v := 1) hx hb dX3_ownersWithin_27 (by decide) ?_
            refine lv_aload_n hx hb dX3_ownersWithin_28 rfl (lv_at hl 0 rfl) ?_
            refine va_get (D := D) (ci := 3) (v := .ref (ad 24)) (C := RX3) (T := TX3) (N := 7) hx hb hts k0 hown hK hP 22 (zX_22 cy ad S_14) rfl 2 (by decide) k1 (fun _ h9 => h9) rfl dX3_ownersWithin_29 ?_
            refine lv_iload_n hx hb dX3_ownersWithin_32 rfl (lv_at hl 3 rfl) ?_
            obtain ⟨h_16, hf⟩ := z_ix hf
            refine z_iald hx hb hK hP 24 0 (zX_24 cy ad S_14) rfl h_16 (k := (x_2.toNatClampNeg)) rfl dX3_ownersWithin_33 ?_
            refine lv_ishl hx hb dX3_ownersWithin_34 ?_
            refine lv_ior hx hb dX3_ownersWithin_35 ?_
            refine lv_topi (fun x_17 ex_17 => ?_)
            have hf := z_nv ex_17 hf
            refine lv_istore_n (lv' := [(2, .int x_17), (0, .ref (ad 22)), (1, .int a_1), (3, .int x_2)]) hx hb dX3_ownersWithin_36 rfl hl (by decide) rfl (fun ls hl => ?_)
            exact J_37 x_17 S_14 _ _ _ hf hP hS (lv_sub hl [1, 2, 0, 3] rfl)
  exact L_4 zFU (0 : Int32) (0 : Int32) S_0 _ _ _ hf hP hS (lv_sub hl [2, 3, 1, 0] rfl)
def fx_Times_isMonday (S_0 : zSt) : Option (Int32 × zSt) :=
  znm (fun (x_1 : Int32) (S_2 : zSt) =>
  zck (zbo x_1) <|
  some (x_1, S_2)) fun j_15 =>
  if ((S_0.1 11 1) - (S_0.1 11 1) / (7 : Int32) * (7 : Int32)) = 0 then (
  j_15 (1 : Int32) S_0) else (
  j_15 (0 : Int32) S_0)
set_option maxHeartbeats 4000000 in
set_option maxRecDepth 100000 in
theorem cx_Times_isMonday (l : Launch) (D : va_G) (K : (Nat → Nat) × (Nat → Nat)) (cy : Nat → ClassId) (ad : Nat → Nat) (S_0 : zSt) (ro : Int32) (So : zSt) (hf : fx_Times_isMonday S_0 = some (ro, So)) : zMI l yX10_isMonday (zws yX10_isMonday cX10_isMonday 1 (Option.some .boolean)) ({ frames := 0, cells := 0, slots := 0, locals := 0 }) D (zTy cy) K (zX cy ad) [.ref (ad 11)] S_0 ro So := by
  refine z_metZ (own := RX10) (lv := [(0, .ref (ad 11))]) (by decide) rfl rfl (Nat.le_of_ble_eq_true rfl) rfl ?_
  intro p e s m below meth c A Q X hK hE hD hA hret hP hS ls hl
  obtain ⟨hx, hb, hml, hown, hts⟩ := id X
  have k0 := (fun w h => List.mem_cons_of_mem _ (zFX10 w h) : ∀ w ∈ u_ws RX10 TX10 12, w ∈ zws yX10_isMonday cX10_isMonday 1 (Option.some .boolean))
  have k1 := hts _ (List.mem_cons_of_mem _ wt_1_109)
  refine lv_aload_n hx hb dX10_isMonday_0 rfl (lv_at hl 0 rfl) ?_
  refine va_get (D := D) (ci := 10) (v := .int (S_0.1 11 1)) (C := RX10) (T := TX10) (N := 12) hx hb hts k0 hown hK hP 11 (zX_11 cy ad S_0) rfl 1 (by decide) k1 (fun _ h9 => h9) rfl dX10_isMonday_1 ?_
  refine lv_bipush (v := 7) hx hb dX10_isMonday_4 (by decide) ?_
  refine lv_irem hx hb dX10_isMonday_6 (by decide) ?_
  obtain ⟨j_15, ej_15, hf⟩ := z_nm hf
  have J_15 : ∀ (x_1 : Int32) (S_2 : zSt) (H : Heap) (locs : List Loc) (ls : Array Slot), j_15 x_1 S_2 = some (ro, So) → va_P D vwCl (zX cy ad S_2) H → va_S A s.heap H locs → lv_has ls 1 [] → W p l e ({ frames := 0, cells := 0, slots := 0, locals := 0 }) s m ([.ref (ad 11)] : List Value).toArray below meth c H locs 0 0 Q (F0 m 15 ls [.int x_1]) := by
    intro x_1 S_2 H locs ls hf hP hS hl
    have hf := z_e2 ej_15 hf
    obtain ⟨h_3, hf⟩ := z_bo hf
    obtain ⟨h1, h2⟩ := z_s2 hf
    subst h1 h2
    exact hret _ _ _ _ h_3 hP hS dX10_isMonday_15
  refine lv_if_ne (tgt := 14) hx hb dX10_isMonday_7 (by decide) (fun c_4 => ?_) (fun c_4 => ?_)
  · have hf := z_if c_4 hf
    refine lv_iconst (v := 0) hx hb dX10_isMonday_14 (by decide) ?_
    exact J_15 (0 : Int32) S_0 _ _ _ hf hP hS (lv_sub hl [] rfl)
  · have hf := z_it c_4 hf
    refine lv_iconst (v := 1) hx hb dX10_isMonday_10 (by decide) ?_
    refine lv_goto (tgt := 15) hx hb dX10_isMonday_11 (by decide) ?_
    exact J_15 (1 : Int32) S_0 _ _ _ hf hP hS (lv_sub hl [] rfl)
def fx_Lineup_fewestMondays_L4 : Nat → Int32 → Int32 → zSt → Option (Int32 × zSt)
  | 0, _, _, _ => none
  | n_4 + 1, x_1, x_2, S_3 =>
    if (S_3.1 4 0) ≤ x_2 then (
    some (x_1, S_3)) else (
    zck (zix x_2 9) <|
    zck (zix x_1 9) <|
    znm (fun (x_6 : Int32) (S_7 : zSt) =>
    znm (x_2 + (1 : Int32)) fun x_8 =>
    fx_Lineup_fewestMondays_L4 n_4 x_6 x_8 S_7) fun j_47 =>
    if (S_3.1 16 (x_1.toNatClampNeg)) ≤ (S_3.1 16 (x_2.toNatClampNeg)) then (
    j_47 x_1 S_3) else (
    j_47 x_2 S_3))
def fx_Lineup_fewestMondays (S_0 : zSt) : Option (Int32 × zSt) :=
  fx_Lineup_fewestMondays_L4 zFU (0 : Int32) (1 : Int32) S_0
set_option maxHeartbeats 4000000 in
set_option maxRecDepth 100000 in
theorem cx_Lineup_fewestMondays (l : Launch) (D : va_G) (K : (Nat → Nat) × (Nat → Nat)) (cy : Nat → ClassId) (ad : Nat → Nat) (S_0 : zSt) (ro : Int32) (So : zSt) (hf : fx_Lineup_fewestMondays S_0 = some (ro, So)) : zMI l yX4_fewestMondays (zws yX4_fewestMondays cX4_fewestMondays 3 (Option.some .int)) ({ frames := 0, cells := 0, slots := 0, locals := 0 }) D (zTy cy) K (zX cy ad) [.ref (ad 128)] S_0 ro So := by
  refine z_metI (own := RX4) (lv := [(0, .ref (ad 128))]) (by decide) rfl rfl (Nat.le_of_ble_eq_true rfl) rfl ?_
  intro p e s m below meth c A Q X hK hE hD hA hret hP hS ls hl
  obtain ⟨hx, hb, hml, hown, hts⟩ := id X
  have k0 := (fun w h => List.mem_cons_of_mem _ (zFX4 w h) : ∀ w ∈ u_ws RX4 TX4 14, w ∈ zws yX4_fewestMondays cX4_fewestMondays 3 (Option.some .int))
  have k1 := hts _ (List.mem_cons_of_mem _ wt_2_108)
  have k2 := (fun w h => List.mem_cons_of_mem _ (zFX0 w h) : ∀ w ∈ u_ws RX0 TX0 6, w ∈ zws yX4_fewestMondays cX4_fewestMondays 3 (Option.some .int))
  have k3 := hts _ (List.mem_cons_of_mem _ wt_1_234)
  have k4 := (fun w h => List.mem_cons_of_mem _ (zFX2 w h) : ∀ w ∈ u_ws RX2 TX2 7, w ∈ zws yX4_fewestMondays cX4_fewestMondays 3 (Option.some .int))
  have k5 := hts _ (List.mem_cons_of_mem _ wt_1_66)
  have k6 := hts _ (List.mem_cons_of_mem _ wt_1_238)
  have k7 := (fun w h => List.mem_cons_of_mem _ (zFX10 w h) : ∀ w ∈ u_ws RX10 TX10 12, w ∈ zws yX4_fewestMondays cX4_fewestMondays 3 (Option.some .int))
  have k8 := hts _ (List.mem_cons_of_mem _ wt_1_128)
  refine lv_iconst (v := 0) hx hb dX4_fewestMondays_0 (by decide) ?_
  refine lv_istore_n (lv' := [(1, .int (0 : Int32)), (0, .ref (ad 128))]) hx hb dX4_fewestMondays_1 rfl hl (by decide) rfl (fun ls hl => ?_)
  refine lv_iconst (v := 1) hx hb dX4_fewestMondays_2 (by decide) ?_
  refine lv_istore_n (lv' := [(2, .int (1 : Int32)), (1, .int (0 : Int32)), (0, .ref (ad 128))]) hx hb dX4_fewestMondays_3 rfl hl (by decide) rfl (fun ls hl => ?_)
  have L_4 : ∀ (n_4 : Nat) (x_1 : Int32) (x_2 : Int32) (S_3 : zSt) (H : Heap) (locs : List Loc) (ls : Array Slot), fx_Lineup_fewestMondays_L4 n_4 x_1 x_2 S_3 = some (ro, So) → va_P D vwCl (zX cy ad S_3) H → va_S A s.heap H locs → lv_has ls 3 [(0, .ref (ad 128)), (1, .int x_1), (2, .int x_2)] → W p l e ({ frames := 0, cells := 0, slots := 0, locals := 0 }) s m ([.ref (ad 128)] : List Value).toArray below meth c H locs 0 0 Q (F0 m 4 ls []) := by
    intro n_4
    induction n_4 with
    | zero =>
      intro x_1 x_2 S_3 H locs ls hf hP hS hl
      exact z_no hf
    | succ n_4 ih_4 =>
      intro x_1 x_2 S_3 H locs ls hf hP hS hl
      rw [fx_Lineup_fewestMondays_L4] at hf
      refine lv_iload_n hx hb dX4_fewestMondays_4 rfl (lv_at hl 2 rfl) ?_
      refine lv_aload_n hx hb dX4_fewestMondays_5 rfl (lv_at hl 0 rfl) ?_
      refine va_get (D := D) (ci := 4) (v := .ref (ad 3)) (C := RX4) (T := TX4) (N := 14) hx hb hts k0 hown hK hP 128 (zX_128 cy ad S_3) rfl 0 (by decide) k1 (fun _ h9 => h9) rfl dX4_fewestMondays_6 ?_
      refine va_get (D := D) (ci := 0) (v := .ref (ad 4)) (C := RX0) (T := TX0) (N := 6) hx hb hts k2 hown hK hP 3 (zX_3 cy ad S_3) rfl 0 (by decide) k3 (fun _ h9 => h9) rfl dX4_fewestMondays_9 ?_
      refine va_get (D := D) (ci := 2) (v := .int (S_3.1 4 0)) (C := RX2) (T := TX2) (N := 7) hx hb hts k4 hown hK hP 4 (zX_4 cy ad S_3) rfl 0 (by decide) k5 (fun _ h9 => h9) rfl dX4_fewestMondays_12 ?_
      refine lv_icmp_ge (tgt := 53) hx hb dX4_fewestMondays_15 (by decide) (fun c_10 => ?_) (fun c_10 => ?_)
      · have hf := z_it c_10 hf
        refine lv_iload_n hx hb dX4_fewestMondays_53 rfl (lv_at hl 1 rfl) ?_
        obtain ⟨h1, h2⟩ := z_s2 hf
        subst h1 h2
        exact hret _ _ _ _ hP hS dX4_fewestMondays_54
      · have hf := z_if c_10 hf
        refine lv_aload_n hx hb dX4_fewestMondays_18 rfl (lv_at hl 0 rfl) ?_
        refine va_get (D := D) (ci := 4) (v := .ref (ad 3)) (C := RX4) (T := TX4) (N := 14) hx hb hts k0 hown hK hP 128 (zX_128 cy ad S_3) rfl 0 (by decide) k1 (fun _ h9 => h9) rfl dX4_fewestMondays_19 ?_
        refine va_get (D := D) (ci := 0) (v := .ref (ad 11)) (C := RX0) (T := TX0) (N := 6) hx hb hts k2 hown hK hP 3 (zX_3 cy ad S_3) rfl 1 (by decide) k6 (fun _ h9 => h9) rfl dX4_fewestMondays_22 ?_
        refine va_get (D := D) (ci := 10) (v := .ref (ad 16)) (C := RX10) (T := TX10) (N := 12) hx hb hts k7 hown hK hP 11 (zX_11 cy ad S_3) rfl 7 (by decide) k8 (fun _ h9 => h9) rfl dX4_fewestMondays_25 ?_
        refine lv_iload_n hx hb dX4_fewestMondays_28 rfl (lv_at hl 2 rfl) ?_
        obtain ⟨h_4, hf⟩ := z_ix hf
        refine z_iald hx hb hK hP 16 0 (zX_16 cy ad S_3) rfl h_4 (k := (x_2.toNatClampNeg)) rfl dX4_fewestMondays_29 ?_
        refine lv_aload_n hx hb dX4_fewestMondays_30 rfl (lv_at hl 0 rfl) ?_
        refine va_get (D := D) (ci := 4) (v := .ref (ad 3)) (C := RX4) (T := TX4) (N := 14) hx hb hts k0 hown hK hP 128 (zX_128 cy ad S_3) rfl 0 (by decide) k1 (fun _ h9 => h9) rfl dX4_fewestMondays_31 ?_
        refine va_get (D := D) (ci := 0) (v := .ref (ad 11)) (C := RX0) (T := TX0) (N := 6) hx hb hts k2 hown hK hP 3 (zX_3 cy ad S_3) rfl 1 (by decide) k6 (fun _ h9 => h9) rfl dX4_fewestMondays_34 ?_
        refine va_get (D := D) (ci := 10) (v := .ref (ad 16)) (C := RX10) (T := TX10) (N := 12) hx hb hts k7 hown hK hP 11 (zX_11 cy ad S_3) rfl 7 (by decide) k8 (fun _ h9 => h9) rfl dX4_fewestMondays_37 ?_
        refine lv_iload_n hx hb dX4_fewestMondays_40 rfl (lv_at hl 1 rfl) ?_
        obtain ⟨h_5, hf⟩ := z_ix hf
        refine z_iald hx hb hK hP 16 0 (zX_16 cy ad S_3) rfl h_5 (k := (x_1.toNatClampNeg)) rfl dX4_fewestMondays_41 ?_
        obtain ⟨j_47, ej_47, hf⟩ := z_nm hf
        have J_47 : ∀ (x_6 : Int32) (S_7 : zSt) (H : Heap) (locs : List Loc) (ls : Array Slot), j_47 x_6 S_7 = some (ro, So) → va_P D vwCl (zX cy ad S_7) H → va_S A s.heap H locs → lv_has ls 3 [(0, .ref (ad 128)), (1, .int x_6), (2, .int x_2)] → W p l e ({ frames := 0, cells := 0, slots := 0, locals := 0 }) s m ([.ref (ad 128)] : List Value).toArray below meth c H locs 0 0 Q (F0 m 47 ls []) := by
          intro x_6 S_7 H locs ls hf hP hS hl
          have hf := z_e2 ej_47 hf
          obtain ⟨x_8, ex_8, hf⟩ := z_nm hf
          refine lv_iinc (v := x_8) (lv' := [(2, .int x_8), (0, .ref (ad 128)), (1, .int x_6)]) hx hb dX4_fewestMondays_47 hl (k := 2) rfl (by rw [ex_8]; rfl) (by decide) rfl (fun ls hl => ?_)
          refine lv_goto (tgt := 4) hx hb dX4_fewestMondays_50 (by decide) ?_
          exact ih_4 x_6 x_8 S_7 _ _ _ hf hP hS (lv_sub hl [1, 2, 0] rfl)
        refine lv_icmp_ge (tgt := 47) hx hb dX4_fewestMondays_42 (by decide) (fun c_9 => ?_) (fun c_9 => ?_)
        · have hf := z_it c_9 hf
          exact J_47 x_1 S_3 _ _ _ hf hP hS (lv_sub hl [0, 1, 2] rfl)
        · have hf := z_if c_9 hf
          refine lv_iload_n hx hb dX4_fewestMondays_45 rfl (lv_at hl 2 rfl) ?_
          refine lv_istore_n (lv' := [(1, .int x_2), (0, .ref (ad 128)), (2, .int x_2)]) hx hb dX4_fewestMondays_46 rfl hl (by decide) rfl (fun ls hl => ?_)
          exact J_47 x_2 S_3 _ _ _ hf hP hS (lv_sub hl [1, 0, 2] rfl)
  exact L_4 zFU (0 : Int32) (1 : Int32) S_0 _ _ _ hf hP hS (lv_sub hl [2, 1, 0] rfl)
def fx_Lineup_putFirst_L49 (a_1 : Int32) : Nat → Int32 → zSt → Option (Unit × zSt)
  | 0, _, _ => none
  | n_49 + 1, x_3, S_4 =>
    if x_3 ≤ 0 then (
    znm (zpI S_4 129 0 a_1) fun S_5 =>
    some ((), S_5)) else (
    zck (zix (x_3 - (1 : Int32)) 9) <|
    zck (zix x_3 9) <|
    znm (zpI S_4 129 (x_3.toNatClampNeg) (S_4.1 129 ((x_3 - (1 : Int32)).toNatClampNeg))) fun S_8 =>
    znm (x_3 + (-1 : Int32)) fun x_9 =>
    fx_Lineup_putFirst_L49 a_1 n_49 x_9 S_8)
def fx_Lineup_putFirst_L2 (a_1 : Int32) (j_32 : Int32 → zSt → Option (Unit × zSt)) : Nat → Int32 → zSt → Option (Unit × zSt)
  | 0, _, _ => none
  | n_2 + 1, x_12, S_13 =>
    if (S_13.1 4 0) ≤ x_12 then (
    j_32 x_12 S_13) else (
    zck (zix x_12 9) <|
    if (S_13.1 129 (x_12.toNatClampNeg)) = a_1 then (
    j_32 x_12 S_13) else (
    znm (x_12 + (1 : Int32)) fun x_15 =>
    fx_Lineup_putFirst_L2 a_1 j_32 n_2 x_15 S_13))
def fx_Lineup_putFirst (S_0 : zSt) (a_1 : Int32) : Option (Unit × zSt) :=
  znm (fun (x_1 : Int32) (S_2 : zSt) =>
  if x_1 < (S_2.1 4 0) then (
  fx_Lineup_putFirst_L49 a_1 zFU x_1 S_2) else (
  some ((), S_2))) fun j_32 =>
  fx_Lineup_putFirst_L2 a_1 j_32 zFU (0 : Int32) S_0
set_option maxHeartbeats 4000000 in
set_option maxRecDepth 100000 in
theorem cx_Lineup_putFirst (l : Launch) (D : va_G) (K : (Nat → Nat) × (Nat → Nat)) (cy : Nat → ClassId) (ad : Nat → Nat) (S_0 : zSt) (a_1 : Int32) (So : zSt) (hf : fx_Lineup_putFirst S_0 a_1 = some ((), So)) : zMV l yX4_putFirst (zws yX4_putFirst cX4_putFirst 4 none) ({ frames := 0, cells := 0, slots := 0, locals := 0 }) D (zTy cy) K (zX cy ad) [.ref (ad 128), .int a_1] S_0 So := by
  refine z_metV (own := RX4) (lv := [(0, .ref (ad 128)), (1, .int a_1)]) (by decide) rfl rfl (Nat.le_of_ble_eq_true rfl) rfl ?_
  intro p e s m below meth c A Q X hK hE hD hA hret hP hS ls hl
  obtain ⟨hx, hb, hml, hown, hts⟩ := id X
  have k0 := (fun w h => List.mem_cons_of_mem _ (zFX4 w h) : ∀ w ∈ u_ws RX4 TX4 14, w ∈ zws yX4_putFirst cX4_putFirst 4 none)
  have k1 := hts _ (List.mem_cons_of_mem _ wt_2_108)
  have k2 := (fun w h => List.mem_cons_of_mem _ (zFX0 w h) : ∀ w ∈ u_ws RX0 TX0 6, w ∈ zws yX4_putFirst cX4_putFirst 4 none)
  have k3 := hts _ (List.mem_cons_of_mem _ wt_1_234)
  have k4 := (fun w h => List.mem_cons_of_mem _ (zFX2 w h) : ∀ w ∈ u_ws RX2 TX2 7, w ∈ zws yX4_putFirst cX4_putFirst 4 none)
  have k5 := hts _ (List.mem_cons_of_mem _ wt_1_66)
  have k6 := hts _ (List.mem_cons_of_mem _ wt_2_109)
  refine lv_iconst (v := 0) hx hb dX4_putFirst_0 (by decide) ?_
  refine lv_istore_n (lv' := [(2, .int (0 : Int32)), (0, .ref (ad 128)), (1, .int a_1)]) hx hb dX4_putFirst_1 rfl hl (by decide) rfl (fun ls hl => ?_)
  obtain ⟨j_32, ej_32, hf⟩ := z_nm hf
  have J_32 : ∀ (x_1 : Int32) (S_2 : zSt) (H : Heap) (locs : List Loc) (ls : Array Slot), j_32 x_1 S_2 = some ((), So) → va_P D vwCl (zX cy ad S_2) H → va_S A s.heap H locs → lv_has ls 4 [(0, .ref (ad 128)), (1, .int a_1), (2, .int x_1)] → W p l e ({ frames := 0, cells := 0, slots := 0, locals := 0 }) s m ([.ref (ad 128), .int a_1] : List Value).toArray below meth c H locs 0 0 Q (F0 m 32 ls []) := by
    intro x_1 S_2 H locs ls hf hP hS hl
    have hf := z_e2 ej_32 hf
    refine lv_iload_n hx hb dX4_putFirst_32 rfl (lv_at hl 2 rfl) ?_
    refine lv_aload_n hx hb dX4_putFirst_33 rfl (lv_at hl 0 rfl) ?_
    refine va_get (D := D) (ci := 4) (v := .ref (ad 3)) (C := RX4) (T := TX4) (N := 14) hx hb hts k0 hown hK hP 128 (zX_128 cy ad S_2) rfl 0 (by decide) k1 (fun _ h9 => h9) rfl dX4_putFirst_34 ?_
    refine va_get (D := D) (ci := 0) (v := .ref (ad 4)) (C := RX0) (T := TX0) (N := 6) hx hb hts k2 hown hK hP 3 (zX_3 cy ad S_2) rfl 0 (by decide) k3 (fun _ h9 => h9) rfl dX4_putFirst_37 ?_
    refine va_get (D := D) (ci := 2) (v := .int (S_2.1 4 0)) (C := RX2) (T := TX2) (N := 7) hx hb hts k4 hown hK hP 4 (zX_4 cy ad S_2) rfl 0 (by decide) k5 (fun _ h9 => h9) rfl dX4_putFirst_40 ?_
    refine lv_icmp_lt (tgt := 47) hx hb dX4_putFirst_43 (by decide) (fun c_11 => ?_) (fun c_11 => ?_)
    · have hf := z_it c_11 hf
      refine lv_iload_n hx hb dX4_putFirst_47 rfl (lv_at hl 2 rfl) ?_
      refine lv_istore_n (lv' := [(3, .int x_1), (0, .ref (ad 128)), (1, .int a_1), (2, .int x_1)]) hx hb dX4_putFirst_48 rfl hl (by decide) rfl (fun ls hl => ?_)
      have L_49 : ∀ (n_49 : Nat) (x_3 : Int32) (S_4 : zSt) (H : Heap) (locs : List Loc) (ls : Array Slot), fx_Lineup_putFirst_L49 a_1 n_49 x_3 S_4 = some ((), So) → va_P D vwCl (zX cy ad S_4) H → va_S A s.heap H locs → lv_has ls 4 [(0, .ref (ad 128)), (1, .int a_1), (3, .int x_3)] → W p l e ({ frames := 0, cells := 0, slots := 0, locals := 0 }) s m ([.ref (ad 128), .int a_1] : List Value).toArray below meth c H locs 0 0 Q (F0 m 49 ls []) := by
        intro n_49
        induction n_49 with
        | zero =>
          intro x_3 S_4 H locs ls hf hP hS hl
          exact z_no hf
        | succ n_49 ih_49 =>
          intro x_3 S_4 H locs ls hf hP hS hl
          rw [fx_Lineup_putFirst_L49] at hf
          refine lv_iload_n hx hb dX4_putFirst_49 rfl (lv_at hl 2 rfl) ?_
          refine lv_if_le (tgt := 73) hx hb dX4_putFirst_50 (by decide) (fun c_10 => ?_) (fun c_10 => ?_)
          · have hf := z_it c_10 hf
            refine lv_aload_n hx hb dX4_putFirst_73 rfl (lv_at hl 0 rfl) ?_
            refine va_get (D := D) (ci := 4) (v := .ref (ad 129)) (C := RX4) (T := TX4) (N := 14) hx hb hts k0 hown hK hP 128 (zX_128 cy ad S_4) rfl 1 (by decide) k6 (fun _ h9 => h9) rfl dX4_putFirst_74 ?_
            refine lv_iconst (v := 0) hx hb dX4_putFirst_77 (by decide) ?_
            refine lv_iload_n hx hb dX4_putFirst_78 rfl (lv_at hl 1 rfl) ?_
            refine z_iast hx hb hK hP (hD S_4) hS 129 0 (zX_129 cy ad S_4) rfl (vp_in_iff.mpr (by decide)) (k := 0) (by decide) dX4_putFirst_79 (fun H locs hP hS => ?_)
            obtain ⟨S_5, eS_5, hf⟩ := z_nm hf
            have hP := zW_putI hP eS_5 (by decide) rfl
            obtain ⟨h1, h2⟩ := z_s2 hf
            subst h2
            exact hret _ _ _ _ hP hS dX4_putFirst_80
          · have hf := z_if c_10 hf
            refine lv_aload_n hx hb dX4_putFirst_53 rfl (lv_at hl 0 rfl) ?_
            refine va_get (D := D) (ci := 4) (v := .ref (ad 129)) (C := RX4) (T := TX4) (N := 14) hx hb hts k0 hown hK hP 128 (zX_128 cy ad S_4) rfl 1 (by decide) k6 (fun _ h9 => h9) rfl dX4_putFirst_54 ?_
            refine lv_iload_n hx hb dX4_putFirst_57 rfl (lv_at hl 2 rfl) ?_
            refine lv_aload_n hx hb dX4_putFirst_58 rfl (lv_at hl 0 rfl) ?_
            refine va_get (D := D) (ci := 4) (v := .ref (ad 129)) (C := RX4) (T := TX4) (N := 14) hx hb hts k0 hown hK hP 128 (zX_128 cy ad S_4) rfl 1 (by decide) k6 (fun _ h9 => h9) rfl dX4_putFirst_59 ?_
            refine lv_iload_n hx hb dX4_putFirst_62 rfl (lv_at hl 2 rfl) ?_
            refine lv_iconst (v := 1) hx hb dX4_putFirst_63 (by decide) ?_
            refine lv_isub hx hb dX4_putFirst_64 ?_
            obtain ⟨h_6, hf⟩ := z_ix hf
            refine z_iald hx hb hK hP 129 0 (zX_129 cy ad S_4) rfl h_6 (k := ((x_3 - (1 : Int32)).toNatClampNeg)) rfl dX4_putFirst_65 ?_
            obtain ⟨h_7, hf⟩ := z_ix hf
            refine z_iast hx hb hK hP (hD S_4) hS 129 0 (zX_129 cy ad S_4) rfl h_7 (k := (x_3.toNatClampNeg)) rfl dX4_putFirst_66 (fun H locs hP hS => ?_)
            obtain ⟨S_8, eS_8, hf⟩ := z_nm hf
            have hP := zW_putI hP eS_8 (by decide) rfl
            obtain ⟨x_9, ex_9, hf⟩ := z_nm hf
            refine lv_iinc (v := x_9) (lv' := [(3, .int x_9), (0, .ref (ad 128)), (1, .int a_1)]) hx hb dX4_putFirst_67 hl (k := 2) rfl (by rw [ex_9]; rfl) (by decide) rfl (fun ls hl => ?_)
            refine lv_goto (tgt := 49) hx hb dX4_putFirst_70 (by decide) ?_
            exact ih_49 x_9 S_8 _ _ _ hf hP hS (lv_sub hl [1, 2, 0] rfl)
      exact L_49 zFU x_1 S_2 _ _ _ hf hP hS (lv_sub hl [1, 2, 0] rfl)
    · have hf := z_if c_11 hf
      obtain ⟨h1, h2⟩ := z_s2 hf
      subst h2
      exact hret _ _ _ _ hP hS dX4_putFirst_46
  have L_2 : ∀ (n_2 : Nat) (x_12 : Int32) (S_13 : zSt) (H : Heap) (locs : List Loc) (ls : Array Slot), fx_Lineup_putFirst_L2 a_1 j_32 n_2 x_12 S_13 = some ((), So) → va_P D vwCl (zX cy ad S_13) H → va_S A s.heap H locs → lv_has ls 4 [(0, .ref (ad 128)), (1, .int a_1), (2, .int x_12)] → W p l e ({ frames := 0, cells := 0, slots := 0, locals := 0 }) s m ([.ref (ad 128), .int a_1] : List Value).toArray below meth c H locs 0 0 Q (F0 m 2 ls []) := by
    intro n_2
    induction n_2 with
    | zero =>
      intro x_12 S_13 H locs ls hf hP hS hl
      exact z_no hf
    | succ n_2 ih_2 =>
      intro x_12 S_13 H locs ls hf hP hS hl
      rw [fx_Lineup_putFirst_L2] at hf
      refine lv_iload_n hx hb dX4_putFirst_2 rfl (lv_at hl 2 rfl) ?_
      refine lv_aload_n hx hb dX4_putFirst_3 rfl (lv_at hl 0 rfl) ?_
      refine va_get (D := D) (ci := 4) (v := .ref (ad 3)) (C := RX4) (T := TX4) (N := 14) hx hb hts k0 hown hK hP 128 (zX_128 cy ad S_13) rfl 0 (by decide) k1 (fun _ h9 => h9) rfl dX4_putFirst_4 ?_
      refine va_get (D := D) (ci := 0) (v := .ref (ad 4)) (C := RX0) (T := TX0) (N := 6) hx hb hts k2 hown hK hP 3 (zX_3 cy ad S_13) rfl 0 (by decide) k3 (fun _ h9 => h9) rfl dX4_putFirst_7 ?_
      refine va_get (D := D) (ci := 2) (v := .int (S_13.1 4 0)) (C := RX2) (T := TX2) (N := 7) hx hb hts k4 hown hK hP 4 (zX_4 cy ad S_13) rfl 0 (by decide) k5 (fun _ h9 => h9) rfl dX4_putFirst_10 ?_
      refine lv_icmp_ge (tgt := 32) hx hb dX4_putFirst_13 (by decide) (fun c_17 => ?_) (fun c_17 => ?_)
      · have hf := z_it c_17 hf
        exact J_32 x_12 S_13 _ _ _ hf hP hS (lv_sub hl [0, 1, 2] rfl)
      · have hf := z_if c_17 hf
        refine lv_aload_n hx hb dX4_putFirst_16 rfl (lv_at hl 0 rfl) ?_
        refine va_get (D := D) (ci := 4) (v := .ref (ad 129)) (C := RX4) (T := TX4) (N := 14) hx hb hts k0 hown hK hP 128 (zX_128 cy ad S_13) rfl 1 (by decide) k6 (fun _ h9 => h9) rfl dX4_putFirst_17 ?_
        refine lv_iload_n hx hb dX4_putFirst_20 rfl (lv_at hl 2 rfl) ?_
        obtain ⟨h_14, hf⟩ := z_ix hf
        refine z_iald hx hb hK hP 129 0 (zX_129 cy ad S_13) rfl h_14 (k := (x_12.toNatClampNeg)) rfl dX4_putFirst_21 ?_
        refine lv_iload_n hx hb dX4_putFirst_22 rfl (lv_at hl 1 rfl) ?_
        refine lv_icmp_eq (tgt := 32) hx hb dX4_putFirst_23 (by decide) (fun c_16 => ?_) (fun c_16 => ?_)
        · have hf := z_it c_16 hf
          exact J_32 x_12 S_13 _ _ _ hf hP hS (lv_sub hl [0, 1, 2] rfl)
        · have hf := z_if c_16 hf
          obtain ⟨x_15, ex_15, hf⟩ := z_nm hf
          refine lv_iinc (v := x_15) (lv' := [(2, .int x_15), (0, .ref (ad 128)), (1, .int a_1)]) hx hb dX4_putFirst_26 hl (k := 2) rfl (by rw [ex_15]; rfl) (by decide) rfl (fun ls hl => ?_)
          refine lv_goto (tgt := 2) hx hb dX4_putFirst_29 (by decide) ?_
          exact ih_2 x_15 S_13 _ _ _ hf hP hS (lv_sub hl [1, 2, 0] rfl)
  exact L_2 zFU (0 : Int32) S_0 _ _ _ hf hP hS (lv_sub hl [1, 2, 0] rfl)
def fx_Lineup_gatherFacts (S_0 : zSt) (a_1 : Int32) : Option (Unit × zSt) :=
  zck (zix a_1 9) <|
  znm (zpI S_0 132 0 (S_0.1 5 (a_1.toNatClampNeg))) fun S_2 =>
  zck (zix a_1 9) <|
  znm (zpI S_2 132 1 (S_2.1 6 (a_1.toNatClampNeg))) fun S_4 =>
  zck (zix a_1 9) <|
  znm (zpI S_4 132 2 (S_4.1 12 (a_1.toNatClampNeg))) fun S_6 =>
  zck (zix a_1 9) <|
  znm (zpI S_6 132 3 (S_6.1 13 (a_1.toNatClampNeg))) fun S_8 =>
  zck (zix a_1 9) <|
  znm (zpI S_8 132 4 (S_8.1 14 (a_1.toNatClampNeg))) fun S_10 =>
  zck (zix a_1 9) <|
  znm (zpI S_10 132 5 (S_10.1 15 (a_1.toNatClampNeg))) fun S_12 =>
  zck (zix a_1 9) <|
  znm (zpI S_12 132 6 (S_12.1 17 (a_1.toNatClampNeg))) fun S_14 =>
  znm (zpI S_14 132 7 a_1) fun S_15 =>
  znm (zpI S_15 132 8 (S_15.1 11 1)) fun S_16 =>
  zck (zix a_1 9) <|
  znm (zpI S_16 132 9 (-(S_16.1 10 (a_1.toNatClampNeg)))) fun S_18 =>
  some ((), S_18)
set_option maxHeartbeats 4000000 in
set_option maxRecDepth 100000 in
theorem cx_Lineup_gatherFacts (l : Launch) (D : va_G) (K : (Nat → Nat) × (Nat → Nat)) (cy : Nat → ClassId) (ad : Nat → Nat) (S_0 : zSt) (a_1 : Int32) (So : zSt) (hf : fx_Lineup_gatherFacts S_0 a_1 = some ((), So)) : zMV l yX4_gatherFacts (zws yX4_gatherFacts cX4_gatherFacts 2 none) ({ frames := 0, cells := 0, slots := 0, locals := 0 }) D (zTy cy) K (zX cy ad) [.ref (ad 128), .int a_1] S_0 So := by
  refine z_metV (own := RX4) (lv := [(0, .ref (ad 128)), (1, .int a_1)]) (by decide) rfl rfl (Nat.le_of_ble_eq_true rfl) rfl ?_
  intro p e s m below meth c A Q X hK hE hD hA hret hP hS ls hl
  obtain ⟨hx, hb, hml, hown, hts⟩ := id X
  have k0 := (fun w h => List.mem_cons_of_mem _ (zFX4 w h) : ∀ w ∈ u_ws RX4 TX4 14, w ∈ zws yX4_gatherFacts cX4_gatherFacts 2 none)
  have k1 := hts _ (List.mem_cons_of_mem _ wt_2_122)
  have k2 := hts _ (List.mem_cons_of_mem _ wt_2_108)
  have k3 := (fun w h => List.mem_cons_of_mem _ (zFX0 w h) : ∀ w ∈ u_ws RX0 TX0 6, w ∈ zws yX4_gatherFacts cX4_gatherFacts 2 none)
  have k4 := hts _ (List.mem_cons_of_mem _ wt_1_234)
  have k5 := (fun w h => List.mem_cons_of_mem _ (zFX2 w h) : ∀ w ∈ u_ws RX2 TX2 7, w ∈ zws yX4_gatherFacts cX4_gatherFacts 2 none)
  have k6 := hts _ (List.mem_cons_of_mem _ wt_1_70)
  have k7 := hts _ (List.mem_cons_of_mem _ wt_1_73)
  have k8 := hts _ (List.mem_cons_of_mem _ wt_1_238)
  have k9 := (fun w h => List.mem_cons_of_mem _ (zFX10 w h) : ∀ w ∈ u_ws RX10 TX10 12, w ∈ zws yX4_gatherFacts cX4_gatherFacts 2 none)
  have k10 := hts _ (List.mem_cons_of_mem _ wt_1_116)
  have k11 := hts _ (List.mem_cons_of_mem _ wt_1_119)
  have k12 := hts _ (List.mem_cons_of_mem _ wt_1_122)
  have k13 := hts _ (List.mem_cons_of_mem _ wt_1_125)
  have k14 := hts _ (List.mem_cons_of_mem _ wt_1_131)
  have k15 := hts _ (List.mem_cons_of_mem _ wt_1_110)
  have k16 := hts _ (List.mem_cons_of_mem _ wt_1_84)
  refine lv_aload_n hx hb dX4_gatherFacts_0 rfl (lv_at hl 0 rfl) ?_
  refine va_get (D := D) (ci := 4) (v := .ref (ad 132)) (C := RX4) (T := TX4) (N := 14) hx hb hts k0 hown hK hP 128 (zX_128 cy ad S_0) rfl 8 (by decide) k1 (fun _ h9 => h9) rfl dX4_gatherFacts_1 ?_
  refine lv_iconst (v := 0) hx hb dX4_gatherFacts_4 (by decide) ?_
  refine lv_aload_n hx hb dX4_gatherFacts_5 rfl (lv_at hl 0 rfl) ?_
  refine va_get (D := D) (ci := 4) (v := .ref (ad 3)) (C := RX4) (T := TX4) (N := 14) hx hb hts k0 hown hK hP 128 (zX_128 cy ad S_0) rfl 0 (by decide) k2 (fun _ h9 => h9) rfl dX4_gatherFacts_6 ?_
  refine va_get (D := D) (ci := 0) (v := .ref (ad 4)) (C := RX0) (T := TX0) (N := 6) hx hb hts k3 hown hK hP 3 (zX_3 cy ad S_0) rfl 0 (by decide) k4 (fun _ h9 => h9) rfl dX4_gatherFacts_9 ?_
  refine va_get (D := D) (ci := 2) (v := .ref (ad 5)) (C := RX2) (T := TX2) (N := 7) hx hb hts k5 hown hK hP 4 (zX_4 cy ad S_0) rfl 1 (by decide) k6 (fun _ h9 => h9) rfl dX4_gatherFacts_12 ?_
  refine lv_iload_n hx hb dX4_gatherFacts_15 rfl (lv_at hl 1 rfl) ?_
  obtain ⟨h_1, hf⟩ := z_ix hf
  refine z_iald hx hb hK hP 5 0 (zX_5 cy ad S_0) rfl h_1 (k := (a_1.toNatClampNeg)) rfl dX4_gatherFacts_16 ?_
  refine z_iast hx hb hK hP (hD S_0) hS 132 0 (zX_132 cy ad S_0) rfl (vp_in_iff.mpr (by decide)) (k := 0) (by decide) dX4_gatherFacts_17 (fun H locs hP hS => ?_)
  obtain ⟨S_2, eS_2, hf⟩ := z_nm hf
  have hP := zW_putI hP eS_2 (by decide) rfl
  refine lv_aload_n hx hb dX4_gatherFacts_18 rfl (lv_at hl 0 rfl) ?_
  refine va_get (D := D) (ci := 4) (v := .ref (ad 132)) (C := RX4) (T := TX4) (N := 14) hx hb hts k0 hown hK hP 128 (zX_128 cy ad S_2) rfl 8 (by decide) k1 (fun _ h9 => h9) rfl dX4_gatherFacts_19 ?_
  refine lv_iconst (v := 1) hx hb dX4_gatherFacts_22 (by decide) ?_
  refine lv_aload_n hx hb dX4_gatherFacts_23 rfl (lv_at hl 0 rfl) ?_
  refine va_get (D := D) (ci := 4) (v := .ref (ad 3)) (C := RX4) (T := TX4) (N := 14) hx hb hts k0 hown hK hP 128 (zX_128 cy ad S_2) rfl 0 (by decide) k2 (fun _ h9 => h9) rfl dX4_gatherFacts_24 ?_
  refine va_get (D := D) (ci := 0) (v := .ref (ad 4)) (C := RX0) (T := TX0) (N := 6) hx hb hts k3 hown hK hP 3 (zX_3 cy ad S_2) rfl 0 (by decide) k4 (fun _ h9 => h9) rfl dX4_gatherFacts_27 ?_
  refine va_get (D := D) (ci := 2) (v := .ref (ad 6)) (C := RX2) (T := TX2) (N := 7) hx hb hts k5 hown hK hP 4 (zX_4 cy ad S_2) rfl 2 (by decide) k7 (fun _ h9 => h9) rfl dX4_gatherFacts_30 ?_
  refine lv_iload_n hx hb dX4_gatherFacts_33 rfl (lv_at hl 1 rfl) ?_
  obtain ⟨h_3, hf⟩ := z_ix hf
  refine z_iald hx hb hK hP 6 0 (zX_6 cy ad S_2) rfl h_3 (k := (a_1.toNatClampNeg)) rfl dX4_gatherFacts_34 ?_
  refine z_iast hx hb hK hP (hD S_2) hS 132 0 (zX_132 cy ad S_2) rfl (vp_in_iff.mpr (by decide)) (k := 1) (by decide) dX4_gatherFacts_35 (fun H locs hP hS => ?_)
  obtain ⟨S_4, eS_4, hf⟩ := z_nm hf
  have hP := zW_putI hP eS_4 (by decide) rfl
  refine lv_aload_n hx hb dX4_gatherFacts_36 rfl (lv_at hl 0 rfl) ?_
  refine va_get (D := D) (ci := 4) (v := .ref (ad 132)) (C := RX4) (T := TX4) (N := 14) hx hb hts k0 hown hK hP 128 (zX_128 cy ad S_4) rfl 8 (by decide) k1 (fun _ h9 => h9) rfl dX4_gatherFacts_37 ?_
  refine lv_iconst (v := 2) hx hb dX4_gatherFacts_40 (by decide) ?_
  refine lv_aload_n hx hb dX4_gatherFacts_41 rfl (lv_at hl 0 rfl) ?_
  refine va_get (D := D) (ci := 4) (v := .ref (ad 3)) (C := RX4) (T := TX4) (N := 14) hx hb hts k0 hown hK hP 128 (zX_128 cy ad S_4) rfl 0 (by decide) k2 (fun _ h9 => h9) rfl dX4_gatherFacts_42 ?_
  refine va_get (D := D) (ci := 0) (v := .ref (ad 11)) (C := RX0) (T := TX0) (N := 6) hx hb hts k3 hown hK hP 3 (zX_3 cy ad S_4) rfl 1 (by decide) k8 (fun _ h9 => h9) rfl dX4_gatherFacts_45 ?_
  refine va_get (D := D) (ci := 10) (v := .ref (ad 12)) (C := RX10) (T := TX10) (N := 12) hx hb hts k9 hown hK hP 11 (zX_11 cy ad S_4) rfl 3 (by decide) k10 (fun _ h9 => h9) rfl dX4_gatherFacts_48 ?_
  refine lv_iload_n hx hb dX4_gatherFacts_51 rfl (lv_at hl 1 rfl) ?_
  obtain ⟨h_5, hf⟩ := z_ix hf
  refine z_iald hx hb hK hP 12 0 (zX_12 cy ad S_4) rfl h_5 (k := (a_1.toNatClampNeg)) rfl dX4_gatherFacts_52 ?_
  refine z_iast hx hb hK hP (hD S_4) hS 132 0 (zX_132 cy ad S_4) rfl (vp_in_iff.mpr (by decide)) (k := 2) (by decide) dX4_gatherFacts_53 (fun H locs hP hS => ?_)
  obtain ⟨S_6, eS_6, hf⟩ := z_nm hf
  have hP := zW_putI hP eS_6 (by decide) rfl
  refine lv_aload_n hx hb dX4_gatherFacts_54 rfl (lv_at hl 0 rfl) ?_
  refine va_get (D := D) (ci := 4) (v := .ref (ad 132)) (C := RX4) (T := TX4) (N := 14) hx hb hts k0 hown hK hP 128 (zX_128 cy ad S_6) rfl 8 (by decide) k1 (fun _ h9 => h9) rfl dX4_gatherFacts_55 ?_
  refine lv_iconst (v := 3) hx hb dX4_gatherFacts_58 (by decide) ?_
  refine lv_aload_n hx hb dX4_gatherFacts_59 rfl (lv_at hl 0 rfl) ?_
  refine va_get (D := D) (ci := 4) (v := .ref (ad 3)) (C := RX4) (T := TX4) (N := 14) hx hb hts k0 hown hK hP 128 (zX_128 cy ad S_6) rfl 0 (by decide) k2 (fun _ h9 => h9) rfl dX4_gatherFacts_60 ?_
  refine va_get (D := D) (ci := 0) (v := .ref (ad 11)) (C := RX0) (T := TX0) (N := 6) hx hb hts k3 hown hK hP 3 (zX_3 cy ad S_6) rfl 1 (by decide) k8 (fun _ h9 => h9) rfl dX4_gatherFacts_63 ?_
  refine va_get (D := D) (ci := 10) (v := .ref (ad 13)) (C := RX10) (T := TX10) (N := 12) hx hb hts k9 hown hK hP 11 (zX_11 cy ad S_6) rfl 4 (by decide) k11 (fun _ h9 => h9) rfl dX4_gatherFacts_66 ?_
  refine lv_iload_n hx hb dX4_gatherFacts_69 rfl (lv_at hl 1 rfl) ?_
  obtain ⟨h_7, hf⟩ := z_ix hf
  refine z_iald hx hb hK hP 13 0 (zX_13 cy ad S_6) rfl h_7 (k := (a_1.toNatClampNeg)) rfl dX4_gatherFacts_70 ?_
  refine z_iast hx hb hK hP (hD S_6) hS 132 0 (zX_132 cy ad S_6) rfl (vp_in_iff.mpr (by decide)) (k := 3) (by decide) dX4_gatherFacts_71 (fun H locs hP hS => ?_)
  obtain ⟨S_8, eS_8, hf⟩ := z_nm hf
  have hP := zW_putI hP eS_8 (by decide) rfl
  refine lv_aload_n hx hb dX4_gatherFacts_72 rfl (lv_at hl 0 rfl) ?_
  refine va_get (D := D) (ci := 4) (v := .ref (ad 132)) (C := RX4) (T := TX4) (N := 14) hx hb hts k0 hown hK hP 128 (zX_128 cy ad S_8) rfl 8 (by decide) k1 (fun _ h9 => h9) rfl dX4_gatherFacts_73 ?_
  refine lv_iconst (v := 4) hx hb dX4_gatherFacts_76 (by decide) ?_
  refine lv_aload_n hx hb dX4_gatherFacts_77 rfl (lv_at hl 0 rfl) ?_
  refine va_get (D := D) (ci := 4) (v := .ref (ad 3)) (C := RX4) (T := TX4) (N := 14) hx hb hts k0 hown hK hP 128 (zX_128 cy ad S_8) rfl 0 (by decide) k2 (fun _ h9 => h9) rfl dX4_gatherFacts_78 ?_
  refine va_get (D := D) (ci := 0) (v := .ref (ad 11)) (C := RX0) (T := TX0) (N := 6) hx hb hts k3 hown hK hP 3 (zX_3 cy ad S_8) rfl 1 (by decide) k8 (fun _ h9 => h9) rfl dX4_gatherFacts_81 ?_
  refine va_get (D := D) (ci := 10) (v := .ref (ad 14)) (C := RX10) (T := TX10) (N := 12) hx hb hts k9 hown hK hP 11 (zX_11 cy ad S_8) rfl 5 (by decide) k12 (fun _ h9 => h9) rfl dX4_gatherFacts_84 ?_
  refine lv_iload_n hx hb dX4_gatherFacts_87 rfl (lv_at hl 1 rfl) ?_
  obtain ⟨h_9, hf⟩ := z_ix hf
  refine z_iald hx hb hK hP 14 0 (zX_14 cy ad S_8) rfl h_9 (k := (a_1.toNatClampNeg)) rfl dX4_gatherFacts_88 ?_
  refine z_iast hx hb hK hP (hD S_8) hS 132 0 (zX_132 cy ad S_8) rfl (vp_in_iff.mpr (by decide)) (k := 4) (by decide) dX4_gatherFacts_89 (fun H locs hP hS => ?_)
  obtain ⟨S_10, eS_10, hf⟩ := z_nm hf
  have hP := zW_putI hP eS_10 (by decide) rfl
  refine lv_aload_n hx hb dX4_gatherFacts_90 rfl (lv_at hl 0 rfl) ?_
  refine va_get (D := D) (ci := 4) (v := .ref (ad 132)) (C := RX4) (T := TX4) (N := 14) hx hb hts k0 hown hK hP 128 (zX_128 cy ad S_10) rfl 8 (by decide) k1 (fun _ h9 => h9) rfl dX4_gatherFacts_91 ?_
  refine lv_iconst (v := 5) hx hb dX4_gatherFacts_94 (by decide) ?_
  refine lv_aload_n hx hb dX4_gatherFacts_95 rfl (lv_at hl 0 rfl) ?_
  refine va_get (D := D) (ci := 4) (v := .ref (ad 3)) (C := RX4) (T := TX4) (N := 14) hx hb hts k0 hown hK hP 128 (zX_128 cy ad S_10) rfl 0 (by decide) k2 (fun _ h9 => h9) rfl dX4_gatherFacts_96 ?_
  refine va_get (D := D) (ci := 0) (v := .ref (ad 11)) (C := RX0) (T := TX0) (N := 6) hx hb hts k3 hown hK hP 3 (zX_3 cy ad S_10) rfl 1 (by decide) k8 (fun _ h9 => h9) rfl dX4_gatherFacts_99 ?_
  refine va_get (D := D) (ci := 10) (v := .ref (ad 15)) (C := RX10) (T := TX10) (N := 12) hx hb hts k9 hown hK hP 11 (zX_11 cy ad S_10) rfl 6 (by decide) k13 (fun _ h9 => h9) rfl dX4_gatherFacts_102 ?_
  refine lv_iload_n hx hb dX4_gatherFacts_105 rfl (lv_at hl 1 rfl) ?_
  obtain ⟨h_11, hf⟩ := z_ix hf
  refine z_iald hx hb hK hP 15 0 (zX_15 cy ad S_10) rfl h_11 (k := (a_1.toNatClampNeg)) rfl dX4_gatherFacts_106 ?_
  refine z_iast hx hb hK hP (hD S_10) hS 132 0 (zX_132 cy ad S_10) rfl (vp_in_iff.mpr (by decide)) (k := 5) (by decide) dX4_gatherFacts_107 (fun H locs hP hS => ?_)
  obtain ⟨S_12, eS_12, hf⟩ := z_nm hf
  have hP := zW_putI hP eS_12 (by decide) rfl
  refine lv_aload_n hx hb dX4_gatherFacts_108 rfl (lv_at hl 0 rfl) ?_
  refine va_get (D := D) (ci := 4) (v := .ref (ad 132)) (C := RX4) (T := TX4) (N := 14) hx hb hts k0 hown hK hP 128 (zX_128 cy ad S_12) rfl 8 (by decide) k1 (fun _ h9 => h9) rfl dX4_gatherFacts_109 ?_
  refine lv_bipush (v := 6) hx hb dX4_gatherFacts_112 (by decide) ?_
  refine lv_aload_n hx hb dX4_gatherFacts_114 rfl (lv_at hl 0 rfl) ?_
  refine va_get (D := D) (ci := 4) (v := .ref (ad 3)) (C := RX4) (T := TX4) (N := 14) hx hb hts k0 hown hK hP 128 (zX_128 cy ad S_12) rfl 0 (by decide) k2 (fun _ h9 => h9) rfl dX4_gatherFacts_115 ?_
  refine va_get (D := D) (ci := 0) (v := .ref (ad 11)) (C := RX0) (T := TX0) (N := 6) hx hb hts k3 hown hK hP 3 (zX_3 cy ad S_12) rfl 1 (by decide) k8 (fun _ h9 => h9) rfl dX4_gatherFacts_118 ?_
  refine va_get (D := D) (ci := 10) (v := .ref (ad 17)) (C := RX10) (T := TX10) (N := 12) hx hb hts k9 hown hK hP 11 (zX_11 cy ad S_12) rfl 8 (by decide) k14 (fun _ h9 => h9) rfl dX4_gatherFacts_121 ?_
  refine lv_iload_n hx hb dX4_gatherFacts_124 rfl (lv_at hl 1 rfl) ?_
  obtain ⟨h_13, hf⟩ := z_ix hf
  refine z_iald hx hb hK hP 17 0 (zX_17 cy ad S_12) rfl h_13 (k := (a_1.toNatClampNeg)) rfl dX4_gatherFacts_125 ?_
  refine z_iast hx hb hK hP (hD S_12) hS 132 0 (zX_132 cy ad S_12) rfl (vp_in_iff.mpr (by decide)) (k := 6) (by decide) dX4_gatherFacts_126 (fun H locs hP hS => ?_)
  obtain ⟨S_14, eS_14, hf⟩ := z_nm hf
  have hP := zW_putI hP eS_14 (by decide) rfl
  refine lv_aload_n hx hb dX4_gatherFacts_127 rfl (lv_at hl 0 rfl) ?_
  refine va_get (D := D) (ci := 4) (v := .ref (ad 132)) (C := RX4) (T := TX4) (N := 14) hx hb hts k0 hown hK hP 128 (zX_128 cy ad S_14) rfl 8 (by decide) k1 (fun _ h9 => h9) rfl dX4_gatherFacts_128 ?_
  refine lv_bipush (v := 7) hx hb dX4_gatherFacts_131 (by decide) ?_
  refine lv_iload_n hx hb dX4_gatherFacts_133 rfl (lv_at hl 1 rfl) ?_
  refine z_iast hx hb hK hP (hD S_14) hS 132 0 (zX_132 cy ad S_14) rfl (vp_in_iff.mpr (by decide)) (k := 7) (by decide) dX4_gatherFacts_134 (fun H locs hP hS => ?_)
  obtain ⟨S_15, eS_15, hf⟩ := z_nm hf
  have hP := zW_putI hP eS_15 (by decide) rfl
  refine lv_aload_n hx hb dX4_gatherFacts_135 rfl (lv_at hl 0 rfl) ?_
  refine va_get (D := D) (ci := 4) (v := .ref (ad 132)) (C := RX4) (T := TX4) (N := 14) hx hb hts k0 hown hK hP 128 (zX_128 cy ad S_15) rfl 8 (by decide) k1 (fun _ h9 => h9) rfl dX4_gatherFacts_136 ?_
  refine lv_bipush (v := 8) hx hb dX4_gatherFacts_139 (by decide) ?_
  refine lv_aload_n hx hb dX4_gatherFacts_141 rfl (lv_at hl 0 rfl) ?_
  refine va_get (D := D) (ci := 4) (v := .ref (ad 3)) (C := RX4) (T := TX4) (N := 14) hx hb hts k0 hown hK hP 128 (zX_128 cy ad S_15) rfl 0 (by decide) k2 (fun _ h9 => h9) rfl dX4_gatherFacts_142 ?_
  refine va_get (D := D) (ci := 0) (v := .ref (ad 11)) (C := RX0) (T := TX0) (N := 6) hx hb hts k3 hown hK hP 3 (zX_3 cy ad S_15) rfl 1 (by decide) k8 (fun _ h9 => h9) rfl dX4_gatherFacts_145 ?_
  refine va_get (D := D) (ci := 10) (v := .int (S_15.1 11 1)) (C := RX10) (T := TX10) (N := 12) hx hb hts k9 hown hK hP 11 (zX_11 cy ad S_15) rfl 1 (by decide) k15 (fun _ h9 => h9) rfl dX4_gatherFacts_148 ?_
  refine z_iast hx hb hK hP (hD S_15) hS 132 0 (zX_132 cy ad S_15) rfl (vp_in_iff.mpr (by decide)) (k := 8) (by decide) dX4_gatherFacts_151 (fun H locs hP hS => ?_)
  obtain ⟨S_16, eS_16, hf⟩ := z_nm hf
  have hP := zW_putI hP eS_16 (by decide) rfl
  refine lv_aload_n hx hb dX4_gatherFacts_152 rfl (lv_at hl 0 rfl) ?_
  refine va_get (D := D) (ci := 4) (v := .ref (ad 132)) (C := RX4) (T := TX4) (N := 14) hx hb hts k0 hown hK hP 128 (zX_128 cy ad S_16) rfl 8 (by decide) k1 (fun _ h9 => h9) rfl dX4_gatherFacts_153 ?_
  refine lv_bipush (v := 9) hx hb dX4_gatherFacts_156 (by decide) ?_
  refine lv_aload_n hx hb dX4_gatherFacts_158 rfl (lv_at hl 0 rfl) ?_
  refine va_get (D := D) (ci := 4) (v := .ref (ad 3)) (C := RX4) (T := TX4) (N := 14) hx hb hts k0 hown hK hP 128 (zX_128 cy ad S_16) rfl 0 (by decide) k2 (fun _ h9 => h9) rfl dX4_gatherFacts_159 ?_
  refine va_get (D := D) (ci := 0) (v := .ref (ad 4)) (C := RX0) (T := TX0) (N := 6) hx hb hts k3 hown hK hP 3 (zX_3 cy ad S_16) rfl 0 (by decide) k4 (fun _ h9 => h9) rfl dX4_gatherFacts_162 ?_
  refine va_get (D := D) (ci := 2) (v := .ref (ad 10)) (C := RX2) (T := TX2) (N := 7) hx hb hts k5 hown hK hP 4 (zX_4 cy ad S_16) rfl 6 (by decide) k16 (fun _ h9 => h9) rfl dX4_gatherFacts_165 ?_
  refine lv_iload_n hx hb dX4_gatherFacts_168 rfl (lv_at hl 1 rfl) ?_
  obtain ⟨h_17, hf⟩ := z_ix hf
  refine z_iald hx hb hK hP 10 0 (zX_10 cy ad S_16) rfl h_17 (k := (a_1.toNatClampNeg)) rfl dX4_gatherFacts_169 ?_
  refine lv_ineg hx hb dX4_gatherFacts_170 ?_
  refine z_iast hx hb hK hP (hD S_16) hS 132 0 (zX_132 cy ad S_16) rfl (vp_in_iff.mpr (by decide)) (k := 9) (by decide) dX4_gatherFacts_171 (fun H locs hP hS => ?_)
  obtain ⟨S_18, eS_18, hf⟩ := z_nm hf
  have hP := zW_putI hP eS_18 (by decide) rfl
  obtain ⟨h1, h2⟩ := z_s2 hf
  subst h2
  exact hret _ _ _ _ hP hS dX4_gatherFacts_172
def fx_Rule_apply (S_0 : zSt) (a_1 : Int32) (a_2 : Int32) (a_3 : Int32) : Option (Int32 × zSt) :=
  if a_1 = (42 : Int32) then (
  some (a_2 * a_3, S_0)) else (
  if a_1 = (43 : Int32) then (
  some (a_2 + a_3, S_0)) else (
  if a_1 = (45 : Int32) then (
  some (a_2 - a_3, S_0)) else (
  if a_1 = (47 : Int32) then (
  znm (fun (x_7 : Int32) (S_8 : zSt) =>
  some (x_7, S_8)) fun j_99 =>
  if a_3 = 0 then (
  j_99 (0 : Int32) S_0) else (
  zck (znz a_3) <|
  j_99 (a_2 / a_3) S_0)) else (
  if a_1 = (60 : Int32) then (
  znm (fun (x_13 : Int32) (S_14 : zSt) =>
  some (x_13, S_14)) fun j_110 =>
  if a_3 ≤ a_2 then (
  j_110 (0 : Int32) S_0) else (
  j_110 (1 : Int32) S_0)) else (
  if a_1 = (61 : Int32) then (
  znm (fun (x_18 : Int32) (S_19 : zSt) =>
  some (x_18, S_19)) fun j_121 =>
  if a_2 = a_3 then (
  j_121 (1 : Int32) S_0) else (
  j_121 (0 : Int32) S_0)) else (
  if a_1 = (62 : Int32) then (
  znm (fun (x_23 : Int32) (S_24 : zSt) =>
  some (x_23, S_24)) fun j_132 =>
  if a_2 ≤ a_3 then (
  j_132 (0 : Int32) S_0) else (
  j_132 (1 : Int32) S_0)) else (
  if a_1 = (259 : Int32) then (
  some (a_2 &&& a_3, S_0)) else (
  some (a_2 ||| a_3, S_0)))))))))
set_option maxHeartbeats 4000000 in
set_option maxRecDepth 100000 in
theorem cx_Rule_apply (l : Launch) (D : va_G) (K : (Nat → Nat) × (Nat → Nat)) (cy : Nat → ClassId) (ad : Nat → Nat) (S_0 : zSt) (a_1 : Int32) (a_2 : Int32) (a_3 : Int32) (ro : Int32) (So : zSt) (hf : fx_Rule_apply S_0 a_1 a_2 a_3 = some (ro, So)) : zMI l yX6_apply (zws yX6_apply cX6_apply 3 (Option.some .int)) ({ frames := 0, cells := 0, slots := 0, locals := 0 }) D (zTy cy) K (zX cy ad) [.int a_1, .int a_2, .int a_3] S_0 ro So := by
  refine z_metI (own := RX6) (lv := [(0, .int a_1), (1, .int a_2), (2, .int a_3)]) (by decide) rfl rfl (Nat.le_of_ble_eq_true rfl) rfl ?_
  intro p e s m below meth c A Q X hK hE hD hA hret hP hS ls hl
  obtain ⟨hx, hb, hml, hown, hts⟩ := id X
  refine lv_iload_n hx hb dX6_apply_0 rfl (lv_at hl 0 rfl) ?_
  by_cases c_1 : a_1 = (42 : Int32)
  · have hf := z_it c_1 hf
    refine lv_lookup (off := 83) (tgt := 84) hx hb dX6_apply_1 (by decide) (by rw [c_1]; rfl) (by decide) ?_
    refine lv_iload_n hx hb dX6_apply_84 rfl (lv_at hl 1 rfl) ?_
    refine lv_iload_n hx hb dX6_apply_85 rfl (lv_at hl 2 rfl) ?_
    refine lv_imul hx hb dX6_apply_86 ?_
    obtain ⟨h1, h2⟩ := z_s2 hf
    subst h1 h2
    exact hret _ _ _ _ hP hS dX6_apply_87
  have hf := z_if c_1 hf
  have n_2 : a_1.toInt ≠ 42 := z_ne c_1 (by decide)
  by_cases c_3 : a_1 = (43 : Int32)
  · have hf := z_it c_3 hf
    refine lv_lookup (off := 75) (tgt := 76) hx hb dX6_apply_1 (by decide) (by rw [c_3]; rfl) (by decide) ?_
    refine lv_iload_n hx hb dX6_apply_76 rfl (lv_at hl 1 rfl) ?_
    refine lv_iload_n hx hb dX6_apply_77 rfl (lv_at hl 2 rfl) ?_
    refine lv_iadd hx hb dX6_apply_78 ?_
    obtain ⟨h1, h2⟩ := z_s2 hf
    subst h1 h2
    exact hret _ _ _ _ hP hS dX6_apply_79
  have hf := z_if c_3 hf
  have n_4 : a_1.toInt ≠ 43 := z_ne c_3 (by decide)
  by_cases c_5 : a_1 = (45 : Int32)
  · have hf := z_it c_5 hf
    refine lv_lookup (off := 79) (tgt := 80) hx hb dX6_apply_1 (by decide) (by rw [c_5]; rfl) (by decide) ?_
    refine lv_iload_n hx hb dX6_apply_80 rfl (lv_at hl 1 rfl) ?_
    refine lv_iload_n hx hb dX6_apply_81 rfl (lv_at hl 2 rfl) ?_
    refine lv_isub hx hb dX6_apply_82 ?_
    obtain ⟨h1, h2⟩ := z_s2 hf
    subst h1 h2
    exact hret _ _ _ _ hP hS dX6_apply_83
  have hf := z_if c_5 hf
  have n_6 : a_1.toInt ≠ 45 := z_ne c_5 (by decide)
  by_cases c_11 : a_1 = (47 : Int32)
  · have hf := z_it c_11 hf
    refine lv_lookup (off := 87) (tgt := 88) hx hb dX6_apply_1 (by decide) (by rw [c_11]; rfl) (by decide) ?_
    refine lv_iload_n hx hb dX6_apply_88 rfl (lv_at hl 2 rfl) ?_
    obtain ⟨j_99, ej_99, hf⟩ := z_nm hf
    have J_99 : ∀ (x_7 : Int32) (S_8 : zSt) (H : Heap) (locs : List Loc) (ls : Array Slot), j_99 x_7 S_8 = some (ro, So) → va_P D vwCl (zX cy ad S_8) H → va_S A s.heap H locs → lv_has ls 3 [] → W p l e ({ frames := 0, cells := 0, slots := 0, locals := 0 }) s m ([.int a_1, .int a_2, .int a_3] : List Value).toArray below meth c H locs 0 0 Q (F0 m 99 ls [.int x_7]) := by
      intro x_7 S_8 H locs ls hf hP hS hl
      have hf := z_e2 ej_99 hf
      obtain ⟨h1, h2⟩ := z_s2 hf
      subst h1 h2
      exact hret _ _ _ _ hP hS dX6_apply_99
    refine lv_if_ne (tgt := 96) hx hb dX6_apply_89 (by decide) (fun c_10 => ?_) (fun c_10 => ?_)
    · have hf := z_if c_10 hf
      refine lv_iload_n hx hb dX6_apply_96 rfl (lv_at hl 1 rfl) ?_
      refine lv_iload_n hx hb dX6_apply_97 rfl (lv_at hl 2 rfl) ?_
      obtain ⟨h_9, hf⟩ := z_nz hf
      refine lv_idiv hx hb dX6_apply_98 h_9 ?_
      exact J_99 (a_2 / a_3) S_0 _ _ _ hf hP hS (lv_sub hl [] rfl)
    · have hf := z_it c_10 hf
      refine lv_iconst (v := 0) hx hb dX6_apply_92 (by decide) ?_
      refine lv_goto (tgt := 99) hx hb dX6_apply_93 (by decide) ?_
      exact J_99 (0 : Int32) S_0 _ _ _ hf hP hS (lv_sub hl [] rfl)
  have hf := z_if c_11 hf
  have n_12 : a_1.toInt ≠ 47 := z_ne c_11 (by decide)
  by_cases c_16 : a_1 = (60 : Int32)
  · have hf := z_it c_16 hf
    refine lv_lookup (off := 99) (tgt := 100) hx hb dX6_apply_1 (by decide) (by rw [c_16]; rfl) (by decide) ?_
    refine lv_iload_n hx hb dX6_apply_100 rfl (lv_at hl 1 rfl) ?_
    refine lv_iload_n hx hb dX6_apply_101 rfl (lv_at hl 2 rfl) ?_
    obtain ⟨j_110, ej_110, hf⟩ := z_nm hf
    have J_110 : ∀ (x_13 : Int32) (S_14 : zSt) (H : Heap) (locs : List Loc) (ls : Array Slot), j_110 x_13 S_14 = some (ro, So) → va_P D vwCl (zX cy ad S_14) H → va_S A s.heap H locs → lv_has ls 3 [] → W p l e ({ frames := 0, cells := 0, slots := 0, locals := 0 }) s m ([.int a_1, .int a_2, .int a_3] : List Value).toArray below meth c H locs 0 0 Q (F0 m 110 ls [.int x_13]) := by
      intro x_13 S_14 H locs ls hf hP hS hl
      have hf := z_e2 ej_110 hf
      obtain ⟨h1, h2⟩ := z_s2 hf
      subst h1 h2
      exact hret _ _ _ _ hP hS dX6_apply_110
    refine lv_icmp_ge (tgt := 109) hx hb dX6_apply_102 (by decide) (fun c_15 => ?_) (fun c_15 => ?_)
    · have hf := z_it c_15 hf
      refine lv_iconst (v := 0) hx hb dX6_apply_109 (by decide) ?_
      exact J_110 (0 : Int32) S_0 _ _ _ hf hP hS (lv_sub hl [] rfl)
    · have hf := z_if c_15 hf
      refine lv_iconst (v := 1) hx hb dX6_apply_105 (by decide) ?_
      refine lv_goto (tgt := 110) hx hb dX6_apply_106 (by decide) ?_
      exact J_110 (1 : Int32) S_0 _ _ _ hf hP hS (lv_sub hl [] rfl)
  have hf := z_if c_16 hf
  have n_17 : a_1.toInt ≠ 60 := z_ne c_16 (by decide)
  by_cases c_21 : a_1 = (61 : Int32)
  · have hf := z_it c_21 hf
    refine lv_lookup (off := 110) (tgt := 111) hx hb dX6_apply_1 (by decide) (by rw [c_21]; rfl) (by decide) ?_
    refine lv_iload_n hx hb dX6_apply_111 rfl (lv_at hl 1 rfl) ?_
    refine lv_iload_n hx hb dX6_apply_112 rfl (lv_at hl 2 rfl) ?_
    obtain ⟨j_121, ej_121, hf⟩ := z_nm hf
    have J_121 : ∀ (x_18 : Int32) (S_19 : zSt) (H : Heap) (locs : List Loc) (ls : Array Slot), j_121 x_18 S_19 = some (ro, So) → va_P D vwCl (zX cy ad S_19) H → va_S A s.heap H locs → lv_has ls 3 [] → W p l e ({ frames := 0, cells := 0, slots := 0, locals := 0 }) s m ([.int a_1, .int a_2, .int a_3] : List Value).toArray below meth c H locs 0 0 Q (F0 m 121 ls [.int x_18]) := by
      intro x_18 S_19 H locs ls hf hP hS hl
      have hf := z_e2 ej_121 hf
      obtain ⟨h1, h2⟩ := z_s2 hf
      subst h1 h2
      exact hret _ _ _ _ hP hS dX6_apply_121
    refine lv_icmp_ne (tgt := 120) hx hb dX6_apply_113 (by decide) (fun c_20 => ?_) (fun c_20 => ?_)
    · have hf := z_if c_20 hf
      refine lv_iconst (v := 0) hx hb dX6_apply_120 (by decide) ?_
      exact J_121 (0 : Int32) S_0 _ _ _ hf hP hS (lv_sub hl [] rfl)
    · have hf := z_it c_20 hf
      refine lv_iconst (v := 1) hx hb dX6_apply_116 (by decide) ?_
      refine lv_goto (tgt := 121) hx hb dX6_apply_117 (by decide) ?_
      exact J_121 (1 : Int32) S_0 _ _ _ hf hP hS (lv_sub hl [] rfl)
  have hf := z_if c_21 hf
  have n_22 : a_1.toInt ≠ 61 := z_ne c_21 (by decide)
  by_cases c_26 : a_1 = (62 : Int32)
  · have hf := z_it c_26 hf
    refine lv_lookup (off := 121) (tgt := 122) hx hb dX6_apply_1 (by decide) (by rw [c_26]; rfl) (by decide) ?_
    refine lv_iload_n hx hb dX6_apply_122 rfl (lv_at hl 1 rfl) ?_
    refine lv_iload_n hx hb dX6_apply_123 rfl (lv_at hl 2 rfl) ?_
    obtain ⟨j_132, ej_132, hf⟩ := z_nm hf
    have J_132 : ∀ (x_23 : Int32) (S_24 : zSt) (H : Heap) (locs : List Loc) (ls : Array Slot), j_132 x_23 S_24 = some (ro, So) → va_P D vwCl (zX cy ad S_24) H → va_S A s.heap H locs → lv_has ls 3 [] → W p l e ({ frames := 0, cells := 0, slots := 0, locals := 0 }) s m ([.int a_1, .int a_2, .int a_3] : List Value).toArray below meth c H locs 0 0 Q (F0 m 132 ls [.int x_23]) := by
      intro x_23 S_24 H locs ls hf hP hS hl
      have hf := z_e2 ej_132 hf
      obtain ⟨h1, h2⟩ := z_s2 hf
      subst h1 h2
      exact hret _ _ _ _ hP hS dX6_apply_132
    refine lv_icmp_le (tgt := 131) hx hb dX6_apply_124 (by decide) (fun c_25 => ?_) (fun c_25 => ?_)
    · have hf := z_it c_25 hf
      refine lv_iconst (v := 0) hx hb dX6_apply_131 (by decide) ?_
      exact J_132 (0 : Int32) S_0 _ _ _ hf hP hS (lv_sub hl [] rfl)
    · have hf := z_if c_25 hf
      refine lv_iconst (v := 1) hx hb dX6_apply_127 (by decide) ?_
      refine lv_goto (tgt := 132) hx hb dX6_apply_128 (by decide) ?_
      exact J_132 (1 : Int32) S_0 _ _ _ hf hP hS (lv_sub hl [] rfl)
  have hf := z_if c_26 hf
  have n_27 : a_1.toInt ≠ 62 := z_ne c_26 (by decide)
  by_cases c_28 : a_1 = (259 : Int32)
  · have hf := z_it c_28 hf
    refine lv_lookup (off := 132) (tgt := 133) hx hb dX6_apply_1 (by decide) (by rw [c_28]; rfl) (by decide) ?_
    refine lv_iload_n hx hb dX6_apply_133 rfl (lv_at hl 1 rfl) ?_
    refine lv_iload_n hx hb dX6_apply_134 rfl (lv_at hl 2 rfl) ?_
    refine lv_iand hx hb dX6_apply_135 ?_
    obtain ⟨h1, h2⟩ := z_s2 hf
    subst h1 h2
    exact hret _ _ _ _ hP hS dX6_apply_136
  have hf := z_if c_28 hf
  have n_29 : a_1.toInt ≠ 259 := z_ne c_28 (by decide)
  refine lv_lookup (off := 136) (tgt := 137) hx hb dX6_apply_1 (by decide) (by simp only [Op.lookupswitch.offset_cons, Op.lookupswitch.offset_nil, ne_eq]; simp [n_2, n_4, n_6, n_12, n_17, n_22, n_27, n_29, Ne.symm n_2, Ne.symm n_4, Ne.symm n_6, Ne.symm n_12, Ne.symm n_17, Ne.symm n_22, Ne.symm n_27, Ne.symm n_29]) (by decide) ?_
  refine lv_iload_n hx hb dX6_apply_137 rfl (lv_at hl 1 rfl) ?_
  refine lv_iload_n hx hb dX6_apply_138 rfl (lv_at hl 2 rfl) ?_
  refine lv_ior hx hb dX6_apply_139 ?_
  obtain ⟨h1, h2⟩ := z_s2 hf
  subst h1 h2
  exact hret _ _ _ _ hP hS dX6_apply_140
def fx_Rule_valueOf (S_0 : zSt) (a_1 : Int32) : Option (Int32 × zSt) :=
  if (10000 : Int32) ≤ a_1 then (
  znm (a_1 - (10000 : Int32)) fun x_1 =>
  znm (fun (x_2 : Int32) (S_3 : zSt) =>
  some (x_2, S_3)) fun j_28 =>
  if (10 : Int32) ≤ x_1 then (
  j_28 (0 : Int32) S_0) else (
  zck (zix x_1 10) <|
  j_28 (S_0.1 132 (x_1.toNatClampNeg)) S_0)) else (
  some (a_1, S_0))
set_option maxHeartbeats 4000000 in
set_option maxRecDepth 100000 in
theorem cx_Rule_valueOf (l : Launch) (D : va_G) (K : (Nat → Nat) × (Nat → Nat)) (cy : Nat → ClassId) (ad : Nat → Nat) (S_0 : zSt) (a_1 : Int32) (ro : Int32) (So : zSt) (hf : fx_Rule_valueOf S_0 a_1 = some (ro, So)) : zMI l yX6_valueOf (zws yX6_valueOf cX6_valueOf 3 (Option.some .int)) ({ frames := 0, cells := 0, slots := 0, locals := 0 }) D (zTy cy) K (zX cy ad) [.int a_1, .ref (ad 132)] S_0 ro So := by
  refine z_metI (own := RX6) (lv := [(0, .int a_1), (1, .ref (ad 132))]) (by decide) rfl rfl (Nat.le_of_ble_eq_true rfl) rfl ?_
  intro p e s m below meth c A Q X hK hE hD hA hret hP hS ls hl
  obtain ⟨hx, hb, hml, hown, hts⟩ := id X
  refine lv_iload_n hx hb dX6_valueOf_0 rfl (lv_at hl 0 rfl) ?_
  refine lv_sipush (v := 10000) hx hb dX6_valueOf_1 (by decide) ?_
  refine lv_icmp_ge (tgt := 9) hx hb dX6_valueOf_4 (by decide) (fun c_6 => ?_) (fun c_6 => ?_)
  · have hf := z_it c_6 hf
    refine lv_iload_n hx hb dX6_valueOf_9 rfl (lv_at hl 0 rfl) ?_
    refine lv_sipush (v := 10000) hx hb dX6_valueOf_10 (by decide) ?_
    refine lv_isub hx hb dX6_valueOf_13 ?_
    refine lv_topi (fun x_1 ex_1 => ?_)
    have hf := z_nv ex_1 hf
    refine lv_istore_n (lv' := [(2, .int x_1), (0, .int a_1), (1, .ref (ad 132))]) hx hb dX6_valueOf_14 rfl hl (by decide) rfl (fun ls hl => ?_)
    refine lv_iload_n hx hb dX6_valueOf_15 rfl (lv_at hl 0 rfl) ?_
    refine lv_bipush (v := 10) hx hb dX6_valueOf_16 (by decide) ?_
    obtain ⟨j_28, ej_28, hf⟩ := z_nm hf
    have J_28 : ∀ (x_2 : Int32) (S_3 : zSt) (H : Heap) (locs : List Loc) (ls : Array Slot), j_28 x_2 S_3 = some (ro, So) → va_P D vwCl (zX cy ad S_3) H → va_S A s.heap H locs → lv_has ls 3 [] → W p l e ({ frames := 0, cells := 0, slots := 0, locals := 0 }) s m ([.int a_1, .ref (ad 132)] : List Value).toArray below meth c H locs 0 0 Q (F0 m 28 ls [.int x_2]) := by
      intro x_2 S_3 H locs ls hf hP hS hl
      have hf := z_e2 ej_28 hf
      obtain ⟨h1, h2⟩ := z_s2 hf
      subst h1 h2
      exact hret _ _ _ _ hP hS dX6_valueOf_28
    refine lv_icmp_ge (tgt := 27) hx hb dX6_valueOf_18 (by decide) (fun c_5 => ?_) (fun c_5 => ?_)
    · have hf := z_it c_5 hf
      refine lv_iconst (v := 0) hx hb dX6_valueOf_27 (by decide) ?_
      exact J_28 (0 : Int32) S_0 _ _ _ hf hP hS (lv_sub hl [] rfl)
    · have hf := z_if c_5 hf
      refine lv_aload_n hx hb dX6_valueOf_21 rfl (lv_at hl 2 rfl) ?_
      refine lv_iload_n hx hb dX6_valueOf_22 rfl (lv_at hl 0 rfl) ?_
      obtain ⟨h_4, hf⟩ := z_ix hf
      refine z_iald hx hb hK hP 132 0 (zX_132 cy ad S_0) rfl h_4 (k := (x_1.toNatClampNeg)) rfl dX6_valueOf_23 ?_
      refine lv_goto (tgt := 28) hx hb dX6_valueOf_24 (by decide) ?_
      exact J_28 (S_0.1 132 (x_1.toNatClampNeg)) S_0 _ _ _ hf hP hS (lv_sub hl [] rfl)
  · have hf := z_if c_6 hf
    refine lv_iload_n hx hb dX6_valueOf_7 rfl (lv_at hl 0 rfl) ?_
    obtain ⟨h1, h2⟩ := z_s2 hf
    subst h1 h2
    exact hret _ _ _ _ hP hS dX6_valueOf_8
def fx_Rule_worth_L5 (j_56 : Int32 → zSt → Option (Int32 × zSt)) : Nat → Int32 → Int32 → zSt → Option (Int32 × zSt)
  | 0, _, _, _ => none
  | n_5 + 1, x_7, x_8, S_9 =>
    if (S_9.1 20 1) ≤ x_8 then (
    some ((0 : Int32), S_9)) else (
    zck (zix x_8 400) <|
    znm (S_9.1 21 (x_8.toNatClampNeg)) fun x_11 =>
    znm (fun (x_12 : Int32) (S_13 : zSt) =>
    znm (x_8 + (1 : Int32)) fun x_14 =>
    fx_Rule_worth_L5 j_56 n_5 x_12 x_14 S_13) fun j_158 =>
    if x_11 < 0 then (
    if x_11 = (-59 : Int32) then (
    j_56 x_7 S_9) else (
    if x_11 = (-257 : Int32) then (
    znm (fun (S_29 : zSt) =>
    j_158 (0 : Int32) S_29) fun j_97 =>
    if x_7 ≤ (1 : Int32) then (
    j_97  S_9) else (
    zck (zix (x_7 - (1 : Int32)) 64) <|
    if (S_9.1 133 ((x_7 - (1 : Int32)).toNatClampNeg)) = 0 then (
    j_97  S_9) else (
    zck (zix (x_7 - (2 : Int32)) 64) <|
    some (S_9.1 133 ((x_7 - (2 : Int32)).toNatClampNeg), S_9)))) else (
    if x_11 = (-260 : Int32) then (
    if x_7 ≤ 0 then (
    j_158 x_7 S_9) else (
    zck (zix (x_7 - (1 : Int32)) 64) <|
    zck (zix (x_7 - (1 : Int32)) 64) <|
    znm (zpI S_9 133 ((x_7 - (1 : Int32)).toNatClampNeg) ((1 : Int32) - (S_9.1 133 ((x_7 - (1 : Int32)).toNatClampNeg)))) fun S_26 =>
    j_158 x_7 S_26)) else (
    if x_7 ≤ (1 : Int32) then (
    j_158 x_7 S_9) else (
    zck (zix (x_7 - (2 : Int32)) 64) <|
    zck (zix (x_7 - (1 : Int32)) 64) <|
    zbd (fx_Rule_apply S_9 (-x_11) (S_9.1 133 ((x_7 - (2 : Int32)).toNatClampNeg)) (S_9.1 133 ((x_7 - (1 : Int32)).toNatClampNeg))) fun r_17 S_18 =>
    zck (zix (x_7 - (2 : Int32)) 64) <|
    znm (zpI S_18 133 ((x_7 - (2 : Int32)).toNatClampNeg) r_17) fun S_21 =>
    znm (x_7 + (-1 : Int32)) fun x_22 =>
    j_158 x_22 S_21))))) else (
    if (64 : Int32) ≤ x_7 then (
    j_158 x_7 S_9) else (
    zbd (fx_Rule_valueOf S_9 x_11) fun r_36 S_37 =>
    zck (zix x_7 64) <|
    znm (zpI S_37 133 (x_7.toNatClampNeg) r_36) fun S_40 =>
    znm (x_7 + (1 : Int32)) fun x_41 =>
    j_158 x_41 S_40)))
def fx_Rule_worth (S_0 : zSt) : Option (Int32 × zSt) :=
  znm (fun (x_1 : Int32) (S_2 : zSt) =>
  znm (fun (x_3 : Int32) (S_4 : zSt) =>
  some (x_3, S_4)) fun j_69 =>
  if x_1 ≤ 0 then (
  j_69 (0 : Int32) S_2) else (
  zck (zix (x_1 - (1 : Int32)) 64) <|
  j_69 (S_2.1 133 ((x_1 - (1 : Int32)).toNatClampNeg)) S_2)) fun j_56 =>
  fx_Rule_worth_L5 j_56 zFU (0 : Int32) (0 : Int32) S_0
set_option maxHeartbeats 4000000 in
set_option maxRecDepth 100000 in
theorem cx_Rule_worth (l : Launch) (D : va_G) (K : (Nat → Nat) × (Nat → Nat)) (cy : Nat → ClassId) (ad : Nat → Nat) (S_0 : zSt) (ro : Int32) (So : zSt) (hf : fx_Rule_worth S_0 = some (ro, So)) : zMI l yX6_worth (zws yX6_worth cX6_worth 6 (Option.some .int)) ({ frames := 1, cells := 0, slots := 0, locals := 22 }) D (zTy cy) K (zX cy ad) [.ref (ad 20), .ref (ad 132), .ref (ad 133)] S_0 ro So := by
  refine z_metI (own := RX6) (lv := [(0, .ref (ad 20)), (1, .ref (ad 132)), (2, .ref (ad 133))]) (by decide) rfl rfl (Nat.le_of_ble_eq_true rfl) rfl ?_
  intro p e s m below meth c A Q X hK hE hD hA hret hP hS ls hl
  obtain ⟨hx, hb, hml, hown, hts⟩ := id X
  have k0 := (fun w h => List.mem_cons_of_mem _ (zFX6 w h) : ∀ w ∈ u_ws RX6 TX6 3, w ∈ zws yX6_worth cX6_worth 6 (Option.some .int))
  have k1 := hts _ (List.mem_cons_of_mem _ wt_1_175)
  have k2 := hts _ (List.mem_cons_of_mem _ wt_1_173)
  refine lv_iconst (v := 0) hx hb dX6_worth_0 (by decide) ?_
  refine lv_istore_n (lv' := [(3, .int (0 : Int32)), (0, .ref (ad 20)), (1, .ref (ad 132)), (2, .ref (ad 133))]) hx hb dX6_worth_1 rfl hl (by decide) rfl (fun ls hl => ?_)
  refine lv_iconst (v := 0) hx hb dX6_worth_2 (by decide) ?_
  refine lv_istore (lv' := [(4, .int (0 : Int32)), (3, .int (0 : Int32)), (0, .ref (ad 20)), (1, .ref (ad 132)), (2, .ref (ad 133))]) hx hb dX6_worth_3 hl (by decide) rfl (fun ls hl => ?_)
  obtain ⟨j_56, ej_56, hf⟩ := z_nm hf
  have J_56 : ∀ (x_1 : Int32) (S_2 : zSt) (H : Heap) (locs : List Loc) (ls : Array Slot), j_56 x_1 S_2 = some (ro, So) → va_P D vwCl (zX cy ad S_2) H → va_S A s.heap H locs → lv_has ls 6 [(2, .ref (ad 133)), (3, .int x_1)] → W p l e ({ frames := 1, cells := 0, slots := 0, locals := 22 }) s m ([.ref (ad 20), .ref (ad 132), .ref (ad 133)] : List Value).toArray below meth c H locs 0 0 Q (F0 m 56 ls []) := by
    intro x_1 S_2 H locs ls hf hP hS hl
    have hf := z_e2 ej_56 hf
    refine lv_iload_n hx hb dX6_worth_56 rfl (lv_at hl 1 rfl) ?_
    obtain ⟨j_69, ej_69, hf⟩ := z_nm hf
    have J_69 : ∀ (x_3 : Int32) (S_4 : zSt) (H : Heap) (locs : List Loc) (ls : Array Slot), j_69 x_3 S_4 = some (ro, So) → va_P D vwCl (zX cy ad S_4) H → va_S A s.heap H locs → lv_has ls 6 [] → W p l e ({ frames := 1, cells := 0, slots := 0, locals := 22 }) s m ([.ref (ad 20), .ref (ad 132), .ref (ad 133)] : List Value).toArray below meth c H locs 0 0 Q (F0 m 69 ls [.int x_3]) := by
      intro x_3 S_4 H locs ls hf hP hS hl
      have hf := z_e2 ej_69 hf
      obtain ⟨h1, h2⟩ := z_s2 hf
      subst h1 h2
      exact hret _ _ _ _ hP hS dX6_worth_69
    refine lv_if_le (tgt := 68) hx hb dX6_worth_57 (by decide) (fun c_6 => ?_) (fun c_6 => ?_)
    · have hf := z_it c_6 hf
      refine lv_iconst (v := 0) hx hb dX6_worth_68 (by decide) ?_
      exact J_69 (0 : Int32) S_2 _ _ _ hf hP hS (lv_sub hl [] rfl)
    · have hf := z_if c_6 hf
      refine lv_aload_n hx hb dX6_worth_60 rfl (lv_at hl 0 rfl) ?_
      refine lv_iload_n hx hb dX6_worth_61 rfl (lv_at hl 1 rfl) ?_
      refine lv_iconst (v := 1) hx hb dX6_worth_62 (by decide) ?_
      refine lv_isub hx hb dX6_worth_63 ?_
      obtain ⟨h_5, hf⟩ := z_ix hf
      refine z_iald hx hb hK hP 133 0 (zX_133 cy ad S_2) rfl h_5 (k := ((x_1 - (1 : Int32)).toNatClampNeg)) rfl dX6_worth_64 ?_
      refine lv_goto (tgt := 69) hx hb dX6_worth_65 (by decide) ?_
      exact J_69 (S_2.1 133 ((x_1 - (1 : Int32)).toNatClampNeg)) S_2 _ _ _ hf hP hS (lv_sub hl [] rfl)
  have L_5 : ∀ (n_5 : Nat) (x_7 : Int32) (x_8 : Int32) (S_9 : zSt) (H : Heap) (locs : List Loc) (ls : Array Slot), fx_Rule_worth_L5 j_56 n_5 x_7 x_8 S_9 = some (ro, So) → va_P D vwCl (zX cy ad S_9) H → va_S A s.heap H locs → lv_has ls 6 [(0, .ref (ad 20)), (1, .ref (ad 132)), (2, .ref (ad 133)), (3, .int x_7), (4, .int x_8)] → W p l e ({ frames := 1, cells := 0, slots := 0, locals := 22 }) s m ([.ref (ad 20), .ref (ad 132), .ref (ad 133)] : List Value).toArray below meth c H locs 0 0 Q (F0 m 5 ls []) := by
    intro n_5
    induction n_5 with
    | zero =>
      intro x_7 x_8 S_9 H locs ls hf hP hS hl
      exact z_no hf
    | succ n_5 ih_5 =>
      intro x_7 x_8 S_9 H locs ls hf hP hS hl
      rw [fx_Rule_worth_L5] at hf
      refine lv_iload hx hb dX6_worth_5 (lv_at hl 4 rfl) ?_
      refine lv_aload_n hx hb dX6_worth_7 rfl (lv_at hl 0 rfl) ?_
      refine va_get (D := D) (ci := 6) (v := .int (S_9.1 20 1)) (C := RX6) (T := TX6) (N := 3) hx hb hts k0 hown hK hP 20 (zX_20 cy ad S_9) rfl 1 (by decide) k1 (fun _ h9 => h9) rfl dX6_worth_8 ?_
      refine lv_icmp_ge (tgt := 164) hx hb dX6_worth_11 (by decide) (fun c_44 => ?_) (fun c_44 => ?_)
      · have hf := z_it c_44 hf
        refine lv_iconst (v := 0) hx hb dX6_worth_164 (by decide) ?_
        obtain ⟨h1, h2⟩ := z_s2 hf
        subst h1 h2
        exact hret _ _ _ _ hP hS dX6_worth_165
      · have hf := z_if c_44 hf
        refine lv_aload_n hx hb dX6_worth_14 rfl (lv_at hl 0 rfl) ?_
        refine va_get (D := D) (ci := 6) (v := .ref (ad 21)) (C := RX6) (T := TX6) (N := 3) hx hb hts k0 hown hK hP 20 (zX_20 cy ad S_9) rfl 0 (by decide) k2 (fun _ h9 => h9) rfl dX6_worth_15 ?_
        refine lv_iload hx hb dX6_worth_18 (lv_at hl 4 rfl) ?_
        obtain ⟨h_10, hf⟩ := z_ix hf
        refine z_iald hx hb hK hP 21 0 (zX_21 cy ad S_9) rfl h_10 (k := (x_8.toNatClampNeg)) rfl dX6_worth_20 ?_
        refine lv_topi (fun x_11 ex_11 => ?_)
        have hf := z_nv ex_11 hf
        refine lv_istore (lv' := [(5, .int x_11), (0, .ref (ad 20)), (1, .ref (ad 132)), (2, .ref (ad 133)), (3, .int x_7), (4, .int x_8)]) hx hb dX6_worth_21 hl (by decide) rfl (fun ls hl => ?_)
        refine lv_iload hx hb dX6_worth_23 (lv_at hl 0 rfl) ?_
        obtain ⟨j_158, ej_158, hf⟩ := z_nm hf
        have J_158 : ∀ (x_12 : Int32) (S_13 : zSt) (H : Heap) (locs : List Loc) (ls : Array Slot), j_158 x_12 S_13 = some (ro, So) → va_P D vwCl (zX cy ad S_13) H → va_S A s.heap H locs → lv_has ls 6 [(0, .ref (ad 20)), (1, .ref (ad 132)), (2, .ref (ad 133)), (3, .int x_12), (4, .int x_8)] → W p l e ({ frames := 1, cells := 0, slots := 0, locals := 22 }) s m ([.ref (ad 20), .ref (ad 132), .ref (ad 133)] : List Value).toArray below meth c H locs 0 0 Q (F0 m 158 ls []) := by
          intro x_12 S_13 H locs ls hf hP hS hl
          have hf := z_e2 ej_158 hf
          obtain ⟨x_14, ex_14, hf⟩ := z_nm hf
          refine lv_iinc (v := x_14) (lv' := [(4, .int x_14), (0, .ref (ad 20)), (1, .ref (ad 132)), (2, .ref (ad 133)), (3, .int x_12)]) hx hb dX6_worth_158 hl (k := 4) rfl (by rw [ex_14]; rfl) (by decide) rfl (fun ls hl => ?_)
          refine lv_goto (tgt := 5) hx hb dX6_worth_161 (by decide) ?_
          exact ih_5 x_12 x_14 S_13 _ _ _ hf hP hS (lv_sub hl [1, 2, 3, 4, 0] rfl)
        refine lv_if_lt (tgt := 49) hx hb dX6_worth_25 (by decide) (fun c_43 => ?_) (fun c_43 => ?_)
        · have hf := z_it c_43 hf
          refine lv_iload hx hb dX6_worth_49 (lv_at hl 0 rfl) ?_
          refine lv_bipush (v := -59) hx hb dX6_worth_51 (by decide) ?_
          refine lv_icmp_ne (tgt := 70) hx hb dX6_worth_53 (by decide) (fun c_35 => ?_) (fun c_35 => ?_)
          · have hf := z_if c_35 hf
            refine lv_iload hx hb dX6_worth_70 (lv_at hl 0 rfl) ?_
            refine lv_sipush (v := -257) hx hb dX6_worth_72 (by decide) ?_
            refine lv_icmp_ne (tgt := 102) hx hb dX6_worth_75 (by decide) (fun c_34 => ?_) (fun c_34 => ?_)
            · have hf := z_if c_34 hf
              refine lv_iload hx hb dX6_worth_102 (lv_at hl 0 rfl) ?_
              refine lv_sipush (v := -260) hx hb dX6_worth_104 (by decide) ?_
              refine lv_icmp_ne (tgt := 129) hx hb dX6_worth_107 (by decide) (fun c_28 => ?_) (fun c_28 => ?_)
              · have hf := z_if c_28 hf
                refine lv_iload_n hx hb dX6_worth_129 rfl (lv_at hl 4 rfl) ?_
                refine lv_iconst (v := 1) hx hb dX6_worth_130 (by decide) ?_
                refine lv_icmp_le (tgt := 158) hx hb dX6_worth_131 (by decide) (fun c_23 => ?_) (fun c_23 => ?_)
                · have hf := z_it c_23 hf
                  exact J_158 x_7 S_9 _ _ _ hf hP hS (lv_sub hl [1, 2, 3, 4, 5] rfl)
                · have hf := z_if c_23 hf
                  refine lv_aload_n hx hb dX6_worth_134 rfl (lv_at hl 3 rfl) ?_
                  refine lv_iload_n hx hb dX6_worth_135 rfl (lv_at hl 4 rfl) ?_
                  refine lv_iconst (v := 2) hx hb dX6_worth_136 (by decide) ?_
                  refine lv_isub hx hb dX6_worth_137 ?_
                  refine lv_iload hx hb dX6_worth_138 (lv_at hl 0 rfl) ?_
                  refine lv_ineg hx hb dX6_worth_140 ?_
                  refine lv_aload_n hx hb dX6_worth_141 rfl (lv_at hl 3 rfl) ?_
                  refine lv_iload_n hx hb dX6_worth_142 rfl (lv_at hl 4 rfl) ?_
                  refine lv_iconst (v := 2) hx hb dX6_worth_143 (by decide) ?_
                  refine lv_isub hx hb dX6_worth_144 ?_
                  obtain ⟨h_15, hf⟩ := z_ix hf
                  refine z_iald hx hb hK hP 133 0 (zX_133 cy ad S_9) rfl h_15 (k := ((x_7 - (2 : Int32)).toNatClampNeg)) rfl dX6_worth_145 ?_
                  refine lv_aload_n hx hb dX6_worth_146 rfl (lv_at hl 3 rfl) ?_
                  refine lv_iload_n hx hb dX6_worth_147 rfl (lv_at hl 4 rfl) ?_
                  refine lv_iconst (v := 1) hx hb dX6_worth_148 (by decide) ?_
                  refine lv_isub hx hb dX6_worth_149 ?_
                  obtain ⟨h_16, hf⟩ := z_ix hf
                  refine z_iald hx hb hK hP 133 0 (zX_133 cy ad S_9) rfl h_16 (k := ((x_7 - (1 : Int32)).toNatClampNeg)) rfl dX6_worth_150 ?_
                  obtain ⟨r_17, S_18, h_19, hf⟩ := z_bd hf
                  refine z_cSI (As := [.int (-x_11), .int (S_9.1 133 ((x_7 - (2 : Int32)).toNatClampNeg)), .int (S_9.1 133 ((x_7 - (1 : Int32)).toNatClampNeg))]) (rest := [.int (x_7 - (2 : Int32)), .ref (ad 133)]) X hK hE hD hA hP hS (cx_Rule_apply l D K cy ad S_9 _ _ _ _ _ h_19) (va_cwS 3 hts (z_gS wt_4_20 wt_4_21 wt_1_6 wt_4_22) rfl rfl rfl yd_yX6_apply ⟨Nat.le_of_ble_eq_true rfl, Nat.le_of_ble_eq_true rfl⟩) hl.1 rfl rfl (Nat.le_of_ble_eq_true rfl) dX6_worth_151 (fun H locs hP hS => ?_)
                  obtain ⟨h_20, hf⟩ := z_ix hf
                  refine z_iast hx hb hK hP (hD S_18) hS 133 0 (zX_133 cy ad S_18) rfl h_20 (k := ((x_7 - (2 : Int32)).toNatClampNeg)) rfl dX6_worth_154 (fun H locs hP hS => ?_)
                  obtain ⟨S_21, eS_21, hf⟩ := z_nm hf
                  have hP := zW_putI hP eS_21 (by decide) rfl
                  obtain ⟨x_22, ex_22, hf⟩ := z_nm hf
                  refine lv_iinc (v := x_22) (lv' := [(3, .int x_22), (5, .int x_11), (0, .ref (ad 20)), (1, .ref (ad 132)), (2, .ref (ad 133)), (4, .int x_8)]) hx hb dX6_worth_155 hl (k := 4) rfl (by rw [ex_22]; rfl) (by decide) rfl (fun ls hl => ?_)
                  exact J_158 x_22 S_21 _ _ _ hf hP hS (lv_sub hl [2, 3, 4, 0, 5] rfl)
              · have hf := z_it c_28 hf
                refine lv_iload_n hx hb dX6_worth_110 rfl (lv_at hl 4 rfl) ?_
                refine lv_if_le (tgt := 158) hx hb dX6_worth_111 (by decide) (fun c_27 => ?_) (fun c_27 => ?_)
                · have hf := z_it c_27 hf
                  exact J_158 x_7 S_9 _ _ _ hf hP hS (lv_sub hl [1, 2, 3, 4, 5] rfl)
                · have hf := z_if c_27 hf
                  refine lv_aload_n hx hb dX6_worth_114 rfl (lv_at hl 3 rfl) ?_
                  refine lv_iload_n hx hb dX6_worth_115 rfl (lv_at hl 4 rfl) ?_
                  refine lv_iconst (v := 1) hx hb dX6_worth_116 (by decide) ?_
                  refine lv_isub hx hb dX6_worth_117 ?_
                  refine lv_iconst (v := 1) hx hb dX6_worth_118 (by decide) ?_
                  refine lv_aload_n hx hb dX6_worth_119 rfl (lv_at hl 3 rfl) ?_
                  refine lv_iload_n hx hb dX6_worth_120 rfl (lv_at hl 4 rfl) ?_
                  refine lv_iconst (v := 1) hx hb dX6_worth_121 (by decide) ?_
                  refine lv_isub hx hb dX6_worth_122 ?_
                  obtain ⟨h_24, hf⟩ := z_ix hf
                  refine z_iald hx hb hK hP 133 0 (zX_133 cy ad S_9) rfl h_24 (k := ((x_7 - (1 : Int32)).toNatClampNeg)) rfl dX6_worth_123 ?_
                  refine lv_isub hx hb dX6_worth_124 ?_
                  obtain ⟨h_25, hf⟩ := z_ix hf
                  refine z_iast hx hb hK hP (hD S_9) hS 133 0 (zX_133 cy ad S_9) rfl h_25 (k := ((x_7 - (1 : Int32)).toNatClampNeg)) rfl dX6_worth_125 (fun H locs hP hS => ?_)
                  obtain ⟨S_26, eS_26, hf⟩ := z_nm hf
                  have hP := zW_putI hP eS_26 (by decide) rfl
                  refine lv_goto (tgt := 158) hx hb dX6_worth_126 (by decide) ?_
                  exact J_158 x_7 S_26 _ _ _ hf hP hS (lv_sub hl [1, 2, 3, 4, 5] rfl)
            · have hf := z_it c_34 hf
              refine lv_iload_n hx hb dX6_worth_78 rfl (lv_at hl 4 rfl) ?_
              refine lv_iconst (v := 1) hx hb dX6_worth_79 (by decide) ?_
              obtain ⟨j_97, ej_97, hf⟩ := z_nm hf
              have J_97 : ∀ (S_29 : zSt) (H : Heap) (locs : List Loc) (ls : Array Slot), j_97  S_29 = some (ro, So) → va_P D vwCl (zX cy ad S_29) H → va_S A s.heap H locs → lv_has ls 6 [(0, .ref (ad 20)), (1, .ref (ad 132)), (2, .ref (ad 133)), (4, .int x_8)] → W p l e ({ frames := 1, cells := 0, slots := 0, locals := 22 }) s m ([.ref (ad 20), .ref (ad 132), .ref (ad 133)] : List Value).toArray below meth c H locs 0 0 Q (F0 m 97 ls []) := by
                intro  S_29 H locs ls hf hP hS hl
                have hf := z_e1 ej_97 hf
                refine lv_iconst (v := 0) hx hb dX6_worth_97 (by decide) ?_
                refine lv_istore_n (lv' := [(3, .int (0 : Int32)), (0, .ref (ad 20)), (1, .ref (ad 132)), (2, .ref (ad 133)), (4, .int x_8)]) hx hb dX6_worth_98 rfl hl (by decide) rfl (fun ls hl => ?_)
                refine lv_goto (tgt := 158) hx hb dX6_worth_99 (by decide) ?_
                exact J_158 (0 : Int32) S_29 _ _ _ hf hP hS (lv_sub hl [1, 2, 3, 0, 4] rfl)
              refine lv_icmp_le (tgt := 97) hx hb dX6_worth_80 (by decide) (fun c_33 => ?_) (fun c_33 => ?_)
              · have hf := z_it c_33 hf
                exact J_97  S_9 _ _ _ hf hP hS (lv_sub hl [1, 2, 3, 5] rfl)
              · have hf := z_if c_33 hf
                refine lv_aload_n hx hb dX6_worth_83 rfl (lv_at hl 3 rfl) ?_
                refine lv_iload_n hx hb dX6_worth_84 rfl (lv_at hl 4 rfl) ?_
                refine lv_iconst (v := 1) hx hb dX6_worth_85 (by decide) ?_
                refine lv_isub hx hb dX6_worth_86 ?_
                obtain ⟨h_30, hf⟩ := z_ix hf
                refine z_iald hx hb hK hP 133 0 (zX_133 cy ad S_9) rfl h_30 (k := ((x_7 - (1 : Int32)).toNatClampNeg)) rfl dX6_worth_87 ?_
                refine lv_if_eq (tgt := 97) hx hb dX6_worth_88 (by decide) (fun c_32 => ?_) (fun c_32 => ?_)
                · have hf := z_it c_32 hf
                  exact J_97  S_9 _ _ _ hf hP hS (lv_sub hl [1, 2, 3, 5] rfl)
                · have hf := z_if c_32 hf
                  refine lv_aload_n hx hb dX6_worth_91 rfl (lv_at hl 3 rfl) ?_
                  refine lv_iload_n hx hb dX6_worth_92 rfl (lv_at hl 4 rfl) ?_
                  refine lv_iconst (v := 2) hx hb dX6_worth_93 (by decide) ?_
                  refine lv_isub hx hb dX6_worth_94 ?_
                  obtain ⟨h_31, hf⟩ := z_ix hf
                  refine z_iald hx hb hK hP 133 0 (zX_133 cy ad S_9) rfl h_31 (k := ((x_7 - (2 : Int32)).toNatClampNeg)) rfl dX6_worth_95 ?_
                  obtain ⟨h1, h2⟩ := z_s2 hf
                  subst h1 h2
                  exact hret _ _ _ _ hP hS dX6_worth_96
          · have hf := z_it c_35 hf
            exact J_56 x_7 S_9 _ _ _ hf hP hS (lv_sub hl [3, 4] rfl)
        · have hf := z_if c_43 hf
          refine lv_iload_n hx hb dX6_worth_28 rfl (lv_at hl 4 rfl) ?_
          refine lv_bipush (v := 64) hx hb dX6_worth_29 (by decide) ?_
          refine lv_icmp_ge (tgt := 158) hx hb dX6_worth_31 (by decide) (fun c_42 => ?_) (fun c_42 => ?_)
          · have hf := z_it c_42 hf
            exact J_158 x_7 S_9 _ _ _ hf hP hS (lv_sub hl [1, 2, 3, 4, 5] rfl)
          · have hf := z_if c_42 hf
            refine lv_aload_n hx hb dX6_worth_34 rfl (lv_at hl 3 rfl) ?_
            refine lv_iload_n hx hb dX6_worth_35 rfl (lv_at hl 4 rfl) ?_
            refine lv_iload hx hb dX6_worth_36 (lv_at hl 0 rfl) ?_
            refine lv_aload_n hx hb dX6_worth_38 rfl (lv_at hl 2 rfl) ?_
            obtain ⟨r_36, S_37, h_38, hf⟩ := z_bd hf
            refine z_cSI (As := [.int x_11, .ref (ad 132)]) (rest := [.int x_7, .ref (ad 133)]) X hK hE hD hA hP hS (cx_Rule_valueOf l D K cy ad S_9 _ _ _ h_38) (va_cwS 2 hts (z_gS wt_4_17 wt_4_18 wt_1_6 wt_4_19) rfl rfl rfl yd_yX6_valueOf ⟨Nat.le_of_ble_eq_true rfl, Nat.le_of_ble_eq_true rfl⟩) hl.1 rfl rfl (Nat.le_of_ble_eq_true rfl) dX6_worth_39 (fun H locs hP hS => ?_)
            obtain ⟨h_39, hf⟩ := z_ix hf
            refine z_iast hx hb hK hP (hD S_37) hS 133 0 (zX_133 cy ad S_37) rfl h_39 (k := (x_7.toNatClampNeg)) rfl dX6_worth_42 (fun H locs hP hS => ?_)
            obtain ⟨S_40, eS_40, hf⟩ := z_nm hf
            have hP := zW_putI hP eS_40 (by decide) rfl
            obtain ⟨x_41, ex_41, hf⟩ := z_nm hf
            refine lv_iinc (v := x_41) (lv' := [(3, .int x_41), (5, .int x_11), (0, .ref (ad 20)), (1, .ref (ad 132)), (2, .ref (ad 133)), (4, .int x_8)]) hx hb dX6_worth_43 hl (k := 4) rfl (by rw [ex_41]; rfl) (by decide) rfl (fun ls hl => ?_)
            refine lv_goto (tgt := 158) hx hb dX6_worth_46 (by decide) ?_
            exact J_158 x_41 S_40 _ _ _ hf hP hS (lv_sub hl [2, 3, 4, 0, 5] rfl)
  exact L_5 zFU (0 : Int32) (0 : Int32) S_0 _ _ _ hf hP hS (lv_sub hl [2, 3, 4, 1, 0] rfl)
