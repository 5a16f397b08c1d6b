def fx_Rises_likeliest_L15 (a_1 : Int32) (j_105 : Int32 → Int32 → zSt → Option (Int32 × zSt)) : Nat → Int32 → Int32 → Int64 → Int64 → Int32 → zSt → Option (Int32 × zSt)
  | 0, _, _, _, _, _, _ => none
  | n_15 + 1, x_8, x_9, x_10, x_11, x_12, S_13 =>
    if (S_13.1 4 0) ≤ x_12 then (
    j_105 x_8 x_9 S_13) else (
    zbd (fx_Rises_above S_13 x_12) fun r_14 S_15 =>
    zbd (fx_Rises_below S_15 x_12 r_14) fun r_17 S_18 =>
    zbd (fj13_compare S_18 (r_14 * x_11) (x_10 * r_17)) fun r_20 S_21 =>
    znm (fun (x_23 : Int32) (x_24 : Int64) (x_25 : Int64) (S_26 : zSt) =>
    znm (fun (x_27 : Int32) (S_28 : zSt) =>
    znm (x_12 + (1 : Int32)) fun x_29 =>
    fx_Rises_likeliest_L15 a_1 j_105 n_15 x_23 x_27 x_24 x_25 x_29 S_28) fun j_97 =>
    znm (fun (S_30 : zSt) =>
    j_97 (1 : Int32) S_30) fun j_92 =>
    if 0 < r_20 then (
    j_92  S_26) else (
    znm (fun (S_31 : zSt) =>
    j_97 (0 : Int32) S_31) fun j_96 =>
    if x_9 = 0 then (
    j_96  S_26) else (
    if 0 ≤ r_20 then (
    j_96  S_26) else (
    j_92  S_26)))) fun j_77 =>
    if r_20 ≤ 0 then (
    j_77 x_8 x_10 x_11 S_21) else (
    j_77 x_12 r_14 r_17 S_21))
def fx_Rises_likeliest (S_0 : zSt) (a_1 : Int32) : Option (Int32 × zSt) :=
  znm (fun (x_1 : Int32) (x_2 : Int32) (S_3 : zSt) =>
  if a_1 = 0 then (
  some (x_1, S_3)) else (
  znm (fun (x_4 : Int32) (S_5 : zSt) =>
  some (x_4, S_5)) fun j_119 =>
  if x_2 = 0 then (
  j_119 (0 : Int32) S_3) else (
  j_119 (1 : Int32) S_3))) fun j_105 =>
  fx_Rises_likeliest_L15 a_1 j_105 zFU (-1 : Int32) (0 : Int32) (0 : Int64) (1 : Int64) (0 : Int32) S_0
set_option maxHeartbeats 4000000 in
set_option maxRecDepth 100000 in
theorem cx_Rises_likeliest (l : Launch) (D : va_G) (K : (Nat → Nat) × (Nat → Nat)) (cy : Nat → ClassId) (ad : Nat → Nat) (S_0 : zSt) (a_1 : Int32) (ro : Int32) (So : zSt) (hf : fx_Rises_likeliest S_0 a_1 = some (ro, So)) : zMI l yX5_likeliest (zws yX5_likeliest cX5_likeliest 16 (Option.some .int)) ({ frames := 2, cells := 0, slots := 0, locals := 50 }) D (zTy cy) K (zX cy ad) [.ref (ad 29), .ref (ad 4), .ref (ad 1), .int a_1] S_0 ro So := by
  refine z_metI (own := RX5) (lv := [(0, .ref (ad 29)), (1, .ref (ad 4)), (2, .ref (ad 1)), (3, .int a_1)]) (by decide) rfl rfl (Nat.le_of_ble_eq_true rfl) rfl ?_
  intro p e s m below meth c A Q X hK hE hD hA hret hP hS ls hl
  obtain ⟨hx, hb, hml, hown, hts⟩ := id X
  have k0 := (fun w h => List.mem_cons_of_mem _ (zFX2 w h) : ∀ w ∈ u_ws RX2 TX2 7, w ∈ zws yX5_likeliest cX5_likeliest 16 (Option.some .int))
  have k1 := hts _ (List.mem_cons_of_mem _ wt_1_67)
  refine lv_iconst (v := -1) hx hb dX5_likeliest_0 (by decide) ?_
  refine lv_istore (lv' := [(4, .int (-1 : Int32)), (0, .ref (ad 29)), (1, .ref (ad 4)), (2, .ref (ad 1)), (3, .int a_1)]) hx hb dX5_likeliest_1 hl (by decide) rfl (fun ls hl => ?_)
  refine lv_iconst (v := 0) hx hb dX5_likeliest_3 (by decide) ?_
  refine lv_istore (lv' := [(5, .int (0 : Int32)), (4, .int (-1 : Int32)), (0, .ref (ad 29)), (1, .ref (ad 4)), (2, .ref (ad 1)), (3, .int a_1)]) hx hb dX5_likeliest_4 hl (by decide) rfl (fun ls hl => ?_)
  refine lv_lconst (v := 0) hx hb dX5_likeliest_6 (by decide) ?_
  refine lv_lstore (lv' := [(6, .long (0 : Int64)), (5, .int (0 : Int32)), (4, .int (-1 : Int32)), (0, .ref (ad 29)), (1, .ref (ad 4)), (2, .ref (ad 1)), (3, .int a_1)]) hx hb dX5_likeliest_7 hl (by decide) rfl (fun ls hl => ?_)
  refine lv_lconst (v := 1) hx hb dX5_likeliest_9 (by decide) ?_
  refine lv_lstore (lv' := [(8, .long (1 : Int64)), (6, .long (0 : Int64)), (5, .int (0 : Int32)), (4, .int (-1 : Int32)), (0, .ref (ad 29)), (1, .ref (ad 4)), (2, .ref (ad 1)), (3, .int a_1)]) hx hb dX5_likeliest_10 hl (by decide) rfl (fun ls hl => ?_)
  refine lv_iconst (v := 0) hx hb dX5_likeliest_12 (by decide) ?_
  refine lv_istore (lv' := [(10, .int (0 : Int32)), (8, .long (1 : Int64)), (6, .long (0 : Int64)), (5, .int (0 : Int32)), (4, .int (-1 : Int32)), (0, .ref (ad 29)), (1, .ref (ad 4)), (2, .ref (ad 1)), (3, .int a_1)]) hx hb dX5_likeliest_13 hl (by decide) rfl (fun ls hl => ?_)
  obtain ⟨j_105, ej_105, hf⟩ := z_nm hf
  have J_105 : ∀ (x_1 : Int32) (x_2 : Int32) (S_3 : zSt) (H : Heap) (locs : List Loc) (ls : Array Slot), j_105 x_1 x_2 S_3 = some (ro, So) → va_P D vwCl (zX cy ad S_3) H → va_S A s.heap H locs → lv_has ls 16 [(3, .int a_1), (4, .int x_1), (5, .int x_2)] → W p l e ({ frames := 2, cells := 0, slots := 0, locals := 50 }) s m ([.ref (ad 29), .ref (ad 4), .ref (ad 1), .int a_1] : List Value).toArray below meth c H locs 0 0 Q (F0 m 105 ls []) := by
    intro x_1 x_2 S_3 H locs ls hf hP hS hl
    have hf := z_e3 ej_105 hf
    refine lv_iload_n hx hb dX5_likeliest_105 rfl (lv_at hl 0 rfl) ?_
    refine lv_if_eq (tgt := 120) hx hb dX5_likeliest_106 (by decide) (fun c_7 => ?_) (fun c_7 => ?_)
    · have hf := z_it c_7 hf
      refine lv_iload hx hb dX5_likeliest_120 (lv_at hl 1 rfl) ?_
      obtain ⟨h1, h2⟩ := z_s2 hf
      subst h1 h2
      exact hret _ _ _ _ hP hS dX5_likeliest_122
    · have hf := z_if c_7 hf
      refine lv_iload hx hb dX5_likeliest_109 (lv_at hl 2 rfl) ?_
      obtain ⟨j_119, ej_119, hf⟩ := z_nm hf
      have J_119 : ∀ (x_4 : Int32) (S_5 : zSt) (H : Heap) (locs : List Loc) (ls : Array Slot), j_119 x_4 S_5 = some (ro, So) → va_P D vwCl (zX cy ad S_5) H → va_S A s.heap H locs → lv_has ls 16 [] → W p l e ({ frames := 2, cells := 0, slots := 0, locals := 50 }) s m ([.ref (ad 29), .ref (ad 4), .ref (ad 1), .int a_1] : List Value).toArray below meth c H locs 0 0 Q (F0 m 119 ls [.int x_4]) := by
        intro x_4 S_5 H locs ls hf hP hS hl
        have hf := z_e2 ej_119 hf
        obtain ⟨h1, h2⟩ := z_s2 hf
        subst h1 h2
        exact hret _ _ _ _ hP hS dX5_likeliest_119
      refine lv_if_eq (tgt := 118) hx hb dX5_likeliest_111 (by decide) (fun c_6 => ?_) (fun c_6 => ?_)
      · have hf := z_it c_6 hf
        refine lv_iconst (v := 0) hx hb dX5_likeliest_118 (by decide) ?_
        exact J_119 (0 : Int32) S_3 _ _ _ hf hP hS (lv_sub hl [] rfl)
      · have hf := z_if c_6 hf
        refine lv_iconst (v := 1) hx hb dX5_likeliest_114 (by decide) ?_
        refine lv_goto (tgt := 119) hx hb dX5_likeliest_115 (by decide) ?_
        exact J_119 (1 : Int32) S_3 _ _ _ hf hP hS (lv_sub hl [] rfl)
  have L_15 : ∀ (n_15 : Nat) (x_8 : Int32) (x_9 : Int32) (x_10 : Int64) (x_11 : Int64) (x_12 : Int32) (S_13 : zSt) (H : Heap) (locs : List Loc) (ls : Array Slot), fx_Rises_likeliest_L15 a_1 j_105 n_15 x_8 x_9 x_10 x_11 x_12 S_13 = some (ro, So) → va_P D vwCl (zX cy ad S_13) H → va_S A s.heap H locs → lv_has ls 16 [(0, .ref (ad 29)), (1, .ref (ad 4)), (2, .ref (ad 1)), (3, .int a_1), (4, .int x_8), (5, .int x_9), (6, .long x_10), (8, .long x_11), (10, .int x_12)] → W p l e ({ frames := 2, cells := 0, slots := 0, locals := 50 }) s m ([.ref (ad 29), .ref (ad 4), .ref (ad 1), .int a_1] : List Value).toArray below meth c H locs 0 0 Q (F0 m 15 ls []) := by
    intro n_15
    induction n_15 with
    | zero =>
      intro x_8 x_9 x_10 x_11 x_12 S_13 H locs ls hf hP hS hl
      exact z_no hf
    | succ n_15 ih_15 =>
      intro x_8 x_9 x_10 x_11 x_12 S_13 H locs ls hf hP hS hl
      rw [fx_Rises_likeliest_L15] at hf
      refine lv_iload hx hb dX5_likeliest_15 (lv_at hl 8 rfl) ?_
      refine lv_aload_n hx hb dX5_likeliest_17 rfl (lv_at hl 1 rfl) ?_
      refine va_get (D := D) (ci := 2) (v := .int (S_13.1 4 0)) (C := RX2) (T := TX2) (N := 7) hx hb hts k0 hown hK hP 4 (zX_4 cy ad S_13) rfl 0 (by decide) k1 (fun _ h9 => h9) rfl dX5_likeliest_18 ?_
      refine lv_icmp_ge (tgt := 105) hx hb dX5_likeliest_21 (by decide) (fun c_36 => ?_) (fun c_36 => ?_)
      · have hf := z_it c_36 hf
        exact J_105 x_8 x_9 S_13 _ _ _ hf hP hS (lv_sub hl [3, 4, 5] rfl)
      · have hf := z_if c_36 hf
        refine lv_aload_n hx hb dX5_likeliest_24 rfl (lv_at hl 0 rfl) ?_
        refine lv_aload_n hx hb dX5_likeliest_25 rfl (lv_at hl 1 rfl) ?_
        refine lv_iload hx hb dX5_likeliest_26 (lv_at hl 8 rfl) ?_
        refine lv_aload_n hx hb dX5_likeliest_28 rfl (lv_at hl 2 rfl) ?_
        obtain ⟨r_14, S_15, h_16, hf⟩ := z_bd hf
        refine z_cVL (As := [.ref (ad 4), .int x_12, .ref (ad 1)]) (rest := []) X hK hE hD hA hP hS (cx_Rises_above l D K cy ad S_13 _ _ _ h_16) (cwV 3 hts (z_gV wt_5_37 wt_5_16 wt_5_17 wt_1_8 wt_5_18) rfl rfl rfl ⟨rfl, yd_yX5_above⟩ ⟨Nat.le_of_ble_eq_true rfl, Nat.le_of_ble_eq_true rfl⟩) (va_recv hK hP (ci := 5) (q0 := 29) rfl (zX_29 cy ad S_13)) hl.1 rfl rfl (Nat.le_of_ble_eq_true rfl) dX5_likeliest_29 (fun H locs hP hS => ?_)
        refine lv_lstore (lv' := [(11, .long r_14), (0, .ref (ad 29)), (1, .ref (ad 4)), (2, .ref (ad 1)), (3, .int a_1), (4, .int x_8), (5, .int x_9), (6, .long x_10), (8, .long x_11), (10, .int x_12)]) hx hb dX5_likeliest_32 hl (by decide) rfl (fun ls hl => ?_)
        refine lv_aload_n hx hb dX5_likeliest_34 rfl (lv_at hl 1 rfl) ?_
        refine lv_aload_n hx hb dX5_likeliest_35 rfl (lv_at hl 2 rfl) ?_
        refine lv_iload hx hb dX5_likeliest_36 (lv_at hl 9 rfl) ?_
        refine lv_lload hx hb dX5_likeliest_38 (lv_at hl 0 rfl) ?_
        obtain ⟨r_17, S_18, h_19, hf⟩ := z_bd hf
        refine z_cVL (As := [.ref (ad 4), .int x_12, .long r_14]) (rest := []) X hK hE hD hA hP hS (cx_Rises_below l D K cy ad S_15 _ _ _ _ h_19) (cwV 3 hts (z_gV wt_5_38 wt_5_22 wt_5_23 wt_1_8 wt_5_24) rfl rfl rfl ⟨rfl, yd_yX5_below⟩ ⟨Nat.le_of_ble_eq_true rfl, Nat.le_of_ble_eq_true rfl⟩) (va_recv hK hP (ci := 5) (q0 := 29) rfl (zX_29 cy ad S_15)) hl.1 rfl rfl (Nat.le_of_ble_eq_true rfl) dX5_likeliest_40 (fun H locs hP hS => ?_)
        refine lv_lstore (lv' := [(13, .long r_17), (11, .long r_14), (0, .ref (ad 29)), (1, .ref (ad 4)), (2, .ref (ad 1)), (3, .int a_1), (4, .int x_8), (5, .int x_9), (6, .long x_10), (8, .long x_11), (10, .int x_12)]) hx hb dX5_likeliest_43 hl (by decide) rfl (fun ls hl => ?_)
        refine lv_lload hx hb dX5_likeliest_45 (lv_at hl 1 rfl) ?_
        refine lv_lload hx hb dX5_likeliest_47 (lv_at hl 9 rfl) ?_
        refine lv_lmul hx hb dX5_likeliest_49 ?_
        refine lv_lload hx hb dX5_likeliest_50 (lv_at hl 8 rfl) ?_
        refine lv_lload hx hb dX5_likeliest_52 (lv_at hl 0 rfl) ?_
        refine lv_lmul hx hb dX5_likeliest_54 ?_
        obtain ⟨r_20, S_21, h_22, hf⟩ := z_bd hf
        refine z_cSI (As := [.long (r_14 * x_11), .long (x_10 * r_17)]) (rest := []) X hK hE hD hA hP hS (cj13_compare l D K _ _ _ _ S_18 _ _ _ _ h_22) (va_cwS 2 hts (z_gS wt_5_39 wt_5_40 wt_1_22 wt_5_41) rfl rfl rfl yd_yJ13_compare_74951 ⟨Nat.le_of_ble_eq_true rfl, Nat.le_of_ble_eq_true rfl⟩) hl.1 rfl rfl (Nat.le_of_ble_eq_true rfl) dX5_likeliest_55 (fun H locs hP hS => ?_)
        refine lv_istore (lv' := [(15, .int r_20), (13, .long r_17), (11, .long r_14), (0, .ref (ad 29)), (1, .ref (ad 4)), (2, .ref (ad 1)), (3, .int a_1), (4, .int x_8), (5, .int x_9), (6, .long x_10), (8, .long x_11), (10, .int x_12)]) hx hb dX5_likeliest_58 hl (by decide) rfl (fun ls hl => ?_)
        refine lv_iload hx hb dX5_likeliest_60 (lv_at hl 0 rfl) ?_
        obtain ⟨j_77, ej_77, hf⟩ := z_nm hf
        have J_77 : ∀ (x_23 : Int32) (x_24 : Int64) (x_25 : Int64) (S_26 : zSt) (H : Heap) (locs : List Loc) (ls : Array Slot), j_77 x_23 x_24 x_25 S_26 = some (ro, So) → va_P D vwCl (zX cy ad S_26) H → va_S A s.heap H locs → lv_has ls 16 [(0, .ref (ad 29)), (1, .ref (ad 4)), (2, .ref (ad 1)), (3, .int a_1), (4, .int x_23), (5, .int x_9), (6, .long x_24), (8, .long x_25), (10, .int x_12), (15, .int r_20)] → W p l e ({ frames := 2, cells := 0, slots := 0, locals := 50 }) s m ([.ref (ad 29), .ref (ad 4), .ref (ad 1), .int a_1] : List Value).toArray below meth c H locs 0 0 Q (F0 m 77 ls []) := by
          intro x_23 x_24 x_25 S_26 H locs ls hf hP hS hl
          have hf := z_e4 ej_77 hf
          refine lv_iload hx hb dX5_likeliest_77 (lv_at hl 9 rfl) ?_
          obtain ⟨j_97, ej_97, hf⟩ := z_nm hf
          have J_97 : ∀ (x_27 : Int32) (S_28 : zSt) (H : Heap) (locs : List Loc) (ls : Array Slot), j_97 x_27 S_28 = some (ro, So) → va_P D vwCl (zX cy ad S_28) H → va_S A s.heap H locs → lv_has ls 16 [(0, .ref (ad 29)), (1, .ref (ad 4)), (2, .ref (ad 1)), (3, .int a_1), (4, .int x_23), (6, .long x_24), (8, .long x_25), (10, .int x_12)] → W p l e ({ frames := 2, cells := 0, slots := 0, locals := 50 }) s m ([.ref (ad 29), .ref (ad 4), .ref (ad 1), .int a_1] : List Value).toArray below meth c H locs 0 0 Q (F0 m 97 ls [.int x_27]) := by
            intro x_27 S_28 H locs ls hf hP hS hl
            have hf := z_e2 ej_97 hf
            refine lv_istore (lv' := [(5, .int x_27), (0, .ref (ad 29)), (1, .ref (ad 4)), (2, .ref (ad 1)), (3, .int a_1), (4, .int x_23), (6, .long x_24), (8, .long x_25), (10, .int x_12)]) hx hb dX5_likeliest_97 hl (by decide) rfl (fun ls hl => ?_)
            obtain ⟨x_29, ex_29, hf⟩ := z_nm hf
            refine lv_iinc (v := x_29) (lv' := [(10, .int x_29), (5, .int x_27), (0, .ref (ad 29)), (1, .ref (ad 4)), (2, .ref (ad 1)), (3, .int a_1), (4, .int x_23), (6, .long x_24), (8, .long x_25)]) hx hb dX5_likeliest_99 hl (k := 8) rfl (by rw [ex_29]; rfl) (by decide) rfl (fun ls hl => ?_)
            refine lv_goto (tgt := 15) hx hb dX5_likeliest_102 (by decide) ?_
            exact ih_15 x_23 x_27 x_24 x_25 x_29 S_28 _ _ _ hf hP hS (lv_sub hl [2, 3, 4, 5, 6, 1, 7, 8, 0] rfl)
          obtain ⟨j_92, ej_92, hf⟩ := z_nm hf
          have J_92 : ∀ (S_30 : zSt) (H : Heap) (locs : List Loc) (ls : Array Slot), j_92  S_30 = some (ro, So) → va_P D vwCl (zX cy ad S_30) H → va_S A s.heap H locs → lv_has ls 16 [(0, .ref (ad 29)), (1, .ref (ad 4)), (2, .ref (ad 1)), (3, .int a_1), (4, .int x_23), (6, .long x_24), (8, .long x_25), (10, .int x_12)] → W p l e ({ frames := 2, cells := 0, slots := 0, locals := 50 }) s m ([.ref (ad 29), .ref (ad 4), .ref (ad 1), .int a_1] : List Value).toArray below meth c H locs 0 0 Q (F0 m 92 ls []) := by
            intro  S_30 H locs ls hf hP hS hl
            have hf := z_e1 ej_92 hf
            refine lv_iconst (v := 1) hx hb dX5_likeliest_92 (by decide) ?_
            refine lv_goto (tgt := 97) hx hb dX5_likeliest_93 (by decide) ?_
            exact J_97 (1 : Int32) S_30 _ _ _ hf hP hS (lv_sub hl [0, 1, 2, 3, 4, 5, 6, 7] rfl)
          refine lv_if_gt (tgt := 92) hx hb dX5_likeliest_79 (by decide) (fun c_34 => ?_) (fun c_34 => ?_)
          · have hf := z_it c_34 hf
            exact J_92  S_26 _ _ _ hf hP hS (lv_sub hl [0, 1, 2, 3, 4, 6, 7, 8] rfl)
          · have hf := z_if c_34 hf
            refine lv_iload hx hb dX5_likeliest_82 (lv_at hl 5 rfl) ?_
            obtain ⟨j_96, ej_96, hf⟩ := z_nm hf
            have J_96 : ∀ (S_31 : zSt) (H : Heap) (locs : List Loc) (ls : Array Slot), j_96  S_31 = some (ro, So) → va_P D vwCl (zX cy ad S_31) H → va_S A s.heap H locs → lv_has ls 16 [(0, .ref (ad 29)), (1, .ref (ad 4)), (2, .ref (ad 1)), (3, .int a_1), (4, .int x_23), (6, .long x_24), (8, .long x_25), (10, .int x_12)] → W p l e ({ frames := 2, cells := 0, slots := 0, locals := 50 }) s m ([.ref (ad 29), .ref (ad 4), .ref (ad 1), .int a_1] : List Value).toArray below meth c H locs 0 0 Q (F0 m 96 ls []) := by
              intro  S_31 H locs ls hf hP hS hl
              have hf := z_e1 ej_96 hf
              refine lv_iconst (v := 0) hx hb dX5_likeliest_96 (by decide) ?_
              exact J_97 (0 : Int32) S_31 _ _ _ hf hP hS (lv_sub hl [0, 1, 2, 3, 4, 5, 6, 7] rfl)
            refine lv_if_eq (tgt := 96) hx hb dX5_likeliest_84 (by decide) (fun c_33 => ?_) (fun c_33 => ?_)
            · have hf := z_it c_33 hf
              exact J_96  S_26 _ _ _ hf hP hS (lv_sub hl [0, 1, 2, 3, 4, 6, 7, 8] rfl)
            · have hf := z_if c_33 hf
              refine lv_iload hx hb dX5_likeliest_87 (lv_at hl 9 rfl) ?_
              refine lv_if_ge (tgt := 96) hx hb dX5_likeliest_89 (by decide) (fun c_32 => ?_) (fun c_32 => ?_)
              · have hf := z_it c_32 hf
                exact J_96  S_26 _ _ _ hf hP hS (lv_sub hl [0, 1, 2, 3, 4, 6, 7, 8] rfl)
              · have hf := z_if c_32 hf
                exact J_92  S_26 _ _ _ hf hP hS (lv_sub hl [0, 1, 2, 3, 4, 6, 7, 8] rfl)
        refine lv_if_le (tgt := 77) hx hb dX5_likeliest_62 (by decide) (fun c_35 => ?_) (fun c_35 => ?_)
        · have hf := z_it c_35 hf
          exact J_77 x_8 x_10 x_11 S_21 _ _ _ hf hP hS (lv_sub hl [3, 4, 5, 6, 7, 8, 9, 10, 11, 0] rfl)
        · have hf := z_if c_35 hf
          refine lv_iload hx hb dX5_likeliest_65 (lv_at hl 11 rfl) ?_
          refine lv_istore (lv' := [(4, .int x_12), (15, .int r_20), (13, .long r_17), (11, .long r_14), (0, .ref (ad 29)), (1, .ref (ad 4)), (2, .ref (ad 1)), (3, .int a_1), (5, .int x_9), (6, .long x_10), (8, .long x_11), (10, .int x_12)]) hx hb dX5_likeliest_67 hl (by decide) rfl (fun ls hl => ?_)
          refine lv_lload hx hb dX5_likeliest_69 (lv_at hl 3 rfl) ?_
          refine lv_lstore (lv' := [(6, .long r_14), (4, .int x_12), (15, .int r_20), (13, .long r_17), (11, .long r_14), (0, .ref (ad 29)), (1, .ref (ad 4)), (2, .ref (ad 1)), (3, .int a_1), (5, .int x_9), (8, .long x_11), (10, .int x_12)]) hx hb dX5_likeliest_71 hl (by decide) rfl (fun ls hl => ?_)
          refine lv_lload hx hb dX5_likeliest_73 (lv_at hl 3 rfl) ?_
          refine lv_lstore (lv' := [(8, .long r_17), (6, .long r_14), (4, .int x_12), (15, .int r_20), (13, .long r_17), (11, .long r_14), (0, .ref (ad 29)), (1, .ref (ad 4)), (2, .ref (ad 1)), (3, .int a_1), (5, .int x_9), (10, .int x_12)]) hx hb dX5_likeliest_75 hl (by decide) rfl (fun ls hl => ?_)
          exact J_77 x_12 r_14 r_17 S_21 _ _ _ hf hP hS (lv_sub hl [6, 7, 8, 9, 2, 10, 1, 0, 11, 3] rfl)
  exact L_15 zFU (-1 : Int32) (0 : Int32) (0 : Int64) (1 : Int64) (0 : Int32) S_0 _ _ _ hf hP hS (lv_sub hl [5, 6, 7, 8, 4, 3, 2, 1, 0] rfl)
def fx_Reader_begin (S_0 : zSt) : Option (Unit × zSt) :=
  znm (zpI S_0 125 2 (0 : Int32)) fun S_1 =>
  znm (zpI S_1 125 3 (0 : Int32)) fun S_2 =>
  znm (zpI S_2 125 4 (0 : Int32)) fun S_3 =>
  znm (zpI S_3 125 5 (-1 : Int32)) fun S_4 =>
  znm (zpI S_4 125 7 (0 : Int32)) fun S_5 =>
  znm (zpI S_5 125 8 (0 : Int32)) fun S_6 =>
  znm (zpI S_6 125 9 (4 : Int32)) fun S_7 =>
  znm (zpI S_7 125 10 (0 : Int32)) fun S_8 =>
  znm (zpI S_8 125 11 (0 : Int32)) fun S_9 =>
  znm (zpI S_9 125 12 (0 : Int32)) fun S_10 =>
  some ((), S_10)
set_option maxHeartbeats 4000000 in
set_option maxRecDepth 100000 in
theorem cx_Reader_begin (l : Launch) (D : va_G) (K : (Nat → Nat) × (Nat → Nat)) (cy : Nat → ClassId) (ad : Nat → Nat) (S_0 : zSt) (So : zSt) (hf : fx_Reader_begin S_0 = some ((), So)) : zMV l yX7_begin (zws yX7_begin cX7_begin 1 none) ({ frames := 0, cells := 0, slots := 0, locals := 0 }) D (zTy cy) K (zX cy ad) [.ref (ad 125)] S_0 So := by
  refine z_metV (own := RX7) (lv := [(0, .ref (ad 125))]) (by decide) rfl rfl (Nat.le_of_ble_eq_true rfl) rfl ?_
  intro p e s m below meth c A Q X hK hE hD hA hret hP hS ls hl
  obtain ⟨hx, hb, hml, hown, hts⟩ := id X
  have k0 := (fun w h => List.mem_cons_of_mem _ (zFX7 w h) : ∀ w ∈ u_ws RX7 TX7 16, w ∈ zws yX7_begin cX7_begin 1 none)
  have k1 := hts _ (List.mem_cons_of_mem _ wt_2_51)
  have k2 := hts _ (List.mem_cons_of_mem _ wt_2_53)
  have k3 := hts _ (List.mem_cons_of_mem _ wt_2_55)
  have k4 := hts _ (List.mem_cons_of_mem _ wt_2_57)
  have k5 := hts _ (List.mem_cons_of_mem _ wt_2_60)
  have k6 := hts _ (List.mem_cons_of_mem _ wt_2_61)
  have k7 := hts _ (List.mem_cons_of_mem _ wt_2_62)
  have k8 := hts _ (List.mem_cons_of_mem _ wt_2_63)
  have k9 := hts _ (List.mem_cons_of_mem _ wt_2_64)
  have k10 := hts _ (List.mem_cons_of_mem _ wt_2_65)
  refine lv_aload_n hx hb dX7_begin_0 rfl (lv_at hl 0 rfl) ?_
  refine lv_iconst (v := 0) hx hb dX7_begin_1 (by decide) ?_
  refine va_put (D := D) (ci := 7) (v := .int (0 : Int32)) (ty := .int) (C := RX7) (T := TX7) (N := 16) hx hb hts k0 tyX7 tyX7_ok nmX7 hown hK hP (hD S_0) hS 125 (zX_125 cy ad S_0) rfl 2 (by decide) k1 (fun _ h9 => h9) rfl (tyX7_ok 2 (by decide)) rfl rfl (Nat.le_of_ble_eq_true rfl) dX7_begin_2 (fun H locs hP _ hS => ?_)
  obtain ⟨S_1, eS_1, hf⟩ := z_nm hf
  have hP := zW_putI hP eS_1 (by decide) rfl
  refine lv_aload_n hx hb dX7_begin_5 rfl (lv_at hl 0 rfl) ?_
  refine lv_iconst (v := 0) hx hb dX7_begin_6 (by decide) ?_
  refine va_put (D := D) (ci := 7) (v := .int (0 : Int32)) (ty := .int) (C := RX7) (T := TX7) (N := 16) hx hb hts k0 tyX7 tyX7_ok nmX7 hown hK hP (hD S_1) hS 125 (zX_125 cy ad S_1) rfl 3 (by decide) k2 (fun _ h9 => h9) rfl (tyX7_ok 3 (by decide)) rfl rfl (Nat.le_of_ble_eq_true rfl) dX7_begin_7 (fun H locs hP _ hS => ?_)
  obtain ⟨S_2, eS_2, hf⟩ := z_nm hf
  have hP := zW_putI hP eS_2 (by decide) rfl
  refine lv_aload_n hx hb dX7_begin_10 rfl (lv_at hl 0 rfl) ?_
  refine lv_iconst (v := 0) hx hb dX7_begin_11 (by decide) ?_
  refine va_put (D := D) (ci := 7) (v := .int (0 : Int32)) (ty := .int) (C := RX7) (T := TX7) (N := 16) hx hb hts k0 tyX7 tyX7_ok nmX7 hown hK hP (hD S_2) hS 125 (zX_125 cy ad S_2) rfl 4 (by decide) k3 (fun _ h9 => h9) rfl (tyX7_ok 4 (by decide)) rfl rfl (Nat.le_of_ble_eq_true rfl) dX7_begin_12 (fun H locs hP _ hS => ?_)
  obtain ⟨S_3, eS_3, hf⟩ := z_nm hf
  have hP := zW_putI hP eS_3 (by decide) rfl
  refine lv_aload_n hx hb dX7_begin_15 rfl (lv_at hl 0 rfl) ?_
  refine lv_iconst (v := -1) hx hb dX7_begin_16 (by decide) ?_
  refine va_put (D := D) (ci := 7) (v := .int (-1 : Int32)) (ty := .int) (C := RX7) (T := TX7) (N := 16) hx hb hts k0 tyX7 tyX7_ok nmX7 hown hK hP (hD S_3) hS 125 (zX_125 cy ad S_3) rfl 5 (by decide) k4 (fun _ h9 => h9) rfl (tyX7_ok 5 (by decide)) rfl rfl (Nat.le_of_ble_eq_true rfl) dX7_begin_17 (fun H locs hP _ hS => ?_)
  obtain ⟨S_4, eS_4, hf⟩ := z_nm hf
  have hP := zW_putI hP eS_4 (by decide) rfl
  refine lv_aload_n hx hb dX7_begin_20 rfl (lv_at hl 0 rfl) ?_
  refine lv_iconst (v := 0) hx hb dX7_begin_21 (by decide) ?_
  refine va_put (D := D) (ci := 7) (v := .int (0 : Int32)) (ty := .int) (C := RX7) (T := TX7) (N := 16) hx hb hts k0 tyX7 tyX7_ok nmX7 hown hK hP (hD S_4) hS 125 (zX_125 cy ad S_4) rfl 7 (by decide) k5 (fun _ h9 => h9) rfl (tyX7_ok 7 (by decide)) rfl rfl (Nat.le_of_ble_eq_true rfl) dX7_begin_22 (fun H locs hP _ hS => ?_)
  obtain ⟨S_5, eS_5, hf⟩ := z_nm hf
  have hP := zW_putI hP eS_5 (by decide) rfl
  refine lv_aload_n hx hb dX7_begin_25 rfl (lv_at hl 0 rfl) ?_
  refine lv_iconst (v := 0) hx hb dX7_begin_26 (by decide) ?_
  refine va_put (D := D) (ci := 7) (v := .int (0 : Int32)) (ty := .int) (C := RX7) (T := TX7) (N := 16) hx hb hts k0 tyX7 tyX7_ok nmX7 hown hK hP (hD S_5) hS 125 (zX_125 cy ad S_5) rfl 8 (by decide) k6 (fun _ h9 => h9) rfl (tyX7_ok 8 (by decide)) rfl rfl (Nat.le_of_ble_eq_true rfl) dX7_begin_27 (fun H locs hP _ hS => ?_)
  obtain ⟨S_6, eS_6, hf⟩ := z_nm hf
  have hP := zW_putI hP eS_6 (by decide) rfl
  refine lv_aload_n hx hb dX7_begin_30 rfl (lv_at hl 0 rfl) ?_
  refine lv_iconst (v := 4) hx hb dX7_begin_31 (by decide) ?_
  refine va_put (D := D) (ci := 7) (v := .int (4 : Int32)) (ty := .int) (C := RX7) (T := TX7) (N := 16) hx hb hts k0 tyX7 tyX7_ok nmX7 hown hK hP (hD S_6) hS 125 (zX_125 cy ad S_6) rfl 9 (by decide) k7 (fun _ h9 => h9) rfl (tyX7_ok 9 (by decide)) rfl rfl (Nat.le_of_ble_eq_true rfl) dX7_begin_32 (fun H locs hP _ hS => ?_)
  obtain ⟨S_7, eS_7, hf⟩ := z_nm hf
  have hP := zW_putI hP eS_7 (by decide) rfl
  refine lv_aload_n hx hb dX7_begin_35 rfl (lv_at hl 0 rfl) ?_
  refine lv_iconst (v := 0) hx hb dX7_begin_36 (by decide) ?_
  refine va_put (D := D) (ci := 7) (v := .int (0 : Int32)) (ty := .int) (C := RX7) (T := TX7) (N := 16) hx hb hts k0 tyX7 tyX7_ok nmX7 hown hK hP (hD S_7) hS 125 (zX_125 cy ad S_7) rfl 10 (by decide) k8 (fun _ h9 => h9) rfl (tyX7_ok 10 (by decide)) rfl rfl (Nat.le_of_ble_eq_true rfl) dX7_begin_37 (fun H locs hP _ hS => ?_)
  obtain ⟨S_8, eS_8, hf⟩ := z_nm hf
  have hP := zW_putI hP eS_8 (by decide) rfl
  refine lv_aload_n hx hb dX7_begin_40 rfl (lv_at hl 0 rfl) ?_
  refine lv_iconst (v := 0) hx hb dX7_begin_41 (by decide) ?_
  refine va_put (D := D) (ci := 7) (v := .int (0 : Int32)) (ty := .int) (C := RX7) (T := TX7) (N := 16) hx hb hts k0 tyX7 tyX7_ok nmX7 hown hK hP (hD S_8) hS 125 (zX_125 cy ad S_8) rfl 11 (by decide) k9 (fun _ h9 => h9) rfl (tyX7_ok 11 (by decide)) rfl rfl (Nat.le_of_ble_eq_true rfl) dX7_begin_42 (fun H locs hP _ hS => ?_)
  obtain ⟨S_9, eS_9, hf⟩ := z_nm hf
  have hP := zW_putI hP eS_9 (by decide) rfl
  refine lv_aload_n hx hb dX7_begin_45 rfl (lv_at hl 0 rfl) ?_
  refine lv_iconst (v := 0) hx hb dX7_begin_46 (by decide) ?_
  refine va_put (D := D) (ci := 7) (v := .int (0 : Int32)) (ty := .int) (C := RX7) (T := TX7) (N := 16) hx hb hts k0 tyX7 tyX7_ok nmX7 hown hK hP (hD S_9) hS 125 (zX_125 cy ad S_9) rfl 12 (by decide) k10 (fun _ h9 => h9) rfl (tyX7_ok 12 (by decide)) rfl rfl (Nat.le_of_ble_eq_true rfl) dX7_begin_47 (fun H locs hP _ hS => ?_)
  obtain ⟨S_10, eS_10, hf⟩ := z_nm hf
  have hP := zW_putI hP eS_10 (by decide) rfl
  obtain ⟨h1, h2⟩ := z_s2 hf
  subst h2
  exact hret _ _ _ _ hP hS dX7_begin_50
def fx_Reader_bindingOf (S_0 : zSt) (a_1 : Int32) : Option (Int32 × zSt) :=
  znm (fun (S_1 : zSt) =>
  some ((5 : Int32), S_1)) fun j_84 =>
  znm (fun (S_2 : zSt) =>
  some ((4 : Int32), S_2)) fun j_82 =>
  if a_1 = (43 : Int32) then (
  j_84  S_0) else (
  if a_1 = (45 : Int32) then (
  j_84  S_0) else (
  if a_1 = (60 : Int32) then (
  j_82  S_0) else (
  if a_1 = (61 : Int32) then (
  j_82  S_0) else (
  if a_1 = (62 : Int32) then (
  j_82  S_0) else (
  if a_1 = (258 : Int32) then (
  some ((1 : Int32), S_0)) else (
  if a_1 = (259 : Int32) then (
  some ((2 : Int32), S_0)) else (
  if a_1 = (260 : Int32) then (
  some ((3 : Int32), S_0)) else (
  some ((6 : Int32), S_0)))))))))
set_option maxHeartbeats 4000000 in
set_option maxRecDepth 100000 in
theorem cx_Reader_bindingOf (l : Launch) (D : va_G) (K : (Nat → Nat) × (Nat → Nat)) (cy : Nat → ClassId) (ad : Nat → Nat) (S_0 : zSt) (a_1 : Int32) (ro : Int32) (So : zSt) (hf : fx_Reader_bindingOf S_0 a_1 = some (ro, So)) : zMI l yX7_bindingOf (zws yX7_bindingOf cX7_bindingOf 1 (Option.some .int)) ({ frames := 0, cells := 0, slots := 0, locals := 0 }) D (zTy cy) K (zX cy ad) [.int a_1] S_0 ro So := by
  refine z_metI (own := RX7) (lv := [(0, .int a_1)]) (by decide) rfl rfl (Nat.le_of_ble_eq_true rfl) rfl ?_
  intro p e s m below meth c A Q X hK hE hD hA hret hP hS ls hl
  obtain ⟨hx, hb, hml, hown, hts⟩ := id X
  refine lv_iload_n hx hb dX7_bindingOf_0 rfl (lv_at hl 0 rfl) ?_
  obtain ⟨j_84, ej_84, hf⟩ := z_nm hf
  have J_84 : ∀ (S_1 : zSt) (H : Heap) (locs : List Loc) (ls : Array Slot), j_84  S_1 = some (ro, So) → va_P D vwCl (zX cy ad S_1) H → va_S A s.heap H locs → lv_has ls 1 [] → W p l e ({ frames := 0, cells := 0, slots := 0, locals := 0 }) s m ([.int a_1] : List Value).toArray below meth c H locs 0 0 Q (F0 m 84 ls []) := by
    intro  S_1 H locs ls hf hP hS hl
    have hf := z_e1 ej_84 hf
    refine lv_iconst (v := 5) hx hb dX7_bindingOf_84 (by decide) ?_
    obtain ⟨h1, h2⟩ := z_s2 hf
    subst h1 h2
    exact hret _ _ _ _ hP hS dX7_bindingOf_85
  obtain ⟨j_82, ej_82, hf⟩ := z_nm hf
  have J_82 : ∀ (S_2 : zSt) (H : Heap) (locs : List Loc) (ls : Array Slot), j_82  S_2 = some (ro, So) → va_P D vwCl (zX cy ad S_2) H → va_S A s.heap H locs → lv_has ls 1 [] → W p l e ({ frames := 0, cells := 0, slots := 0, locals := 0 }) s m ([.int a_1] : List Value).toArray below meth c H locs 0 0 Q (F0 m 82 ls []) := by
    intro  S_2 H locs ls hf hP hS hl
    have hf := z_e1 ej_82 hf
    refine lv_iconst (v := 4) hx hb dX7_bindingOf_82 (by decide) ?_
    obtain ⟨h1, h2⟩ := z_s2 hf
    subst h1 h2
    exact hret _ _ _ _ hP hS dX7_bindingOf_83
  by_cases c_3 : a_1 = (43 : Int32)
  · have hf := z_it c_3 hf
    refine lv_lookup (off := 83) (tgt := 84) hx hb dX7_bindingOf_1 (by decide) (by rw [c_3]; rfl) (by decide) ?_
    exact J_84  S_0 _ _ _ hf hP hS (lv_sub hl [] rfl)
  have hf := z_if c_3 hf
  have n_4 : a_1.toInt ≠ 43 := z_ne c_3 (by decide)
  by_cases c_5 : a_1 = (45 : Int32)
  · have hf := z_it c_5 hf
    refine lv_lookup (off := 83) (tgt := 84) hx hb dX7_bindingOf_1 (by decide) (by rw [c_5]; rfl) (by decide) ?_
    exact J_84  S_0 _ _ _ hf hP hS (lv_sub hl [] rfl)
  have hf := z_if c_5 hf
  have n_6 : a_1.toInt ≠ 45 := z_ne c_5 (by decide)
  by_cases c_7 : a_1 = (60 : Int32)
  · have hf := z_it c_7 hf
    refine lv_lookup (off := 81) (tgt := 82) hx hb dX7_bindingOf_1 (by decide) (by rw [c_7]; rfl) (by decide) ?_
    exact J_82  S_0 _ _ _ hf hP hS (lv_sub hl [] rfl)
  have hf := z_if c_7 hf
  have n_8 : a_1.toInt ≠ 60 := z_ne c_7 (by decide)
  by_cases c_9 : a_1 = (61 : Int32)
  · have hf := z_it c_9 hf
    refine lv_lookup (off := 81) (tgt := 82) hx hb dX7_bindingOf_1 (by decide) (by rw [c_9]; rfl) (by decide) ?_
    exact J_82  S_0 _ _ _ hf hP hS (lv_sub hl [] rfl)
  have hf := z_if c_9 hf
  have n_10 : a_1.toInt ≠ 61 := z_ne c_9 (by decide)
  by_cases c_11 : a_1 = (62 : Int32)
  · have hf := z_it c_11 hf
    refine lv_lookup (off := 81) (tgt := 82) hx hb dX7_bindingOf_1 (by decide) (by rw [c_11]; rfl) (by decide) ?_
    exact J_82  S_0 _ _ _ hf hP hS (lv_sub hl [] rfl)
  have hf := z_if c_11 hf
  have n_12 : a_1.toInt ≠ 62 := z_ne c_11 (by decide)
  by_cases c_13 : a_1 = (258 : Int32)
  · have hf := z_it c_13 hf
    refine lv_lookup (off := 75) (tgt := 76) hx hb dX7_bindingOf_1 (by decide) (by rw [c_13]; rfl) (by decide) ?_
    refine lv_iconst (v := 1) hx hb dX7_bindingOf_76 (by decide) ?_
    obtain ⟨h1, h2⟩ := z_s2 hf
    subst h1 h2
    exact hret _ _ _ _ hP hS dX7_bindingOf_77
  have hf := z_if c_13 hf
  have n_14 : a_1.toInt ≠ 258 := z_ne c_13 (by decide)
  by_cases c_15 : a_1 = (259 : Int32)
  · have hf := z_it c_15 hf
    refine lv_lookup (off := 77) (tgt := 78) hx hb dX7_bindingOf_1 (by decide) (by rw [c_15]; rfl) (by decide) ?_
    refine lv_iconst (v := 2) hx hb dX7_bindingOf_78 (by decide) ?_
    obtain ⟨h1, h2⟩ := z_s2 hf
    subst h1 h2
    exact hret _ _ _ _ hP hS dX7_bindingOf_79
  have hf := z_if c_15 hf
  have n_16 : a_1.toInt ≠ 259 := z_ne c_15 (by decide)
  by_cases c_17 : a_1 = (260 : Int32)
  · have hf := z_it c_17 hf
    refine lv_lookup (off := 79) (tgt := 80) hx hb dX7_bindingOf_1 (by decide) (by rw [c_17]; rfl) (by decide) ?_
    refine lv_iconst (v := 3) hx hb dX7_bindingOf_80 (by decide) ?_
    obtain ⟨h1, h2⟩ := z_s2 hf
    subst h1 h2
    exact hret _ _ _ _ hP hS dX7_bindingOf_81
  have hf := z_if c_17 hf
  have n_18 : a_1.toInt ≠ 260 := z_ne c_17 (by decide)
  refine lv_lookup (off := 85) (tgt := 86) hx hb dX7_bindingOf_1 (by decide) (by simp only [Op.lookupswitch.offset_cons, Op.lookupswitch.offset_nil, ne_eq]; simp [n_4, n_6, n_8, n_10, n_12, n_14, n_16, n_18, Ne.symm n_4, Ne.symm n_6, Ne.symm n_8, Ne.symm n_10, Ne.symm n_12, Ne.symm n_14, Ne.symm n_16, Ne.symm n_18]) (by decide) ?_
  refine lv_bipush (v := 6) hx hb dX7_bindingOf_86 (by decide) ?_
  obtain ⟨h1, h2⟩ := z_s2 hf
  subst h1 h2
  exact hret _ _ _ _ hP hS dX7_bindingOf_88
def fx_Reader_emit (S_0 : zSt) (a_1 : Int32) : Option (Unit × zSt) :=
  znm (fun (S_1 : zSt) =>
  some ((), S_1)) fun j_30 =>
  if (400 : Int32) ≤ (S_0.1 125 2) then (
  j_30  S_0) else (
  zck (zix (S_0.1 125 2) 400) <|
  znm (zpI S_0 126 ((S_0.1 125 2).toNatClampNeg) a_1) fun S_3 =>
  znm (zpI S_3 125 2 ((S_3.1 125 2) + (1 : Int32))) fun S_4 =>
  j_30  S_4)
set_option maxHeartbeats 4000000 in
set_option maxRecDepth 100000 in
theorem cx_Reader_emit (l : Launch) (D : va_G) (K : (Nat → Nat) × (Nat → Nat)) (cy : Nat → ClassId) (ad : Nat → Nat) (S_0 : zSt) (a_1 : Int32) (So : zSt) (hf : fx_Reader_emit S_0 a_1 = some ((), So)) : zMV l yX7_emit (zws yX7_emit cX7_emit 2 none) ({ frames := 0, cells := 0, slots := 0, locals := 0 }) D (zTy cy) K (zX cy ad) [.ref (ad 125), .int a_1] S_0 So := by
  refine z_metV (own := RX7) (lv := [(0, .ref (ad 125)), (1, .int a_1)]) (by decide) rfl rfl (Nat.le_of_ble_eq_true rfl) rfl ?_
  intro p e s m below meth c A Q X hK hE hD hA hret hP hS ls hl
  obtain ⟨hx, hb, hml, hown, hts⟩ := id X
  have k0 := (fun w h => List.mem_cons_of_mem _ (zFX7 w h) : ∀ w ∈ u_ws RX7 TX7 16, w ∈ zws yX7_emit cX7_emit 2 none)
  have k1 := hts _ (List.mem_cons_of_mem _ wt_2_51)
  have k2 := hts _ (List.mem_cons_of_mem _ wt_2_49)
  refine lv_aload_n hx hb dX7_emit_0 rfl (lv_at hl 0 rfl) ?_
  refine va_get (D := D) (ci := 7) (v := .int (S_0.1 125 2)) (C := RX7) (T := TX7) (N := 16) hx hb hts k0 hown hK hP 125 (zX_125 cy ad S_0) rfl 2 (by decide) k1 (fun _ h9 => h9) rfl dX7_emit_1 ?_
  refine lv_sipush (v := 400) hx hb dX7_emit_4 (by decide) ?_
  obtain ⟨j_30, ej_30, hf⟩ := z_nm hf
  have J_30 : ∀ (S_1 : zSt) (H : Heap) (locs : List Loc) (ls : Array Slot), j_30  S_1 = some ((), So) → va_P D vwCl (zX cy ad S_1) H → va_S A s.heap H locs → lv_has ls 2 [] → W p l e ({ frames := 0, cells := 0, slots := 0, locals := 0 }) s m ([.ref (ad 125), .int a_1] : List Value).toArray below meth c H locs 0 0 Q (F0 m 30 ls []) := by
    intro  S_1 H locs ls hf hP hS hl
    have hf := z_e1 ej_30 hf
    obtain ⟨h1, h2⟩ := z_s2 hf
    subst h2
    exact hret _ _ _ _ hP hS dX7_emit_30
  refine lv_icmp_ge (tgt := 30) hx hb dX7_emit_7 (by decide) (fun c_5 => ?_) (fun c_5 => ?_)
  · have hf := z_it c_5 hf
    exact J_30  S_0 _ _ _ hf hP hS (lv_sub hl [] rfl)
  · have hf := z_if c_5 hf
    refine lv_aload_n hx hb dX7_emit_10 rfl (lv_at hl 0 rfl) ?_
    refine va_get (D := D) (ci := 7) (v := .ref (ad 126)) (C := RX7) (T := TX7) (N := 16) hx hb hts k0 hown hK hP 125 (zX_125 cy ad S_0) rfl 1 (by decide) k2 (fun _ h9 => h9) rfl dX7_emit_11 ?_
    refine lv_aload_n hx hb dX7_emit_14 rfl (lv_at hl 0 rfl) ?_
    refine va_get (D := D) (ci := 7) (v := .int (S_0.1 125 2)) (C := RX7) (T := TX7) (N := 16) hx hb hts k0 hown hK hP 125 (zX_125 cy ad S_0) rfl 2 (by decide) k1 (fun _ h9 => h9) rfl dX7_emit_15 ?_
    refine lv_iload_n hx hb dX7_emit_18 rfl (lv_at hl 1 rfl) ?_
    obtain ⟨h_2, hf⟩ := z_ix hf
    refine z_iast hx hb hK hP (hD S_0) hS 126 0 (zX_126 cy ad S_0) rfl h_2 (k := ((S_0.1 125 2).toNatClampNeg)) rfl dX7_emit_19 (fun H locs hP hS => ?_)
    obtain ⟨S_3, eS_3, hf⟩ := z_nm hf
    have hP := zW_putI hP eS_3 (by decide) rfl
    refine lv_aload_n hx hb dX7_emit_20 rfl (lv_at hl 0 rfl) ?_
    refine lv_dup hx hb dX7_emit_21 rfl ?_
    refine va_get (D := D) (ci := 7) (v := .int (S_3.1 125 2)) (C := RX7) (T := TX7) (N := 16) hx hb hts k0 hown hK hP 125 (zX_125 cy ad S_3) rfl 2 (by decide) k1 (fun _ h9 => h9) rfl dX7_emit_22 ?_
    refine lv_iconst (v := 1) hx hb dX7_emit_25 (by decide) ?_
    refine lv_iadd hx hb dX7_emit_26 ?_
    refine va_put (D := D) (ci := 7) (v := .int ((S_3.1 125 2) + (1 : Int32))) (ty := .int) (C := RX7) (T := TX7) (N := 16) hx hb hts k0 tyX7 tyX7_ok nmX7 hown hK hP (hD S_3) hS 125 (zX_125 cy ad S_3) rfl 2 (by decide) k1 (fun _ h9 => h9) rfl (tyX7_ok 2 (by decide)) rfl rfl (Nat.le_of_ble_eq_true rfl) dX7_emit_27 (fun H locs hP _ hS => ?_)
    obtain ⟨S_4, eS_4, hf⟩ := z_nm hf
    have hP := zW_putI hP eS_4 (by decide) rfl
    exact J_30  S_4 _ _ _ hf hP hS (lv_sub hl [] rfl)
def fx_Reader_emitWaiting_L0 (a_1 : Int32) (j_93 : zSt → Option (Unit × zSt)) : Nat → zSt → Option (Unit × zSt)
  | 0, _ => none
  | n_0 + 1, S_2 =>
    if (S_2.1 125 7) ≤ 0 then (
    j_93  S_2) else (
    zck (zix ((S_2.1 125 7) - (1 : Int32)) 64) <|
    if (S_2.1 127 (((S_2.1 125 7) - (1 : Int32)).toNatClampNeg)) = (40 : Int32) then (
    j_93  S_2) else (
    zck (zix ((S_2.1 125 7) - (1 : Int32)) 64) <|
    zbd (fx_Reader_bindingOf S_2 (S_2.1 127 (((S_2.1 125 7) - (1 : Int32)).toNatClampNeg))) fun r_5 S_6 =>
    if r_5 < a_1 then (
    j_93  S_6) else (
    znm (zpI S_6 125 7 ((S_6.1 125 7) - (1 : Int32))) fun S_8 =>
    zck (zix (S_8.1 125 7) 64) <|
    znm (fun (S_10 : zSt) =>
    zck (zix (S_10.1 125 7) 64) <|
    zbd (fx_Reader_emit S_10 (-(S_10.1 127 ((S_10.1 125 7).toNatClampNeg)))) fun _ S_13 =>
    fx_Reader_emitWaiting_L0 a_1 j_93 n_0  S_13) fun j_76 =>
    if (S_8.1 127 ((S_8.1 125 7).toNatClampNeg)) = (260 : Int32) then (
    znm (zpI S_8 125 10 ((S_8.1 125 10) - (1 : Int32))) fun S_15 =>
    j_76  S_15) else (
    j_76  S_8))))
def fx_Reader_emitWaiting (S_0 : zSt) (a_1 : Int32) : Option (Unit × zSt) :=
  znm (fun (S_1 : zSt) =>
  some ((), S_1)) fun j_93 =>
  fx_Reader_emitWaiting_L0 a_1 j_93 zFU  S_0
set_option maxHeartbeats 4000000 in
set_option maxRecDepth 100000 in
theorem cx_Reader_emitWaiting (l : Launch) (D : va_G) (K : (Nat → Nat) × (Nat → Nat)) (cy : Nat → ClassId) (ad : Nat → Nat) (S_0 : zSt) (a_1 : Int32) (So : zSt) (hf : fx_Reader_emitWaiting S_0 a_1 = some ((), So)) : zMV l yX7_emitWaiting (zws yX7_emitWaiting cX7_emitWaiting 2 none) ({ frames := 1, cells := 0, slots := 0, locals := 21 }) D (zTy cy) K (zX cy ad) [.ref (ad 125), .int a_1] S_0 So := by
  refine z_metV (own := RX7) (lv := [(0, .ref (ad 125)), (1, .int a_1)]) (by decide) rfl rfl (Nat.le_of_ble_eq_true rfl) rfl ?_
  intro p e s m below meth c A Q X hK hE hD hA hret hP hS ls hl
  obtain ⟨hx, hb, hml, hown, hts⟩ := id X
  have k0 := (fun w h => List.mem_cons_of_mem _ (zFX7 w h) : ∀ w ∈ u_ws RX7 TX7 16, w ∈ zws yX7_emitWaiting cX7_emitWaiting 2 none)
  have k1 := hts _ (List.mem_cons_of_mem _ wt_2_60)
  have k2 := hts _ (List.mem_cons_of_mem _ wt_2_59)
  have k3 := hts _ (List.mem_cons_of_mem _ wt_2_63)
  obtain ⟨j_93, ej_93, hf⟩ := z_nm hf
  have J_93 : ∀ (S_1 : zSt) (H : Heap) (locs : List Loc) (ls : Array Slot), j_93  S_1 = some ((), So) → va_P D vwCl (zX cy ad S_1) H → va_S A s.heap H locs → lv_has ls 2 [] → W p l e ({ frames := 1, cells := 0, slots := 0, locals := 21 }) s m ([.ref (ad 125), .int a_1] : List Value).toArray below meth c H locs 0 0 Q (F0 m 93 ls []) := by
    intro  S_1 H locs ls hf hP hS hl
    have hf := z_e1 ej_93 hf
    obtain ⟨h1, h2⟩ := z_s2 hf
    subst h2
    exact hret _ _ _ _ hP hS dX7_emitWaiting_93
  have L_0 : ∀ (n_0 : Nat) (S_2 : zSt) (H : Heap) (locs : List Loc) (ls : Array Slot), fx_Reader_emitWaiting_L0 a_1 j_93 n_0  S_2 = some ((), So) → va_P D vwCl (zX cy ad S_2) H → va_S A s.heap H locs → lv_has ls 2 [(0, .ref (ad 125)), (1, .int a_1)] → W p l e ({ frames := 1, cells := 0, slots := 0, locals := 21 }) s m ([.ref (ad 125), .int a_1] : List Value).toArray below meth c H locs 0 0 Q (F0 m 0 ls []) := by
    intro n_0
    induction n_0 with
    | zero =>
      intro  S_2 H locs ls hf hP hS hl
      exact z_no hf
    | succ n_0 ih_0 =>
      intro  S_2 H locs ls hf hP hS hl
      rw [fx_Reader_emitWaiting_L0] at hf
      refine lv_aload_n hx hb dX7_emitWaiting_0 rfl (lv_at hl 0 rfl) ?_
      refine va_get (D := D) (ci := 7) (v := .int (S_2.1 125 7)) (C := RX7) (T := TX7) (N := 16) hx hb hts k0 hown hK hP 125 (zX_125 cy ad S_2) rfl 7 (by decide) k1 (fun _ h9 => h9) rfl dX7_emitWaiting_1 ?_
      refine lv_if_le (tgt := 93) hx hb dX7_emitWaiting_4 (by decide) (fun c_19 => ?_) (fun c_19 => ?_)
      · have hf := z_it c_19 hf
        exact J_93  S_2 _ _ _ hf hP hS (lv_sub hl [] rfl)
      · have hf := z_if c_19 hf
        refine lv_aload_n hx hb dX7_emitWaiting_7 rfl (lv_at hl 0 rfl) ?_
        refine va_get (D := D) (ci := 7) (v := .ref (ad 127)) (C := RX7) (T := TX7) (N := 16) hx hb hts k0 hown hK hP 125 (zX_125 cy ad S_2) rfl 6 (by decide) k2 (fun _ h9 => h9) rfl dX7_emitWaiting_8 ?_
        refine lv_aload_n hx hb dX7_emitWaiting_11 rfl (lv_at hl 0 rfl) ?_
        refine va_get (D := D) (ci := 7) (v := .int (S_2.1 125 7)) (C := RX7) (T := TX7) (N := 16) hx hb hts k0 hown hK hP 125 (zX_125 cy ad S_2) rfl 7 (by decide) k1 (fun _ h9 => h9) rfl dX7_emitWaiting_12 ?_
        refine lv_iconst (v := 1) hx hb dX7_emitWaiting_15 (by decide) ?_
        refine lv_isub hx hb dX7_emitWaiting_16 ?_
        obtain ⟨h_3, hf⟩ := z_ix hf
        refine z_iald hx hb hK hP 127 0 (zX_127 cy ad S_2) rfl h_3 (k := (((S_2.1 125 7) - (1 : Int32)).toNatClampNeg)) rfl dX7_emitWaiting_17 ?_
        refine lv_bipush (v := 40) hx hb dX7_emitWaiting_18 (by decide) ?_
        refine lv_icmp_eq (tgt := 93) hx hb dX7_emitWaiting_20 (by decide) (fun c_18 => ?_) (fun c_18 => ?_)
        · have hf := z_it c_18 hf
          exact J_93  S_2 _ _ _ hf hP hS (lv_sub hl [] rfl)
        · have hf := z_if c_18 hf
          refine lv_aload_n hx hb dX7_emitWaiting_23 rfl (lv_at hl 0 rfl) ?_
          refine va_get (D := D) (ci := 7) (v := .ref (ad 127)) (C := RX7) (T := TX7) (N := 16) hx hb hts k0 hown hK hP 125 (zX_125 cy ad S_2) rfl 6 (by decide) k2 (fun _ h9 => h9) rfl dX7_emitWaiting_24 ?_
          refine lv_aload_n hx hb dX7_emitWaiting_27 rfl (lv_at hl 0 rfl) ?_
          refine va_get (D := D) (ci := 7) (v := .int (S_2.1 125 7)) (C := RX7) (T := TX7) (N := 16) hx hb hts k0 hown hK hP 125 (zX_125 cy ad S_2) rfl 7 (by decide) k1 (fun _ h9 => h9) rfl dX7_emitWaiting_28 ?_
          refine lv_iconst (v := 1) hx hb dX7_emitWaiting_31 (by decide) ?_
          refine lv_isub hx hb dX7_emitWaiting_32 ?_
          obtain ⟨h_4, hf⟩ := z_ix hf
          refine z_iald hx hb hK hP 127 0 (zX_127 cy ad S_2) rfl h_4 (k := (((S_2.1 125 7) - (1 : Int32)).toNatClampNeg)) rfl dX7_emitWaiting_33 ?_
          obtain ⟨r_5, S_6, h_7, hf⟩ := z_bd hf
          refine z_cSI (As := [.int (S_2.1 127 (((S_2.1 125 7) - (1 : Int32)).toNatClampNeg))]) (rest := []) X hK hE hD hA hP hS (cx_Reader_bindingOf l D K cy ad S_2 _ _ _ h_7) (va_cwS 1 hts (z_gS wt_3_201 wt_3_202 wt_1_10 wt_3_203) rfl rfl rfl yd_yX7_bindingOf ⟨Nat.le_of_ble_eq_true rfl, Nat.le_of_ble_eq_true rfl⟩) hl.1 rfl rfl (Nat.le_of_ble_eq_true rfl) dX7_emitWaiting_34 (fun H locs hP hS => ?_)
          refine lv_iload_n hx hb dX7_emitWaiting_37 rfl (lv_at hl 1 rfl) ?_
          refine lv_icmp_lt (tgt := 93) hx hb dX7_emitWaiting_38 (by decide) (fun c_17 => ?_) (fun c_17 => ?_)
          · have hf := z_it c_17 hf
            exact J_93  S_6 _ _ _ hf hP hS (lv_sub hl [] rfl)
          · have hf := z_if c_17 hf
            refine lv_aload_n hx hb dX7_emitWaiting_41 rfl (lv_at hl 0 rfl) ?_
            refine lv_dup hx hb dX7_emitWaiting_42 rfl ?_
            refine va_get (D := D) (ci := 7) (v := .int (S_6.1 125 7)) (C := RX7) (T := TX7) (N := 16) hx hb hts k0 hown hK hP 125 (zX_125 cy ad S_6) rfl 7 (by decide) k1 (fun _ h9 => h9) rfl dX7_emitWaiting_43 ?_
            refine lv_iconst (v := 1) hx hb dX7_emitWaiting_46 (by decide) ?_
            refine lv_isub hx hb dX7_emitWaiting_47 ?_
            refine va_put (D := D) (ci := 7) (v := .int ((S_6.1 125 7) - (1 : Int32))) (ty := .int) (C := RX7) (T := TX7) (N := 16) hx hb hts k0 tyX7 tyX7_ok nmX7 hown hK hP (hD S_6) hS 125 (zX_125 cy ad S_6) rfl 7 (by decide) k1 (fun _ h9 => h9) rfl (tyX7_ok 7 (by decide)) rfl rfl (Nat.le_of_ble_eq_true rfl) dX7_emitWaiting_48 (fun H locs hP _ hS => ?_)
            obtain ⟨S_8, eS_8, hf⟩ := z_nm hf
            have hP := zW_putI hP eS_8 (by decide) rfl
            refine lv_aload_n hx hb dX7_emitWaiting_51 rfl (lv_at hl 0 rfl) ?_
            refine va_get (D := D) (ci := 7) (v := .ref (ad 127)) (C := RX7) (T := TX7) (N := 16) hx hb hts k0 hown hK hP 125 (zX_125 cy ad S_8) rfl 6 (by decide) k2 (fun _ h9 => h9) rfl dX7_emitWaiting_52 ?_
            refine lv_aload_n hx hb dX7_emitWaiting_55 rfl (lv_at hl 0 rfl) ?_
            refine va_get (D := D) (ci := 7) (v := .int (S_8.1 125 7)) (C := RX7) (T := TX7) (N := 16) hx hb hts k0 hown hK hP 125 (zX_125 cy ad S_8) rfl 7 (by decide) k1 (fun _ h9 => h9) rfl dX7_emitWaiting_56 ?_
            obtain ⟨h_9, hf⟩ := z_ix hf
            refine z_iald hx hb hK hP 127 0 (zX_127 cy ad S_8) rfl h_9 (k := ((S_8.1 125 7).toNatClampNeg)) rfl dX7_emitWaiting_59 ?_
            refine lv_sipush (v := 260) hx hb dX7_emitWaiting_60 (by decide) ?_
            obtain ⟨j_76, ej_76, hf⟩ := z_nm hf
            have J_76 : ∀ (S_10 : zSt) (H : Heap) (locs : List Loc) (ls : Array Slot), j_76  S_10 = some ((), So) → va_P D vwCl (zX cy ad S_10) H → va_S A s.heap H locs → lv_has ls 2 [(0, .ref (ad 125)), (1, .int a_1)] → W p l e ({ frames := 1, cells := 0, slots := 0, locals := 21 }) s m ([.ref (ad 125), .int a_1] : List Value).toArray below meth c H locs 0 0 Q (F0 m 76 ls []) := by
              intro  S_10 H locs ls hf hP hS hl
              have hf := z_e1 ej_76 hf
              refine lv_aload_n hx hb dX7_emitWaiting_76 rfl (lv_at hl 0 rfl) ?_
              refine lv_aload_n hx hb dX7_emitWaiting_77 rfl (lv_at hl 0 rfl) ?_
              refine va_get (D := D) (ci := 7) (v := .ref (ad 127)) (C := RX7) (T := TX7) (N := 16) hx hb hts k0 hown hK hP 125 (zX_125 cy ad S_10) rfl 6 (by decide) k2 (fun _ h9 => h9) rfl dX7_emitWaiting_78 ?_
              refine lv_aload_n hx hb dX7_emitWaiting_81 rfl (lv_at hl 0 rfl) ?_
              refine va_get (D := D) (ci := 7) (v := .int (S_10.1 125 7)) (C := RX7) (T := TX7) (N := 16) hx hb hts k0 hown hK hP 125 (zX_125 cy ad S_10) rfl 7 (by decide) k1 (fun _ h9 => h9) rfl dX7_emitWaiting_82 ?_
              obtain ⟨h_11, hf⟩ := z_ix hf
              refine z_iald hx hb hK hP 127 0 (zX_127 cy ad S_10) rfl h_11 (k := ((S_10.1 125 7).toNatClampNeg)) rfl dX7_emitWaiting_85 ?_
              refine lv_ineg hx hb dX7_emitWaiting_86 ?_
              obtain ⟨r_12, S_13, h_14, hf⟩ := z_bd hf
              refine z_cVV (As := [.int (-(S_10.1 127 ((S_10.1 125 7).toNatClampNeg)))]) (rest := []) X hK hE hD hA hP hS (cx_Reader_emit l D K cy ad S_10 _ _ h_14) (cwV 1 hts (z_gV wt_3_181 wt_3_183 wp_12 wt_1_10 wt_3_184) rfl rfl rfl ⟨rfl, yd_yX7_emit⟩ ⟨Nat.le_of_ble_eq_true rfl, Nat.le_of_ble_eq_true rfl⟩) (va_recv hK hP (ci := 7) (q0 := 125) rfl (zX_125 cy ad S_10)) hl.1 rfl rfl (Nat.le_of_ble_eq_true rfl) dX7_emitWaiting_87 (fun H locs hP hS => ?_)
              refine lv_goto (tgt := 0) hx hb dX7_emitWaiting_90 (by decide) ?_
              exact ih_0  S_13 _ _ _ hf hP hS (lv_sub hl [0, 1] rfl)
            refine lv_icmp_ne (tgt := 76) hx hb dX7_emitWaiting_63 (by decide) (fun c_16 => ?_) (fun c_16 => ?_)
            · have hf := z_if c_16 hf
              exact J_76  S_8 _ _ _ hf hP hS (lv_sub hl [0, 1] rfl)
            · have hf := z_it c_16 hf
              refine lv_aload_n hx hb dX7_emitWaiting_66 rfl (lv_at hl 0 rfl) ?_
              refine lv_dup hx hb dX7_emitWaiting_67 rfl ?_
              refine va_get (D := D) (ci := 7) (v := .int (S_8.1 125 10)) (C := RX7) (T := TX7) (N := 16) hx hb hts k0 hown hK hP 125 (zX_125 cy ad S_8) rfl 10 (by decide) k3 (fun _ h9 => h9) rfl dX7_emitWaiting_68 ?_
              refine lv_iconst (v := 1) hx hb dX7_emitWaiting_71 (by decide) ?_
              refine lv_isub hx hb dX7_emitWaiting_72 ?_
              refine va_put (D := D) (ci := 7) (v := .int ((S_8.1 125 10) - (1 : Int32))) (ty := .int) (C := RX7) (T := TX7) (N := 16) hx hb hts k0 tyX7 tyX7_ok nmX7 hown hK hP (hD S_8) hS 125 (zX_125 cy ad S_8) rfl 10 (by decide) k3 (fun _ h9 => h9) rfl (tyX7_ok 10 (by decide)) rfl rfl (Nat.le_of_ble_eq_true rfl) dX7_emitWaiting_73 (fun H locs hP _ hS => ?_)
              obtain ⟨S_15, eS_15, hf⟩ := z_nm hf
              have hP := zW_putI hP eS_15 (by decide) rfl
              exact J_76  S_15 _ _ _ hf hP hS (lv_sub hl [0, 1] rfl)
  exact L_0 zFU  S_0 _ _ _ hf hP hS (lv_sub hl [0, 1] rfl)
def fx_Reader_closeBracket (S_0 : zSt) : Option (Unit × zSt) :=
  zbd (fx_Reader_emitWaiting S_0 (0 : Int32)) fun _ S_2 =>
  znm (zpI S_2 125 11 ((S_2.1 125 11) - (1 : Int32))) fun S_4 =>
  znm (zpI S_4 125 10 ((S_4.1 125 10) - (1 : Int32))) fun S_5 =>
  znm (zpI S_5 125 7 (if (0 : Int32) < ((S_5.1 125 7) - (1 : Int32)) then ((S_5.1 125 7) - (1 : Int32)) else (0 : Int32))) fun S_6 =>
  znm (zpI S_6 125 8 (7 : Int32)) fun S_7 =>
  some ((), S_7)
set_option maxHeartbeats 4000000 in
set_option maxRecDepth 100000 in
theorem cx_Reader_closeBracket (l : Launch) (D : va_G) (K : (Nat → Nat) × (Nat → Nat)) (cy : Nat → ClassId) (ad : Nat → Nat) (S_0 : zSt) (So : zSt) (hf : fx_Reader_closeBracket S_0 = some ((), So)) : zMV l yX7_closeBracket (zws yX7_closeBracket cX7_closeBracket 1 none) ({ frames := 2, cells := 0, slots := 0, locals := 200 }) D (zTy cy) K (zX cy ad) [.ref (ad 125)] S_0 So := by
  refine z_metV (own := RX7) (lv := [(0, .ref (ad 125))]) (by decide) rfl rfl (Nat.le_of_ble_eq_true rfl) rfl ?_
  intro p e s m below meth c A Q X hK hE hD hA hret hP hS ls hl
  obtain ⟨hx, hb, hml, hown, hts⟩ := id X
  have k0 := (fun w h => List.mem_cons_of_mem _ (zFX7 w h) : ∀ w ∈ u_ws RX7 TX7 16, w ∈ zws yX7_closeBracket cX7_closeBracket 1 none)
  have k1 := hts _ (List.mem_cons_of_mem _ wt_2_64)
  have k2 := hts _ (List.mem_cons_of_mem _ wt_2_63)
  have k3 := hts _ (List.mem_cons_of_mem _ wt_2_60)
  have k4 := hts _ (List.mem_cons_of_mem _ wt_3_212)
  have k5 := hts _ (List.mem_cons_of_mem _ wt_3_122)
  have k6 := hts _ (List.mem_cons_of_mem _ wt_1_18)
  have k7 := hts _ (List.mem_cons_of_mem _ wt_3_123)
  have k8 := hts _ (List.mem_cons_of_mem _ wt_2_61)
  refine lv_aload_n hx hb dX7_closeBracket_0 rfl (lv_at hl 0 rfl) ?_
  refine lv_iconst (v := 0) hx hb dX7_closeBracket_1 (by decide) ?_
  obtain ⟨r_1, S_2, h_3, hf⟩ := z_bd hf
  refine z_cVV (As := [.int (0 : Int32)]) (rest := []) X hK hE hD hA hP hS (cx_Reader_emitWaiting l D K cy ad S_0 _ _ h_3) (cwV 1 hts (z_gV wt_3_204 wt_3_206 wp_17 wt_1_10 wt_3_207) rfl rfl rfl ⟨rfl, yd_yX7_emitWaiting⟩ ⟨Nat.le_of_ble_eq_true rfl, Nat.le_of_ble_eq_true rfl⟩) (va_recv hK hP (ci := 7) (q0 := 125) rfl (zX_125 cy ad S_0)) hl.1 rfl rfl (Nat.le_of_ble_eq_true rfl) dX7_closeBracket_2 (fun H locs hP hS => ?_)
  refine lv_aload_n hx hb dX7_closeBracket_5 rfl (lv_at hl 0 rfl) ?_
  refine lv_dup hx hb dX7_closeBracket_6 rfl ?_
  refine va_get (D := D) (ci := 7) (v := .int (S_2.1 125 11)) (C := RX7) (T := TX7) (N := 16) hx hb hts k0 hown hK hP 125 (zX_125 cy ad S_2) rfl 11 (by decide) k1 (fun _ h9 => h9) rfl dX7_closeBracket_7 ?_
  refine lv_iconst (v := 1) hx hb dX7_closeBracket_10 (by decide) ?_
  refine lv_isub hx hb dX7_closeBracket_11 ?_
  refine va_put (D := D) (ci := 7) (v := .int ((S_2.1 125 11) - (1 : Int32))) (ty := .int) (C := RX7) (T := TX7) (N := 16) hx hb hts k0 tyX7 tyX7_ok nmX7 hown hK hP (hD S_2) hS 125 (zX_125 cy ad S_2) rfl 11 (by decide) k1 (fun _ h9 => h9) rfl (tyX7_ok 11 (by decide)) rfl rfl (Nat.le_of_ble_eq_true rfl) dX7_closeBracket_12 (fun H locs hP _ hS => ?_)
  obtain ⟨S_4, eS_4, hf⟩ := z_nm hf
  have hP := zW_putI hP eS_4 (by decide) rfl
  refine lv_aload_n hx hb dX7_closeBracket_15 rfl (lv_at hl 0 rfl) ?_
  refine lv_dup hx hb dX7_closeBracket_16 rfl ?_
  refine va_get (D := D) (ci := 7) (v := .int (S_4.1 125 10)) (C := RX7) (T := TX7) (N := 16) hx hb hts k0 hown hK hP 125 (zX_125 cy ad S_4) rfl 10 (by decide) k2 (fun _ h9 => h9) rfl dX7_closeBracket_17 ?_
  refine lv_iconst (v := 1) hx hb dX7_closeBracket_20 (by decide) ?_
  refine lv_isub hx hb dX7_closeBracket_21 ?_
  refine va_put (D := D) (ci := 7) (v := .int ((S_4.1 125 10) - (1 : Int32))) (ty := .int) (C := RX7) (T := TX7) (N := 16) hx hb hts k0 tyX7 tyX7_ok nmX7 hown hK hP (hD S_4) hS 125 (zX_125 cy ad S_4) rfl 10 (by decide) k2 (fun _ h9 => h9) rfl (tyX7_ok 10 (by decide)) rfl rfl (Nat.le_of_ble_eq_true rfl) dX7_closeBracket_22 (fun H locs hP _ hS => ?_)
  obtain ⟨S_5, eS_5, hf⟩ := z_nm hf
  have hP := zW_putI hP eS_5 (by decide) rfl
  refine lv_aload_n hx hb dX7_closeBracket_25 rfl (lv_at hl 0 rfl) ?_
  refine lv_iconst (v := 0) hx hb dX7_closeBracket_26 (by decide) ?_
  refine lv_aload_n hx hb dX7_closeBracket_27 rfl (lv_at hl 0 rfl) ?_
  refine va_get (D := D) (ci := 7) (v := .int (S_5.1 125 7)) (C := RX7) (T := TX7) (N := 16) hx hb hts k0 hown hK hP 125 (zX_125 cy ad S_5) rfl 7 (by decide) k3 (fun _ h9 => h9) rfl dX7_closeBracket_28 ?_
  refine lv_iconst (v := 1) hx hb dX7_closeBracket_31 (by decide) ?_
  refine lv_isub hx hb dX7_closeBracket_32 ?_
  refine va_mmax hx hb (by rw [hml]; exact hl.1.symm) hown k4 k5 k6 k7 (Nat.le_of_ble_eq_true rfl) (Nat.le_of_ble_eq_true rfl) (Nat.zero_le _) (Nat.zero_le _) dX7_closeBracket_33 ?_
  refine va_put (D := D) (ci := 7) (v := .int (if (0 : Int32) < ((S_5.1 125 7) - (1 : Int32)) then ((S_5.1 125 7) - (1 : Int32)) else (0 : Int32))) (ty := .int) (C := RX7) (T := TX7) (N := 16) hx hb hts k0 tyX7 tyX7_ok nmX7 hown hK hP (hD S_5) hS 125 (zX_125 cy ad S_5) rfl 7 (by decide) k3 (fun _ h9 => h9) rfl (tyX7_ok 7 (by decide)) rfl rfl (Nat.le_of_ble_eq_true rfl) dX7_closeBracket_36 (fun H locs hP _ hS => ?_)
  obtain ⟨S_6, eS_6, hf⟩ := z_nm hf
  have hP := zW_putI hP eS_6 (by decide) rfl
  refine lv_aload_n hx hb dX7_closeBracket_39 rfl (lv_at hl 0 rfl) ?_
  refine lv_bipush (v := 7) hx hb dX7_closeBracket_40 (by decide) ?_
  refine va_put (D := D) (ci := 7) (v := .int (7 : Int32)) (ty := .int) (C := RX7) (T := TX7) (N := 16) hx hb hts k0 tyX7 tyX7_ok nmX7 hown hK hP (hD S_6) hS 125 (zX_125 cy ad S_6) rfl 8 (by decide) k8 (fun _ h9 => h9) rfl (tyX7_ok 8 (by decide)) rfl rfl (Nat.le_of_ble_eq_true rfl) dX7_closeBracket_42 (fun H locs hP _ hS => ?_)
  obtain ⟨S_7, eS_7, hf⟩ := z_nm hf
  have hP := zW_putI hP eS_7 (by decide) rfl
  obtain ⟨h1, h2⟩ := z_s2 hf
  subst h2
  exact hret _ _ _ _ hP hS dX7_closeBracket_45
def fx_Reader_endLine (S_0 : zSt) (a_1 : Int32) : Option (Int32 × zSt) :=
  zbd (fx_Reader_emitWaiting S_0 (0 : Int32)) fun _ S_2 =>
  zbd (fx_Reader_emit S_2 a_1) fun _ S_5 =>
  znm (zpI S_5 125 8 (0 : Int32)) fun S_7 =>
  some ((0 : Int32), S_7)
set_option maxHeartbeats 4000000 in
set_option maxRecDepth 100000 in
theorem cx_Reader_endLine (l : Launch) (D : va_G) (K : (Nat → Nat) × (Nat → Nat)) (cy : Nat → ClassId) (ad : Nat → Nat) (S_0 : zSt) (a_1 : Int32) (ro : Int32) (So : zSt) (hf : fx_Reader_endLine S_0 a_1 = some (ro, So)) : zMI l yX7_endLine (zws yX7_endLine cX7_endLine 2 (Option.some .int)) ({ frames := 2, cells := 0, slots := 0, locals := 42 }) D (zTy cy) K (zX cy ad) [.ref (ad 125), .int a_1] S_0 ro So := by
  refine z_metI (own := RX7) (lv := [(0, .ref (ad 125)), (1, .int a_1)]) (by decide) rfl rfl (Nat.le_of_ble_eq_true rfl) rfl ?_
  intro p e s m below meth c A Q X hK hE hD hA hret hP hS ls hl
  obtain ⟨hx, hb, hml, hown, hts⟩ := id X
  have k0 := (fun w h => List.mem_cons_of_mem _ (zFX7 w h) : ∀ w ∈ u_ws RX7 TX7 16, w ∈ zws yX7_endLine cX7_endLine 2 (Option.some .int))
  have k1 := hts _ (List.mem_cons_of_mem _ wt_2_61)
  refine lv_aload_n hx hb dX7_endLine_0 rfl (lv_at hl 0 rfl) ?_
  refine lv_iconst (v := 0) hx hb dX7_endLine_1 (by decide) ?_
  obtain ⟨r_1, S_2, h_3, hf⟩ := z_bd hf
  refine z_cVV (As := [.int (0 : Int32)]) (rest := []) X hK hE hD hA hP hS (cx_Reader_emitWaiting l D K cy ad S_0 _ _ h_3) (cwV 1 hts (z_gV wt_3_204 wt_3_206 wp_17 wt_1_10 wt_3_207) rfl rfl rfl ⟨rfl, yd_yX7_emitWaiting⟩ ⟨Nat.le_of_ble_eq_true rfl, Nat.le_of_ble_eq_true rfl⟩) (va_recv hK hP (ci := 7) (q0 := 125) rfl (zX_125 cy ad S_0)) hl.1 rfl rfl (Nat.le_of_ble_eq_true rfl) dX7_endLine_2 (fun H locs hP hS => ?_)
  refine lv_aload_n hx hb dX7_endLine_5 rfl (lv_at hl 0 rfl) ?_
  refine lv_iload_n hx hb dX7_endLine_6 rfl (lv_at hl 1 rfl) ?_
  obtain ⟨r_4, S_5, h_6, hf⟩ := z_bd hf
  refine z_cVV (As := [.int a_1]) (rest := []) X hK hE hD hA hP hS (cx_Reader_emit l D K cy ad S_2 _ _ h_6) (cwV 1 hts (z_gV wt_3_181 wt_3_183 wp_12 wt_1_10 wt_3_184) rfl rfl rfl ⟨rfl, yd_yX7_emit⟩ ⟨Nat.le_of_ble_eq_true rfl, Nat.le_of_ble_eq_true rfl⟩) (va_recv hK hP (ci := 7) (q0 := 125) rfl (zX_125 cy ad S_2)) hl.1 rfl rfl (Nat.le_of_ble_eq_true rfl) dX7_endLine_7 (fun H locs hP hS => ?_)
  refine lv_aload_n hx hb dX7_endLine_10 rfl (lv_at hl 0 rfl) ?_
  refine lv_iconst (v := 0) hx hb dX7_endLine_11 (by decide) ?_
  refine va_put (D := D) (ci := 7) (v := .int (0 : Int32)) (ty := .int) (C := RX7) (T := TX7) (N := 16) hx hb hts k0 tyX7 tyX7_ok nmX7 hown hK hP (hD S_5) hS 125 (zX_125 cy ad S_5) rfl 8 (by decide) k1 (fun _ h9 => h9) rfl (tyX7_ok 8 (by decide)) rfl rfl (Nat.le_of_ble_eq_true rfl) dX7_endLine_12 (fun H locs hP _ hS => ?_)
  obtain ⟨S_7, eS_7, hf⟩ := z_nm hf
  have hP := zW_putI hP eS_7 (by decide) rfl
  refine lv_iconst (v := 0) hx hb dX7_endLine_15 (by decide) ?_
  obtain ⟨h1, h2⟩ := z_s2 hf
  subst h1 h2
  exact hret _ _ _ _ hP hS dX7_endLine_16
def fx_Reader_push (S_0 : zSt) (a_1 : Int32) : Option (Unit × zSt) :=
  znm (fun (S_1 : zSt) =>
  some ((), S_1)) fun j_29 =>
  if (64 : Int32) ≤ (S_0.1 125 7) then (
  j_29  S_0) else (
  zck (zix (S_0.1 125 7) 64) <|
  znm (zpI S_0 127 ((S_0.1 125 7).toNatClampNeg) a_1) fun S_3 =>
  znm (zpI S_3 125 7 ((S_3.1 125 7) + (1 : Int32))) fun S_4 =>
  j_29  S_4)
set_option maxHeartbeats 4000000 in
set_option maxRecDepth 100000 in
theorem cx_Reader_push (l : Launch) (D : va_G) (K : (Nat → Nat) × (Nat → Nat)) (cy : Nat → ClassId) (ad : Nat → Nat) (S_0 : zSt) (a_1 : Int32) (So : zSt) (hf : fx_Reader_push S_0 a_1 = some ((), So)) : zMV l yX7_push (zws yX7_push cX7_push 2 none) ({ frames := 0, cells := 0, slots := 0, locals := 0 }) D (zTy cy) K (zX cy ad) [.ref (ad 125), .int a_1] S_0 So := by
  refine z_metV (own := RX7) (lv := [(0, .ref (ad 125)), (1, .int a_1)]) (by decide) rfl rfl (Nat.le_of_ble_eq_true rfl) rfl ?_
  intro p e s m below meth c A Q X hK hE hD hA hret hP hS ls hl
  obtain ⟨hx, hb, hml, hown, hts⟩ := id X
  have k0 := (fun w h => List.mem_cons_of_mem _ (zFX7 w h) : ∀ w ∈ u_ws RX7 TX7 16, w ∈ zws yX7_push cX7_push 2 none)
  have k1 := hts _ (List.mem_cons_of_mem _ wt_2_60)
  have k2 := hts _ (List.mem_cons_of_mem _ wt_2_59)
  refine lv_aload_n hx hb dX7_push_0 rfl (lv_at hl 0 rfl) ?_
  refine va_get (D := D) (ci := 7) (v := .int (S_0.1 125 7)) (C := RX7) (T := TX7) (N := 16) hx hb hts k0 hown hK hP 125 (zX_125 cy ad S_0) rfl 7 (by decide) k1 (fun _ h9 => h9) rfl dX7_push_1 ?_
  refine lv_bipush (v := 64) hx hb dX7_push_4 (by decide) ?_
  obtain ⟨j_29, ej_29, hf⟩ := z_nm hf
  have J_29 : ∀ (S_1 : zSt) (H : Heap) (locs : List Loc) (ls : Array Slot), j_29  S_1 = some ((), So) → va_P D vwCl (zX cy ad S_1) H → va_S A s.heap H locs → lv_has ls 2 [] → W p l e ({ frames := 0, cells := 0, slots := 0, locals := 0 }) s m ([.ref (ad 125), .int a_1] : List Value).toArray below meth c H locs 0 0 Q (F0 m 29 ls []) := by
    intro  S_1 H locs ls hf hP hS hl
    have hf := z_e1 ej_29 hf
    obtain ⟨h1, h2⟩ := z_s2 hf
    subst h2
    exact hret _ _ _ _ hP hS dX7_push_29
  refine lv_icmp_ge (tgt := 29) hx hb dX7_push_6 (by decide) (fun c_5 => ?_) (fun c_5 => ?_)
  · have hf := z_it c_5 hf
    exact J_29  S_0 _ _ _ hf hP hS (lv_sub hl [] rfl)
  · have hf := z_if c_5 hf
    refine lv_aload_n hx hb dX7_push_9 rfl (lv_at hl 0 rfl) ?_
    refine va_get (D := D) (ci := 7) (v := .ref (ad 127)) (C := RX7) (T := TX7) (N := 16) hx hb hts k0 hown hK hP 125 (zX_125 cy ad S_0) rfl 6 (by decide) k2 (fun _ h9 => h9) rfl dX7_push_10 ?_
    refine lv_aload_n hx hb dX7_push_13 rfl (lv_at hl 0 rfl) ?_
    refine va_get (D := D) (ci := 7) (v := .int (S_0.1 125 7)) (C := RX7) (T := TX7) (N := 16) hx hb hts k0 hown hK hP 125 (zX_125 cy ad S_0) rfl 7 (by decide) k1 (fun _ h9 => h9) rfl dX7_push_14 ?_
    refine lv_iload_n hx hb dX7_push_17 rfl (lv_at hl 1 rfl) ?_
    obtain ⟨h_2, hf⟩ := z_ix hf
    refine z_iast hx hb hK hP (hD S_0) hS 127 0 (zX_127 cy ad S_0) rfl h_2 (k := ((S_0.1 125 7).toNatClampNeg)) rfl dX7_push_18 (fun H locs hP hS => ?_)
    obtain ⟨S_3, eS_3, hf⟩ := z_nm hf
    have hP := zW_putI hP eS_3 (by decide) rfl
    refine lv_aload_n hx hb dX7_push_19 rfl (lv_at hl 0 rfl) ?_
    refine lv_dup hx hb dX7_push_20 rfl ?_
    refine va_get (D := D) (ci := 7) (v := .int (S_3.1 125 7)) (C := RX7) (T := TX7) (N := 16) hx hb hts k0 hown hK hP 125 (zX_125 cy ad S_3) rfl 7 (by decide) k1 (fun _ h9 => h9) rfl dX7_push_21 ?_
    refine lv_iconst (v := 1) hx hb dX7_push_24 (by decide) ?_
    refine lv_iadd hx hb dX7_push_25 ?_
    refine va_put (D := D) (ci := 7) (v := .int ((S_3.1 125 7) + (1 : Int32))) (ty := .int) (C := RX7) (T := TX7) (N := 16) hx hb hts k0 tyX7 tyX7_ok nmX7 hown hK hP (hD S_3) hS 125 (zX_125 cy ad S_3) rfl 7 (by decide) k1 (fun _ h9 => h9) rfl (tyX7_ok 7 (by decide)) rfl rfl (Nat.le_of_ble_eq_true rfl) dX7_push_26 (fun H locs hP _ hS => ?_)
    obtain ⟨S_4, eS_4, hf⟩ := z_nm hf
    have hP := zW_putI hP eS_4 (by decide) rfl
    exact J_29  S_4 _ _ _ hf hP hS (lv_sub hl [] rfl)
def fx_Reader_takeOperator (S_0 : zSt) (a_1 : Int32) : Option (Unit × zSt) :=
  zbd (fx_Reader_bindingOf S_0 (S_0.1 125 14)) fun r_1 S_2 =>
  zbd (fx_Reader_emitWaiting S_2 r_1) fun _ S_5 =>
  zbd (fx_Reader_push S_5 (S_5.1 125 14)) fun _ S_8 =>
  znm (zpI S_8 125 8 a_1) fun S_10 =>
  some ((), S_10)
set_option maxHeartbeats 4000000 in
set_option maxRecDepth 100000 in
theorem cx_Reader_takeOperator (l : Launch) (D : va_G) (K : (Nat → Nat) × (Nat → Nat)) (cy : Nat → ClassId) (ad : Nat → Nat) (S_0 : zSt) (a_1 : Int32) (So : zSt) (hf : fx_Reader_takeOperator S_0 a_1 = some ((), So)) : zMV l yX7_takeOperator (zws yX7_takeOperator cX7_takeOperator 2 none) ({ frames := 2, cells := 0, slots := 0, locals := 42 }) D (zTy cy) K (zX cy ad) [.ref (ad 125), .int a_1] S_0 So := by
  refine z_metV (own := RX7) (lv := [(0, .ref (ad 125)), (1, .int a_1)]) (by decide) rfl rfl (Nat.le_of_ble_eq_true rfl) rfl ?_
  intro p e s m below meth c A Q X hK hE hD hA hret hP hS ls hl
  obtain ⟨hx, hb, hml, hown, hts⟩ := id X
  have k0 := (fun w h => List.mem_cons_of_mem _ (zFX7 w h) : ∀ w ∈ u_ws RX7 TX7 16, w ∈ zws yX7_takeOperator cX7_takeOperator 2 none)
  have k1 := hts _ (List.mem_cons_of_mem _ wt_2_67)
  have k2 := hts _ (List.mem_cons_of_mem _ wt_2_61)
  refine lv_aload_n hx hb dX7_takeOperator_0 rfl (lv_at hl 0 rfl) ?_
  refine lv_aload_n hx hb dX7_takeOperator_1 rfl (lv_at hl 0 rfl) ?_
  refine va_get (D := D) (ci := 7) (v := .int (S_0.1 125 14)) (C := RX7) (T := TX7) (N := 16) hx hb hts k0 hown hK hP 125 (zX_125 cy ad S_0) rfl 14 (by decide) k1 (fun _ h9 => h9) rfl dX7_takeOperator_2 ?_
  obtain ⟨r_1, S_2, h_3, hf⟩ := z_bd hf
  refine z_cSI (As := [.int (S_0.1 125 14)]) (rest := [.ref (ad 125)]) X hK hE hD hA hP hS (cx_Reader_bindingOf l D K cy ad S_0 _ _ _ h_3) (va_cwS 1 hts (z_gS wt_3_201 wt_3_202 wt_1_10 wt_3_203) rfl rfl rfl yd_yX7_bindingOf ⟨Nat.le_of_ble_eq_true rfl, Nat.le_of_ble_eq_true rfl⟩) hl.1 rfl rfl (Nat.le_of_ble_eq_true rfl) dX7_takeOperator_5 (fun H locs hP hS => ?_)
  obtain ⟨r_4, S_5, h_6, hf⟩ := z_bd hf
  refine z_cVV (As := [.int r_1]) (rest := []) X hK hE hD hA hP hS (cx_Reader_emitWaiting l D K cy ad S_2 _ _ h_6) (cwV 1 hts (z_gV wt_3_204 wt_3_206 wp_17 wt_1_10 wt_3_207) rfl rfl rfl ⟨rfl, yd_yX7_emitWaiting⟩ ⟨Nat.le_of_ble_eq_true rfl, Nat.le_of_ble_eq_true rfl⟩) (va_recv hK hP (ci := 7) (q0 := 125) rfl (zX_125 cy ad S_2)) hl.1 rfl rfl (Nat.le_of_ble_eq_true rfl) dX7_takeOperator_8 (fun H locs hP hS => ?_)
  refine lv_aload_n hx hb dX7_takeOperator_11 rfl (lv_at hl 0 rfl) ?_
  refine lv_aload_n hx hb dX7_takeOperator_12 rfl (lv_at hl 0 rfl) ?_
  refine va_get (D := D) (ci := 7) (v := .int (S_5.1 125 14)) (C := RX7) (T := TX7) (N := 16) hx hb hts k0 hown hK hP 125 (zX_125 cy ad S_5) rfl 14 (by decide) k1 (fun _ h9 => h9) rfl dX7_takeOperator_13 ?_
  obtain ⟨r_7, S_8, h_9, hf⟩ := z_bd hf
  refine z_cVV (As := [.int (S_5.1 125 14)]) (rest := []) X hK hE hD hA hP hS (cx_Reader_push l D K cy ad S_5 _ _ h_9) (cwV 1 hts (z_gV wt_3_185 wt_3_187 wp_13 wt_1_10 wt_3_188) rfl rfl rfl ⟨rfl, yd_yX7_push⟩ ⟨Nat.le_of_ble_eq_true rfl, Nat.le_of_ble_eq_true rfl⟩) (va_recv hK hP (ci := 7) (q0 := 125) rfl (zX_125 cy ad S_5)) hl.1 rfl rfl (Nat.le_of_ble_eq_true rfl) dX7_takeOperator_16 (fun H locs hP hS => ?_)
  refine lv_aload_n hx hb dX7_takeOperator_19 rfl (lv_at hl 0 rfl) ?_
  refine lv_iload_n hx hb dX7_takeOperator_20 rfl (lv_at hl 1 rfl) ?_
  refine va_put (D := D) (ci := 7) (v := .int a_1) (ty := .int) (C := RX7) (T := TX7) (N := 16) hx hb hts k0 tyX7 tyX7_ok nmX7 hown hK hP (hD S_8) hS 125 (zX_125 cy ad S_8) rfl 8 (by decide) k2 (fun _ h9 => h9) rfl (tyX7_ok 8 (by decide)) rfl rfl (Nat.le_of_ble_eq_true rfl) dX7_takeOperator_21 (fun H locs hP _ hS => ?_)
  obtain ⟨S_10, eS_10, hf⟩ := z_nm hf
  have hP := zW_putI hP eS_10 (by decide) rfl
  obtain ⟨h1, h2⟩ := z_s2 hf
  subst h2
  exact hret _ _ _ _ hP hS dX7_takeOperator_24
def fx_Reader_judgeAfterCondition (S_0 : zSt) : Option (Int32 × zSt) :=
  znm (fun (S_1 : zSt) =>
  zbd (fx_Reader_takeOperator S_1 (1 : Int32)) fun _ S_3 =>
  some ((0 : Int32), S_3)) fun j_20 =>
  if (S_0.1 125 14) = (259 : Int32) then (
  j_20  S_0) else (
  if (S_0.1 125 14) = (258 : Int32) then (
  j_20  S_0) else (
  znm (fun (S_5 : zSt) =>
  znm (fun (x_6 : Int32) (S_7 : zSt) =>
  some (x_6, S_7)) fun j_76 =>
  znm (fun (S_8 : zSt) =>
  j_76 (1 : Int32) S_8) fun j_75 =>
  if (S_5.1 125 14) = (59 : Int32) then (
  if (S_5.1 125 11) = 0 then (
  zbd (fx_Reader_endLine S_5 (-257 : Int32)) fun r_9 S_10 =>
  j_76 r_9 S_10) else (
  j_75  S_5)) else (
  j_75  S_5)) fun j_49 =>
  if (S_0.1 125 14) = (41 : Int32) then (
  if (S_0.1 125 11) ≤ 0 then (
  j_49  S_0) else (
  zbd (fx_Reader_closeBracket S_0) fun _ S_15 =>
  some ((0 : Int32), S_15))) else (
  j_49  S_0)))
set_option maxHeartbeats 4000000 in
set_option maxRecDepth 100000 in
theorem cx_Reader_judgeAfterCondition (l : Launch) (D : va_G) (K : (Nat → Nat) × (Nat → Nat)) (cy : Nat → ClassId) (ad : Nat → Nat) (S_0 : zSt) (ro : Int32) (So : zSt) (hf : fx_Reader_judgeAfterCondition S_0 = some (ro, So)) : zMI l yX7_judgeAfterCondition (zws yX7_judgeAfterCondition cX7_judgeAfterCondition 1 (Option.some .int)) ({ frames := 3, cells := 0, slots := 0, locals := 220 }) D (zTy cy) K (zX cy ad) [.ref (ad 125)] S_0 ro So := by
  refine z_metI (own := RX7) (lv := [(0, .ref (ad 125))]) (by decide) rfl rfl (Nat.le_of_ble_eq_true rfl) rfl ?_
  intro p e s m below meth c A Q X hK hE hD hA hret hP hS ls hl
  obtain ⟨hx, hb, hml, hown, hts⟩ := id X
  have k0 := (fun w h => List.mem_cons_of_mem _ (zFX7 w h) : ∀ w ∈ u_ws RX7 TX7 16, w ∈ zws yX7_judgeAfterCondition cX7_judgeAfterCondition 1 (Option.some .int))
  have k1 := hts _ (List.mem_cons_of_mem _ wt_2_67)
  have k2 := hts _ (List.mem_cons_of_mem _ wt_2_64)
  refine lv_aload_n hx hb dX7_judgeAfterCondition_0 rfl (lv_at hl 0 rfl) ?_
  refine va_get (D := D) (ci := 7) (v := .int (S_0.1 125 14)) (C := RX7) (T := TX7) (N := 16) hx hb hts k0 hown hK hP 125 (zX_125 cy ad S_0) rfl 14 (by decide) k1 (fun _ h9 => h9) rfl dX7_judgeAfterCondition_1 ?_
  refine lv_sipush (v := 259) hx hb dX7_judgeAfterCondition_4 (by decide) ?_
  obtain ⟨j_20, ej_20, hf⟩ := z_nm hf
  have J_20 : ∀ (S_1 : zSt) (H : Heap) (locs : List Loc) (ls : Array Slot), j_20  S_1 = some (ro, So) → va_P D vwCl (zX cy ad S_1) H → va_S A s.heap H locs → lv_has ls 1 [(0, .ref (ad 125))] → W p l e ({ frames := 3, cells := 0, slots := 0, locals := 220 }) s m ([.ref (ad 125)] : List Value).toArray below meth c H locs 0 0 Q (F0 m 20 ls []) := by
    intro  S_1 H locs ls hf hP hS hl
    have hf := z_e1 ej_20 hf
    refine lv_aload_n hx hb dX7_judgeAfterCondition_20 rfl (lv_at hl 0 rfl) ?_
    refine lv_iconst (v := 1) hx hb dX7_judgeAfterCondition_21 (by decide) ?_
    obtain ⟨r_2, S_3, h_4, hf⟩ := z_bd hf
    refine z_cVV (As := [.int (1 : Int32)]) (rest := []) X hK hE hD hA hP hS (cx_Reader_takeOperator l D K cy ad S_1 _ _ h_4) (cwV 1 hts (z_gV wt_3_197 wt_3_199 wp_16 wt_1_10 wt_3_200) rfl rfl rfl ⟨rfl, yd_yX7_takeOperator⟩ ⟨Nat.le_of_ble_eq_true rfl, Nat.le_of_ble_eq_true rfl⟩) (va_recv hK hP (ci := 7) (q0 := 125) rfl (zX_125 cy ad S_1)) hl.1 rfl rfl (Nat.le_of_ble_eq_true rfl) dX7_judgeAfterCondition_22 (fun H locs hP hS => ?_)
    refine lv_iconst (v := 0) hx hb dX7_judgeAfterCondition_25 (by decide) ?_
    obtain ⟨h1, h2⟩ := z_s2 hf
    subst h1 h2
    exact hret _ _ _ _ hP hS dX7_judgeAfterCondition_26
  refine lv_icmp_eq (tgt := 20) hx hb dX7_judgeAfterCondition_7 (by decide) (fun c_20 => ?_) (fun c_20 => ?_)
  · have hf := z_it c_20 hf
    exact J_20  S_0 _ _ _ hf hP hS (lv_sub hl [0] rfl)
  · have hf := z_if c_20 hf
    refine lv_aload_n hx hb dX7_judgeAfterCondition_10 rfl (lv_at hl 0 rfl) ?_
    refine va_get (D := D) (ci := 7) (v := .int (S_0.1 125 14)) (C := RX7) (T := TX7) (N := 16) hx hb hts k0 hown hK hP 125 (zX_125 cy ad S_0) rfl 14 (by decide) k1 (fun _ h9 => h9) rfl dX7_judgeAfterCondition_11 ?_
    refine lv_sipush (v := 258) hx hb dX7_judgeAfterCondition_14 (by decide) ?_
    refine lv_icmp_ne (tgt := 27) hx hb dX7_judgeAfterCondition_17 (by decide) (fun c_19 => ?_) (fun c_19 => ?_)
    · have hf := z_if c_19 hf
      refine lv_aload_n hx hb dX7_judgeAfterCondition_27 rfl (lv_at hl 0 rfl) ?_
      refine va_get (D := D) (ci := 7) (v := .int (S_0.1 125 14)) (C := RX7) (T := TX7) (N := 16) hx hb hts k0 hown hK hP 125 (zX_125 cy ad S_0) rfl 14 (by decide) k1 (fun _ h9 => h9) rfl dX7_judgeAfterCondition_28 ?_
      refine lv_bipush (v := 41) hx hb dX7_judgeAfterCondition_31 (by decide) ?_
      obtain ⟨j_49, ej_49, hf⟩ := z_nm hf
      have J_49 : ∀ (S_5 : zSt) (H : Heap) (locs : List Loc) (ls : Array Slot), j_49  S_5 = some (ro, So) → va_P D vwCl (zX cy ad S_5) H → va_S A s.heap H locs → lv_has ls 1 [(0, .ref (ad 125))] → W p l e ({ frames := 3, cells := 0, slots := 0, locals := 220 }) s m ([.ref (ad 125)] : List Value).toArray below meth c H locs 0 0 Q (F0 m 49 ls []) := by
        intro  S_5 H locs ls hf hP hS hl
        have hf := z_e1 ej_49 hf
        refine lv_aload_n hx hb dX7_judgeAfterCondition_49 rfl (lv_at hl 0 rfl) ?_
        refine va_get (D := D) (ci := 7) (v := .int (S_5.1 125 14)) (C := RX7) (T := TX7) (N := 16) hx hb hts k0 hown hK hP 125 (zX_125 cy ad S_5) rfl 14 (by decide) k1 (fun _ h9 => h9) rfl dX7_judgeAfterCondition_50 ?_
        refine lv_bipush (v := 59) hx hb dX7_judgeAfterCondition_53 (by decide) ?_
        obtain ⟨j_76, ej_76, hf⟩ := z_nm hf
        have J_76 : ∀ (x_6 : Int32) (S_7 : zSt) (H : Heap) (locs : List Loc) (ls : Array Slot), j_76 x_6 S_7 = some (ro, So) → va_P D vwCl (zX cy ad S_7) H → va_S A s.heap H locs → lv_has ls 1 [] → W p l e ({ frames := 3, cells := 0, slots := 0, locals := 220 }) s m ([.ref (ad 125)] : List Value).toArray below meth c H locs 0 0 Q (F0 m 76 ls [.int x_6]) := by
          intro x_6 S_7 H locs ls hf hP hS hl
          have hf := z_e2 ej_76 hf
          obtain ⟨h1, h2⟩ := z_s2 hf
          subst h1 h2
          exact hret _ _ _ _ hP hS dX7_judgeAfterCondition_76
        obtain ⟨j_75, ej_75, hf⟩ := z_nm hf
        have J_75 : ∀ (S_8 : zSt) (H : Heap) (locs : List Loc) (ls : Array Slot), j_75  S_8 = some (ro, So) → va_P D vwCl (zX cy ad S_8) H → va_S A s.heap H locs → lv_has ls 1 [] → W p l e ({ frames := 3, cells := 0, slots := 0, locals := 220 }) s m ([.ref (ad 125)] : List Value).toArray below meth c H locs 0 0 Q (F0 m 75 ls []) := by
          intro  S_8 H locs ls hf hP hS hl
          have hf := z_e1 ej_75 hf
          refine lv_iconst (v := 1) hx hb dX7_judgeAfterCondition_75 (by decide) ?_
          exact J_76 (1 : Int32) S_8 _ _ _ hf hP hS (lv_sub hl [] rfl)
        refine lv_icmp_ne (tgt := 75) hx hb dX7_judgeAfterCondition_55 (by decide) (fun c_13 => ?_) (fun c_13 => ?_)
        · have hf := z_if c_13 hf
          exact J_75  S_5 _ _ _ hf hP hS (lv_sub hl [] rfl)
        · have hf := z_it c_13 hf
          refine lv_aload_n hx hb dX7_judgeAfterCondition_58 rfl (lv_at hl 0 rfl) ?_
          refine va_get (D := D) (ci := 7) (v := .int (S_5.1 125 11)) (C := RX7) (T := TX7) (N := 16) hx hb hts k0 hown hK hP 125 (zX_125 cy ad S_5) rfl 11 (by decide) k2 (fun _ h9 => h9) rfl dX7_judgeAfterCondition_59 ?_
          refine lv_if_ne (tgt := 75) hx hb dX7_judgeAfterCondition_62 (by decide) (fun c_12 => ?_) (fun c_12 => ?_)
          · have hf := z_if c_12 hf
            exact J_75  S_5 _ _ _ hf hP hS (lv_sub hl [] rfl)
          · have hf := z_it c_12 hf
            refine lv_aload_n hx hb dX7_judgeAfterCondition_65 rfl (lv_at hl 0 rfl) ?_
            refine lv_sipush (v := -257) hx hb dX7_judgeAfterCondition_66 (by decide) ?_
            obtain ⟨r_9, S_10, h_11, hf⟩ := z_bd hf
            refine z_cVI (As := [.int (-257 : Int32)]) (rest := []) X hK hE hD hA hP hS (cx_Reader_endLine l D K cy ad S_5 _ _ _ h_11) (cwV 1 hts (z_gV wt_3_213 wt_3_215 wp_19 wt_1_10 wt_3_216) rfl rfl rfl ⟨rfl, yd_yX7_endLine⟩ ⟨Nat.le_of_ble_eq_true rfl, Nat.le_of_ble_eq_true rfl⟩) (va_recv hK hP (ci := 7) (q0 := 125) rfl (zX_125 cy ad S_5)) hl.1 rfl rfl (Nat.le_of_ble_eq_true rfl) dX7_judgeAfterCondition_69 (fun H locs hP hS => ?_)
            refine lv_goto (tgt := 76) hx hb dX7_judgeAfterCondition_72 (by decide) ?_
            exact J_76 r_9 S_10 _ _ _ hf hP hS (lv_sub hl [] rfl)
      refine lv_icmp_ne (tgt := 49) hx hb dX7_judgeAfterCondition_33 (by decide) (fun c_18 => ?_) (fun c_18 => ?_)
      · have hf := z_if c_18 hf
        exact J_49  S_0 _ _ _ hf hP hS (lv_sub hl [0] rfl)
      · have hf := z_it c_18 hf
        refine lv_aload_n hx hb dX7_judgeAfterCondition_36 rfl (lv_at hl 0 rfl) ?_
        refine va_get (D := D) (ci := 7) (v := .int (S_0.1 125 11)) (C := RX7) (T := TX7) (N := 16) hx hb hts k0 hown hK hP 125 (zX_125 cy ad S_0) rfl 11 (by decide) k2 (fun _ h9 => h9) rfl dX7_judgeAfterCondition_37 ?_
        refine lv_if_le (tgt := 49) hx hb dX7_judgeAfterCondition_40 (by decide) (fun c_17 => ?_) (fun c_17 => ?_)
        · have hf := z_it c_17 hf
          exact J_49  S_0 _ _ _ hf hP hS (lv_sub hl [0] rfl)
        · have hf := z_if c_17 hf
          refine lv_aload_n hx hb dX7_judgeAfterCondition_43 rfl (lv_at hl 0 rfl) ?_
          obtain ⟨r_14, S_15, h_16, hf⟩ := z_bd hf
          refine z_cVV (As := []) (rest := []) X hK hE hD hA hP hS (cx_Reader_closeBracket l D K cy ad S_0 _ h_16) (cwV 0 hts (z_gV wt_3_208 wt_3_210 wp_18 wt_1_10 wt_3_211) rfl rfl rfl ⟨rfl, yd_yX7_closeBracket⟩ ⟨Nat.le_of_ble_eq_true rfl, Nat.le_of_ble_eq_true rfl⟩) (va_recv hK hP (ci := 7) (q0 := 125) rfl (zX_125 cy ad S_0)) hl.1 rfl rfl (Nat.le_of_ble_eq_true rfl) dX7_judgeAfterCondition_44 (fun H locs hP hS => ?_)
          refine lv_iconst (v := 0) hx hb dX7_judgeAfterCondition_47 (by decide) ?_
          obtain ⟨h1, h2⟩ := z_s2 hf
          subst h1 h2
          exact hret _ _ _ _ hP hS dX7_judgeAfterCondition_48
    · have hf := z_it c_19 hf
      exact J_20  S_0 _ _ _ hf hP hS (lv_sub hl [0] rfl)
def fx_Reader_judgeAfterWorth (S_0 : zSt) : Option (Int32 × zSt) :=
  if (S_0.1 125 14) = (257 : Int32) then (
  zbd (fx_Reader_emitWaiting S_0 (0 : Int32)) fun _ S_8 =>
  znm (zpI S_8 125 8 (1 : Int32)) fun S_10 =>
  some ((0 : Int32), S_10)) else (
  znm (fun (x_1 : Int32) (S_2 : zSt) =>
  some (x_1, S_2)) fun j_41 =>
  if (S_0.1 125 14) = (59 : Int32) then (
  zbd (fx_Reader_endLine S_0 (-59 : Int32)) fun r_3 S_4 =>
  j_41 r_3 S_4) else (
  j_41 (1 : Int32) S_0))
set_option maxHeartbeats 4000000 in
set_option maxRecDepth 100000 in
theorem cx_Reader_judgeAfterWorth (l : Launch) (D : va_G) (K : (Nat → Nat) × (Nat → Nat)) (cy : Nat → ClassId) (ad : Nat → Nat) (S_0 : zSt) (ro : Int32) (So : zSt) (hf : fx_Reader_judgeAfterWorth S_0 = some (ro, So)) : zMI l yX7_judgeAfterWorth (zws yX7_judgeAfterWorth cX7_judgeAfterWorth 1 (Option.some .int)) ({ frames := 3, cells := 0, slots := 0, locals := 63 }) D (zTy cy) K (zX cy ad) [.ref (ad 125)] S_0 ro So := by
  refine z_metI (own := RX7) (lv := [(0, .ref (ad 125))]) (by decide) rfl rfl (Nat.le_of_ble_eq_true rfl) rfl ?_
  intro p e s m below meth c A Q X hK hE hD hA hret hP hS ls hl
  obtain ⟨hx, hb, hml, hown, hts⟩ := id X
  have k0 := (fun w h => List.mem_cons_of_mem _ (zFX7 w h) : ∀ w ∈ u_ws RX7 TX7 16, w ∈ zws yX7_judgeAfterWorth cX7_judgeAfterWorth 1 (Option.some .int))
  have k1 := hts _ (List.mem_cons_of_mem _ wt_2_67)
  have k2 := hts _ (List.mem_cons_of_mem _ wt_2_61)
  refine lv_aload_n hx hb dX7_judgeAfterWorth_0 rfl (lv_at hl 0 rfl) ?_
  refine va_get (D := D) (ci := 7) (v := .int (S_0.1 125 14)) (C := RX7) (T := TX7) (N := 16) hx hb hts k0 hown hK hP 125 (zX_125 cy ad S_0) rfl 14 (by decide) k1 (fun _ h9 => h9) rfl dX7_judgeAfterWorth_1 ?_
  refine lv_sipush (v := 257) hx hb dX7_judgeAfterWorth_4 (by decide) ?_
  refine lv_icmp_ne (tgt := 22) hx hb dX7_judgeAfterWorth_7 (by decide) (fun c_11 => ?_) (fun c_11 => ?_)
  · have hf := z_if c_11 hf
    refine lv_aload_n hx hb dX7_judgeAfterWorth_22 rfl (lv_at hl 0 rfl) ?_
    refine va_get (D := D) (ci := 7) (v := .int (S_0.1 125 14)) (C := RX7) (T := TX7) (N := 16) hx hb hts k0 hown hK hP 125 (zX_125 cy ad S_0) rfl 14 (by decide) k1 (fun _ h9 => h9) rfl dX7_judgeAfterWorth_23 ?_
    refine lv_bipush (v := 59) hx hb dX7_judgeAfterWorth_26 (by decide) ?_
    obtain ⟨j_41, ej_41, hf⟩ := z_nm hf
    have J_41 : ∀ (x_1 : Int32) (S_2 : zSt) (H : Heap) (locs : List Loc) (ls : Array Slot), j_41 x_1 S_2 = some (ro, So) → va_P D vwCl (zX cy ad S_2) H → va_S A s.heap H locs → lv_has ls 1 [] → W p l e ({ frames := 3, cells := 0, slots := 0, locals := 63 }) s m ([.ref (ad 125)] : List Value).toArray below meth c H locs 0 0 Q (F0 m 41 ls [.int x_1]) := by
      intro x_1 S_2 H locs ls hf hP hS hl
      have hf := z_e2 ej_41 hf
      obtain ⟨h1, h2⟩ := z_s2 hf
      subst h1 h2
      exact hret _ _ _ _ hP hS dX7_judgeAfterWorth_41
    refine lv_icmp_ne (tgt := 40) hx hb dX7_judgeAfterWorth_28 (by decide) (fun c_6 => ?_) (fun c_6 => ?_)
    · have hf := z_if c_6 hf
      refine lv_iconst (v := 1) hx hb dX7_judgeAfterWorth_40 (by decide) ?_
      exact J_41 (1 : Int32) S_0 _ _ _ hf hP hS (lv_sub hl [] rfl)
    · have hf := z_it c_6 hf
      refine lv_aload_n hx hb dX7_judgeAfterWorth_31 rfl (lv_at hl 0 rfl) ?_
      refine lv_bipush (v := -59) hx hb dX7_judgeAfterWorth_32 (by decide) ?_
      obtain ⟨r_3, S_4, h_5, hf⟩ := z_bd hf
      refine z_cVI (As := [.int (-59 : Int32)]) (rest := []) X hK hE hD hA hP hS (cx_Reader_endLine l D K cy ad S_0 _ _ _ h_5) (cwV 1 hts (z_gV wt_3_213 wt_3_215 wp_19 wt_1_10 wt_3_216) rfl rfl rfl ⟨rfl, yd_yX7_endLine⟩ ⟨Nat.le_of_ble_eq_true rfl, Nat.le_of_ble_eq_true rfl⟩) (va_recv hK hP (ci := 7) (q0 := 125) rfl (zX_125 cy ad S_0)) hl.1 rfl rfl (Nat.le_of_ble_eq_true rfl) dX7_judgeAfterWorth_34 (fun H locs hP hS => ?_)
      refine lv_goto (tgt := 41) hx hb dX7_judgeAfterWorth_37 (by decide) ?_
      exact J_41 r_3 S_4 _ _ _ hf hP hS (lv_sub hl [] rfl)
  · have hf := z_it c_11 hf
    refine lv_aload_n hx hb dX7_judgeAfterWorth_10 rfl (lv_at hl 0 rfl) ?_
    refine lv_iconst (v := 0) hx hb dX7_judgeAfterWorth_11 (by decide) ?_
    obtain ⟨r_7, S_8, h_9, hf⟩ := z_bd hf
    refine z_cVV (As := [.int (0 : Int32)]) (rest := []) X hK hE hD hA hP hS (cx_Reader_emitWaiting l D K cy ad S_0 _ _ h_9) (cwV 1 hts (z_gV wt_3_204 wt_3_206 wp_17 wt_1_10 wt_3_207) rfl rfl rfl ⟨rfl, yd_yX7_emitWaiting⟩ ⟨Nat.le_of_ble_eq_true rfl, Nat.le_of_ble_eq_true rfl⟩) (va_recv hK hP (ci := 7) (q0 := 125) rfl (zX_125 cy ad S_0)) hl.1 rfl rfl (Nat.le_of_ble_eq_true rfl) dX7_judgeAfterWorth_12 (fun H locs hP hS => ?_)
    refine lv_aload_n hx hb dX7_judgeAfterWorth_15 rfl (lv_at hl 0 rfl) ?_
    refine lv_iconst (v := 1) hx hb dX7_judgeAfterWorth_16 (by decide) ?_
    refine va_put (D := D) (ci := 7) (v := .int (1 : Int32)) (ty := .int) (C := RX7) (T := TX7) (N := 16) hx hb hts k0 tyX7 tyX7_ok nmX7 hown hK hP (hD S_8) hS 125 (zX_125 cy ad S_8) rfl 8 (by decide) k2 (fun _ h9 => h9) rfl (tyX7_ok 8 (by decide)) rfl rfl (Nat.le_of_ble_eq_true rfl) dX7_judgeAfterWorth_17 (fun H locs hP _ hS => ?_)
    obtain ⟨S_10, eS_10, hf⟩ := z_nm hf
    have hP := zW_putI hP eS_10 (by decide) rfl
    refine lv_iconst (v := 0) hx hb dX7_judgeAfterWorth_20 (by decide) ?_
    obtain ⟨h1, h2⟩ := z_s2 hf
    subst h1 h2
    exact hret _ _ _ _ hP hS dX7_judgeAfterWorth_21
def fx_Reader_judgeComparison (S_0 : zSt) : Option (Int32 × zSt) :=
  znm (fun (S_1 : zSt) =>
  zbd (fx_Reader_takeOperator S_1 (2 : Int32)) fun _ S_3 =>
  znm (zpI S_3 125 9 (6 : Int32)) fun S_5 =>
  some ((0 : Int32), S_5)) fun j_29 =>
  if (S_0.1 125 14) = (60 : Int32) then (
  j_29  S_0) else (
  if (S_0.1 125 14) = (61 : Int32) then (
  j_29  S_0) else (
  if (S_0.1 125 14) = (62 : Int32) then (
  j_29  S_0) else (
  some ((1 : Int32), S_0))))
set_option maxHeartbeats 4000000 in
set_option maxRecDepth 100000 in
theorem cx_Reader_judgeComparison (l : Launch) (D : va_G) (K : (Nat → Nat) × (Nat → Nat)) (cy : Nat → ClassId) (ad : Nat → Nat) (S_0 : zSt) (ro : Int32) (So : zSt) (hf : fx_Reader_judgeComparison S_0 = some (ro, So)) : zMI l yX7_judgeComparison (zws yX7_judgeComparison cX7_judgeComparison 1 (Option.some .int)) ({ frames := 3, cells := 0, slots := 0, locals := 63 }) D (zTy cy) K (zX cy ad) [.ref (ad 125)] S_0 ro So := by
  refine z_metI (own := RX7) (lv := [(0, .ref (ad 125))]) (by decide) rfl rfl (Nat.le_of_ble_eq_true rfl) rfl ?_
  intro p e s m below meth c A Q X hK hE hD hA hret hP hS ls hl
  obtain ⟨hx, hb, hml, hown, hts⟩ := id X
  have k0 := (fun w h => List.mem_cons_of_mem _ (zFX7 w h) : ∀ w ∈ u_ws RX7 TX7 16, w ∈ zws yX7_judgeComparison cX7_judgeComparison 1 (Option.some .int))
  have k1 := hts _ (List.mem_cons_of_mem _ wt_2_67)
  have k2 := hts _ (List.mem_cons_of_mem _ wt_2_62)
  refine lv_aload_n hx hb dX7_judgeComparison_0 rfl (lv_at hl 0 rfl) ?_
  refine va_get (D := D) (ci := 7) (v := .int (S_0.1 125 14)) (C := RX7) (T := TX7) (N := 16) hx hb hts k0 hown hK hP 125 (zX_125 cy ad S_0) rfl 14 (by decide) k1 (fun _ h9 => h9) rfl dX7_judgeComparison_1 ?_
  refine lv_bipush (v := 60) hx hb dX7_judgeComparison_4 (by decide) ?_
  obtain ⟨j_29, ej_29, hf⟩ := z_nm hf
  have J_29 : ∀ (S_1 : zSt) (H : Heap) (locs : List Loc) (ls : Array Slot), j_29  S_1 = some (ro, So) → va_P D vwCl (zX cy ad S_1) H → va_S A s.heap H locs → lv_has ls 1 [(0, .ref (ad 125))] → W p l e ({ frames := 3, cells := 0, slots := 0, locals := 63 }) s m ([.ref (ad 125)] : List Value).toArray below meth c H locs 0 0 Q (F0 m 29 ls []) := by
    intro  S_1 H locs ls hf hP hS hl
    have hf := z_e1 ej_29 hf
    refine lv_aload_n hx hb dX7_judgeComparison_29 rfl (lv_at hl 0 rfl) ?_
    refine lv_iconst (v := 2) hx hb dX7_judgeComparison_30 (by decide) ?_
    obtain ⟨r_2, S_3, h_4, hf⟩ := z_bd hf
    refine z_cVV (As := [.int (2 : Int32)]) (rest := []) X hK hE hD hA hP hS (cx_Reader_takeOperator l D K cy ad S_1 _ _ h_4) (cwV 1 hts (z_gV wt_3_197 wt_3_199 wp_16 wt_1_10 wt_3_200) rfl rfl rfl ⟨rfl, yd_yX7_takeOperator⟩ ⟨Nat.le_of_ble_eq_true rfl, Nat.le_of_ble_eq_true rfl⟩) (va_recv hK hP (ci := 7) (q0 := 125) rfl (zX_125 cy ad S_1)) hl.1 rfl rfl (Nat.le_of_ble_eq_true rfl) dX7_judgeComparison_31 (fun H locs hP hS => ?_)
    refine lv_aload_n hx hb dX7_judgeComparison_34 rfl (lv_at hl 0 rfl) ?_
    refine lv_bipush (v := 6) hx hb dX7_judgeComparison_35 (by decide) ?_
    refine va_put (D := D) (ci := 7) (v := .int (6 : Int32)) (ty := .int) (C := RX7) (T := TX7) (N := 16) hx hb hts k0 tyX7 tyX7_ok nmX7 hown hK hP (hD S_3) hS 125 (zX_125 cy ad S_3) rfl 9 (by decide) k2 (fun _ h9 => h9) rfl (tyX7_ok 9 (by decide)) rfl rfl (Nat.le_of_ble_eq_true rfl) dX7_judgeComparison_37 (fun H locs hP _ hS => ?_)
    obtain ⟨S_5, eS_5, hf⟩ := z_nm hf
    have hP := zW_putI hP eS_5 (by decide) rfl
    refine lv_iconst (v := 0) hx hb dX7_judgeComparison_40 (by decide) ?_
    obtain ⟨h1, h2⟩ := z_s2 hf
    subst h1 h2
    exact hret _ _ _ _ hP hS dX7_judgeComparison_41
  refine lv_icmp_eq (tgt := 29) hx hb dX7_judgeComparison_6 (by decide) (fun c_8 => ?_) (fun c_8 => ?_)
  · have hf := z_it c_8 hf
    exact J_29  S_0 _ _ _ hf hP hS (lv_sub hl [0] rfl)
  · have hf := z_if c_8 hf
    refine lv_aload_n hx hb dX7_judgeComparison_9 rfl (lv_at hl 0 rfl) ?_
    refine va_get (D := D) (ci := 7) (v := .int (S_0.1 125 14)) (C := RX7) (T := TX7) (N := 16) hx hb hts k0 hown hK hP 125 (zX_125 cy ad S_0) rfl 14 (by decide) k1 (fun _ h9 => h9) rfl dX7_judgeComparison_10 ?_
    refine lv_bipush (v := 61) hx hb dX7_judgeComparison_13 (by decide) ?_
    refine lv_icmp_eq (tgt := 29) hx hb dX7_judgeComparison_15 (by decide) (fun c_7 => ?_) (fun c_7 => ?_)
    · have hf := z_it c_7 hf
      exact J_29  S_0 _ _ _ hf hP hS (lv_sub hl [0] rfl)
    · have hf := z_if c_7 hf
      refine lv_aload_n hx hb dX7_judgeComparison_18 rfl (lv_at hl 0 rfl) ?_
      refine va_get (D := D) (ci := 7) (v := .int (S_0.1 125 14)) (C := RX7) (T := TX7) (N := 16) hx hb hts k0 hown hK hP 125 (zX_125 cy ad S_0) rfl 14 (by decide) k1 (fun _ h9 => h9) rfl dX7_judgeComparison_19 ?_
      refine lv_bipush (v := 62) hx hb dX7_judgeComparison_22 (by decide) ?_
      refine lv_icmp_eq (tgt := 29) hx hb dX7_judgeComparison_24 (by decide) (fun c_6 => ?_) (fun c_6 => ?_)
      · have hf := z_it c_6 hf
        exact J_29  S_0 _ _ _ hf hP hS (lv_sub hl [0] rfl)
      · have hf := z_if c_6 hf
        refine lv_iconst (v := 1) hx hb dX7_judgeComparison_27 (by decide) ?_
        obtain ⟨h1, h2⟩ := z_s2 hf
        subst h1 h2
        exact hret _ _ _ _ hP hS dX7_judgeComparison_28
def fx_isWithin (S_0 : zSt) (a_1 : Int32) (a_2 : Int32) (a_3 : Int32) : Option (Int32 × zSt) :=
  znm (fun (x_1 : Int32) (S_2 : zSt) =>
  zck (zbo x_1) <|
  some (x_1, S_2)) fun j_15 =>
  znm (fun (S_4 : zSt) =>
  j_15 (0 : Int32) S_4) fun j_14 =>
  if a_1 < a_2 then (
  j_14  S_0) else (
  if a_3 < a_1 then (
  j_14  S_0) else (
  j_15 (1 : Int32) S_0))
set_option maxHeartbeats 4000000 in
set_option maxRecDepth 100000 in
theorem cx_isWithin (l : Launch) (D : va_G) (K : (Nat → Nat) × (Nat → Nat)) (cy : Nat → ClassId) (ad : Nat → Nat) (S_0 : zSt) (a_1 : Int32) (a_2 : Int32) (a_3 : Int32) (ro : Int32) (So : zSt) (hf : fx_isWithin S_0 a_1 a_2 a_3 = some (ro, So)) : zMI l yX11_isWithin (zws yX11_isWithin cX11_isWithin 3 (Option.some .boolean)) ({ frames := 0, cells := 0, slots := 0, locals := 0 }) D (zTy cy) K (zX cy ad) [.int a_1, .int a_2, .int a_3] S_0 ro So := by
  refine z_metZ (own := RX11) (lv := [(0, .int a_1), (1, .int a_2), (2, .int a_3)]) (by decide) rfl rfl (Nat.le_of_ble_eq_true rfl) rfl ?_
  intro p e s m below meth c A Q X hK hE hD hA hret hP hS ls hl
  obtain ⟨hx, hb, hml, hown, hts⟩ := id X
  refine lv_iload_n hx hb dX11_isWithin_0 rfl (lv_at hl 0 rfl) ?_
  refine lv_iload_n hx hb dX11_isWithin_1 rfl (lv_at hl 1 rfl) ?_
  obtain ⟨j_15, ej_15, hf⟩ := z_nm hf
  have J_15 : ∀ (x_1 : Int32) (S_2 : zSt) (H : Heap) (locs : List Loc) (ls : Array Slot), j_15 x_1 S_2 = some (ro, So) → va_P D vwCl (zX cy ad S_2) H → va_S A s.heap H locs → lv_has ls 3 [] → W p l e ({ frames := 0, cells := 0, slots := 0, locals := 0 }) s m ([.int a_1, .int a_2, .int a_3] : List Value).toArray below meth c H locs 0 0 Q (F0 m 15 ls [.int x_1]) := by
    intro x_1 S_2 H locs ls hf hP hS hl
    have hf := z_e2 ej_15 hf
    obtain ⟨h_3, hf⟩ := z_bo hf
    obtain ⟨h1, h2⟩ := z_s2 hf
    subst h1 h2
    exact hret _ _ _ _ h_3 hP hS dX11_isWithin_15
  obtain ⟨j_14, ej_14, hf⟩ := z_nm hf
  have J_14 : ∀ (S_4 : zSt) (H : Heap) (locs : List Loc) (ls : Array Slot), j_14  S_4 = some (ro, So) → va_P D vwCl (zX cy ad S_4) H → va_S A s.heap H locs → lv_has ls 3 [] → W p l e ({ frames := 0, cells := 0, slots := 0, locals := 0 }) s m ([.int a_1, .int a_2, .int a_3] : List Value).toArray below meth c H locs 0 0 Q (F0 m 14 ls []) := by
    intro  S_4 H locs ls hf hP hS hl
    have hf := z_e1 ej_14 hf
    refine lv_iconst (v := 0) hx hb dX11_isWithin_14 (by decide) ?_
    exact J_15 (0 : Int32) S_4 _ _ _ hf hP hS (lv_sub hl [] rfl)
  refine lv_icmp_lt (tgt := 14) hx hb dX11_isWithin_2 (by decide) (fun c_6 => ?_) (fun c_6 => ?_)
  · have hf := z_it c_6 hf
    exact J_14  S_0 _ _ _ hf hP hS (lv_sub hl [] rfl)
  · have hf := z_if c_6 hf
    refine lv_iload_n hx hb dX11_isWithin_5 rfl (lv_at hl 0 rfl) ?_
    refine lv_iload_n hx hb dX11_isWithin_6 rfl (lv_at hl 2 rfl) ?_
    refine lv_icmp_gt (tgt := 14) hx hb dX11_isWithin_7 (by decide) (fun c_5 => ?_) (fun c_5 => ?_)
    · have hf := z_it c_5 hf
      exact J_14  S_0 _ _ _ hf hP hS (lv_sub hl [] rfl)
    · have hf := z_if c_5 hf
      refine lv_iconst (v := 1) hx hb dX11_isWithin_10 (by decide) ?_
      refine lv_goto (tgt := 15) hx hb dX11_isWithin_11 (by decide) ?_
      exact J_15 (1 : Int32) S_0 _ _ _ hf hP hS (lv_sub hl [] rfl)
def fx_Reader_judgeOperand (S_0 : zSt) : Option (Int32 × zSt) :=
  znm (fun (S_1 : zSt) =>
  znm (zpI S_1 125 8 (S_1.1 125 9)) fun S_2 =>
  some ((0 : Int32), S_2)) fun j_58 =>
  if (S_0.1 125 14) = (300 : Int32) then (
  zbd (fx_Reader_emit S_0 (S_0.1 125 15)) fun _ S_11 =>
  j_58  S_11) else (
  zbd (fx_isWithin S_0 (S_0.1 125 14) (261 : Int32) (270 : Int32)) fun r_3 S_4 =>
  if r_3 = 0 then (
  some ((1 : Int32), S_4)) else (
  zbd (fx_Reader_emit S_4 (((10000 : Int32) + (S_4.1 125 14)) - (261 : Int32))) fun _ S_7 =>
  j_58  S_7))
set_option maxHeartbeats 4000000 in
set_option maxRecDepth 100000 in
theorem cx_Reader_judgeOperand (l : Launch) (D : va_G) (K : (Nat → Nat) × (Nat → Nat)) (cy : Nat → ClassId) (ad : Nat → Nat) (S_0 : zSt) (ro : Int32) (So : zSt) (hf : fx_Reader_judgeOperand S_0 = some (ro, So)) : zMI l yX7_judgeOperand (zws yX7_judgeOperand cX7_judgeOperand 1 (Option.some .int)) ({ frames := 1, cells := 0, slots := 0, locals := 22 }) D (zTy cy) K (zX cy ad) [.ref (ad 125)] S_0 ro So := by
  refine z_metI (own := RX7) (lv := [(0, .ref (ad 125))]) (by decide) rfl rfl (Nat.le_of_ble_eq_true rfl) rfl ?_
  intro p e s m below meth c A Q X hK hE hD hA hret hP hS ls hl
  obtain ⟨hx, hb, hml, hown, hts⟩ := id X
  have k0 := (fun w h => List.mem_cons_of_mem _ (zFX7 w h) : ∀ w ∈ u_ws RX7 TX7 16, w ∈ zws yX7_judgeOperand cX7_judgeOperand 1 (Option.some .int))
  have k1 := hts _ (List.mem_cons_of_mem _ wt_2_67)
  have k2 := hts _ (List.mem_cons_of_mem _ wt_2_62)
  have k3 := hts _ (List.mem_cons_of_mem _ wt_2_61)
  have k4 := hts _ (List.mem_cons_of_mem _ wt_1_1)
  have k5 := hts _ (List.mem_cons_of_mem _ wt_2_220)
  have k6 := hts _ (List.mem_cons_of_mem _ wt_2_68)
  refine lv_aload_n hx hb dX7_judgeOperand_0 rfl (lv_at hl 0 rfl) ?_
  refine va_get (D := D) (ci := 7) (v := .int (S_0.1 125 14)) (C := RX7) (T := TX7) (N := 16) hx hb hts k0 hown hK hP 125 (zX_125 cy ad S_0) rfl 14 (by decide) k1 (fun _ h9 => h9) rfl dX7_judgeOperand_1 ?_
  refine lv_sipush (v := 300) hx hb dX7_judgeOperand_4 (by decide) ?_
  obtain ⟨j_58, ej_58, hf⟩ := z_nm hf
  have J_58 : ∀ (S_1 : zSt) (H : Heap) (locs : List Loc) (ls : Array Slot), j_58  S_1 = some (ro, So) → va_P D vwCl (zX cy ad S_1) H → va_S A s.heap H locs → lv_has ls 1 [(0, .ref (ad 125))] → W p l e ({ frames := 1, cells := 0, slots := 0, locals := 22 }) s m ([.ref (ad 125)] : List Value).toArray below meth c H locs 0 0 Q (F0 m 58 ls []) := by
    intro  S_1 H locs ls hf hP hS hl
    have hf := z_e1 ej_58 hf
    refine lv_aload_n hx hb dX7_judgeOperand_58 rfl (lv_at hl 0 rfl) ?_
    refine lv_aload_n hx hb dX7_judgeOperand_59 rfl (lv_at hl 0 rfl) ?_
    refine va_get (D := D) (ci := 7) (v := .int (S_1.1 125 9)) (C := RX7) (T := TX7) (N := 16) hx hb hts k0 hown hK hP 125 (zX_125 cy ad S_1) rfl 9 (by decide) k2 (fun _ h9 => h9) rfl dX7_judgeOperand_60 ?_
    refine va_put (D := D) (ci := 7) (v := .int (S_1.1 125 9)) (ty := .int) (C := RX7) (T := TX7) (N := 16) hx hb hts k0 tyX7 tyX7_ok nmX7 hown hK hP (hD S_1) hS 125 (zX_125 cy ad S_1) rfl 8 (by decide) k3 (fun _ h9 => h9) rfl (tyX7_ok 8 (by decide)) rfl rfl (Nat.le_of_ble_eq_true rfl) dX7_judgeOperand_63 (fun H locs hP _ hS => ?_)
    obtain ⟨S_2, eS_2, hf⟩ := z_nm hf
    have hP := zW_putI hP eS_2 (by decide) rfl
    refine lv_iconst (v := 0) hx hb dX7_judgeOperand_66 (by decide) ?_
    obtain ⟨h1, h2⟩ := z_s2 hf
    subst h1 h2
    exact hret _ _ _ _ hP hS dX7_judgeOperand_67
  refine lv_icmp_ne (tgt := 21) hx hb dX7_judgeOperand_7 (by decide) (fun c_13 => ?_) (fun c_13 => ?_)
  · have hf := z_if c_13 hf
    refine lv_aload_n hx hb dX7_judgeOperand_21 rfl (lv_at hl 0 rfl) ?_
    refine va_get (D := D) (ci := 7) (v := .int (S_0.1 125 14)) (C := RX7) (T := TX7) (N := 16) hx hb hts k0 hown hK hP 125 (zX_125 cy ad S_0) rfl 14 (by decide) k1 (fun _ h9 => h9) rfl dX7_judgeOperand_22 ?_
    refine lv_sipush (v := 261) hx hb dX7_judgeOperand_25 (by decide) ?_
    refine lv_sipush (v := 270) hx hb dX7_judgeOperand_28 (by decide) ?_
    obtain ⟨r_3, S_4, h_5, hf⟩ := z_bd hf
    refine z_cSNI (As := [.int (S_0.1 125 14), .int (261 : Int32), .int (270 : Int32)]) (rest := []) X hK hE hD hA hP hS (cx_isWithin l D K cy ad S_0 _ _ _ _ _ h_5) ⟨va_cnB 3 hts (z_gT wt_2_221) rfl rfl rfl (hE.2.2.2.2.1 _ (List.mem_of_getElem? (i := 8) rfl)) k4 yd_yX11_isWithin ⟨Nat.le_of_ble_eq_true rfl, Nat.le_of_ble_eq_true rfl⟩, k5, trivial⟩ hl.1 rfl rfl (Nat.le_of_ble_eq_true rfl) dX7_judgeOperand_31 (fun H locs hP hS => ?_)
    refine lv_if_eq (tgt := 56) hx hb dX7_judgeOperand_34 (by decide) (fun c_9 => ?_) (fun c_9 => ?_)
    · have hf := z_it c_9 hf
      refine lv_iconst (v := 1) hx hb dX7_judgeOperand_56 (by decide) ?_
      obtain ⟨h1, h2⟩ := z_s2 hf
      subst h1 h2
      exact hret _ _ _ _ hP hS dX7_judgeOperand_57
    · have hf := z_if c_9 hf
      refine lv_aload_n hx hb dX7_judgeOperand_37 rfl (lv_at hl 0 rfl) ?_
      refine lv_sipush (v := 10000) hx hb dX7_judgeOperand_38 (by decide) ?_
      refine lv_aload_n hx hb dX7_judgeOperand_41 rfl (lv_at hl 0 rfl) ?_
      refine va_get (D := D) (ci := 7) (v := .int (S_4.1 125 14)) (C := RX7) (T := TX7) (N := 16) hx hb hts k0 hown hK hP 125 (zX_125 cy ad S_4) rfl 14 (by decide) k1 (fun _ h9 => h9) rfl dX7_judgeOperand_42 ?_
      refine lv_iadd hx hb dX7_judgeOperand_45 ?_
      refine lv_sipush (v := 261) hx hb dX7_judgeOperand_46 (by decide) ?_
      refine lv_isub hx hb dX7_judgeOperand_49 ?_
      obtain ⟨r_6, S_7, h_8, hf⟩ := z_bd hf
      refine z_cVV (As := [.int (((10000 : Int32) + (S_4.1 125 14)) - (261 : Int32))]) (rest := []) X hK hE hD hA hP hS (cx_Reader_emit l D K cy ad S_4 _ _ h_8) (cwV 1 hts (z_gV wt_3_181 wt_3_183 wp_12 wt_1_10 wt_3_184) rfl rfl rfl ⟨rfl, yd_yX7_emit⟩ ⟨Nat.le_of_ble_eq_true rfl, Nat.le_of_ble_eq_true rfl⟩) (va_recv hK hP (ci := 7) (q0 := 125) rfl (zX_125 cy ad S_4)) hl.1 rfl rfl (Nat.le_of_ble_eq_true rfl) dX7_judgeOperand_50 (fun H locs hP hS => ?_)
      refine lv_goto (tgt := 58) hx hb dX7_judgeOperand_53 (by decide) ?_
      exact J_58  S_7 _ _ _ hf hP hS (lv_sub hl [0] rfl)
  · have hf := z_it c_13 hf
    refine lv_aload_n hx hb dX7_judgeOperand_10 rfl (lv_at hl 0 rfl) ?_
    refine lv_aload_n hx hb dX7_judgeOperand_11 rfl (lv_at hl 0 rfl) ?_
    refine va_get (D := D) (ci := 7) (v := .int (S_0.1 125 15)) (C := RX7) (T := TX7) (N := 16) hx hb hts k0 hown hK hP 125 (zX_125 cy ad S_0) rfl 15 (by decide) k6 (fun _ h9 => h9) rfl dX7_judgeOperand_12 ?_
    obtain ⟨r_10, S_11, h_12, hf⟩ := z_bd hf
    refine z_cVV (As := [.int (S_0.1 125 15)]) (rest := []) X hK hE hD hA hP hS (cx_Reader_emit l D K cy ad S_0 _ _ h_12) (cwV 1 hts (z_gV wt_3_181 wt_3_183 wp_12 wt_1_10 wt_3_184) rfl rfl rfl ⟨rfl, yd_yX7_emit⟩ ⟨Nat.le_of_ble_eq_true rfl, Nat.le_of_ble_eq_true rfl⟩) (va_recv hK hP (ci := 7) (q0 := 125) rfl (zX_125 cy ad S_0)) hl.1 rfl rfl (Nat.le_of_ble_eq_true rfl) dX7_judgeOperand_15 (fun H locs hP hS => ?_)
    refine lv_goto (tgt := 58) hx hb dX7_judgeOperand_18 (by decide) ?_
    exact J_58  S_11 _ _ _ hf hP hS (lv_sub hl [0] rfl)
def fx_Reader_judgeCondition (S_0 : zSt) : Option (Int32 × zSt) :=
  znm (fun (S_1 : zSt) =>
  if (S_1.1 125 10) < (8 : Int32) then (
  znm (zpI S_1 125 10 ((S_1.1 125 10) + (1 : Int32))) fun S_2 =>
  znm (fun (S_3 : zSt) =>
  zbd (fx_Reader_push S_3 (S_3.1 125 14)) fun _ S_5 =>
  some ((0 : Int32), S_5)) fun j_69 =>
  if (S_2.1 125 14) = (40 : Int32) then (
  znm (zpI S_2 125 11 ((S_2.1 125 11) + (1 : Int32))) fun S_7 =>
  j_69  S_7) else (
  j_69  S_2)) else (
  some ((3 : Int32), S_1))) fun j_29 =>
  if (S_0.1 125 14) = (260 : Int32) then (
  j_29  S_0) else (
  if (S_0.1 125 14) = (40 : Int32) then (
  j_29  S_0) else (
  znm (zpI S_0 125 9 (5 : Int32)) fun S_10 =>
  zbd (fx_Reader_judgeOperand S_10) fun r_11 S_12 =>
  some (r_11, S_12)))
set_option maxHeartbeats 4000000 in
set_option maxRecDepth 100000 in
theorem cx_Reader_judgeCondition (l : Launch) (D : va_G) (K : (Nat → Nat) × (Nat → Nat)) (cy : Nat → ClassId) (ad : Nat → Nat) (S_0 : zSt) (ro : Int32) (So : zSt) (hf : fx_Reader_judgeCondition S_0 = some (ro, So)) : zMI l yX7_judgeCondition (zws yX7_judgeCondition cX7_judgeCondition 1 (Option.some .int)) ({ frames := 2, cells := 0, slots := 0, locals := 42 }) D (zTy cy) K (zX cy ad) [.ref (ad 125)] S_0 ro So := by
  refine z_metI (own := RX7) (lv := [(0, .ref (ad 125))]) (by decide) rfl rfl (Nat.le_of_ble_eq_true rfl) rfl ?_
  intro p e s m below meth c A Q X hK hE hD hA hret hP hS ls hl
  obtain ⟨hx, hb, hml, hown, hts⟩ := id X
  have k0 := (fun w h => List.mem_cons_of_mem _ (zFX7 w h) : ∀ w ∈ u_ws RX7 TX7 16, w ∈ zws yX7_judgeCondition cX7_judgeCondition 1 (Option.some .int))
  have k1 := hts _ (List.mem_cons_of_mem _ wt_2_67)
  have k2 := hts _ (List.mem_cons_of_mem _ wt_2_63)
  have k3 := hts _ (List.mem_cons_of_mem _ wt_2_64)
  have k4 := hts _ (List.mem_cons_of_mem _ wt_2_62)
  refine lv_aload_n hx hb dX7_judgeCondition_0 rfl (lv_at hl 0 rfl) ?_
  refine va_get (D := D) (ci := 7) (v := .int (S_0.1 125 14)) (C := RX7) (T := TX7) (N := 16) hx hb hts k0 hown hK hP 125 (zX_125 cy ad S_0) rfl 14 (by decide) k1 (fun _ h9 => h9) rfl dX7_judgeCondition_1 ?_
  refine lv_sipush (v := 260) hx hb dX7_judgeCondition_4 (by decide) ?_
  obtain ⟨j_29, ej_29, hf⟩ := z_nm hf
  have J_29 : ∀ (S_1 : zSt) (H : Heap) (locs : List Loc) (ls : Array Slot), j_29  S_1 = some (ro, So) → va_P D vwCl (zX cy ad S_1) H → va_S A s.heap H locs → lv_has ls 1 [(0, .ref (ad 125))] → W p l e ({ frames := 2, cells := 0, slots := 0, locals := 42 }) s m ([.ref (ad 125)] : List Value).toArray below meth c H locs 0 0 Q (F0 m 29 ls []) := by
    intro  S_1 H locs ls hf hP hS hl
    have hf := z_e1 ej_29 hf
    refine lv_aload_n hx hb dX7_judgeCondition_29 rfl (lv_at hl 0 rfl) ?_
    refine va_get (D := D) (ci := 7) (v := .int (S_1.1 125 10)) (C := RX7) (T := TX7) (N := 16) hx hb hts k0 hown hK hP 125 (zX_125 cy ad S_1) rfl 10 (by decide) k2 (fun _ h9 => h9) rfl dX7_judgeCondition_30 ?_
    refine lv_bipush (v := 8) hx hb dX7_judgeCondition_33 (by decide) ?_
    refine lv_icmp_lt (tgt := 40) hx hb dX7_judgeCondition_35 (by decide) (fun c_9 => ?_) (fun c_9 => ?_)
    · have hf := z_it c_9 hf
      refine lv_aload_n hx hb dX7_judgeCondition_40 rfl (lv_at hl 0 rfl) ?_
      refine lv_dup hx hb dX7_judgeCondition_41 rfl ?_
      refine va_get (D := D) (ci := 7) (v := .int (S_1.1 125 10)) (C := RX7) (T := TX7) (N := 16) hx hb hts k0 hown hK hP 125 (zX_125 cy ad S_1) rfl 10 (by decide) k2 (fun _ h9 => h9) rfl dX7_judgeCondition_42 ?_
      refine lv_iconst (v := 1) hx hb dX7_judgeCondition_45 (by decide) ?_
      refine lv_iadd hx hb dX7_judgeCondition_46 ?_
      refine va_put (D := D) (ci := 7) (v := .int ((S_1.1 125 10) + (1 : Int32))) (ty := .int) (C := RX7) (T := TX7) (N := 16) hx hb hts k0 tyX7 tyX7_ok nmX7 hown hK hP (hD S_1) hS 125 (zX_125 cy ad S_1) rfl 10 (by decide) k2 (fun _ h9 => h9) rfl (tyX7_ok 10 (by decide)) rfl rfl (Nat.le_of_ble_eq_true rfl) dX7_judgeCondition_47 (fun H locs hP _ hS => ?_)
      obtain ⟨S_2, eS_2, hf⟩ := z_nm hf
      have hP := zW_putI hP eS_2 (by decide) rfl
      refine lv_aload_n hx hb dX7_judgeCondition_50 rfl (lv_at hl 0 rfl) ?_
      refine va_get (D := D) (ci := 7) (v := .int (S_2.1 125 14)) (C := RX7) (T := TX7) (N := 16) hx hb hts k0 hown hK hP 125 (zX_125 cy ad S_2) rfl 14 (by decide) k1 (fun _ h9 => h9) rfl dX7_judgeCondition_51 ?_
      refine lv_bipush (v := 40) hx hb dX7_judgeCondition_54 (by decide) ?_
      obtain ⟨j_69, ej_69, hf⟩ := z_nm hf
      have J_69 : ∀ (S_3 : zSt) (H : Heap) (locs : List Loc) (ls : Array Slot), j_69  S_3 = some (ro, So) → va_P D vwCl (zX cy ad S_3) H → va_S A s.heap H locs → lv_has ls 1 [(0, .ref (ad 125))] → W p l e ({ frames := 2, cells := 0, slots := 0, locals := 42 }) s m ([.ref (ad 125)] : List Value).toArray below meth c H locs 0 0 Q (F0 m 69 ls []) := by
        intro  S_3 H locs ls hf hP hS hl
        have hf := z_e1 ej_69 hf
        refine lv_aload_n hx hb dX7_judgeCondition_69 rfl (lv_at hl 0 rfl) ?_
        refine lv_aload_n hx hb dX7_judgeCondition_70 rfl (lv_at hl 0 rfl) ?_
        refine va_get (D := D) (ci := 7) (v := .int (S_3.1 125 14)) (C := RX7) (T := TX7) (N := 16) hx hb hts k0 hown hK hP 125 (zX_125 cy ad S_3) rfl 14 (by decide) k1 (fun _ h9 => h9) rfl dX7_judgeCondition_71 ?_
        obtain ⟨r_4, S_5, h_6, hf⟩ := z_bd hf
        refine z_cVV (As := [.int (S_3.1 125 14)]) (rest := []) X hK hE hD hA hP hS (cx_Reader_push l D K cy ad S_3 _ _ h_6) (cwV 1 hts (z_gV wt_3_185 wt_3_187 wp_13 wt_1_10 wt_3_188) rfl rfl rfl ⟨rfl, yd_yX7_push⟩ ⟨Nat.le_of_ble_eq_true rfl, Nat.le_of_ble_eq_true rfl⟩) (va_recv hK hP (ci := 7) (q0 := 125) rfl (zX_125 cy ad S_3)) hl.1 rfl rfl (Nat.le_of_ble_eq_true rfl) dX7_judgeCondition_74 (fun H locs hP hS => ?_)
        refine lv_iconst (v := 0) hx hb dX7_judgeCondition_77 (by decide) ?_
        obtain ⟨h1, h2⟩ := z_s2 hf
        subst h1 h2
        exact hret _ _ _ _ hP hS dX7_judgeCondition_78
      refine lv_icmp_ne (tgt := 69) hx hb dX7_judgeCondition_56 (by decide) (fun c_8 => ?_) (fun c_8 => ?_)
      · have hf := z_if c_8 hf
        exact J_69  S_2 _ _ _ hf hP hS (lv_sub hl [0] rfl)
      · have hf := z_it c_8 hf
        refine lv_aload_n hx hb dX7_judgeCondition_59 rfl (lv_at hl 0 rfl) ?_
        refine lv_dup hx hb dX7_judgeCondition_60 rfl ?_
        refine va_get (D := D) (ci := 7) (v := .int (S_2.1 125 11)) (C := RX7) (T := TX7) (N := 16) hx hb hts k0 hown hK hP 125 (zX_125 cy ad S_2) rfl 11 (by decide) k3 (fun _ h9 => h9) rfl dX7_judgeCondition_61 ?_
        refine lv_iconst (v := 1) hx hb dX7_judgeCondition_64 (by decide) ?_
        refine lv_iadd hx hb dX7_judgeCondition_65 ?_
        refine va_put (D := D) (ci := 7) (v := .int ((S_2.1 125 11) + (1 : Int32))) (ty := .int) (C := RX7) (T := TX7) (N := 16) hx hb hts k0 tyX7 tyX7_ok nmX7 hown hK hP (hD S_2) hS 125 (zX_125 cy ad S_2) rfl 11 (by decide) k3 (fun _ h9 => h9) rfl (tyX7_ok 11 (by decide)) rfl rfl (Nat.le_of_ble_eq_true rfl) dX7_judgeCondition_66 (fun H locs hP _ hS => ?_)
        obtain ⟨S_7, eS_7, hf⟩ := z_nm hf
        have hP := zW_putI hP eS_7 (by decide) rfl
        exact J_69  S_7 _ _ _ hf hP hS (lv_sub hl [0] rfl)
    · have hf := z_if c_9 hf
      refine lv_iconst (v := 3) hx hb dX7_judgeCondition_38 (by decide) ?_
      obtain ⟨h1, h2⟩ := z_s2 hf
      subst h1 h2
      exact hret _ _ _ _ hP hS dX7_judgeCondition_39
  refine lv_icmp_eq (tgt := 29) hx hb dX7_judgeCondition_7 (by decide) (fun c_15 => ?_) (fun c_15 => ?_)
  · have hf := z_it c_15 hf
    exact J_29  S_0 _ _ _ hf hP hS (lv_sub hl [0] rfl)
  · have hf := z_if c_15 hf
    refine lv_aload_n hx hb dX7_judgeCondition_10 rfl (lv_at hl 0 rfl) ?_
    refine va_get (D := D) (ci := 7) (v := .int (S_0.1 125 14)) (C := RX7) (T := TX7) (N := 16) hx hb hts k0 hown hK hP 125 (zX_125 cy ad S_0) rfl 14 (by decide) k1 (fun _ h9 => h9) rfl dX7_judgeCondition_11 ?_
    refine lv_bipush (v := 40) hx hb dX7_judgeCondition_14 (by decide) ?_
    refine lv_icmp_eq (tgt := 29) hx hb dX7_judgeCondition_16 (by decide) (fun c_14 => ?_) (fun c_14 => ?_)
    · have hf := z_it c_14 hf
      exact J_29  S_0 _ _ _ hf hP hS (lv_sub hl [0] rfl)
    · have hf := z_if c_14 hf
      refine lv_aload_n hx hb dX7_judgeCondition_19 rfl (lv_at hl 0 rfl) ?_
      refine lv_iconst (v := 5) hx hb dX7_judgeCondition_20 (by decide) ?_
      refine va_put (D := D) (ci := 7) (v := .int (5 : Int32)) (ty := .int) (C := RX7) (T := TX7) (N := 16) hx hb hts k0 tyX7 tyX7_ok nmX7 hown hK hP (hD S_0) hS 125 (zX_125 cy ad S_0) rfl 9 (by decide) k4 (fun _ h9 => h9) rfl (tyX7_ok 9 (by decide)) rfl rfl (Nat.le_of_ble_eq_true rfl) dX7_judgeCondition_21 (fun H locs hP _ hS => ?_)
      obtain ⟨S_10, eS_10, hf⟩ := z_nm hf
      have hP := zW_putI hP eS_10 (by decide) rfl
      refine lv_aload_n hx hb dX7_judgeCondition_24 rfl (lv_at hl 0 rfl) ?_
      obtain ⟨r_11, S_12, h_13, hf⟩ := z_bd hf
      refine z_cVI (As := []) (rest := []) X hK hE hD hA hP hS (cx_Reader_judgeOperand l D K cy ad S_10 _ _ h_13) (cwV 0 hts (z_gV wt_3_177 wt_3_179 wp_11 wt_1_10 wt_3_180) rfl rfl rfl ⟨rfl, yd_yX7_judgeOperand⟩ ⟨Nat.le_of_ble_eq_true rfl, Nat.le_of_ble_eq_true rfl⟩) (va_recv hK hP (ci := 7) (q0 := 125) rfl (zX_125 cy ad S_10)) hl.1 rfl rfl (Nat.le_of_ble_eq_true rfl) dX7_judgeCondition_25 (fun H locs hP hS => ?_)
      obtain ⟨h1, h2⟩ := z_s2 hf
      subst h1 h2
      exact hret _ _ _ _ hP hS dX7_judgeCondition_28
def fx_Reader_judgeDivisor (S_0 : zSt) : Option (Int32 × zSt) :=
  if (S_0.1 125 14) = (300 : Int32) then (
  znm (fun (x_1 : Int32) (S_2 : zSt) =>
  some (x_1, S_2)) fun j_27 =>
  if (S_0.1 125 15) = 0 then (
  j_27 (2 : Int32) S_0) else (
  zbd (fx_Reader_judgeOperand S_0) fun r_3 S_4 =>
  j_27 r_3 S_4)) else (
  some ((1 : Int32), S_0))
set_option maxHeartbeats 4000000 in
set_option maxRecDepth 100000 in
theorem cx_Reader_judgeDivisor (l : Launch) (D : va_G) (K : (Nat → Nat) × (Nat → Nat)) (cy : Nat → ClassId) (ad : Nat → Nat) (S_0 : zSt) (ro : Int32) (So : zSt) (hf : fx_Reader_judgeDivisor S_0 = some (ro, So)) : zMI l yX7_judgeDivisor (zws yX7_judgeDivisor cX7_judgeDivisor 1 (Option.some .int)) ({ frames := 2, cells := 0, slots := 0, locals := 42 }) D (zTy cy) K (zX cy ad) [.ref (ad 125)] S_0 ro So := by
  refine z_metI (own := RX7) (lv := [(0, .ref (ad 125))]) (by decide) rfl rfl (Nat.le_of_ble_eq_true rfl) rfl ?_
  intro p e s m below meth c A Q X hK hE hD hA hret hP hS ls hl
  obtain ⟨hx, hb, hml, hown, hts⟩ := id X
  have k0 := (fun w h => List.mem_cons_of_mem _ (zFX7 w h) : ∀ w ∈ u_ws RX7 TX7 16, w ∈ zws yX7_judgeDivisor cX7_judgeDivisor 1 (Option.some .int))
  have k1 := hts _ (List.mem_cons_of_mem _ wt_2_67)
  have k2 := hts _ (List.mem_cons_of_mem _ wt_2_68)
  refine lv_aload_n hx hb dX7_judgeDivisor_0 rfl (lv_at hl 0 rfl) ?_
  refine va_get (D := D) (ci := 7) (v := .int (S_0.1 125 14)) (C := RX7) (T := TX7) (N := 16) hx hb hts k0 hown hK hP 125 (zX_125 cy ad S_0) rfl 14 (by decide) k1 (fun _ h9 => h9) rfl dX7_judgeDivisor_1 ?_
  refine lv_sipush (v := 300) hx hb dX7_judgeDivisor_4 (by decide) ?_
  refine lv_icmp_eq (tgt := 12) hx hb dX7_judgeDivisor_7 (by decide) (fun c_7 => ?_) (fun c_7 => ?_)
  · have hf := z_it c_7 hf
    refine lv_aload_n hx hb dX7_judgeDivisor_12 rfl (lv_at hl 0 rfl) ?_
    refine va_get (D := D) (ci := 7) (v := .int (S_0.1 125 15)) (C := RX7) (T := TX7) (N := 16) hx hb hts k0 hown hK hP 125 (zX_125 cy ad S_0) rfl 15 (by decide) k2 (fun _ h9 => h9) rfl dX7_judgeDivisor_13 ?_
    obtain ⟨j_27, ej_27, hf⟩ := z_nm hf
    have J_27 : ∀ (x_1 : Int32) (S_2 : zSt) (H : Heap) (locs : List Loc) (ls : Array Slot), j_27 x_1 S_2 = some (ro, So) → va_P D vwCl (zX cy ad S_2) H → va_S A s.heap H locs → lv_has ls 1 [] → W p l e ({ frames := 2, cells := 0, slots := 0, locals := 42 }) s m ([.ref (ad 125)] : List Value).toArray below meth c H locs 0 0 Q (F0 m 27 ls [.int x_1]) := by
      intro x_1 S_2 H locs ls hf hP hS hl
      have hf := z_e2 ej_27 hf
      obtain ⟨h1, h2⟩ := z_s2 hf
      subst h1 h2
      exact hret _ _ _ _ hP hS dX7_judgeDivisor_27
    refine lv_if_ne (tgt := 23) hx hb dX7_judgeDivisor_16 (by decide) (fun c_6 => ?_) (fun c_6 => ?_)
    · have hf := z_if c_6 hf
      refine lv_aload_n hx hb dX7_judgeDivisor_23 rfl (lv_at hl 0 rfl) ?_
      obtain ⟨r_3, S_4, h_5, hf⟩ := z_bd hf
      refine z_cVI (As := []) (rest := []) X hK hE hD hA hP hS (cx_Reader_judgeOperand l D K cy ad S_0 _ _ h_5) (cwV 0 hts (z_gV wt_3_177 wt_3_179 wp_11 wt_1_10 wt_3_180) rfl rfl rfl ⟨rfl, yd_yX7_judgeOperand⟩ ⟨Nat.le_of_ble_eq_true rfl, Nat.le_of_ble_eq_true rfl⟩) (va_recv hK hP (ci := 7) (q0 := 125) rfl (zX_125 cy ad S_0)) hl.1 rfl rfl (Nat.le_of_ble_eq_true rfl) dX7_judgeDivisor_24 (fun H locs hP hS => ?_)
      exact J_27 r_3 S_4 _ _ _ hf hP hS (lv_sub hl [] rfl)
    · have hf := z_it c_6 hf
      refine lv_iconst (v := 2) hx hb dX7_judgeDivisor_19 (by decide) ?_
      refine lv_goto (tgt := 27) hx hb dX7_judgeDivisor_20 (by decide) ?_
      exact J_27 (2 : Int32) S_0 _ _ _ hf hP hS (lv_sub hl [] rfl)
  · have hf := z_if c_7 hf
    refine lv_iconst (v := 1) hx hb dX7_judgeDivisor_10 (by decide) ?_
    obtain ⟨h1, h2⟩ := z_s2 hf
    subst h1 h2
    exact hret _ _ _ _ hP hS dX7_judgeDivisor_11
def fx_Reader_judgeLine (S_0 : zSt) : Option (Int32 × zSt) :=
  if (S_0.1 125 14) = (256 : Int32) then (
  if (S_0.1 125 3) < (16 : Int32) then (
  znm (zpI S_0 125 3 ((S_0.1 125 3) + (1 : Int32))) fun S_1 =>
  znm (zpI S_1 125 9 (4 : Int32)) fun S_2 =>
  znm (zpI S_2 125 8 (2 : Int32)) fun S_3 =>
  some ((0 : Int32), S_3)) else (
  some ((3 : Int32), S_0))) else (
  some ((1 : Int32), S_0))
set_option maxHeartbeats 4000000 in
set_option maxRecDepth 100000 in
theorem cx_Reader_judgeLine (l : Launch) (D : va_G) (K : (Nat → Nat) × (Nat → Nat)) (cy : Nat → ClassId) (ad : Nat → Nat) (S_0 : zSt) (ro : Int32) (So : zSt) (hf : fx_Reader_judgeLine S_0 = some (ro, So)) : zMI l yX7_judgeLine (zws yX7_judgeLine cX7_judgeLine 1 (Option.some .int)) ({ frames := 0, cells := 0, slots := 0, locals := 0 }) D (zTy cy) K (zX cy ad) [.ref (ad 125)] S_0 ro So := by
  refine z_metI (own := RX7) (lv := [(0, .ref (ad 125))]) (by decide) rfl rfl (Nat.le_of_ble_eq_true rfl) rfl ?_
  intro p e s m below meth c A Q X hK hE hD hA hret hP hS ls hl
  obtain ⟨hx, hb, hml, hown, hts⟩ := id X
  have k0 := (fun w h => List.mem_cons_of_mem _ (zFX7 w h) : ∀ w ∈ u_ws RX7 TX7 16, w ∈ zws yX7_judgeLine cX7_judgeLine 1 (Option.some .int))
  have k1 := hts _ (List.mem_cons_of_mem _ wt_2_67)
  have k2 := hts _ (List.mem_cons_of_mem _ wt_2_53)
  have k3 := hts _ (List.mem_cons_of_mem _ wt_2_62)
  have k4 := hts _ (List.mem_cons_of_mem _ wt_2_61)
  refine lv_aload_n hx hb dX7_judgeLine_0 rfl (lv_at hl 0 rfl) ?_
  refine va_get (D := D) (ci := 7) (v := .int (S_0.1 125 14)) (C := RX7) (T := TX7) (N := 16) hx hb hts k0 hown hK hP 125 (zX_125 cy ad S_0) rfl 14 (by decide) k1 (fun _ h9 => h9) rfl dX7_judgeLine_1 ?_
  refine lv_sipush (v := 256) hx hb dX7_judgeLine_4 (by decide) ?_
  refine lv_icmp_eq (tgt := 12) hx hb dX7_judgeLine_7 (by decide) (fun c_5 => ?_) (fun c_5 => ?_)
  · have hf := z_it c_5 hf
    refine lv_aload_n hx hb dX7_judgeLine_12 rfl (lv_at hl 0 rfl) ?_
    refine va_get (D := D) (ci := 7) (v := .int (S_0.1 125 3)) (C := RX7) (T := TX7) (N := 16) hx hb hts k0 hown hK hP 125 (zX_125 cy ad S_0) rfl 3 (by decide) k2 (fun _ h9 => h9) rfl dX7_judgeLine_13 ?_
    refine lv_bipush (v := 16) hx hb dX7_judgeLine_16 (by decide) ?_
    refine lv_icmp_lt (tgt := 23) hx hb dX7_judgeLine_18 (by decide) (fun c_4 => ?_) (fun c_4 => ?_)
    · have hf := z_it c_4 hf
      refine lv_aload_n hx hb dX7_judgeLine_23 rfl (lv_at hl 0 rfl) ?_
      refine lv_dup hx hb dX7_judgeLine_24 rfl ?_
      refine va_get (D := D) (ci := 7) (v := .int (S_0.1 125 3)) (C := RX7) (T := TX7) (N := 16) hx hb hts k0 hown hK hP 125 (zX_125 cy ad S_0) rfl 3 (by decide) k2 (fun _ h9 => h9) rfl dX7_judgeLine_25 ?_
      refine lv_iconst (v := 1) hx hb dX7_judgeLine_28 (by decide) ?_
      refine lv_iadd hx hb dX7_judgeLine_29 ?_
      refine va_put (D := D) (ci := 7) (v := .int ((S_0.1 125 3) + (1 : Int32))) (ty := .int) (C := RX7) (T := TX7) (N := 16) hx hb hts k0 tyX7 tyX7_ok nmX7 hown hK hP (hD S_0) hS 125 (zX_125 cy ad S_0) rfl 3 (by decide) k2 (fun _ h9 => h9) rfl (tyX7_ok 3 (by decide)) rfl rfl (Nat.le_of_ble_eq_true rfl) dX7_judgeLine_30 (fun H locs hP _ hS => ?_)
      obtain ⟨S_1, eS_1, hf⟩ := z_nm hf
      have hP := zW_putI hP eS_1 (by decide) rfl
      refine lv_aload_n hx hb dX7_judgeLine_33 rfl (lv_at hl 0 rfl) ?_
      refine lv_iconst (v := 4) hx hb dX7_judgeLine_34 (by decide) ?_
      refine va_put (D := D) (ci := 7) (v := .int (4 : Int32)) (ty := .int) (C := RX7) (T := TX7) (N := 16) hx hb hts k0 tyX7 tyX7_ok nmX7 hown hK hP (hD S_1) hS 125 (zX_125 cy ad S_1) rfl 9 (by decide) k3 (fun _ h9 => h9) rfl (tyX7_ok 9 (by decide)) rfl rfl (Nat.le_of_ble_eq_true rfl) dX7_judgeLine_35 (fun H locs hP _ hS => ?_)
      obtain ⟨S_2, eS_2, hf⟩ := z_nm hf
      have hP := zW_putI hP eS_2 (by decide) rfl
      refine lv_aload_n hx hb dX7_judgeLine_38 rfl (lv_at hl 0 rfl) ?_
      refine lv_iconst (v := 2) hx hb dX7_judgeLine_39 (by decide) ?_
      refine va_put (D := D) (ci := 7) (v := .int (2 : Int32)) (ty := .int) (C := RX7) (T := TX7) (N := 16) hx hb hts k0 tyX7 tyX7_ok nmX7 hown hK hP (hD S_2) hS 125 (zX_125 cy ad S_2) rfl 8 (by decide) k4 (fun _ h9 => h9) rfl (tyX7_ok 8 (by decide)) rfl rfl (Nat.le_of_ble_eq_true rfl) dX7_judgeLine_40 (fun H locs hP _ hS => ?_)
      obtain ⟨S_3, eS_3, hf⟩ := z_nm hf
      have hP := zW_putI hP eS_3 (by decide) rfl
      refine lv_iconst (v := 0) hx hb dX7_judgeLine_43 (by decide) ?_
      obtain ⟨h1, h2⟩ := z_s2 hf
      subst h1 h2
      exact hret _ _ _ _ hP hS dX7_judgeLine_44
    · have hf := z_if c_4 hf
      refine lv_iconst (v := 3) hx hb dX7_judgeLine_21 (by decide) ?_
      obtain ⟨h1, h2⟩ := z_s2 hf
      subst h1 h2
      exact hret _ _ _ _ hP hS dX7_judgeLine_22
  · have hf := z_if c_5 hf
    refine lv_iconst (v := 1) hx hb dX7_judgeLine_10 (by decide) ?_
    obtain ⟨h1, h2⟩ := z_s2 hf
    subst h1 h2
    exact hret _ _ _ _ hP hS dX7_judgeLine_11
def fx_Reader_judge (S_0 : zSt) : Option (Int32 × zSt) :=
  znm (fun (S_1 : zSt) =>
  znm (fun (S_2 : zSt) =>
  znm (fun (x_3 : Int32) (S_4 : zSt) =>
  zbd (fx_Reader_takeOperator S_4 x_3) fun _ S_6 =>
  some ((0 : Int32), S_6)) fun j_128 =>
  if (S_2.1 125 14) = (47 : Int32) then (
  j_128 (3 : Int32) S_2) else (
  j_128 (2 : Int32) S_2)) fun j_113 =>
  if (S_1.1 125 14) = (43 : Int32) then (
  j_113  S_1) else (
  if (S_1.1 125 14) = (45 : Int32) then (
  j_113  S_1) else (
  if (S_1.1 125 14) = (42 : Int32) then (
  j_113  S_1) else (
  if (S_1.1 125 14) = (47 : Int32) then (
  j_113  S_1) else (
  if (S_1.1 125 8) = (4 : Int32) then (
  zbd (fx_Reader_judgeAfterWorth S_1) fun r_9 S_10 =>
  some (r_9, S_10)) else (
  if (S_1.1 125 8) = (5 : Int32) then (
  zbd (fx_Reader_judgeComparison S_1) fun r_14 S_15 =>
  some (r_14, S_15)) else (
  zbd (fx_Reader_judgeAfterCondition S_1) fun r_19 S_20 =>
  some (r_19, S_20)))))))) fun j_77 =>
  if (S_0.1 125 8) = (0 : Int32) then (
  zbd (fx_Reader_judgeLine S_0) fun r_26 S_27 =>
  some (r_26, S_27)) else (
  if (S_0.1 125 8) = (1 : Int32) then (
  zbd (fx_Reader_judgeCondition S_0) fun r_31 S_32 =>
  some (r_31, S_32)) else (
  if (S_0.1 125 8) = (2 : Int32) then (
  zbd (fx_Reader_judgeOperand S_0) fun r_36 S_37 =>
  some (r_36, S_37)) else (
  if (S_0.1 125 8) = (3 : Int32) then (
  zbd (fx_Reader_judgeDivisor S_0) fun r_41 S_42 =>
  some (r_41, S_42)) else (
  if (S_0.1 125 8) = (4 : Int32) then (
  j_77  S_0) else (
  if (S_0.1 125 8) = (5 : Int32) then (
  j_77  S_0) else (
  if (S_0.1 125 8) = (6 : Int32) then (
  j_77  S_0) else (
  if (S_0.1 125 8) = (7 : Int32) then (
  zbd (fx_Reader_judgeAfterCondition S_0) fun r_52 S_53 =>
  some (r_52, S_53)) else (
  j_77  S_0))))))))
set_option maxHeartbeats 4000000 in
set_option maxRecDepth 100000 in
theorem cx_Reader_judge (l : Launch) (D : va_G) (K : (Nat → Nat) × (Nat → Nat)) (cy : Nat → ClassId) (ad : Nat → Nat) (S_0 : zSt) (ro : Int32) (So : zSt) (hf : fx_Reader_judge S_0 = some (ro, So)) : zMI l yX7_judge (zws yX7_judge cX7_judge 1 (Option.some .int)) ({ frames := 4, cells := 0, slots := 0, locals := 240 }) D (zTy cy) K (zX cy ad) [.ref (ad 125)] S_0 ro So := by
  refine z_metI (own := RX7) (lv := [(0, .ref (ad 125))]) (by decide) rfl rfl (Nat.le_of_ble_eq_true rfl) rfl ?_
  intro p e s m below meth c A Q X hK hE hD hA hret hP hS ls hl
  obtain ⟨hx, hb, hml, hown, hts⟩ := id X
  have k0 := (fun w h => List.mem_cons_of_mem _ (zFX7 w h) : ∀ w ∈ u_ws RX7 TX7 16, w ∈ zws yX7_judge cX7_judge 1 (Option.some .int))
  have k1 := hts _ (List.mem_cons_of_mem _ wt_2_61)
  have k2 := hts _ (List.mem_cons_of_mem _ wt_2_67)
  refine lv_aload_n hx hb dX7_judge_0 rfl (lv_at hl 0 rfl) ?_
  refine va_get (D := D) (ci := 7) (v := .int (S_0.1 125 8)) (C := RX7) (T := TX7) (N := 16) hx hb hts k0 hown hK hP 125 (zX_125 cy ad S_0) rfl 8 (by decide) k1 (fun _ h9 => h9) rfl dX7_judge_1 ?_
  obtain ⟨j_77, ej_77, hf⟩ := z_nm hf
  have J_77 : ∀ (S_1 : zSt) (H : Heap) (locs : List Loc) (ls : Array Slot), j_77  S_1 = some (ro, So) → va_P D vwCl (zX cy ad S_1) H → va_S A s.heap H locs → lv_has ls 1 [(0, .ref (ad 125))] → W p l e ({ frames := 4, cells := 0, slots := 0, locals := 240 }) s m ([.ref (ad 125)] : List Value).toArray below meth c H locs 0 0 Q (F0 m 77 ls []) := by
    intro  S_1 H locs ls hf hP hS hl
    have hf := z_e1 ej_77 hf
    refine lv_aload_n hx hb dX7_judge_77 rfl (lv_at hl 0 rfl) ?_
    refine va_get (D := D) (ci := 7) (v := .int (S_1.1 125 14)) (C := RX7) (T := TX7) (N := 16) hx hb hts k0 hown hK hP 125 (zX_125 cy ad S_1) rfl 14 (by decide) k2 (fun _ h9 => h9) rfl dX7_judge_78 ?_
    refine lv_bipush (v := 43) hx hb dX7_judge_81 (by decide) ?_
    obtain ⟨j_113, ej_113, hf⟩ := z_nm hf
    have J_113 : ∀ (S_2 : zSt) (H : Heap) (locs : List Loc) (ls : Array Slot), j_113  S_2 = some (ro, So) → va_P D vwCl (zX cy ad S_2) H → va_S A s.heap H locs → lv_has ls 1 [(0, .ref (ad 125))] → W p l e ({ frames := 4, cells := 0, slots := 0, locals := 240 }) s m ([.ref (ad 125)] : List Value).toArray below meth c H locs 0 0 Q (F0 m 113 ls []) := by
      intro  S_2 H locs ls hf hP hS hl
      have hf := z_e1 ej_113 hf
      refine lv_aload_n hx hb dX7_judge_113 rfl (lv_at hl 0 rfl) ?_
      refine lv_aload_n hx hb dX7_judge_114 rfl (lv_at hl 0 rfl) ?_
      refine va_get (D := D) (ci := 7) (v := .int (S_2.1 125 14)) (C := RX7) (T := TX7) (N := 16) hx hb hts k0 hown hK hP 125 (zX_125 cy ad S_2) rfl 14 (by decide) k2 (fun _ h9 => h9) rfl dX7_judge_115 ?_
      refine lv_bipush (v := 47) hx hb dX7_judge_118 (by decide) ?_
      obtain ⟨j_128, ej_128, hf⟩ := z_nm hf
      have J_128 : ∀ (x_3 : Int32) (S_4 : zSt) (H : Heap) (locs : List Loc) (ls : Array Slot), j_128 x_3 S_4 = some (ro, So) → va_P D vwCl (zX cy ad S_4) H → va_S A s.heap H locs → lv_has ls 1 [] → W p l e ({ frames := 4, cells := 0, slots := 0, locals := 240 }) s m ([.ref (ad 125)] : List Value).toArray below meth c H locs 0 0 Q (F0 m 128 ls [.int x_3, .ref (ad 125)]) := by
        intro x_3 S_4 H locs ls hf hP hS hl
        have hf := z_e2 ej_128 hf
        obtain ⟨r_5, S_6, h_7, hf⟩ := z_bd hf
        refine z_cVV (As := [.int x_3]) (rest := []) X hK hE hD hA hP hS (cx_Reader_takeOperator l D K cy ad S_4 _ _ h_7) (cwV 1 hts (z_gV wt_3_197 wt_3_199 wp_16 wt_1_10 wt_3_200) rfl rfl rfl ⟨rfl, yd_yX7_takeOperator⟩ ⟨Nat.le_of_ble_eq_true rfl, Nat.le_of_ble_eq_true rfl⟩) (va_recv hK hP (ci := 7) (q0 := 125) rfl (zX_125 cy ad S_4)) hl.1 rfl rfl (Nat.le_of_ble_eq_true rfl) dX7_judge_128 (fun H locs hP hS => ?_)
        refine lv_iconst (v := 0) hx hb dX7_judge_131 (by decide) ?_
        obtain ⟨h1, h2⟩ := z_s2 hf
        subst h1 h2
        exact hret _ _ _ _ hP hS dX7_judge_132
      refine lv_icmp_ne (tgt := 127) hx hb dX7_judge_120 (by decide) (fun c_8 => ?_) (fun c_8 => ?_)
      · have hf := z_if c_8 hf
        refine lv_iconst (v := 2) hx hb dX7_judge_127 (by decide) ?_
        exact J_128 (2 : Int32) S_2 _ _ _ hf hP hS (lv_sub hl [] rfl)
      · have hf := z_it c_8 hf
        refine lv_iconst (v := 3) hx hb dX7_judge_123 (by decide) ?_
        refine lv_goto (tgt := 128) hx hb dX7_judge_124 (by decide) ?_
        exact J_128 (3 : Int32) S_2 _ _ _ hf hP hS (lv_sub hl [] rfl)
    refine lv_icmp_eq (tgt := 113) hx hb dX7_judge_83 (by decide) (fun c_25 => ?_) (fun c_25 => ?_)
    · have hf := z_it c_25 hf
      exact J_113  S_1 _ _ _ hf hP hS (lv_sub hl [0] rfl)
    · have hf := z_if c_25 hf
      refine lv_aload_n hx hb dX7_judge_86 rfl (lv_at hl 0 rfl) ?_
      refine va_get (D := D) (ci := 7) (v := .int (S_1.1 125 14)) (C := RX7) (T := TX7) (N := 16) hx hb hts k0 hown hK hP 125 (zX_125 cy ad S_1) rfl 14 (by decide) k2 (fun _ h9 => h9) rfl dX7_judge_87 ?_
      refine lv_bipush (v := 45) hx hb dX7_judge_90 (by decide) ?_
      refine lv_icmp_eq (tgt := 113) hx hb dX7_judge_92 (by decide) (fun c_24 => ?_) (fun c_24 => ?_)
      · have hf := z_it c_24 hf
        exact J_113  S_1 _ _ _ hf hP hS (lv_sub hl [0] rfl)
      · have hf := z_if c_24 hf
        refine lv_aload_n hx hb dX7_judge_95 rfl (lv_at hl 0 rfl) ?_
        refine va_get (D := D) (ci := 7) (v := .int (S_1.1 125 14)) (C := RX7) (T := TX7) (N := 16) hx hb hts k0 hown hK hP 125 (zX_125 cy ad S_1) rfl 14 (by decide) k2 (fun _ h9 => h9) rfl dX7_judge_96 ?_
        refine lv_bipush (v := 42) hx hb dX7_judge_99 (by decide) ?_
        refine lv_icmp_eq (tgt := 113) hx hb dX7_judge_101 (by decide) (fun c_23 => ?_) (fun c_23 => ?_)
        · have hf := z_it c_23 hf
          exact J_113  S_1 _ _ _ hf hP hS (lv_sub hl [0] rfl)
        · have hf := z_if c_23 hf
          refine lv_aload_n hx hb dX7_judge_104 rfl (lv_at hl 0 rfl) ?_
          refine va_get (D := D) (ci := 7) (v := .int (S_1.1 125 14)) (C := RX7) (T := TX7) (N := 16) hx hb hts k0 hown hK hP 125 (zX_125 cy ad S_1) rfl 14 (by decide) k2 (fun _ h9 => h9) rfl dX7_judge_105 ?_
          refine lv_bipush (v := 47) hx hb dX7_judge_108 (by decide) ?_
          refine lv_icmp_ne (tgt := 133) hx hb dX7_judge_110 (by decide) (fun c_22 => ?_) (fun c_22 => ?_)
          · have hf := z_if c_22 hf
            refine lv_aload_n hx hb dX7_judge_133 rfl (lv_at hl 0 rfl) ?_
            refine va_get (D := D) (ci := 7) (v := .int (S_1.1 125 8)) (C := RX7) (T := TX7) (N := 16) hx hb hts k0 hown hK hP 125 (zX_125 cy ad S_1) rfl 8 (by decide) k1 (fun _ h9 => h9) rfl dX7_judge_134 ?_
            by_cases c_12 : (S_1.1 125 8) = (4 : Int32)
            · have hf := z_it c_12 hf
              refine lv_lookup (off := 27) (tgt := 164) hx hb dX7_judge_137 (by decide) (by rw [c_12]; rfl) (by decide) ?_
              refine lv_aload_n hx hb dX7_judge_164 rfl (lv_at hl 0 rfl) ?_
              obtain ⟨r_9, S_10, h_11, hf⟩ := z_bd hf
              refine z_cVI (As := []) (rest := []) X hK hE hD hA hP hS (cx_Reader_judgeAfterWorth l D K cy ad S_1 _ _ h_11) (cwV 0 hts (z_gV wt_3_217 wt_3_219 wp_20 wt_1_10 wt_3_220) rfl rfl rfl ⟨rfl, yd_yX7_judgeAfterWorth⟩ ⟨Nat.le_of_ble_eq_true rfl, Nat.le_of_ble_eq_true rfl⟩) (va_recv hK hP (ci := 7) (q0 := 125) rfl (zX_125 cy ad S_1)) hl.1 rfl rfl (Nat.le_of_ble_eq_true rfl) dX7_judge_165 (fun H locs hP hS => ?_)
              obtain ⟨h1, h2⟩ := z_s2 hf
              subst h1 h2
              exact hret _ _ _ _ hP hS dX7_judge_168
            have hf := z_if c_12 hf
            have n_13 : (S_1.1 125 8).toInt ≠ 4 := z_ne c_12 (by decide)
            by_cases c_17 : (S_1.1 125 8) = (5 : Int32)
            · have hf := z_it c_17 hf
              refine lv_lookup (off := 32) (tgt := 169) hx hb dX7_judge_137 (by decide) (by rw [c_17]; rfl) (by decide) ?_
              refine lv_aload_n hx hb dX7_judge_169 rfl (lv_at hl 0 rfl) ?_
              obtain ⟨r_14, S_15, h_16, hf⟩ := z_bd hf
              refine z_cVI (As := []) (rest := []) X hK hE hD hA hP hS (cx_Reader_judgeComparison l D K cy ad S_1 _ _ h_16) (cwV 0 hts (z_gV wt_3_221 wt_3_223 wp_21 wt_1_10 wt_3_224) rfl rfl rfl ⟨rfl, yd_yX7_judgeComparison⟩ ⟨Nat.le_of_ble_eq_true rfl, Nat.le_of_ble_eq_true rfl⟩) (va_recv hK hP (ci := 7) (q0 := 125) rfl (zX_125 cy ad S_1)) hl.1 rfl rfl (Nat.le_of_ble_eq_true rfl) dX7_judge_170 (fun H locs hP hS => ?_)
              obtain ⟨h1, h2⟩ := z_s2 hf
              subst h1 h2
              exact hret _ _ _ _ hP hS dX7_judge_173
            have hf := z_if c_17 hf
            have n_18 : (S_1.1 125 8).toInt ≠ 5 := z_ne c_17 (by decide)
            refine lv_lookup (off := 37) (tgt := 174) hx hb dX7_judge_137 (by decide) (by simp only [Op.lookupswitch.offset_cons, Op.lookupswitch.offset_nil, ne_eq]; simp [n_13, n_18, Ne.symm n_13, Ne.symm n_18]) (by decide) ?_
            refine lv_aload_n hx hb dX7_judge_174 rfl (lv_at hl 0 rfl) ?_
            obtain ⟨r_19, S_20, h_21, hf⟩ := z_bd hf
            refine z_cVI (As := []) (rest := []) X hK hE hD hA hP hS (cx_Reader_judgeAfterCondition l D K cy ad S_1 _ _ h_21) (cwV 0 hts (z_gV wt_3_193 wt_3_195 wp_15 wt_1_10 wt_3_196) rfl rfl rfl ⟨rfl, yd_yX7_judgeAfterCondition⟩ ⟨Nat.le_of_ble_eq_true rfl, Nat.le_of_ble_eq_true rfl⟩) (va_recv hK hP (ci := 7) (q0 := 125) rfl (zX_125 cy ad S_1)) hl.1 rfl rfl (Nat.le_of_ble_eq_true rfl) dX7_judge_175 (fun H locs hP hS => ?_)
            obtain ⟨h1, h2⟩ := z_s2 hf
            subst h1 h2
            exact hret _ _ _ _ hP hS dX7_judge_178
          · have hf := z_it c_22 hf
            exact J_113  S_1 _ _ _ hf hP hS (lv_sub hl [0] rfl)
  by_cases c_29 : (S_0.1 125 8) = (0 : Int32)
  · have hf := z_it c_29 hf
    refine lv_tableIn (off := 48) (tgt := 52) hx hb dX7_judge_4 (by rw [c_29]; decide) (by rw [c_29]; decide) (by rw [c_29]; rfl) (by decide) ?_
    refine lv_aload_n hx hb dX7_judge_52 rfl (lv_at hl 0 rfl) ?_
    obtain ⟨r_26, S_27, h_28, hf⟩ := z_bd hf
    refine z_cVI (As := []) (rest := []) X hK hE hD hA hP hS (cx_Reader_judgeLine l D K cy ad S_0 _ _ h_28) (cwV 0 hts (z_gV wt_3_169 wt_3_171 wp_9 wt_1_10 wt_3_172) rfl rfl rfl ⟨rfl, yd_yX7_judgeLine⟩ ⟨Nat.le_of_ble_eq_true rfl, Nat.le_of_ble_eq_true rfl⟩) (va_recv hK hP (ci := 7) (q0 := 125) rfl (zX_125 cy ad S_0)) hl.1 rfl rfl (Nat.le_of_ble_eq_true rfl) dX7_judge_53 (fun H locs hP hS => ?_)
    obtain ⟨h1, h2⟩ := z_s2 hf
    subst h1 h2
    exact hret _ _ _ _ hP hS dX7_judge_56
  have hf := z_if c_29 hf
  have n_30 : (S_0.1 125 8).toInt ≠ 0 := z_ne c_29 (by decide)
  by_cases c_34 : (S_0.1 125 8) = (1 : Int32)
  · have hf := z_it c_34 hf
    refine lv_tableIn (off := 53) (tgt := 57) hx hb dX7_judge_4 (by rw [c_34]; decide) (by rw [c_34]; decide) (by rw [c_34]; rfl) (by decide) ?_
    refine lv_aload_n hx hb dX7_judge_57 rfl (lv_at hl 0 rfl) ?_
    obtain ⟨r_31, S_32, h_33, hf⟩ := z_bd hf
    refine z_cVI (As := []) (rest := []) X hK hE hD hA hP hS (cx_Reader_judgeCondition l D K cy ad S_0 _ _ h_33) (cwV 0 hts (z_gV wt_3_173 wt_3_175 wp_10 wt_1_10 wt_3_176) rfl rfl rfl ⟨rfl, yd_yX7_judgeCondition⟩ ⟨Nat.le_of_ble_eq_true rfl, Nat.le_of_ble_eq_true rfl⟩) (va_recv hK hP (ci := 7) (q0 := 125) rfl (zX_125 cy ad S_0)) hl.1 rfl rfl (Nat.le_of_ble_eq_true rfl) dX7_judge_58 (fun H locs hP hS => ?_)
    obtain ⟨h1, h2⟩ := z_s2 hf
    subst h1 h2
    exact hret _ _ _ _ hP hS dX7_judge_61
  have hf := z_if c_34 hf
  have n_35 : (S_0.1 125 8).toInt ≠ 1 := z_ne c_34 (by decide)
  by_cases c_39 : (S_0.1 125 8) = (2 : Int32)
  · have hf := z_it c_39 hf
    refine lv_tableIn (off := 58) (tgt := 62) hx hb dX7_judge_4 (by rw [c_39]; decide) (by rw [c_39]; decide) (by rw [c_39]; rfl) (by decide) ?_
    refine lv_aload_n hx hb dX7_judge_62 rfl (lv_at hl 0 rfl) ?_
    obtain ⟨r_36, S_37, h_38, hf⟩ := z_bd hf
    refine z_cVI (As := []) (rest := []) X hK hE hD hA hP hS (cx_Reader_judgeOperand l D K cy ad S_0 _ _ h_38) (cwV 0 hts (z_gV wt_3_177 wt_3_179 wp_11 wt_1_10 wt_3_180) rfl rfl rfl ⟨rfl, yd_yX7_judgeOperand⟩ ⟨Nat.le_of_ble_eq_true rfl, Nat.le_of_ble_eq_true rfl⟩) (va_recv hK hP (ci := 7) (q0 := 125) rfl (zX_125 cy ad S_0)) hl.1 rfl rfl (Nat.le_of_ble_eq_true rfl) dX7_judge_63 (fun H locs hP hS => ?_)
    obtain ⟨h1, h2⟩ := z_s2 hf
    subst h1 h2
    exact hret _ _ _ _ hP hS dX7_judge_66
  have hf := z_if c_39 hf
  have n_40 : (S_0.1 125 8).toInt ≠ 2 := z_ne c_39 (by decide)
  by_cases c_44 : (S_0.1 125 8) = (3 : Int32)
  · have hf := z_it c_44 hf
    refine lv_tableIn (off := 63) (tgt := 67) hx hb dX7_judge_4 (by rw [c_44]; decide) (by rw [c_44]; decide) (by rw [c_44]; rfl) (by decide) ?_
    refine lv_aload_n hx hb dX7_judge_67 rfl (lv_at hl 0 rfl) ?_
    obtain ⟨r_41, S_42, h_43, hf⟩ := z_bd hf
    refine z_cVI (As := []) (rest := []) X hK hE hD hA hP hS (cx_Reader_judgeDivisor l D K cy ad S_0 _ _ h_43) (cwV 0 hts (z_gV wt_3_189 wt_3_191 wp_14 wt_1_10 wt_3_192) rfl rfl rfl ⟨rfl, yd_yX7_judgeDivisor⟩ ⟨Nat.le_of_ble_eq_true rfl, Nat.le_of_ble_eq_true rfl⟩) (va_recv hK hP (ci := 7) (q0 := 125) rfl (zX_125 cy ad S_0)) hl.1 rfl rfl (Nat.le_of_ble_eq_true rfl) dX7_judge_68 (fun H locs hP hS => ?_)
    obtain ⟨h1, h2⟩ := z_s2 hf
    subst h1 h2
    exact hret _ _ _ _ hP hS dX7_judge_71
  have hf := z_if c_44 hf
  have n_45 : (S_0.1 125 8).toInt ≠ 3 := z_ne c_44 (by decide)
  by_cases c_46 : (S_0.1 125 8) = (4 : Int32)
  · have hf := z_it c_46 hf
    refine lv_tableIn (off := 73) (tgt := 77) hx hb dX7_judge_4 (by rw [c_46]; decide) (by rw [c_46]; decide) (by rw [c_46]; rfl) (by decide) ?_
    exact J_77  S_0 _ _ _ hf hP hS (lv_sub hl [0] rfl)
  have hf := z_if c_46 hf
  have n_47 : (S_0.1 125 8).toInt ≠ 4 := z_ne c_46 (by decide)
  by_cases c_48 : (S_0.1 125 8) = (5 : Int32)
  · have hf := z_it c_48 hf
    refine lv_tableIn (off := 73) (tgt := 77) hx hb dX7_judge_4 (by rw [c_48]; decide) (by rw [c_48]; decide) (by rw [c_48]; rfl) (by decide) ?_
    exact J_77  S_0 _ _ _ hf hP hS (lv_sub hl [0] rfl)
  have hf := z_if c_48 hf
  have n_49 : (S_0.1 125 8).toInt ≠ 5 := z_ne c_48 (by decide)
  by_cases c_50 : (S_0.1 125 8) = (6 : Int32)
  · have hf := z_it c_50 hf
    refine lv_tableIn (off := 73) (tgt := 77) hx hb dX7_judge_4 (by rw [c_50]; decide) (by rw [c_50]; decide) (by rw [c_50]; rfl) (by decide) ?_
    exact J_77  S_0 _ _ _ hf hP hS (lv_sub hl [0] rfl)
  have hf := z_if c_50 hf
  have n_51 : (S_0.1 125 8).toInt ≠ 6 := z_ne c_50 (by decide)
  by_cases c_55 : (S_0.1 125 8) = (7 : Int32)
  · have hf := z_it c_55 hf
    refine lv_tableIn (off := 68) (tgt := 72) hx hb dX7_judge_4 (by rw [c_55]; decide) (by rw [c_55]; decide) (by rw [c_55]; rfl) (by decide) ?_
    refine lv_aload_n hx hb dX7_judge_72 rfl (lv_at hl 0 rfl) ?_
    obtain ⟨r_52, S_53, h_54, hf⟩ := z_bd hf
    refine z_cVI (As := []) (rest := []) X hK hE hD hA hP hS (cx_Reader_judgeAfterCondition l D K cy ad S_0 _ _ h_54) (cwV 0 hts (z_gV wt_3_193 wt_3_195 wp_15 wt_1_10 wt_3_196) rfl rfl rfl ⟨rfl, yd_yX7_judgeAfterCondition⟩ ⟨Nat.le_of_ble_eq_true rfl, Nat.le_of_ble_eq_true rfl⟩) (va_recv hK hP (ci := 7) (q0 := 125) rfl (zX_125 cy ad S_0)) hl.1 rfl rfl (Nat.le_of_ble_eq_true rfl) dX7_judge_73 (fun H locs hP hS => ?_)
    obtain ⟨h1, h2⟩ := z_s2 hf
    subst h1 h2
    exact hret _ _ _ _ hP hS dX7_judge_76
  have hf := z_if c_55 hf
  have n_56 : (S_0.1 125 8).toInt ≠ 7 := z_ne c_55 (by decide)
  refine lv_tableOut (tgt := 77) hx hb dX7_judge_4 (by omega) (by decide) ?_
  exact J_77  S_0 _ _ _ hf hP hS (lv_sub hl [0] rfl)
def fj0_isLatin1 (ki : Nat) (S_0 : zSt) : Option (Int32 × zSt) :=
  znm (fun (x_1 : Int32) (S_2 : zSt) =>
  zck (zbo x_1) <|
  some (x_1, S_2)) fun j_18 =>
  znm (fun (S_4 : zSt) =>
  j_18 (0 : Int32) S_4) fun j_17 =>
  if (1 : Int32) = 0 then (
  j_17  S_0) else (
  if (0 : Int32) = 0 then (
  j_18 (1 : Int32) S_0) else (
  j_17  S_0))
set_option maxHeartbeats 4000000 in
set_option maxRecDepth 100000 in
theorem cj0_isLatin1 (l : Launch) (D : va_G) (K : (Nat → Nat) × (Nat → Nat)) (tys : List (ClassId × FieldType)) (N : Nat) (ad : Nat → Nat) (C : Nat → (Nat → Int32) → (Nat → Int64) → va_E) (ki : Nat) (hki : ki < 17) (S_0 : zSt) (ro : Int32) (So : zSt) (hf : fj0_isLatin1 ki S_0 = some (ro, So)) : zMI l yJ0_isLatin1_aae02 (zws yJ0_isLatin1_aae02 cJ0_isLatin1_aae02 1 (Option.some .boolean)) ({ frames := 0, cells := 0, slots := 0, locals := 0 }) D tys K (zW N ad C) [.ref (K.1 ki)] S_0 ro So := by
  refine z_metZ (own := RJ0) (lv := [(0, .ref (K.1 ki))]) (by decide) rfl rfl (Nat.le_of_ble_eq_true rfl) rfl ?_
  intro p e s m below meth c A Q X hK hE hD hA hret hP hS ls hl
  obtain ⟨hx, hb, hml, hown, hts⟩ := id X
  have k0 := hts _ (List.mem_cons_of_mem _ wt_3_58)
  have k1 := hts _ (List.mem_cons_of_mem _ wt_7_45)
  refine va_gets hx hb hE.2.2.1 hS hown k0 (fun _ h => h) dJ0_isLatin1_aae02_0 ?_
  obtain ⟨j_18, ej_18, hf⟩ := z_nm hf
  have J_18 : ∀ (x_1 : Int32) (S_2 : zSt) (H : Heap) (locs : List Loc) (ls : Array Slot), j_18 x_1 S_2 = some (ro, So) → va_P D vwCl (zW N ad C S_2) H → va_S A s.heap H locs → lv_has ls 1 [] → W p l e ({ frames := 0, cells := 0, slots := 0, locals := 0 }) s m ([.ref (K.1 ki)] : List Value).toArray below meth c H locs 0 0 Q (F0 m 18 ls [.int x_1]) := by
    intro x_1 S_2 H locs ls hf hP hS hl
    have hf := z_e2 ej_18 hf
    obtain ⟨h_3, hf⟩ := z_bo hf
    obtain ⟨h1, h2⟩ := z_s2 hf
    subst h1 h2
    exact hret _ _ _ _ h_3 hP hS dJ0_isLatin1_aae02_18
  obtain ⟨j_17, ej_17, hf⟩ := z_nm hf
  have J_17 : ∀ (S_4 : zSt) (H : Heap) (locs : List Loc) (ls : Array Slot), j_17  S_4 = some (ro, So) → va_P D vwCl (zW N ad C S_4) H → va_S A s.heap H locs → lv_has ls 1 [] → W p l e ({ frames := 0, cells := 0, slots := 0, locals := 0 }) s m ([.ref (K.1 ki)] : List Value).toArray below meth c H locs 0 0 Q (F0 m 17 ls []) := by
    intro  S_4 H locs ls hf hP hS hl
    have hf := z_e1 ej_17 hf
    refine lv_iconst (v := 0) hx hb dJ0_isLatin1_aae02_17 (by decide) ?_
    exact J_18 (0 : Int32) S_4 _ _ _ hf hP hS (lv_sub hl [] rfl)
  refine lv_if_eq (tgt := 17) hx hb dJ0_isLatin1_aae02_3 (by decide) (fun c_6 => ?_) (fun c_6 => ?_)
  · have hf := z_it c_6 hf
    exact J_17  S_0 _ _ _ hf hP hS (lv_sub hl [] rfl)
  · have hf := z_if c_6 hf
    refine lv_aload_n hx hb dJ0_isLatin1_aae02_6 rfl (lv_at hl 0 rfl) ?_
    refine vk_getf hx hb (hE.1.1 ki hki).2.1 hS hown k1 (fun _ h => h) dJ0_isLatin1_aae02_7 ?_
    refine lv_if_ne (tgt := 17) hx hb dJ0_isLatin1_aae02_10 (by decide) (fun c_5 => ?_) (fun c_5 => ?_)
    · have hf := z_if c_5 hf
      exact J_17  S_0 _ _ _ hf hP hS (lv_sub hl [] rfl)
    · have hf := z_it c_5 hf
      refine lv_iconst (v := 1) hx hb dJ0_isLatin1_aae02_13 (by decide) ?_
      refine lv_goto (tgt := 18) hx hb dJ0_isLatin1_aae02_14 (by decide) ?_
      exact J_18 (1 : Int32) S_0 _ _ _ hf hP hS (lv_sub hl [] rfl)
def fj0_coder (ki : Nat) (S_0 : zSt) : Option (Int32 × zSt) :=
  znm (fun (x_1 : Int32) (S_2 : zSt) =>
  zck (zby x_1) <|
  some (x_1, S_2)) fun j_14 =>
  if (1 : Int32) = 0 then (
  j_14 (1 : Int32) S_0) else (
  j_14 (0 : Int32) S_0)
set_option maxHeartbeats 4000000 in
set_option maxRecDepth 100000 in
theorem cj0_coder (l : Launch) (D : va_G) (K : (Nat → Nat) × (Nat → Nat)) (tys : List (ClassId × FieldType)) (N : Nat) (ad : Nat → Nat) (C : Nat → (Nat → Int32) → (Nat → Int64) → va_E) (ki : Nat) (hki : ki < 17) (S_0 : zSt) (ro : Int32) (So : zSt) (hf : fj0_coder ki S_0 = some (ro, So)) : zMI l yJ0_coder_7d493 (zws yJ0_coder_7d493 cJ0_coder_7d493 1 (Option.some .byte)) ({ frames := 0, cells := 0, slots := 0, locals := 0 }) D tys K (zW N ad C) [.ref (K.1 ki)] S_0 ro So := by
  refine z_metT .byte (own := RJ0) (lv := [(0, .ref (K.1 ki))]) (by decide) rfl rfl (Nat.le_of_ble_eq_true rfl) rfl ?_
  intro p e s m below meth c A Q X hK hE hD hA hret hP hS ls hl
  obtain ⟨hx, hb, hml, hown, hts⟩ := id X
  have k0 := hts _ (List.mem_cons_of_mem _ wt_3_58)
  have k1 := hts _ (List.mem_cons_of_mem _ wt_7_45)
  refine va_gets hx hb hE.2.2.1 hS hown k0 (fun _ h => h) dJ0_coder_7d493_0 ?_
  obtain ⟨j_14, ej_14, hf⟩ := z_nm hf
  have J_14 : ∀ (x_1 : Int32) (S_2 : zSt) (H : Heap) (locs : List Loc) (ls : Array Slot), j_14 x_1 S_2 = some (ro, So) → va_P D vwCl (zW N ad C S_2) H → va_S A s.heap H locs → lv_has ls 1 [] → W p l e ({ frames := 0, cells := 0, slots := 0, locals := 0 }) s m ([.ref (K.1 ki)] : List Value).toArray below meth c H locs 0 0 Q (F0 m 14 ls [.int x_1]) := by
    intro x_1 S_2 H locs ls hf hP hS hl
    have hf := z_e2 ej_14 hf
    obtain ⟨h_3, hf⟩ := z_by hf
    obtain ⟨h1, h2⟩ := z_s2 hf
    subst h1 h2
    exact hret _ _ _ _ h_3 hP hS dJ0_coder_7d493_14
  refine lv_if_eq (tgt := 13) hx hb dJ0_coder_7d493_3 (by decide) (fun c_4 => ?_) (fun c_4 => ?_)
  · have hf := z_it c_4 hf
    refine lv_iconst (v := 1) hx hb dJ0_coder_7d493_13 (by decide) ?_
    exact J_14 (1 : Int32) S_0 _ _ _ hf hP hS (lv_sub hl [] rfl)
  · have hf := z_if c_4 hf
    refine lv_aload_n hx hb dJ0_coder_7d493_6 rfl (lv_at hl 0 rfl) ?_
    refine vk_getf hx hb (hE.1.1 ki hki).2.1 hS hown k1 (fun _ h => h) dJ0_coder_7d493_7 ?_
    refine lv_goto (tgt := 14) hx hb dJ0_coder_7d493_10 (by decide) ?_
    exact J_14 (0 : Int32) S_0 _ _ _ hf hP hS (lv_sub hl [] rfl)
def fj0_length (ki : Nat) (S_0 : zSt) : Option (Int32 × zSt) :=
  zbd (fj0_coder ki S_0) fun r_1 S_2 =>
  some ((Int32.ofNat (zSL.getD ki 0)) >>> (r_1 &&& 31), S_2)
set_option maxHeartbeats 4000000 in
set_option maxRecDepth 100000 in
theorem cj0_length (l : Launch) (D : va_G) (K : (Nat → Nat) × (Nat → Nat)) (tys : List (ClassId × FieldType)) (N : Nat) (ad : Nat → Nat) (C : Nat → (Nat → Int32) → (Nat → Int64) → va_E) (ki : Nat) (hki : ki < 17) (S_0 : zSt) (ro : Int32) (So : zSt) (hf : fj0_length ki S_0 = some (ro, So)) : zMI l yJ0_length_8abf5 (zws yJ0_length_8abf5 cJ0_length_8abf5 1 (Option.some .int)) ({ frames := 1, cells := 0, slots := 0, locals := 20 }) D tys K (zW N ad C) [.ref (K.1 ki)] S_0 ro So := by
  refine z_metI (own := RJ0) (lv := [(0, .ref (K.1 ki))]) (by decide) rfl rfl (Nat.le_of_ble_eq_true rfl) rfl ?_
  intro p e s m below meth c A Q X hK hE hD hA hret hP hS ls hl
  obtain ⟨hx, hb, hml, hown, hts⟩ := id X
  have k0 := hts _ (List.mem_cons_of_mem _ wt_7_46)
  refine lv_aload_n hx hb dJ0_length_8abf5_0 rfl (lv_at hl 0 rfl) ?_
  refine vk_getf hx hb (hE.1.1 ki hki).2.2.1 hS hown k0 (fun _ h => h) dJ0_length_8abf5_1 ?_
  refine va_tlen hx hb (hE.1.1 ki hki).2.2.2 hS rfl dJ0_length_8abf5_4 ?_
  refine lv_aload_n hx hb dJ0_length_8abf5_5 rfl (lv_at hl 0 rfl) ?_
  obtain ⟨r_1, S_2, h_3, hf⟩ := z_bd hf
  refine z_cVI (As := []) (rest := [.int (Int32.ofNat (zSL.getD ki 0))]) X hK hE hD hA hP hS (cj0_coder l D K _ _ _ _ ki hki S_0 _ _ h_3) (cwV 0 hts (z_gV wt_3_111 wt_3_112 wt_3_113 wt_1_14 wt_3_114) rfl rfl rfl ⟨rfl, yd_yJ0_coder_7d493⟩ ⟨Nat.le_of_ble_eq_true rfl, Nat.le_of_ble_eq_true rfl⟩) (vk_recv hE.1 hki hS) hl.1 rfl rfl (Nat.le_of_ble_eq_true rfl) dJ0_length_8abf5_6 (fun H locs hP hS => ?_)
  refine lv_ishr hx hb dJ0_length_8abf5_9 ?_
  obtain ⟨h1, h2⟩ := z_s2 hf
  subst h1 h2
  exact hret _ _ _ _ hP hS dJ0_length_8abf5_10
def fj1_canEncode (S_0 : zSt) (a_1 : Int32) : Option (Int32 × zSt) :=
  znm (fun (x_1 : Int32) (S_2 : zSt) =>
  zck (zbo x_1) <|
  some (x_1, S_2)) fun j_16 =>
  znm (fun (S_4 : zSt) =>
  j_16 (0 : Int32) S_4) fun j_15 =>
  if a_1 < 0 then (
  j_15  S_0) else (
  if (255 : Int32) < a_1 then (
  j_15  S_0) else (
  j_16 (1 : Int32) S_0))
set_option maxHeartbeats 4000000 in
set_option maxRecDepth 100000 in
theorem cj1_canEncode (l : Launch) (D : va_G) (K : (Nat → Nat) × (Nat → Nat)) (tys : List (ClassId × FieldType)) (N : Nat) (ad : Nat → Nat) (C : Nat → (Nat → Int32) → (Nat → Int64) → va_E) (S_0 : zSt) (a_1 : Int32) (ro : Int32) (So : zSt) (hf : fj1_canEncode S_0 a_1 = some (ro, So)) : zMI l yJ1_canEncode_9a6ad (zws yJ1_canEncode_9a6ad cJ1_canEncode_9a6ad 1 (Option.some .boolean)) ({ frames := 0, cells := 0, slots := 0, locals := 0 }) D tys K (zW N ad C) [.int a_1] S_0 ro So := by
  refine z_metZ (own := RJ1) (lv := [(0, .int a_1)]) (by decide) rfl rfl (Nat.le_of_ble_eq_true rfl) rfl ?_
  intro p e s m below meth c A Q X hK hE hD hA hret hP hS ls hl
  obtain ⟨hx, hb, hml, hown, hts⟩ := id X
  refine lv_iload_n hx hb dJ1_canEncode_9a6ad_0 rfl (lv_at hl 0 rfl) ?_
  obtain ⟨j_16, ej_16, hf⟩ := z_nm hf
  have J_16 : ∀ (x_1 : Int32) (S_2 : zSt) (H : Heap) (locs : List Loc) (ls : Array Slot), j_16 x_1 S_2 = some (ro, So) → va_P D vwCl (zW N ad C S_2) H → va_S A s.heap H locs → lv_has ls 1 [] → W p l e ({ frames := 0, cells := 0, slots := 0, locals := 0 }) s m ([.int a_1] : List Value).toArray below meth c H locs 0 0 Q (F0 m 16 ls [.int x_1]) := by
    intro x_1 S_2 H locs ls hf hP hS hl
    have hf := z_e2 ej_16 hf
    obtain ⟨h_3, hf⟩ := z_bo hf
    obtain ⟨h1, h2⟩ := z_s2 hf
    subst h1 h2
    exact hret _ _ _ _ h_3 hP hS dJ1_canEncode_9a6ad_16
  obtain ⟨j_15, ej_15, hf⟩ := z_nm hf
  have J_15 : ∀ (S_4 : zSt) (H : Heap) (locs : List Loc) (ls : Array Slot), j_15  S_4 = some (ro, So) → va_P D vwCl (zW N ad C S_4) H → va_S A s.heap H locs → lv_has ls 1 [] → W p l e ({ frames := 0, cells := 0, slots := 0, locals := 0 }) s m ([.int a_1] : List Value).toArray below meth c H locs 0 0 Q (F0 m 15 ls []) := by
    intro  S_4 H locs ls hf hP hS hl
    have hf := z_e1 ej_15 hf
    refine lv_iconst (v := 0) hx hb dJ1_canEncode_9a6ad_15 (by decide) ?_
    exact J_16 (0 : Int32) S_4 _ _ _ hf hP hS (lv_sub hl [] rfl)
  refine lv_if_lt (tgt := 15) hx hb dJ1_canEncode_9a6ad_1 (by decide) (fun c_6 => ?_) (fun c_6 => ?_)
  · have hf := z_it c_6 hf
    exact J_15  S_0 _ _ _ hf hP hS (lv_sub hl [] rfl)
  · have hf := z_if c_6 hf
    refine lv_iload_n hx hb dJ1_canEncode_9a6ad_4 rfl (lv_at hl 0 rfl) ?_
    refine lv_sipush (v := 255) hx hb dJ1_canEncode_9a6ad_5 (by decide) ?_
    refine lv_icmp_gt (tgt := 15) hx hb dJ1_canEncode_9a6ad_8 (by decide) (fun c_5 => ?_) (fun c_5 => ?_)
    · have hf := z_it c_5 hf
      exact J_15  S_0 _ _ _ hf hP hS (lv_sub hl [] rfl)
    · have hf := z_if c_5 hf
      refine lv_iconst (v := 1) hx hb dJ1_canEncode_9a6ad_11 (by decide) ?_
      refine lv_goto (tgt := 16) hx hb dJ1_canEncode_9a6ad_12 (by decide) ?_
      exact J_16 (1 : Int32) S_0 _ _ _ hf hP hS (lv_sub hl [] rfl)
def fj1_indexOfChar_L7 (ki : Nat) (a_3 : Int32) (x_1 : Int32) : Nat → Int32 → zSt → Option (Int32 × zSt)
  | 0, _, _ => none
  | n_7 + 1, x_2, S_3 =>
    if a_3 ≤ x_2 then (
    some ((-1 : Int32), S_3)) else (
    zck (zix x_2 (zSL.getD ki 0)) <|
    if ((zSB.getD ki []).getD (x_2.toNatClampNeg) 0) = x_1 then (
    some (x_2, S_3)) else (
    znm (x_2 + (1 : Int32)) fun x_5 =>
    fj1_indexOfChar_L7 ki a_3 x_1 n_7 x_5 S_3))
def fj1_indexOfChar (ki : Nat) (S_0 : zSt) (a_1 : Int32) (a_2 : Int32) (a_3 : Int32) : Option (Int32 × zSt) :=
  znm a_1.toInt8.toInt32 fun x_1 =>
  fj1_indexOfChar_L7 ki a_3 x_1 zFU a_2 S_0
set_option maxHeartbeats 4000000 in
set_option maxRecDepth 100000 in
theorem cj1_indexOfChar (l : Launch) (D : va_G) (K : (Nat → Nat) × (Nat → Nat)) (tys : List (ClassId × FieldType)) (N : Nat) (ad : Nat → Nat) (C : Nat → (Nat → Int32) → (Nat → Int64) → va_E) (ki : Nat) (hki : ki < 17) (S_0 : zSt) (a_1 : Int32) (a_2 : Int32) (a_3 : Int32) (ro : Int32) (So : zSt) (hf : fj1_indexOfChar ki S_0 a_1 a_2 a_3 = some (ro, So)) : zMI l yJ1_indexOfChar_4cfef (zws yJ1_indexOfChar_4cfef cJ1_indexOfChar_4cfef 6 (Option.some .int)) ({ frames := 0, cells := 0, slots := 0, locals := 0 }) D tys K (zW N ad C) [.ref (K.2 ki), .int a_1, .int a_2, .int a_3] S_0 ro So := by
  refine z_metI (own := RJ1) (lv := [(0, .ref (K.2 ki)), (1, .int a_1), (2, .int a_2), (3, .int a_3)]) (by decide) rfl rfl (Nat.le_of_ble_eq_true rfl) rfl ?_
  intro p e s m below meth c A Q X hK hE hD hA hret hP hS ls hl
  obtain ⟨hx, hb, hml, hown, hts⟩ := id X
  refine lv_iload_n hx hb dJ1_indexOfChar_4cfef_0 rfl (lv_at hl 1 rfl) ?_
  refine lv_i2b hx hb dJ1_indexOfChar_4cfef_1 rfl ?_
  refine lv_topi (fun x_1 ex_1 => ?_)
  have hf := z_nv ex_1 hf
  refine lv_istore (lv' := [(4, .int x_1), (0, .ref (K.2 ki)), (1, .int a_1), (2, .int a_2), (3, .int a_3)]) hx hb dJ1_indexOfChar_4cfef_2 hl (by decide) rfl (fun ls hl => ?_)
  refine lv_iload_n hx hb dJ1_indexOfChar_4cfef_4 rfl (lv_at hl 3 rfl) ?_
  refine lv_istore (lv' := [(5, .int a_2), (4, .int x_1), (0, .ref (K.2 ki)), (1, .int a_1), (2, .int a_2), (3, .int a_3)]) hx hb dJ1_indexOfChar_4cfef_5 hl (by decide) rfl (fun ls hl => ?_)
  have L_7 : ∀ (n_7 : Nat) (x_2 : Int32) (S_3 : zSt) (H : Heap) (locs : List Loc) (ls : Array Slot), fj1_indexOfChar_L7 ki a_3 x_1 n_7 x_2 S_3 = some (ro, So) → va_P D vwCl (zW N ad C S_3) H → va_S A s.heap H locs → lv_has ls 6 [(0, .ref (K.2 ki)), (3, .int a_3), (4, .int x_1), (5, .int x_2)] → W p l e ({ frames := 0, cells := 0, slots := 0, locals := 0 }) s m ([.ref (K.2 ki), .int a_1, .int a_2, .int a_3] : List Value).toArray below meth c H locs 0 0 Q (F0 m 7 ls []) := by
    intro n_7
    induction n_7 with
    | zero =>
      intro x_2 S_3 H locs ls hf hP hS hl
      exact z_no hf
    | succ n_7 ih_7 =>
      intro x_2 S_3 H locs ls hf hP hS hl
      rw [fj1_indexOfChar_L7] at hf
      refine lv_iload hx hb dJ1_indexOfChar_4cfef_7 (lv_at hl 3 rfl) ?_
      refine lv_iload_n hx hb dJ1_indexOfChar_4cfef_9 rfl (lv_at hl 1 rfl) ?_
      refine lv_icmp_ge (tgt := 31) hx hb dJ1_indexOfChar_4cfef_10 (by decide) (fun c_7 => ?_) (fun c_7 => ?_)
      · have hf := z_it c_7 hf
        refine lv_iconst (v := -1) hx hb dJ1_indexOfChar_4cfef_31 (by decide) ?_
        obtain ⟨h1, h2⟩ := z_s2 hf
        subst h1 h2
        exact hret _ _ _ _ hP hS dJ1_indexOfChar_4cfef_32
      · have hf := z_if c_7 hf
        refine lv_aload_n hx hb dJ1_indexOfChar_4cfef_13 rfl (lv_at hl 0 rfl) ?_
        refine lv_iload hx hb dJ1_indexOfChar_4cfef_14 (lv_at hl 3 rfl) ?_
        obtain ⟨h_4, hf⟩ := z_ix hf
        refine va_tb hx hb (hE.1.1 ki hki).2.2.2 hS h_4 rfl dJ1_indexOfChar_4cfef_16 ?_
        refine lv_iload hx hb dJ1_indexOfChar_4cfef_17 (lv_at hl 2 rfl) ?_
        refine lv_icmp_ne (tgt := 25) hx hb dJ1_indexOfChar_4cfef_19 (by decide) (fun c_6 => ?_) (fun c_6 => ?_)
        · have hf := z_if c_6 hf
          obtain ⟨x_5, ex_5, hf⟩ := z_nm hf
          refine lv_iinc (v := x_5) (lv' := [(5, .int x_5), (0, .ref (K.2 ki)), (3, .int a_3), (4, .int x_1)]) hx hb dJ1_indexOfChar_4cfef_25 hl (k := 3) rfl (by rw [ex_5]; rfl) (by decide) rfl (fun ls hl => ?_)
          refine lv_goto (tgt := 7) hx hb dJ1_indexOfChar_4cfef_28 (by decide) ?_
          exact ih_7 x_5 S_3 _ _ _ hf hP hS (lv_sub hl [1, 2, 3, 0] rfl)
        · have hf := z_it c_6 hf
          refine lv_iload hx hb dJ1_indexOfChar_4cfef_22 (lv_at hl 3 rfl) ?_
          obtain ⟨h1, h2⟩ := z_s2 hf
          subst h1 h2
          exact hret _ _ _ _ hP hS dJ1_indexOfChar_4cfef_24
  exact L_7 zFU a_2 S_0 _ _ _ hf hP hS (lv_sub hl [2, 5, 1, 0] rfl)
def fj1_indexOf (ki : Nat) (S_0 : zSt) (a_1 : Int32) (a_2 : Int32) (a_3 : Int32) : Option (Int32 × zSt) :=
  zbd (fj1_canEncode S_0 a_1) fun r_1 S_2 =>
  if r_1 = 0 then (
  some ((-1 : Int32), S_2)) else (
  znm (if a_2 < (0 : Int32) then (0 : Int32) else a_2) fun x_4 =>
  znm (if (Int32.ofNat (zSL.getD ki 0)) < a_3 then (Int32.ofNat (zSL.getD ki 0)) else a_3) fun x_5 =>
  if x_4 < x_5 then (
  zbd (fj1_indexOfChar ki S_2 a_1 x_4 x_5) fun r_6 S_7 =>
  some (r_6, S_7)) else (
  some ((-1 : Int32), S_2)))
set_option maxHeartbeats 4000000 in
set_option maxRecDepth 100000 in
theorem cj1_indexOf (l : Launch) (D : va_G) (K : (Nat → Nat) × (Nat → Nat)) (tys : List (ClassId × FieldType)) (N : Nat) (ad : Nat → Nat) (C : Nat → (Nat → Int32) → (Nat → Int64) → va_E) (ki : Nat) (hki : ki < 17) (S_0 : zSt) (a_1 : Int32) (a_2 : Int32) (a_3 : Int32) (ro : Int32) (So : zSt) (hf : fj1_indexOf ki S_0 a_1 a_2 a_3 = some (ro, So)) : zMI l yJ1_indexOf_4cfef (zws yJ1_indexOf_4cfef cJ1_indexOf_4cfef 4 (Option.some .int)) ({ frames := 1, cells := 0, slots := 0, locals := 200 }) D tys K (zW N ad C) [.ref (K.2 ki), .int a_1, .int a_2, .int a_3] S_0 ro So := by
  refine z_metI (own := RJ1) (lv := [(0, .ref (K.2 ki)), (1, .int a_1), (2, .int a_2), (3, .int a_3)]) (by decide) rfl rfl (Nat.le_of_ble_eq_true rfl) rfl ?_
  intro p e s m below meth c A Q X hK hE hD hA hret hP hS ls hl
  obtain ⟨hx, hb, hml, hown, hts⟩ := id X
  have k0 := hts _ (List.mem_cons_of_mem _ wt_3_121)
  have k1 := hts _ (List.mem_cons_of_mem _ wt_3_122)
  have k2 := hts _ (List.mem_cons_of_mem _ wt_1_18)
  have k3 := hts _ (List.mem_cons_of_mem _ wt_3_123)
  have k4 := hts _ (List.mem_cons_of_mem _ wt_3_124)
  have k5 := hts _ (List.mem_cons_of_mem _ wt_3_125)
  have k6 := hts _ (List.mem_cons_of_mem _ wt_3_126)
  refine lv_iload_n hx hb dJ1_indexOf_4cfef_0 rfl (lv_at hl 1 rfl) ?_
  obtain ⟨r_1, S_2, h_3, hf⟩ := z_bd hf
  refine z_cSI (As := [.int a_1]) (rest := []) X hK hE hD hA hP hS (cj1_canEncode l D K _ _ _ _ S_0 _ _ _ h_3) (va_cwS 1 hts (z_gS wt_3_118 wt_3_119 wt_1_15 wt_3_120) rfl rfl rfl yd_yJ1_canEncode_9a6ad ⟨Nat.le_of_ble_eq_true rfl, Nat.le_of_ble_eq_true rfl⟩) hl.1 rfl rfl (Nat.le_of_ble_eq_true rfl) dJ1_indexOf_4cfef_1 (fun H locs hP hS => ?_)
  refine lv_if_ne (tgt := 9) hx hb dJ1_indexOf_4cfef_4 (by decide) (fun c_10 => ?_) (fun c_10 => ?_)
  · have hf := z_if c_10 hf
    refine lv_iload_n hx hb dJ1_indexOf_4cfef_9 rfl (lv_at hl 2 rfl) ?_
    refine lv_iconst (v := 0) hx hb dJ1_indexOf_4cfef_10 (by decide) ?_
    refine va_mmax hx hb (by rw [hml]; exact hl.1.symm) hown k0 k1 k2 k3 (Nat.le_of_ble_eq_true rfl) (Nat.le_of_ble_eq_true rfl) (Nat.zero_le _) (Nat.zero_le _) dJ1_indexOf_4cfef_11 ?_
    refine lv_topi (fun x_4 ex_4 => ?_)
    have hf := z_nv ex_4 hf
    refine lv_istore_n (lv' := [(2, .int x_4), (0, .ref (K.2 ki)), (1, .int a_1), (3, .int a_3)]) hx hb dJ1_indexOf_4cfef_14 rfl hl (by decide) rfl (fun ls hl => ?_)
    refine lv_iload_n hx hb dJ1_indexOf_4cfef_15 rfl (lv_at hl 3 rfl) ?_
    refine lv_aload_n hx hb dJ1_indexOf_4cfef_16 rfl (lv_at hl 1 rfl) ?_
    refine va_tlen hx hb (hE.1.1 ki hki).2.2.2 hS rfl dJ1_indexOf_4cfef_17 ?_
    refine va_mmin hx hb (by rw [hml]; exact hl.1.symm) hown k4 k5 k2 k6 (Nat.le_of_ble_eq_true rfl) (Nat.le_of_ble_eq_true rfl) (Nat.zero_le _) (Nat.zero_le _) dJ1_indexOf_4cfef_18 ?_
    refine lv_topi (fun x_5 ex_5 => ?_)
    have hf := z_nv ex_5 hf
    refine lv_istore_n (lv' := [(3, .int x_5), (2, .int x_4), (0, .ref (K.2 ki)), (1, .int a_1)]) hx hb dJ1_indexOf_4cfef_21 rfl hl (by decide) rfl (fun ls hl => ?_)
    refine lv_iload_n hx hb dJ1_indexOf_4cfef_22 rfl (lv_at hl 1 rfl) ?_
    refine lv_iload_n hx hb dJ1_indexOf_4cfef_23 rfl (lv_at hl 0 rfl) ?_
    refine lv_icmp_lt (tgt := 29) hx hb dJ1_indexOf_4cfef_24 (by decide) (fun c_9 => ?_) (fun c_9 => ?_)
    · have hf := z_it c_9 hf
      refine lv_aload_n hx hb dJ1_indexOf_4cfef_29 rfl (lv_at hl 2 rfl) ?_
      refine lv_iload_n hx hb dJ1_indexOf_4cfef_30 rfl (lv_at hl 3 rfl) ?_
      refine lv_iload_n hx hb dJ1_indexOf_4cfef_31 rfl (lv_at hl 1 rfl) ?_
      refine lv_iload_n hx hb dJ1_indexOf_4cfef_32 rfl (lv_at hl 0 rfl) ?_
      obtain ⟨r_6, S_7, h_8, hf⟩ := z_bd hf
      refine z_cSI (As := [.ref (K.2 ki), .int a_1, .int x_4, .int x_5]) (rest := []) X hK hE hD hA hP hS (cj1_indexOfChar l D K _ _ _ _ ki hki S_2 _ _ _ _ _ h_8) (va_cwS 4 hts (z_gS wt_3_127 wt_3_128 wt_1_15 wt_3_129) rfl rfl rfl yd_yJ1_indexOfChar_4cfef ⟨Nat.le_of_ble_eq_true rfl, Nat.le_of_ble_eq_true rfl⟩) hl.1 rfl rfl (Nat.le_of_ble_eq_true rfl) dJ1_indexOf_4cfef_33 (fun H locs hP hS => ?_)
      obtain ⟨h1, h2⟩ := z_s2 hf
      subst h1 h2
      exact hret _ _ _ _ hP hS dJ1_indexOf_4cfef_36
    · have hf := z_if c_9 hf
      refine lv_iconst (v := -1) hx hb dJ1_indexOf_4cfef_27 (by decide) ?_
      obtain ⟨h1, h2⟩ := z_s2 hf
      subst h1 h2
      exact hret _ _ _ _ hP hS dJ1_indexOf_4cfef_28
  · have hf := z_it c_10 hf
    refine lv_iconst (v := -1) hx hb dJ1_indexOf_4cfef_7 (by decide) ?_
    obtain ⟨h1, h2⟩ := z_s2 hf
    subst h1 h2
    exact hret _ _ _ _ hP hS dJ1_indexOf_4cfef_8
