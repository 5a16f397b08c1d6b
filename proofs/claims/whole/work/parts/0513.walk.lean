def fm_laysOdds_L170 (j_193 : Int64 → zSt → Option (Unit × zSt)) : Nat → Int64 → Int64 → zSt → Option (Unit × zSt)
  | 0, _, _, _ => none
  | n_170 + 1, x_18, x_19, S_20 =>
    if (lg_cmp x_19 (0 : Int64)) ≤ 0 then (
    j_193 x_18 S_20) else (
    zck (znzL x_19) <|
    znm (x_18 - x_18 / x_19 * x_19) fun x_22 =>
    fm_laysOdds_L170 j_193 n_170 x_19 x_22 S_20)
def fm_laysOdds_L58 (a_1 : Int32) (a_2 : Int32) (x_26 : Int32) (r_28 : Int32) (j_93 : Int32 → zSt → Option (Unit × zSt)) : Nat → Int32 → Int32 → zSt → Option (Unit × zSt)
  | 0, _, _, _ => none
  | n_58 + 1, x_38, x_39, S_40 =>
    if (8 : Int32) ≤ x_39 then (
    j_93 x_38 S_40) else (
    zck (zix (((270 : Int32) + ((8 : Int32) * r_28)) + x_39) 1480) <|
    znm (x_38 + (S_40.1 1 ((((270 : Int32) + ((8 : Int32) * r_28)) + x_39).toNatClampNeg))) fun x_42 =>
    znm (x_39 + (1 : Int32)) fun x_43 =>
    fm_laysOdds_L58 a_1 a_2 x_26 r_28 j_93 n_58 x_42 x_43 S_40)
def fm_laysOdds_L27 (a_1 : Int32) (a_2 : Int32) (j_145 : zSt → Option (Unit × zSt)) : Nat → Int32 → zSt → Option (Unit × zSt)
  | 0, _, _ => none
  | n_27 + 1, x_26, S_27 =>
    if a_2 ≤ x_26 then (
    j_145  S_27) else (
    if (lg_cmp (S_27.2 0 33) (0 : Int64)) ≤ 0 then (
    j_145  S_27) else (
    zbd (fm_own S_27 a_1 ((10 : Int32) + x_26)) fun r_28 S_29 =>
    znm (fun (x_31 : Int32) (S_32 : zSt) =>
    zck (zix x_26 400) <|
    zck (zix ((((270 : Int32) + ((8 : Int32) * r_28)) + (S_32.1 6 (x_26.toNatClampNeg))) - (97 : Int32)) 1480) <|
    znm (zpL S_32 0 33 ((S_32.2 0 33) * ((S_32.1 1 (((((270 : Int32) + ((8 : Int32) * r_28)) + (S_32.1 6 (x_26.toNatClampNeg))) - (97 : Int32)).toNatClampNeg)).toInt64))) fun S_35 =>
    znm (zpL S_35 0 34 ((S_35.2 0 34) * x_31.toInt64)) fun S_36 =>
    znm (x_26 + (1 : Int32)) fun x_37 =>
    fm_laysOdds_L27 a_1 a_2 j_145 n_27 x_37 S_36) fun j_93 =>
    fm_laysOdds_L58 a_1 a_2 x_26 r_28 j_93 zFU (0 : Int32) (0 : Int32) S_29))
def fm_laysOdds (S_0 : zSt) (a_1 : Int32) (a_2 : Int32) : Option (Unit × zSt) :=
  zbd (fm_own S_0 a_1 (9 : Int32)) fun r_1 S_2 =>
  znm (fun (x_4 : Int64) (S_5 : zSt) =>
  znm (zpL S_5 0 33 x_4) fun S_6 =>
  znm (zpL S_6 0 34 (1 : Int64)) fun S_7 =>
  znm (fun (S_8 : zSt) =>
  znm (fun (S_9 : zSt) =>
  znm (S_9.2 0 33) fun x_10 =>
  znm (S_9.2 0 34) fun x_11 =>
  znm (fun (x_12 : Int64) (S_13 : zSt) =>
  zck (znzL x_12) <|
  znm (zpL S_13 0 33 ((S_13.2 0 33) / x_12)) fun S_15 =>
  zck (znzL x_12) <|
  znm (zpL S_15 0 34 ((S_15.2 0 34) / x_12)) fun S_17 =>
  some ((), S_17)) fun j_193 =>
  fm_laysOdds_L170 j_193 zFU x_10 x_11 S_9) fun j_159 =>
  if (lg_cmp (S_8.2 0 33) (0 : Int64)) = 0 then (
  znm (zpL S_8 0 34 (1 : Int64)) fun S_24 =>
  j_159  S_24) else (
  j_159  S_8)) fun j_145 =>
  fm_laysOdds_L27 a_1 a_2 j_145 zFU (0 : Int32) S_7) fun j_17 =>
  if r_1 = a_2 then (
  j_17 (1 : Int64) S_2) else (
  j_17 (0 : Int64) S_2)
set_option maxHeartbeats 4000000 in
set_option maxRecDepth 100000 in
theorem cm_laysOdds (l : Launch) (D : va_G) (K : (Nat → Nat) × (Nat → Nat)) (cy : Nat → ClassId) (ad : Nat → Nat) (S_0 : zSt) (a_1 : Int32) (a_2 : Int32) (So : zSt) (hf : fm_laysOdds S_0 a_1 a_2 = some ((), So)) : zMV l yX12_laysOdds (zws yX12_laysOdds cX12_laysOdds 9 none) ({ frames := 1, cells := 0, slots := 0, locals := 22 }) D (zTy cy) K (zM cy ad) [.ref (ad 0), .int a_1, .int a_2] S_0 So := by
  refine z_metV (own := RX12) (lv := [(0, .ref (ad 0)), (1, .int a_1), (2, .int a_2)]) (by decide) rfl rfl (Nat.le_of_ble_eq_true rfl) rfl ?_
  intro p e s m below meth c A Q X hK hE hD hA hret hP hS ls hl
  obtain ⟨hx, hb, hml, hown, hts⟩ := id X
  have k0 := (fun w h => List.mem_cons_of_mem _ (zFX12 w h) : ∀ w ∈ u_ws RX12 TX12 36, w ∈ zws yX12_laysOdds cX12_laysOdds 9 none)
  have k1 := hts _ (List.mem_cons_of_mem _ wt_5_128)
  have k2 := hts _ (List.mem_cons_of_mem _ wt_5_129)
  have k3 := hts _ (List.mem_cons_of_mem _ wt_5_95)
  have k4 := hts _ (List.mem_cons_of_mem _ wt_5_102)
  refine lv_aload_n hx hb dX12_laysOdds_0 rfl (lv_at hl 0 rfl) ?_
  refine lv_aload_n hx hb dX12_laysOdds_1 rfl (lv_at hl 0 rfl) ?_
  refine lv_iload_n hx hb dX12_laysOdds_2 rfl (lv_at hl 1 rfl) ?_
  refine lv_bipush (v := 9) hx hb dX12_laysOdds_3 (by decide) ?_
  obtain ⟨r_1, S_2, h_3, hf⟩ := z_bd hf
  refine z_cVI (As := [.int a_1, .int (9 : Int32)]) (rest := [.ref (ad 0)]) X hK hE hD hA hP hS (cm_own l D K cy ad S_0 _ _ _ _ h_3) (cwV 2 hts (z_gV wt_6_95 wt_6_97 wp_64 wt_1_13 wt_6_98) rfl rfl rfl ⟨rfl, yd_yX12_own⟩ ⟨Nat.le_of_ble_eq_true rfl, Nat.le_of_ble_eq_true rfl⟩) (va_recv hK hP (ci := 12) (q0 := 0) rfl (zM_0 cy ad S_0)) hl.1 rfl rfl (Nat.le_of_ble_eq_true rfl) dX12_laysOdds_5 (fun H locs hP hS => ?_)
  refine lv_iload_n hx hb dX12_laysOdds_8 rfl (lv_at hl 2 rfl) ?_
  obtain ⟨j_17, ej_17, hf⟩ := z_nm hf
  have J_17 : ∀ (x_4 : Int64) (S_5 : zSt) (H : Heap) (locs : List Loc) (ls : Array Slot), j_17 x_4 S_5 = some ((), So) → va_P D vwCl (zM cy ad S_5) H → va_S A s.heap H locs → lv_has ls 9 [(0, .ref (ad 0)), (1, .int a_1), (2, .int a_2)] → W p l e ({ frames := 1, cells := 0, slots := 0, locals := 22 }) s m ([.ref (ad 0), .int a_1, .int a_2] : List Value).toArray below meth c H locs 0 0 Q (F0 m 17 ls [.long x_4, .ref (ad 0)]) := by
    intro x_4 S_5 H locs ls hf hP hS hl
    have hf := z_e2 ej_17 hf
    refine va_put (D := D) (ci := 12) (v := .long x_4) (ty := .long) (C := RX12) (T := TX12) (N := 36) hx hb hts k0 tyX12 tyX12_ok nmX12 hown hK hP (hD S_5) hS 0 (zM_0 cy ad S_5) rfl 33 (by decide) k1 (fun _ h9 => h9) rfl (tyX12_ok 33 (by decide)) rfl rfl (Nat.le_of_ble_eq_true rfl) dX12_laysOdds_17 (fun H locs hP _ hS => ?_)
    obtain ⟨S_6, eS_6, hf⟩ := z_nm hf
    have hP := zW_putL hP eS_6 (by decide) rfl
    refine lv_aload_n hx hb dX12_laysOdds_20 rfl (lv_at hl 0 rfl) ?_
    refine lv_lconst (v := 1) hx hb dX12_laysOdds_21 (by decide) ?_
    refine va_put (D := D) (ci := 12) (v := .long (1 : Int64)) (ty := .long) (C := RX12) (T := TX12) (N := 36) hx hb hts k0 tyX12 tyX12_ok nmX12 hown hK hP (hD S_6) hS 0 (zM_0 cy ad S_6) rfl 34 (by decide) k2 (fun _ h9 => h9) rfl (tyX12_ok 34 (by decide)) rfl rfl (Nat.le_of_ble_eq_true rfl) dX12_laysOdds_22 (fun H locs hP _ hS => ?_)
    obtain ⟨S_7, eS_7, hf⟩ := z_nm hf
    have hP := zW_putL hP eS_7 (by decide) rfl
    refine lv_iconst (v := 0) hx hb dX12_laysOdds_25 (by decide) ?_
    refine lv_istore_n (lv' := [(3, .int (0 : Int32)), (0, .ref (ad 0)), (1, .int a_1), (2, .int a_2)]) hx hb dX12_laysOdds_26 rfl hl (by decide) rfl (fun ls hl => ?_)
    obtain ⟨j_145, ej_145, hf⟩ := z_nm hf
    have J_145 : ∀ (S_8 : zSt) (H : Heap) (locs : List Loc) (ls : Array Slot), j_145  S_8 = some ((), So) → va_P D vwCl (zM cy ad S_8) H → va_S A s.heap H locs → lv_has ls 9 [(0, .ref (ad 0))] → W p l e ({ frames := 1, cells := 0, slots := 0, locals := 22 }) s m ([.ref (ad 0), .int a_1, .int a_2] : List Value).toArray below meth c H locs 0 0 Q (F0 m 145 ls []) := by
      intro  S_8 H locs ls hf hP hS hl
      have hf := z_e1 ej_145 hf
      refine lv_aload_n hx hb dX12_laysOdds_145 rfl (lv_at hl 0 rfl) ?_
      refine va_get (D := D) (ci := 12) (v := .long (S_8.2 0 33)) (C := RX12) (T := TX12) (N := 36) hx hb hts k0 hown hK hP 0 (zM_0 cy ad S_8) rfl 33 (by decide) k1 (fun _ h9 => h9) rfl dX12_laysOdds_146 ?_
      refine lv_lconst (v := 0) hx hb dX12_laysOdds_149 (by decide) ?_
      refine W.lcmp hx hb dX12_laysOdds_150 ?_
      obtain ⟨j_159, ej_159, hf⟩ := z_nm hf
      have J_159 : ∀ (S_9 : zSt) (H : Heap) (locs : List Loc) (ls : Array Slot), j_159  S_9 = some ((), So) → va_P D vwCl (zM cy ad S_9) H → va_S A s.heap H locs → lv_has ls 9 [(0, .ref (ad 0))] → W p l e ({ frames := 1, cells := 0, slots := 0, locals := 22 }) s m ([.ref (ad 0), .int a_1, .int a_2] : List Value).toArray below meth c H locs 0 0 Q (F0 m 159 ls []) := by
        intro  S_9 H locs ls hf hP hS hl
        have hf := z_e1 ej_159 hf
        refine lv_aload_n hx hb dX12_laysOdds_159 rfl (lv_at hl 0 rfl) ?_
        refine va_get (D := D) (ci := 12) (v := .long (S_9.2 0 33)) (C := RX12) (T := TX12) (N := 36) hx hb hts k0 hown hK hP 0 (zM_0 cy ad S_9) rfl 33 (by decide) k1 (fun _ h9 => h9) rfl dX12_laysOdds_160 ?_
        refine lv_topl (fun x_10 ex_10 => ?_)
        have hf := z_nv ex_10 hf
        refine lv_lstore_n (lv' := [(3, .long x_10), (0, .ref (ad 0))]) hx hb dX12_laysOdds_163 rfl hl (by decide) rfl (fun ls hl => ?_)
        refine lv_aload_n hx hb dX12_laysOdds_164 rfl (lv_at hl 1 rfl) ?_
        refine va_get (D := D) (ci := 12) (v := .long (S_9.2 0 34)) (C := RX12) (T := TX12) (N := 36) hx hb hts k0 hown hK hP 0 (zM_0 cy ad S_9) rfl 34 (by decide) k2 (fun _ h9 => h9) rfl dX12_laysOdds_165 ?_
        refine lv_topl (fun x_11 ex_11 => ?_)
        have hf := z_nv ex_11 hf
        refine lv_lstore (lv' := [(5, .long x_11), (3, .long x_10), (0, .ref (ad 0))]) hx hb dX12_laysOdds_168 hl (by decide) rfl (fun ls hl => ?_)
        obtain ⟨j_193, ej_193, hf⟩ := z_nm hf
        have J_193 : ∀ (x_12 : Int64) (S_13 : zSt) (H : Heap) (locs : List Loc) (ls : Array Slot), j_193 x_12 S_13 = some ((), So) → va_P D vwCl (zM cy ad S_13) H → va_S A s.heap H locs → lv_has ls 9 [(0, .ref (ad 0)), (3, .long x_12)] → W p l e ({ frames := 1, cells := 0, slots := 0, locals := 22 }) s m ([.ref (ad 0), .int a_1, .int a_2] : List Value).toArray below meth c H locs 0 0 Q (F0 m 193 ls []) := by
          intro x_12 S_13 H locs ls hf hP hS hl
          have hf := z_e2 ej_193 hf
          refine lv_aload_n hx hb dX12_laysOdds_193 rfl (lv_at hl 0 rfl) ?_
          refine lv_dup hx hb dX12_laysOdds_194 rfl ?_
          refine va_get (D := D) (ci := 12) (v := .long (S_13.2 0 33)) (C := RX12) (T := TX12) (N := 36) hx hb hts k0 hown hK hP 0 (zM_0 cy ad S_13) rfl 33 (by decide) k1 (fun _ h9 => h9) rfl dX12_laysOdds_195 ?_
          refine lv_lload_n hx hb dX12_laysOdds_198 rfl (lv_at hl 1 rfl) ?_
          obtain ⟨h_14, hf⟩ := z_nzL hf
          refine lv_ldiv hx hb dX12_laysOdds_199 h_14 ?_
          refine va_put (D := D) (ci := 12) (v := .long ((S_13.2 0 33) / x_12)) (ty := .long) (C := RX12) (T := TX12) (N := 36) hx hb hts k0 tyX12 tyX12_ok nmX12 hown hK hP (hD S_13) hS 0 (zM_0 cy ad S_13) rfl 33 (by decide) k1 (fun _ h9 => h9) rfl (tyX12_ok 33 (by decide)) rfl rfl (Nat.le_of_ble_eq_true rfl) dX12_laysOdds_200 (fun H locs hP _ hS => ?_)
          obtain ⟨S_15, eS_15, hf⟩ := z_nm hf
          have hP := zW_putL hP eS_15 (by decide) rfl
          refine lv_aload_n hx hb dX12_laysOdds_203 rfl (lv_at hl 0 rfl) ?_
          refine lv_dup hx hb dX12_laysOdds_204 rfl ?_
          refine va_get (D := D) (ci := 12) (v := .long (S_15.2 0 34)) (C := RX12) (T := TX12) (N := 36) hx hb hts k0 hown hK hP 0 (zM_0 cy ad S_15) rfl 34 (by decide) k2 (fun _ h9 => h9) rfl dX12_laysOdds_205 ?_
          refine lv_lload_n hx hb dX12_laysOdds_208 rfl (lv_at hl 1 rfl) ?_
          obtain ⟨h_16, hf⟩ := z_nzL hf
          refine lv_ldiv hx hb dX12_laysOdds_209 h_16 ?_
          refine va_put (D := D) (ci := 12) (v := .long ((S_15.2 0 34) / x_12)) (ty := .long) (C := RX12) (T := TX12) (N := 36) hx hb hts k0 tyX12 tyX12_ok nmX12 hown hK hP (hD S_15) hS 0 (zM_0 cy ad S_15) rfl 34 (by decide) k2 (fun _ h9 => h9) rfl (tyX12_ok 34 (by decide)) rfl rfl (Nat.le_of_ble_eq_true rfl) dX12_laysOdds_210 (fun H locs hP _ hS => ?_)
          obtain ⟨S_17, eS_17, hf⟩ := z_nm hf
          have hP := zW_putL hP eS_17 (by decide) rfl
          obtain ⟨h1, h2⟩ := z_s2 hf
          subst h2
          exact hret _ _ _ _ hP hS dX12_laysOdds_213
        have L_170 : ∀ (n_170 : Nat) (x_18 : Int64) (x_19 : Int64) (S_20 : zSt) (H : Heap) (locs : List Loc) (ls : Array Slot), fm_laysOdds_L170 j_193 n_170 x_18 x_19 S_20 = some ((), So) → va_P D vwCl (zM cy ad S_20) H → va_S A s.heap H locs → lv_has ls 9 [(0, .ref (ad 0)), (3, .long x_18), (5, .long x_19)] → W p l e ({ frames := 1, cells := 0, slots := 0, locals := 22 }) s m ([.ref (ad 0), .int a_1, .int a_2] : List Value).toArray below meth c H locs 0 0 Q (F0 m 170 ls []) := by
          intro n_170
          induction n_170 with
          | zero =>
            intro x_18 x_19 S_20 H locs ls hf hP hS hl
            exact z_no hf
          | succ n_170 ih_170 =>
            intro x_18 x_19 S_20 H locs ls hf hP hS hl
            rw [fm_laysOdds_L170] at hf
            refine lv_lload hx hb dX12_laysOdds_170 (lv_at hl 2 rfl) ?_
            refine lv_lconst (v := 0) hx hb dX12_laysOdds_172 (by decide) ?_
            refine W.lcmp hx hb dX12_laysOdds_173 ?_
            refine lv_if_le (tgt := 193) hx hb dX12_laysOdds_174 (by decide) (fun c_23 => ?_) (fun c_23 => ?_)
            · have hf := z_it c_23 hf
              exact J_193 x_18 S_20 _ _ _ hf hP hS (lv_sub hl [0, 1] rfl)
            · have hf := z_if c_23 hf
              refine lv_lload_n hx hb dX12_laysOdds_177 rfl (lv_at hl 1 rfl) ?_
              refine lv_lload hx hb dX12_laysOdds_178 (lv_at hl 2 rfl) ?_
              obtain ⟨h_21, hf⟩ := z_nzL hf
              refine lv_lrem hx hb dX12_laysOdds_180 h_21 ?_
              refine lv_topl (fun x_22 ex_22 => ?_)
              have hf := z_nv ex_22 hf
              refine lv_lstore (lv' := [(7, .long x_22), (0, .ref (ad 0)), (3, .long x_18), (5, .long x_19)]) hx hb dX12_laysOdds_181 hl (by decide) rfl (fun ls hl => ?_)
              refine lv_lload hx hb dX12_laysOdds_183 (lv_at hl 3 rfl) ?_
              refine lv_lstore_n (lv' := [(3, .long x_19), (7, .long x_22), (0, .ref (ad 0)), (5, .long x_19)]) hx hb dX12_laysOdds_185 rfl hl (by decide) rfl (fun ls hl => ?_)
              refine lv_lload hx hb dX12_laysOdds_186 (lv_at hl 1 rfl) ?_
              refine lv_lstore (lv' := [(5, .long x_22), (3, .long x_19), (7, .long x_22), (0, .ref (ad 0))]) hx hb dX12_laysOdds_188 hl (by decide) rfl (fun ls hl => ?_)
              refine lv_goto (tgt := 170) hx hb dX12_laysOdds_190 (by decide) ?_
              exact ih_170 x_19 x_22 S_20 _ _ _ hf hP hS (lv_sub hl [3, 1, 0] rfl)
        exact L_170 zFU x_10 x_11 S_9 _ _ _ hf hP hS (lv_sub hl [2, 1, 0] rfl)
      refine lv_if_ne (tgt := 159) hx hb dX12_laysOdds_151 (by decide) (fun c_25 => ?_) (fun c_25 => ?_)
      · have hf := z_if c_25 hf
        exact J_159  S_8 _ _ _ hf hP hS (lv_sub hl [0] rfl)
      · have hf := z_it c_25 hf
        refine lv_aload_n hx hb dX12_laysOdds_154 rfl (lv_at hl 0 rfl) ?_
        refine lv_lconst (v := 1) hx hb dX12_laysOdds_155 (by decide) ?_
        refine va_put (D := D) (ci := 12) (v := .long (1 : Int64)) (ty := .long) (C := RX12) (T := TX12) (N := 36) hx hb hts k0 tyX12 tyX12_ok nmX12 hown hK hP (hD S_8) hS 0 (zM_0 cy ad S_8) rfl 34 (by decide) k2 (fun _ h9 => h9) rfl (tyX12_ok 34 (by decide)) rfl rfl (Nat.le_of_ble_eq_true rfl) dX12_laysOdds_156 (fun H locs hP _ hS => ?_)
        obtain ⟨S_24, eS_24, hf⟩ := z_nm hf
        have hP := zW_putL hP eS_24 (by decide) rfl
        exact J_159  S_24 _ _ _ hf hP hS (lv_sub hl [0] rfl)
    have L_27 : ∀ (n_27 : Nat) (x_26 : Int32) (S_27 : zSt) (H : Heap) (locs : List Loc) (ls : Array Slot), fm_laysOdds_L27 a_1 a_2 j_145 n_27 x_26 S_27 = some ((), So) → va_P D vwCl (zM cy ad S_27) H → va_S A s.heap H locs → lv_has ls 9 [(0, .ref (ad 0)), (1, .int a_1), (2, .int a_2), (3, .int x_26)] → W p l e ({ frames := 1, cells := 0, slots := 0, locals := 22 }) s m ([.ref (ad 0), .int a_1, .int a_2] : List Value).toArray below meth c H locs 0 0 Q (F0 m 27 ls []) := by
      intro n_27
      induction n_27 with
      | zero =>
        intro x_26 S_27 H locs ls hf hP hS hl
        exact z_no hf
      | succ n_27 ih_27 =>
        intro x_26 S_27 H locs ls hf hP hS hl
        rw [fm_laysOdds_L27] at hf
        refine lv_iload_n hx hb dX12_laysOdds_27 rfl (lv_at hl 3 rfl) ?_
        refine lv_iload_n hx hb dX12_laysOdds_28 rfl (lv_at hl 2 rfl) ?_
        refine lv_icmp_ge (tgt := 145) hx hb dX12_laysOdds_29 (by decide) (fun c_46 => ?_) (fun c_46 => ?_)
        · have hf := z_it c_46 hf
          exact J_145  S_27 _ _ _ hf hP hS (lv_sub hl [0] rfl)
        · have hf := z_if c_46 hf
          refine lv_aload_n hx hb dX12_laysOdds_32 rfl (lv_at hl 0 rfl) ?_
          refine va_get (D := D) (ci := 12) (v := .long (S_27.2 0 33)) (C := RX12) (T := TX12) (N := 36) hx hb hts k0 hown hK hP 0 (zM_0 cy ad S_27) rfl 33 (by decide) k1 (fun _ h9 => h9) rfl dX12_laysOdds_33 ?_
          refine lv_lconst (v := 0) hx hb dX12_laysOdds_36 (by decide) ?_
          refine W.lcmp hx hb dX12_laysOdds_37 ?_
          refine lv_if_le (tgt := 145) hx hb dX12_laysOdds_38 (by decide) (fun c_45 => ?_) (fun c_45 => ?_)
          · have hf := z_it c_45 hf
            exact J_145  S_27 _ _ _ hf hP hS (lv_sub hl [0] rfl)
          · have hf := z_if c_45 hf
            refine lv_aload_n hx hb dX12_laysOdds_41 rfl (lv_at hl 0 rfl) ?_
            refine lv_iload_n hx hb dX12_laysOdds_42 rfl (lv_at hl 1 rfl) ?_
            refine lv_bipush (v := 10) hx hb dX12_laysOdds_43 (by decide) ?_
            refine lv_iload_n hx hb dX12_laysOdds_45 rfl (lv_at hl 3 rfl) ?_
            refine lv_iadd hx hb dX12_laysOdds_46 ?_
            obtain ⟨r_28, S_29, h_30, hf⟩ := z_bd hf
            refine z_cVI (As := [.int a_1, .int ((10 : Int32) + x_26)]) (rest := []) X hK hE hD hA hP hS (cm_own l D K cy ad S_27 _ _ _ _ h_30) (cwV 2 hts (z_gV wt_6_95 wt_6_97 wp_64 wt_1_13 wt_6_98) rfl rfl rfl ⟨rfl, yd_yX12_own⟩ ⟨Nat.le_of_ble_eq_true rfl, Nat.le_of_ble_eq_true rfl⟩) (va_recv hK hP (ci := 12) (q0 := 0) rfl (zM_0 cy ad S_27)) hl.1 rfl rfl (Nat.le_of_ble_eq_true rfl) dX12_laysOdds_47 (fun H locs hP hS => ?_)
            refine lv_istore (lv' := [(4, .int r_28), (0, .ref (ad 0)), (1, .int a_1), (2, .int a_2), (3, .int x_26)]) hx hb dX12_laysOdds_50 hl (by decide) rfl (fun ls hl => ?_)
            refine lv_iconst (v := 0) hx hb dX12_laysOdds_52 (by decide) ?_
            refine lv_istore (lv' := [(5, .int (0 : Int32)), (4, .int r_28), (0, .ref (ad 0)), (1, .int a_1), (2, .int a_2), (3, .int x_26)]) hx hb dX12_laysOdds_53 hl (by decide) rfl (fun ls hl => ?_)
            refine lv_iconst (v := 0) hx hb dX12_laysOdds_55 (by decide) ?_
            refine lv_istore (lv' := [(6, .int (0 : Int32)), (5, .int (0 : Int32)), (4, .int r_28), (0, .ref (ad 0)), (1, .int a_1), (2, .int a_2), (3, .int x_26)]) hx hb dX12_laysOdds_56 hl (by decide) rfl (fun ls hl => ?_)
            obtain ⟨j_93, ej_93, hf⟩ := z_nm hf
            have J_93 : ∀ (x_31 : Int32) (S_32 : zSt) (H : Heap) (locs : List Loc) (ls : Array Slot), j_93 x_31 S_32 = some ((), So) → va_P D vwCl (zM cy ad S_32) H → va_S A s.heap H locs → lv_has ls 9 [(0, .ref (ad 0)), (1, .int a_1), (2, .int a_2), (3, .int x_26), (4, .int r_28), (5, .int x_31)] → W p l e ({ frames := 1, cells := 0, slots := 0, locals := 22 }) s m ([.ref (ad 0), .int a_1, .int a_2] : List Value).toArray below meth c H locs 0 0 Q (F0 m 93 ls []) := by
              intro x_31 S_32 H locs ls hf hP hS hl
              have hf := z_e2 ej_93 hf
              refine lv_aload_n hx hb dX12_laysOdds_93 rfl (lv_at hl 0 rfl) ?_
              refine lv_dup hx hb dX12_laysOdds_94 rfl ?_
              refine va_get (D := D) (ci := 12) (v := .long (S_32.2 0 33)) (C := RX12) (T := TX12) (N := 36) hx hb hts k0 hown hK hP 0 (zM_0 cy ad S_32) rfl 33 (by decide) k1 (fun _ h9 => h9) rfl dX12_laysOdds_95 ?_
              refine lv_aload_n hx hb dX12_laysOdds_98 rfl (lv_at hl 0 rfl) ?_
              refine va_get (D := D) (ci := 12) (v := .ref (ad 1)) (C := RX12) (T := TX12) (N := 36) hx hb hts k0 hown hK hP 0 (zM_0 cy ad S_32) rfl 0 (by decide) k3 (fun _ h9 => h9) rfl dX12_laysOdds_99 ?_
              refine lv_sipush (v := 270) hx hb dX12_laysOdds_102 (by decide) ?_
              refine lv_bipush (v := 8) hx hb dX12_laysOdds_105 (by decide) ?_
              refine lv_iload hx hb dX12_laysOdds_107 (lv_at hl 4 rfl) ?_
              refine lv_imul hx hb dX12_laysOdds_109 ?_
              refine lv_iadd hx hb dX12_laysOdds_110 ?_
              refine lv_aload_n hx hb dX12_laysOdds_111 rfl (lv_at hl 0 rfl) ?_
              refine va_get (D := D) (ci := 12) (v := .ref (ad 6)) (C := RX12) (T := TX12) (N := 36) hx hb hts k0 hown hK hP 0 (zM_0 cy ad S_32) rfl 7 (by decide) k4 (fun _ h9 => h9) rfl dX12_laysOdds_112 ?_
              refine lv_iload_n hx hb dX12_laysOdds_115 rfl (lv_at hl 3 rfl) ?_
              obtain ⟨h_33, hf⟩ := z_ix hf
              refine z_iald hx hb hK hP 6 0 (zM_6 cy ad S_32) rfl h_33 (k := (x_26.toNatClampNeg)) rfl dX12_laysOdds_116 ?_
              refine lv_iadd hx hb dX12_laysOdds_117 ?_
              refine lv_bipush (v := 97) hx hb dX12_laysOdds_118 (by decide) ?_
              refine lv_isub hx hb dX12_laysOdds_120 ?_
              obtain ⟨h_34, hf⟩ := z_ix hf
              refine z_iald hx hb hK hP 1 0 (zM_1 cy ad S_32) rfl h_34 (k := (((((270 : Int32) + ((8 : Int32) * r_28)) + (S_32.1 6 (x_26.toNatClampNeg))) - (97 : Int32)).toNatClampNeg)) rfl dX12_laysOdds_121 ?_
              refine lv_i2l hx hb dX12_laysOdds_122 rfl ?_
              refine lv_lmul hx hb dX12_laysOdds_123 ?_
              refine va_put (D := D) (ci := 12) (v := .long ((S_32.2 0 33) * ((S_32.1 1 (((((270 : Int32) + ((8 : Int32) * r_28)) + (S_32.1 6 (x_26.toNatClampNeg))) - (97 : Int32)).toNatClampNeg)).toInt64))) (ty := .long) (C := RX12) (T := TX12) (N := 36) hx hb hts k0 tyX12 tyX12_ok nmX12 hown hK hP (hD S_32) hS 0 (zM_0 cy ad S_32) rfl 33 (by decide) k1 (fun _ h9 => h9) rfl (tyX12_ok 33 (by decide)) rfl rfl (Nat.le_of_ble_eq_true rfl) dX12_laysOdds_124 (fun H locs hP _ hS => ?_)
              obtain ⟨S_35, eS_35, hf⟩ := z_nm hf
              have hP := zW_putL hP eS_35 (by decide) rfl
              refine lv_aload_n hx hb dX12_laysOdds_127 rfl (lv_at hl 0 rfl) ?_
              refine lv_dup hx hb dX12_laysOdds_128 rfl ?_
              refine va_get (D := D) (ci := 12) (v := .long (S_35.2 0 34)) (C := RX12) (T := TX12) (N := 36) hx hb hts k0 hown hK hP 0 (zM_0 cy ad S_35) rfl 34 (by decide) k2 (fun _ h9 => h9) rfl dX12_laysOdds_129 ?_
              refine lv_iload hx hb dX12_laysOdds_132 (lv_at hl 5 rfl) ?_
              refine lv_i2l hx hb dX12_laysOdds_134 rfl ?_
              refine lv_lmul hx hb dX12_laysOdds_135 ?_
              refine va_put (D := D) (ci := 12) (v := .long ((S_35.2 0 34) * x_31.toInt64)) (ty := .long) (C := RX12) (T := TX12) (N := 36) hx hb hts k0 tyX12 tyX12_ok nmX12 hown hK hP (hD S_35) hS 0 (zM_0 cy ad S_35) rfl 34 (by decide) k2 (fun _ h9 => h9) rfl (tyX12_ok 34 (by decide)) rfl rfl (Nat.le_of_ble_eq_true rfl) dX12_laysOdds_136 (fun H locs hP _ hS => ?_)
              obtain ⟨S_36, eS_36, hf⟩ := z_nm hf
              have hP := zW_putL hP eS_36 (by decide) rfl
              obtain ⟨x_37, ex_37, hf⟩ := z_nm hf
              refine lv_iinc (v := x_37) (lv' := [(3, .int x_37), (0, .ref (ad 0)), (1, .int a_1), (2, .int a_2), (4, .int r_28), (5, .int x_31)]) hx hb dX12_laysOdds_139 hl (k := 3) rfl (by rw [ex_37]; rfl) (by decide) rfl (fun ls hl => ?_)
              refine lv_goto (tgt := 27) hx hb dX12_laysOdds_142 (by decide) ?_
              exact ih_27 x_37 S_36 _ _ _ hf hP hS (lv_sub hl [1, 2, 3, 0] rfl)
            have L_58 : ∀ (n_58 : Nat) (x_38 : Int32) (x_39 : Int32) (S_40 : zSt) (H : Heap) (locs : List Loc) (ls : Array Slot), fm_laysOdds_L58 a_1 a_2 x_26 r_28 j_93 n_58 x_38 x_39 S_40 = some ((), So) → va_P D vwCl (zM cy ad S_40) H → va_S A s.heap H locs → lv_has ls 9 [(0, .ref (ad 0)), (1, .int a_1), (2, .int a_2), (3, .int x_26), (4, .int r_28), (5, .int x_38), (6, .int x_39)] → W p l e ({ frames := 1, cells := 0, slots := 0, locals := 22 }) s m ([.ref (ad 0), .int a_1, .int a_2] : List Value).toArray below meth c H locs 0 0 Q (F0 m 58 ls []) := by
              intro n_58
              induction n_58 with
              | zero =>
                intro x_38 x_39 S_40 H locs ls hf hP hS hl
                exact z_no hf
              | succ n_58 ih_58 =>
                intro x_38 x_39 S_40 H locs ls hf hP hS hl
                rw [fm_laysOdds_L58] at hf
                refine lv_iload hx hb dX12_laysOdds_58 (lv_at hl 6 rfl) ?_
                refine lv_bipush (v := 8) hx hb dX12_laysOdds_60 (by decide) ?_
                refine lv_icmp_ge (tgt := 93) hx hb dX12_laysOdds_62 (by decide) (fun c_44 => ?_) (fun c_44 => ?_)
                · have hf := z_it c_44 hf
                  exact J_93 x_38 S_40 _ _ _ hf hP hS (lv_sub hl [0, 1, 2, 3, 4, 5] rfl)
                · have hf := z_if c_44 hf
                  refine lv_iload hx hb dX12_laysOdds_65 (lv_at hl 5 rfl) ?_
                  refine lv_aload_n hx hb dX12_laysOdds_67 rfl (lv_at hl 0 rfl) ?_
                  refine va_get (D := D) (ci := 12) (v := .ref (ad 1)) (C := RX12) (T := TX12) (N := 36) hx hb hts k0 hown hK hP 0 (zM_0 cy ad S_40) rfl 0 (by decide) k3 (fun _ h9 => h9) rfl dX12_laysOdds_68 ?_
                  refine lv_sipush (v := 270) hx hb dX12_laysOdds_71 (by decide) ?_
                  refine lv_bipush (v := 8) hx hb dX12_laysOdds_74 (by decide) ?_
                  refine lv_iload hx hb dX12_laysOdds_76 (lv_at hl 4 rfl) ?_
                  refine lv_imul hx hb dX12_laysOdds_78 ?_
                  refine lv_iadd hx hb dX12_laysOdds_79 ?_
                  refine lv_iload hx hb dX12_laysOdds_80 (lv_at hl 6 rfl) ?_
                  refine lv_iadd hx hb dX12_laysOdds_82 ?_
                  obtain ⟨h_41, hf⟩ := z_ix hf
                  refine z_iald hx hb hK hP 1 0 (zM_1 cy ad S_40) rfl h_41 (k := ((((270 : Int32) + ((8 : Int32) * r_28)) + x_39).toNatClampNeg)) rfl dX12_laysOdds_83 ?_
                  refine lv_iadd hx hb dX12_laysOdds_84 ?_
                  refine lv_topi (fun x_42 ex_42 => ?_)
                  have hf := z_nv ex_42 hf
                  refine lv_istore (lv' := [(5, .int x_42), (0, .ref (ad 0)), (1, .int a_1), (2, .int a_2), (3, .int x_26), (4, .int r_28), (6, .int x_39)]) hx hb dX12_laysOdds_85 hl (by decide) rfl (fun ls hl => ?_)
                  obtain ⟨x_43, ex_43, hf⟩ := z_nm hf
                  refine lv_iinc (v := x_43) (lv' := [(6, .int x_43), (5, .int x_42), (0, .ref (ad 0)), (1, .int a_1), (2, .int a_2), (3, .int x_26), (4, .int r_28)]) hx hb dX12_laysOdds_87 hl (k := 6) rfl (by rw [ex_43]; rfl) (by decide) rfl (fun ls hl => ?_)
                  refine lv_goto (tgt := 58) hx hb dX12_laysOdds_90 (by decide) ?_
                  exact ih_58 x_42 x_43 S_40 _ _ _ hf hP hS (lv_sub hl [2, 3, 4, 5, 6, 1, 0] rfl)
            exact L_58 zFU (0 : Int32) (0 : Int32) S_29 _ _ _ hf hP hS (lv_sub hl [3, 4, 5, 6, 2, 1, 0] rfl)
    exact L_27 zFU (0 : Int32) S_7 _ _ _ hf hP hS (lv_sub hl [1, 2, 3, 0] rfl)
  refine lv_icmp_ne (tgt := 16) hx hb dX12_laysOdds_9 (by decide) (fun c_47 => ?_) (fun c_47 => ?_)
  · have hf := z_if c_47 hf
    refine lv_lconst (v := 0) hx hb dX12_laysOdds_16 (by decide) ?_
    exact J_17 (0 : Int64) S_2 _ _ _ hf hP hS (lv_sub hl [0, 1, 2] rfl)
  · have hf := z_it c_47 hf
    refine lv_lconst (v := 1) hx hb dX12_laysOdds_12 (by decide) ?_
    refine lv_goto (tgt := 17) hx hb dX12_laysOdds_13 (by decide) ?_
    exact J_17 (1 : Int64) S_2 _ _ _ hf hP hS (lv_sub hl [0, 1, 2] rfl)
def fm_odds (S_0 : zSt) (a_1 : Int32) (a_2 : Int32) : Option (Int64 × zSt) :=
  zbd (fm_takesRow S_0) fun r_1 S_2 =>
  znm (fun (S_4 : zSt) =>
  some ((-1 : Int64), S_4)) fun j_27 =>
  if r_1 = (-1 : Int32) then (
  j_27  S_2) else (
  zbd (fm_isHouse S_2 a_1) fun r_5 S_6 =>
  if r_5 = 0 then (
  j_27  S_6) else (
  zbd (fm_isIn S_6 a_2 (0 : Int32) (1 : Int32)) fun r_8 S_9 =>
  if r_8 = 0 then (
  j_27  S_9) else (
  zbd (fm_laysOdds S_9 a_1 r_1) fun _ S_12 =>
  znm (fun (x_14 : Int64) (S_15 : zSt) =>
  some (x_14, S_15)) fun j_52 =>
  if a_2 = 0 then (
  j_52 (S_12.2 0 33) S_12) else (
  j_52 (S_12.2 0 34) S_12))))
set_option maxHeartbeats 4000000 in
set_option maxRecDepth 100000 in
theorem cm_odds (l : Launch) (D : va_G) (K : (Nat → Nat) × (Nat → Nat)) (cy : Nat → ClassId) (ad : Nat → Nat) (S_0 : zSt) (a_1 : Int32) (a_2 : Int32) (ro : Int64) (So : zSt) (hf : fm_odds S_0 a_1 a_2 = some (ro, So)) : zML l yX12_odds (zws yX12_odds cX12_odds 4 (Option.some .long)) ({ frames := 2, cells := 0, slots := 0, locals := 50 }) D (zTy cy) K (zM cy ad) [.ref (ad 0), .int a_1, .int a_2] S_0 ro So := by
  refine z_metL (own := RX12) (lv := [(0, .ref (ad 0)), (1, .int a_1), (2, .int a_2)]) (by decide) rfl rfl (Nat.le_of_ble_eq_true rfl) rfl ?_
  intro p e s m below meth c A Q X hK hE hD hA hret hP hS ls hl
  obtain ⟨hx, hb, hml, hown, hts⟩ := id X
  have k0 := hts _ (List.mem_cons_of_mem _ wt_7_19)
  have k1 := (fun w h => List.mem_cons_of_mem _ (zFX12 w h) : ∀ w ∈ u_ws RX12 TX12 36, w ∈ zws yX12_odds cX12_odds 4 (Option.some .long))
  have k2 := hts _ (List.mem_cons_of_mem _ wt_5_129)
  have k3 := hts _ (List.mem_cons_of_mem _ wt_5_128)
  refine lv_aload_n hx hb dX12_odds_0 rfl (lv_at hl 0 rfl) ?_
  obtain ⟨r_1, S_2, h_3, hf⟩ := z_bd hf
  refine z_cVI (As := []) (rest := []) X hK hE hD hA hP hS (cm_takesRow l D K cy ad S_0 _ _ h_3) (cwV 0 hts (z_gV wt_6_78 wt_6_80 wp_61 wt_1_13 wt_6_81) rfl rfl rfl ⟨rfl, yd_yX12_takesRow⟩ ⟨Nat.le_of_ble_eq_true rfl, Nat.le_of_ble_eq_true rfl⟩) (va_recv hK hP (ci := 12) (q0 := 0) rfl (zM_0 cy ad S_0)) hl.1 rfl rfl (Nat.le_of_ble_eq_true rfl) dX12_odds_1 (fun H locs hP hS => ?_)
  refine lv_istore_n (lv' := [(3, .int r_1), (0, .ref (ad 0)), (1, .int a_1), (2, .int a_2)]) hx hb dX12_odds_4 rfl hl (by decide) rfl (fun ls hl => ?_)
  refine lv_iload_n hx hb dX12_odds_5 rfl (lv_at hl 0 rfl) ?_
  refine lv_iconst (v := -1) hx hb dX12_odds_6 (by decide) ?_
  obtain ⟨j_27, ej_27, hf⟩ := z_nm hf
  have J_27 : ∀ (S_4 : zSt) (H : Heap) (locs : List Loc) (ls : Array Slot), j_27  S_4 = some (ro, So) → va_P D vwCl (zM cy ad S_4) H → va_S A s.heap H locs → lv_has ls 4 [] → W p l e ({ frames := 2, cells := 0, slots := 0, locals := 50 }) s m ([.ref (ad 0), .int a_1, .int a_2] : List Value).toArray below meth c H locs 0 0 Q (F0 m 27 ls []) := by
    intro  S_4 H locs ls hf hP hS hl
    have hf := z_e1 ej_27 hf
    refine lv_ldc2 hx hb hown k0 dX12_odds_27 ?_
    obtain ⟨h1, h2⟩ := z_s2 hf
    subst h1 h2
    exact hret _ _ _ _ hP hS dX12_odds_30
  refine lv_icmp_eq (tgt := 27) hx hb dX12_odds_7 (by decide) (fun c_19 => ?_) (fun c_19 => ?_)
  · have hf := z_it c_19 hf
    exact J_27  S_2 _ _ _ hf hP hS (lv_sub hl [] rfl)
  · have hf := z_if c_19 hf
    refine lv_aload_n hx hb dX12_odds_10 rfl (lv_at hl 1 rfl) ?_
    refine lv_iload_n hx hb dX12_odds_11 rfl (lv_at hl 2 rfl) ?_
    obtain ⟨r_5, S_6, h_7, hf⟩ := z_bd hf
    refine z_cVI (As := [.int a_1]) (rest := []) X hK hE hD hA hP hS (cm_isHouse l D K cy ad S_2 _ _ _ h_7) (cwV 1 hts (z_gV wt_6_90 wt_6_92 wp_63 wt_1_13 wt_6_93) rfl rfl rfl ⟨rfl, yd_yX12_isHouse⟩ ⟨Nat.le_of_ble_eq_true rfl, Nat.le_of_ble_eq_true rfl⟩) (va_recv hK hP (ci := 12) (q0 := 0) rfl (zM_0 cy ad S_2)) hl.1 rfl rfl (Nat.le_of_ble_eq_true rfl) dX12_odds_12 (fun H locs hP hS => ?_)
    refine lv_if_eq (tgt := 27) hx hb dX12_odds_15 (by decide) (fun c_18 => ?_) (fun c_18 => ?_)
    · have hf := z_it c_18 hf
      exact J_27  S_6 _ _ _ hf hP hS (lv_sub hl [] rfl)
    · have hf := z_if c_18 hf
      refine lv_iload_n hx hb dX12_odds_18 rfl (lv_at hl 3 rfl) ?_
      refine lv_iconst (v := 0) hx hb dX12_odds_19 (by decide) ?_
      refine lv_iconst (v := 1) hx hb dX12_odds_20 (by decide) ?_
      obtain ⟨r_8, S_9, h_10, hf⟩ := z_bd hf
      refine z_cSI (As := [.int a_2, .int (0 : Int32), .int (1 : Int32)]) (rest := []) X hK hE hD hA hP hS (cm_isIn l D K cy ad S_6 _ _ _ _ _ h_10) (va_cwS 3 hts (z_gS wt_5_216 wt_5_217 wt_1_13 wt_5_218) rfl rfl rfl yd_yX12_isIn ⟨Nat.le_of_ble_eq_true rfl, Nat.le_of_ble_eq_true rfl⟩) hl.1 rfl rfl (Nat.le_of_ble_eq_true rfl) dX12_odds_21 (fun H locs hP hS => ?_)
      refine lv_if_ne (tgt := 31) hx hb dX12_odds_24 (by decide) (fun c_17 => ?_) (fun c_17 => ?_)
      · have hf := z_if c_17 hf
        refine lv_aload_n hx hb dX12_odds_31 rfl (lv_at hl 1 rfl) ?_
        refine lv_iload_n hx hb dX12_odds_32 rfl (lv_at hl 2 rfl) ?_
        refine lv_iload_n hx hb dX12_odds_33 rfl (lv_at hl 0 rfl) ?_
        obtain ⟨r_11, S_12, h_13, hf⟩ := z_bd hf
        refine z_cVV (As := [.int a_1, .int r_1]) (rest := []) X hK hE hD hA hP hS (cm_laysOdds l D K cy ad S_9 _ _ _ h_13) (cwV 2 hts (z_gV wt_7_20 wt_7_22 wp_87 wt_1_13 wt_7_23) rfl rfl rfl ⟨rfl, yd_yX12_laysOdds⟩ ⟨Nat.le_of_ble_eq_true rfl, Nat.le_of_ble_eq_true rfl⟩) (va_recv hK hP (ci := 12) (q0 := 0) rfl (zM_0 cy ad S_9)) hl.1 rfl rfl (Nat.le_of_ble_eq_true rfl) dX12_odds_34 (fun H locs hP hS => ?_)
        refine lv_iload_n hx hb dX12_odds_37 rfl (lv_at hl 3 rfl) ?_
        obtain ⟨j_52, ej_52, hf⟩ := z_nm hf
        have J_52 : ∀ (x_14 : Int64) (S_15 : zSt) (H : Heap) (locs : List Loc) (ls : Array Slot), j_52 x_14 S_15 = some (ro, So) → va_P D vwCl (zM cy ad S_15) H → va_S A s.heap H locs → lv_has ls 4 [] → W p l e ({ frames := 2, cells := 0, slots := 0, locals := 50 }) s m ([.ref (ad 0), .int a_1, .int a_2] : List Value).toArray below meth c H locs 0 0 Q (F0 m 52 ls [.long x_14]) := by
          intro x_14 S_15 H locs ls hf hP hS hl
          have hf := z_e2 ej_52 hf
          obtain ⟨h1, h2⟩ := z_s2 hf
          subst h1 h2
          exact hret _ _ _ _ hP hS dX12_odds_52
        refine lv_if_ne (tgt := 48) hx hb dX12_odds_38 (by decide) (fun c_16 => ?_) (fun c_16 => ?_)
        · have hf := z_if c_16 hf
          refine lv_aload_n hx hb dX12_odds_48 rfl (lv_at hl 1 rfl) ?_
          refine va_get (D := D) (ci := 12) (v := .long (S_12.2 0 34)) (C := RX12) (T := TX12) (N := 36) hx hb hts k1 hown hK hP 0 (zM_0 cy ad S_12) rfl 34 (by decide) k2 (fun _ h9 => h9) rfl dX12_odds_49 ?_
          exact J_52 (S_12.2 0 34) S_12 _ _ _ hf hP hS (lv_sub hl [] rfl)
        · have hf := z_it c_16 hf
          refine lv_aload_n hx hb dX12_odds_41 rfl (lv_at hl 1 rfl) ?_
          refine va_get (D := D) (ci := 12) (v := .long (S_12.2 0 33)) (C := RX12) (T := TX12) (N := 36) hx hb hts k1 hown hK hP 0 (zM_0 cy ad S_12) rfl 33 (by decide) k3 (fun _ h9 => h9) rfl dX12_odds_42 ?_
          refine lv_goto (tgt := 52) hx hb dX12_odds_45 (by decide) ?_
          exact J_52 (S_12.2 0 33) S_12 _ _ _ hf hP hS (lv_sub hl [] rfl)
      · have hf := z_it c_17 hf
        exact J_27  S_9 _ _ _ hf hP hS (lv_sub hl [] rfl)
def fm_whose_L36 (a_1 : Int32) (r_1 : Int32) (j_139 : Int32 → Int32 → zSt → Option (Int32 × zSt)) : Nat → Int32 → Int32 → Int64 → Int64 → Int32 → zSt → Option (Int32 × zSt)
  | 0, _, _, _, _, _, _ => none
  | n_36 + 1, x_15, x_16, x_17, x_18, x_19, S_20 =>
    if (S_20.1 1 4) ≤ x_19 then (
    j_139 x_15 x_16 S_20) else (
    zbd (fm_laysOdds S_20 x_19 r_1) fun _ S_22 =>
    znm (fun (x_24 : Int32) (x_25 : Int32) (x_26 : Int64) (x_27 : Int64) (S_28 : zSt) =>
    znm (x_19 + (1 : Int32)) fun x_29 =>
    fm_whose_L36 a_1 r_1 j_139 n_36 x_24 x_25 x_26 x_27 x_29 S_28) fun j_133 =>
    if (lg_cmp (S_22.2 0 33) (0 : Int64)) = 0 then (
    j_133 x_15 x_16 x_17 x_18 S_22) else (
    if 0 ≤ (lg_cmp ((S_22.2 0 33) * x_18) (x_17 * (S_22.2 0 34))) then (
    znm (fun (x_30 : Int32) (S_31 : zSt) =>
    znm (fun (x_32 : Int32) (S_33 : zSt) =>
    znm (S_33.2 0 33) fun x_34 =>
    znm (S_33.2 0 34) fun x_35 =>
    j_133 x_32 x_30 x_34 x_35 S_33) fun j_120 =>
    if x_30 = 0 then (
    j_120 x_15 S_31) else (
    j_120 x_19 S_31)) fun j_107 =>
    if (lg_cmp ((S_22.2 0 33) * x_18) (x_17 * (S_22.2 0 34))) ≤ 0 then (
    j_107 (0 : Int32) S_22) else (
    j_107 (1 : Int32) S_22)) else (
    j_133 x_15 x_16 x_17 x_18 S_22)))
def fm_whose (S_0 : zSt) (a_1 : Int32) : Option (Int32 × zSt) :=
  zbd (fm_takesRow S_0) fun r_1 S_2 =>
  znm (fun (S_4 : zSt) =>
  some ((-2 : Int32), S_4)) fun j_19 =>
  if r_1 = (-1 : Int32) then (
  j_19  S_2) else (
  zbd (fm_isIn S_2 a_1 (0 : Int32) (1 : Int32)) fun r_5 S_6 =>
  if r_5 = 0 then (
  j_19  S_6) else (
  znm (fun (x_8 : Int32) (x_9 : Int32) (S_10 : zSt) =>
  znm (fun (x_11 : Int32) (S_12 : zSt) =>
  some (x_11, S_12)) fun j_157 =>
  if a_1 = 0 then (
  j_157 x_8 S_10) else (
  if x_9 = 0 then (
  j_157 (0 : Int32) S_10) else (
  j_157 (1 : Int32) S_10))) fun j_139 =>
  fm_whose_L36 a_1 r_1 j_139 zFU (-1 : Int32) (0 : Int32) (0 : Int64) (1 : Int64) (0 : Int32) S_6))
set_option maxHeartbeats 4000000 in
set_option maxRecDepth 100000 in
theorem cm_whose (l : Launch) (D : va_G) (K : (Nat → Nat) × (Nat → Nat)) (cy : Nat → ClassId) (ad : Nat → Nat) (S_0 : zSt) (a_1 : Int32) (ro : Int32) (So : zSt) (hf : fm_whose S_0 a_1 = some (ro, So)) : zMI l yX12_whose (zws yX12_whose cX12_whose 10 (Option.some .int)) ({ frames := 2, cells := 0, slots := 0, locals := 50 }) D (zTy cy) K (zM cy ad) [.ref (ad 0), .int a_1] S_0 ro So := by
  refine z_metI (own := RX12) (lv := [(0, .ref (ad 0)), (1, .int a_1)]) (by decide) rfl rfl (Nat.le_of_ble_eq_true rfl) rfl ?_
  intro p e s m below meth c A Q X hK hE hD hA hret hP hS ls hl
  obtain ⟨hx, hb, hml, hown, hts⟩ := id X
  have k0 := (fun w h => List.mem_cons_of_mem _ (zFX12 w h) : ∀ w ∈ u_ws RX12 TX12 36, w ∈ zws yX12_whose cX12_whose 10 (Option.some .int))
  have k1 := hts _ (List.mem_cons_of_mem _ wt_5_95)
  have k2 := hts _ (List.mem_cons_of_mem _ wt_5_128)
  have k3 := hts _ (List.mem_cons_of_mem _ wt_5_129)
  refine lv_aload_n hx hb dX12_whose_0 rfl (lv_at hl 0 rfl) ?_
  obtain ⟨r_1, S_2, h_3, hf⟩ := z_bd hf
  refine z_cVI (As := []) (rest := []) X hK hE hD hA hP hS (cm_takesRow l D K cy ad S_0 _ _ h_3) (cwV 0 hts (z_gV wt_6_78 wt_6_80 wp_61 wt_1_13 wt_6_81) rfl rfl rfl ⟨rfl, yd_yX12_takesRow⟩ ⟨Nat.le_of_ble_eq_true rfl, Nat.le_of_ble_eq_true rfl⟩) (va_recv hK hP (ci := 12) (q0 := 0) rfl (zM_0 cy ad S_0)) hl.1 rfl rfl (Nat.le_of_ble_eq_true rfl) dX12_whose_1 (fun H locs hP hS => ?_)
  refine lv_istore_n (lv' := [(2, .int r_1), (0, .ref (ad 0)), (1, .int a_1)]) hx hb dX12_whose_4 rfl hl (by decide) rfl (fun ls hl => ?_)
  refine lv_iload_n hx hb dX12_whose_5 rfl (lv_at hl 0 rfl) ?_
  refine lv_iconst (v := -1) hx hb dX12_whose_6 (by decide) ?_
  obtain ⟨j_19, ej_19, hf⟩ := z_nm hf
  have J_19 : ∀ (S_4 : zSt) (H : Heap) (locs : List Loc) (ls : Array Slot), j_19  S_4 = some (ro, So) → va_P D vwCl (zM cy ad S_4) H → va_S A s.heap H locs → lv_has ls 10 [] → W p l e ({ frames := 2, cells := 0, slots := 0, locals := 50 }) s m ([.ref (ad 0), .int a_1] : List Value).toArray below meth c H locs 0 0 Q (F0 m 19 ls []) := by
    intro  S_4 H locs ls hf hP hS hl
    have hf := z_e1 ej_19 hf
    refine lv_bipush (v := -2) hx hb dX12_whose_19 (by decide) ?_
    obtain ⟨h1, h2⟩ := z_s2 hf
    subst h1 h2
    exact hret _ _ _ _ hP hS dX12_whose_21
  refine lv_icmp_eq (tgt := 19) hx hb dX12_whose_7 (by decide) (fun c_42 => ?_) (fun c_42 => ?_)
  · have hf := z_it c_42 hf
    exact J_19  S_2 _ _ _ hf hP hS (lv_sub hl [] rfl)
  · have hf := z_if c_42 hf
    refine lv_iload_n hx hb dX12_whose_10 rfl (lv_at hl 2 rfl) ?_
    refine lv_iconst (v := 0) hx hb dX12_whose_11 (by decide) ?_
    refine lv_iconst (v := 1) hx hb dX12_whose_12 (by decide) ?_
    obtain ⟨r_5, S_6, h_7, hf⟩ := z_bd hf
    refine z_cSI (As := [.int a_1, .int (0 : Int32), .int (1 : Int32)]) (rest := []) X hK hE hD hA hP hS (cm_isIn l D K cy ad S_2 _ _ _ _ _ h_7) (va_cwS 3 hts (z_gS wt_5_216 wt_5_217 wt_1_13 wt_5_218) rfl rfl rfl yd_yX12_isIn ⟨Nat.le_of_ble_eq_true rfl, Nat.le_of_ble_eq_true rfl⟩) hl.1 rfl rfl (Nat.le_of_ble_eq_true rfl) dX12_whose_13 (fun H locs hP hS => ?_)
    refine lv_if_ne (tgt := 22) hx hb dX12_whose_16 (by decide) (fun c_41 => ?_) (fun c_41 => ?_)
    · have hf := z_if c_41 hf
      refine lv_iconst (v := -1) hx hb dX12_whose_22 (by decide) ?_
      refine lv_istore_n (lv' := [(3, .int (-1 : Int32)), (2, .int r_1), (0, .ref (ad 0)), (1, .int a_1)]) hx hb dX12_whose_23 rfl hl (by decide) rfl (fun ls hl => ?_)
      refine lv_iconst (v := 0) hx hb dX12_whose_24 (by decide) ?_
      refine lv_istore (lv' := [(4, .int (0 : Int32)), (3, .int (-1 : Int32)), (2, .int r_1), (0, .ref (ad 0)), (1, .int a_1)]) hx hb dX12_whose_25 hl (by decide) rfl (fun ls hl => ?_)
      refine lv_lconst (v := 0) hx hb dX12_whose_27 (by decide) ?_
      refine lv_lstore (lv' := [(5, .long (0 : Int64)), (4, .int (0 : Int32)), (3, .int (-1 : Int32)), (2, .int r_1), (0, .ref (ad 0)), (1, .int a_1)]) hx hb dX12_whose_28 hl (by decide) rfl (fun ls hl => ?_)
      refine lv_lconst (v := 1) hx hb dX12_whose_30 (by decide) ?_
      refine lv_lstore (lv' := [(7, .long (1 : Int64)), (5, .long (0 : Int64)), (4, .int (0 : Int32)), (3, .int (-1 : Int32)), (2, .int r_1), (0, .ref (ad 0)), (1, .int a_1)]) hx hb dX12_whose_31 hl (by decide) rfl (fun ls hl => ?_)
      refine lv_iconst (v := 0) hx hb dX12_whose_33 (by decide) ?_
      refine lv_istore (lv' := [(9, .int (0 : Int32)), (7, .long (1 : Int64)), (5, .long (0 : Int64)), (4, .int (0 : Int32)), (3, .int (-1 : Int32)), (2, .int r_1), (0, .ref (ad 0)), (1, .int a_1)]) hx hb dX12_whose_34 hl (by decide) rfl (fun ls hl => ?_)
      obtain ⟨j_139, ej_139, hf⟩ := z_nm hf
      have J_139 : ∀ (x_8 : Int32) (x_9 : Int32) (S_10 : zSt) (H : Heap) (locs : List Loc) (ls : Array Slot), j_139 x_8 x_9 S_10 = some (ro, So) → va_P D vwCl (zM cy ad S_10) H → va_S A s.heap H locs → lv_has ls 10 [(1, .int a_1), (3, .int x_8), (4, .int x_9)] → W p l e ({ frames := 2, cells := 0, slots := 0, locals := 50 }) s m ([.ref (ad 0), .int a_1] : List Value).toArray below meth c H locs 0 0 Q (F0 m 139 ls []) := by
        intro x_8 x_9 S_10 H locs ls hf hP hS hl
        have hf := z_e3 ej_139 hf
        refine lv_iload_n hx hb dX12_whose_139 rfl (lv_at hl 0 rfl) ?_
        obtain ⟨j_157, ej_157, hf⟩ := z_nm hf
        have J_157 : ∀ (x_11 : Int32) (S_12 : zSt) (H : Heap) (locs : List Loc) (ls : Array Slot), j_157 x_11 S_12 = some (ro, So) → va_P D vwCl (zM cy ad S_12) H → va_S A s.heap H locs → lv_has ls 10 [] → W p l e ({ frames := 2, cells := 0, slots := 0, locals := 50 }) s m ([.ref (ad 0), .int a_1] : List Value).toArray below meth c H locs 0 0 Q (F0 m 157 ls [.int x_11]) := by
          intro x_11 S_12 H locs ls hf hP hS hl
          have hf := z_e2 ej_157 hf
          obtain ⟨h1, h2⟩ := z_s2 hf
          subst h1 h2
          exact hret _ _ _ _ hP hS dX12_whose_157
        refine lv_if_ne (tgt := 147) hx hb dX12_whose_140 (by decide) (fun c_14 => ?_) (fun c_14 => ?_)
        · have hf := z_if c_14 hf
          refine lv_iload hx hb dX12_whose_147 (lv_at hl 2 rfl) ?_
          refine lv_if_eq (tgt := 156) hx hb dX12_whose_149 (by decide) (fun c_13 => ?_) (fun c_13 => ?_)
          · have hf := z_it c_13 hf
            refine lv_iconst (v := 0) hx hb dX12_whose_156 (by decide) ?_
            exact J_157 (0 : Int32) S_10 _ _ _ hf hP hS (lv_sub hl [] rfl)
          · have hf := z_if c_13 hf
            refine lv_iconst (v := 1) hx hb dX12_whose_152 (by decide) ?_
            refine lv_goto (tgt := 157) hx hb dX12_whose_153 (by decide) ?_
            exact J_157 (1 : Int32) S_10 _ _ _ hf hP hS (lv_sub hl [] rfl)
        · have hf := z_it c_14 hf
          refine lv_iload_n hx hb dX12_whose_143 rfl (lv_at hl 1 rfl) ?_
          refine lv_goto (tgt := 157) hx hb dX12_whose_144 (by decide) ?_
          exact J_157 x_8 S_10 _ _ _ hf hP hS (lv_sub hl [] rfl)
      have L_36 : ∀ (n_36 : Nat) (x_15 : Int32) (x_16 : Int32) (x_17 : Int64) (x_18 : Int64) (x_19 : Int32) (S_20 : zSt) (H : Heap) (locs : List Loc) (ls : Array Slot), fm_whose_L36 a_1 r_1 j_139 n_36 x_15 x_16 x_17 x_18 x_19 S_20 = some (ro, So) → va_P D vwCl (zM cy ad S_20) H → va_S A s.heap H locs → lv_has ls 10 [(0, .ref (ad 0)), (1, .int a_1), (2, .int r_1), (3, .int x_15), (4, .int x_16), (5, .long x_17), (7, .long x_18), (9, .int x_19)] → W p l e ({ frames := 2, cells := 0, slots := 0, locals := 50 }) s m ([.ref (ad 0), .int a_1] : List Value).toArray below meth c H locs 0 0 Q (F0 m 36 ls []) := by
        intro n_36
        induction n_36 with
        | zero =>
          intro x_15 x_16 x_17 x_18 x_19 S_20 H locs ls hf hP hS hl
          exact z_no hf
        | succ n_36 ih_36 =>
          intro x_15 x_16 x_17 x_18 x_19 S_20 H locs ls hf hP hS hl
          rw [fm_whose_L36] at hf
          refine lv_iload hx hb dX12_whose_36 (lv_at hl 7 rfl) ?_
          refine lv_aload_n hx hb dX12_whose_38 rfl (lv_at hl 0 rfl) ?_
          refine va_get (D := D) (ci := 12) (v := .ref (ad 1)) (C := RX12) (T := TX12) (N := 36) hx hb hts k0 hown hK hP 0 (zM_0 cy ad S_20) rfl 0 (by decide) k1 (fun _ h9 => h9) rfl dX12_whose_39 ?_
          refine lv_iconst (v := 4) hx hb dX12_whose_42 (by decide) ?_
          refine z_iald hx hb hK hP 1 0 (zM_1 cy ad S_20) rfl (vp_in_iff.mpr (by decide)) (k := 4) (by decide) dX12_whose_43 ?_
          refine lv_icmp_ge (tgt := 139) hx hb dX12_whose_44 (by decide) (fun c_40 => ?_) (fun c_40 => ?_)
          · have hf := z_it c_40 hf
            exact J_139 x_15 x_16 S_20 _ _ _ hf hP hS (lv_sub hl [1, 3, 4] rfl)
          · have hf := z_if c_40 hf
            refine lv_aload_n hx hb dX12_whose_47 rfl (lv_at hl 0 rfl) ?_
            refine lv_iload hx hb dX12_whose_48 (lv_at hl 7 rfl) ?_
            refine lv_iload_n hx hb dX12_whose_50 rfl (lv_at hl 2 rfl) ?_
            obtain ⟨r_21, S_22, h_23, hf⟩ := z_bd hf
            refine z_cVV (As := [.int x_19, .int r_1]) (rest := []) X hK hE hD hA hP hS (cm_laysOdds l D K cy ad S_20 _ _ _ h_23) (cwV 2 hts (z_gV wt_7_20 wt_7_22 wp_87 wt_1_13 wt_7_23) rfl rfl rfl ⟨rfl, yd_yX12_laysOdds⟩ ⟨Nat.le_of_ble_eq_true rfl, Nat.le_of_ble_eq_true rfl⟩) (va_recv hK hP (ci := 12) (q0 := 0) rfl (zM_0 cy ad S_20)) hl.1 rfl rfl (Nat.le_of_ble_eq_true rfl) dX12_whose_51 (fun H locs hP hS => ?_)
            refine lv_aload_n hx hb dX12_whose_54 rfl (lv_at hl 0 rfl) ?_
            refine va_get (D := D) (ci := 12) (v := .long (S_22.2 0 33)) (C := RX12) (T := TX12) (N := 36) hx hb hts k0 hown hK hP 0 (zM_0 cy ad S_22) rfl 33 (by decide) k2 (fun _ h9 => h9) rfl dX12_whose_55 ?_
            refine lv_lconst (v := 0) hx hb dX12_whose_58 (by decide) ?_
            refine W.lcmp hx hb dX12_whose_59 ?_
            obtain ⟨j_133, ej_133, hf⟩ := z_nm hf
            have J_133 : ∀ (x_24 : Int32) (x_25 : Int32) (x_26 : Int64) (x_27 : Int64) (S_28 : zSt) (H : Heap) (locs : List Loc) (ls : Array Slot), j_133 x_24 x_25 x_26 x_27 S_28 = some (ro, So) → va_P D vwCl (zM cy ad S_28) H → va_S A s.heap H locs → lv_has ls 10 [(0, .ref (ad 0)), (1, .int a_1), (2, .int r_1), (3, .int x_24), (4, .int x_25), (5, .long x_26), (7, .long x_27), (9, .int x_19)] → W p l e ({ frames := 2, cells := 0, slots := 0, locals := 50 }) s m ([.ref (ad 0), .int a_1] : List Value).toArray below meth c H locs 0 0 Q (F0 m 133 ls []) := by
              intro x_24 x_25 x_26 x_27 S_28 H locs ls hf hP hS hl
              have hf := z_e5 ej_133 hf
              obtain ⟨x_29, ex_29, hf⟩ := z_nm hf
              refine lv_iinc (v := x_29) (lv' := [(9, .int x_29), (0, .ref (ad 0)), (1, .int a_1), (2, .int r_1), (3, .int x_24), (4, .int x_25), (5, .long x_26), (7, .long x_27)]) hx hb dX12_whose_133 hl (k := 7) rfl (by rw [ex_29]; rfl) (by decide) rfl (fun ls hl => ?_)
              refine lv_goto (tgt := 36) hx hb dX12_whose_136 (by decide) ?_
              exact ih_36 x_24 x_25 x_26 x_27 x_29 S_28 _ _ _ hf hP hS (lv_sub hl [1, 2, 3, 4, 5, 6, 7, 0] rfl)
            refine lv_if_eq (tgt := 133) hx hb dX12_whose_60 (by decide) (fun c_39 => ?_) (fun c_39 => ?_)
            · have hf := z_it c_39 hf
              exact J_133 x_15 x_16 x_17 x_18 S_22 _ _ _ hf hP hS (lv_sub hl [0, 1, 2, 3, 4, 5, 6, 7] rfl)
            · have hf := z_if c_39 hf
              refine lv_aload_n hx hb dX12_whose_63 rfl (lv_at hl 0 rfl) ?_
              refine va_get (D := D) (ci := 12) (v := .long (S_22.2 0 33)) (C := RX12) (T := TX12) (N := 36) hx hb hts k0 hown hK hP 0 (zM_0 cy ad S_22) rfl 33 (by decide) k2 (fun _ h9 => h9) rfl dX12_whose_64 ?_
              refine lv_lload hx hb dX12_whose_67 (lv_at hl 6 rfl) ?_
              refine lv_lmul hx hb dX12_whose_69 ?_
              refine lv_lload hx hb dX12_whose_70 (lv_at hl 5 rfl) ?_
              refine lv_aload_n hx hb dX12_whose_72 rfl (lv_at hl 0 rfl) ?_
              refine va_get (D := D) (ci := 12) (v := .long (S_22.2 0 34)) (C := RX12) (T := TX12) (N := 36) hx hb hts k0 hown hK hP 0 (zM_0 cy ad S_22) rfl 34 (by decide) k3 (fun _ h9 => h9) rfl dX12_whose_73 ?_
              refine lv_lmul hx hb dX12_whose_76 ?_
              refine W.lcmp hx hb dX12_whose_77 ?_
              refine lv_if_ge (tgt := 84) hx hb dX12_whose_78 (by decide) (fun c_38 => ?_) (fun c_38 => ?_)
              · have hf := z_it c_38 hf
                refine lv_aload_n hx hb dX12_whose_84 rfl (lv_at hl 0 rfl) ?_
                refine va_get (D := D) (ci := 12) (v := .long (S_22.2 0 33)) (C := RX12) (T := TX12) (N := 36) hx hb hts k0 hown hK hP 0 (zM_0 cy ad S_22) rfl 33 (by decide) k2 (fun _ h9 => h9) rfl dX12_whose_85 ?_
                refine lv_lload hx hb dX12_whose_88 (lv_at hl 6 rfl) ?_
                refine lv_lmul hx hb dX12_whose_90 ?_
                refine lv_lload hx hb dX12_whose_91 (lv_at hl 5 rfl) ?_
                refine lv_aload_n hx hb dX12_whose_93 rfl (lv_at hl 0 rfl) ?_
                refine va_get (D := D) (ci := 12) (v := .long (S_22.2 0 34)) (C := RX12) (T := TX12) (N := 36) hx hb hts k0 hown hK hP 0 (zM_0 cy ad S_22) rfl 34 (by decide) k3 (fun _ h9 => h9) rfl dX12_whose_94 ?_
                refine lv_lmul hx hb dX12_whose_97 ?_
                refine W.lcmp hx hb dX12_whose_98 ?_
                obtain ⟨j_107, ej_107, hf⟩ := z_nm hf
                have J_107 : ∀ (x_30 : Int32) (S_31 : zSt) (H : Heap) (locs : List Loc) (ls : Array Slot), j_107 x_30 S_31 = some (ro, So) → va_P D vwCl (zM cy ad S_31) H → va_S A s.heap H locs → lv_has ls 10 [(0, .ref (ad 0)), (1, .int a_1), (2, .int r_1), (3, .int x_15), (9, .int x_19)] → W p l e ({ frames := 2, cells := 0, slots := 0, locals := 50 }) s m ([.ref (ad 0), .int a_1] : List Value).toArray below meth c H locs 0 0 Q (F0 m 107 ls [.int x_30]) := by
                  intro x_30 S_31 H locs ls hf hP hS hl
                  have hf := z_e2 ej_107 hf
                  refine lv_istore (lv' := [(4, .int x_30), (0, .ref (ad 0)), (1, .int a_1), (2, .int r_1), (3, .int x_15), (9, .int x_19)]) hx hb dX12_whose_107 hl (by decide) rfl (fun ls hl => ?_)
                  refine lv_iload hx hb dX12_whose_109 (lv_at hl 0 rfl) ?_
                  obtain ⟨j_120, ej_120, hf⟩ := z_nm hf
                  have J_120 : ∀ (x_32 : Int32) (S_33 : zSt) (H : Heap) (locs : List Loc) (ls : Array Slot), j_120 x_32 S_33 = some (ro, So) → va_P D vwCl (zM cy ad S_33) H → va_S A s.heap H locs → lv_has ls 10 [(0, .ref (ad 0)), (1, .int a_1), (2, .int r_1), (4, .int x_30), (9, .int x_19)] → W p l e ({ frames := 2, cells := 0, slots := 0, locals := 50 }) s m ([.ref (ad 0), .int a_1] : List Value).toArray below meth c H locs 0 0 Q (F0 m 120 ls [.int x_32]) := by
                    intro x_32 S_33 H locs ls hf hP hS hl
                    have hf := z_e2 ej_120 hf
                    refine lv_istore_n (lv' := [(3, .int x_32), (0, .ref (ad 0)), (1, .int a_1), (2, .int r_1), (4, .int x_30), (9, .int x_19)]) hx hb dX12_whose_120 rfl hl (by decide) rfl (fun ls hl => ?_)
                    refine lv_aload_n hx hb dX12_whose_121 rfl (lv_at hl 1 rfl) ?_
                    refine va_get (D := D) (ci := 12) (v := .long (S_33.2 0 33)) (C := RX12) (T := TX12) (N := 36) hx hb hts k0 hown hK hP 0 (zM_0 cy ad S_33) rfl 33 (by decide) k2 (fun _ h9 => h9) rfl dX12_whose_122 ?_
                    refine lv_topl (fun x_34 ex_34 => ?_)
                    have hf := z_nv ex_34 hf
                    refine lv_lstore (lv' := [(5, .long x_34), (3, .int x_32), (0, .ref (ad 0)), (1, .int a_1), (2, .int r_1), (4, .int x_30), (9, .int x_19)]) hx hb dX12_whose_125 hl (by decide) rfl (fun ls hl => ?_)
                    refine lv_aload_n hx hb dX12_whose_127 rfl (lv_at hl 2 rfl) ?_
                    refine va_get (D := D) (ci := 12) (v := .long (S_33.2 0 34)) (C := RX12) (T := TX12) (N := 36) hx hb hts k0 hown hK hP 0 (zM_0 cy ad S_33) rfl 34 (by decide) k3 (fun _ h9 => h9) rfl dX12_whose_128 ?_
                    refine lv_topl (fun x_35 ex_35 => ?_)
                    have hf := z_nv ex_35 hf
                    refine lv_lstore (lv' := [(7, .long x_35), (5, .long x_34), (3, .int x_32), (0, .ref (ad 0)), (1, .int a_1), (2, .int r_1), (4, .int x_30), (9, .int x_19)]) hx hb dX12_whose_131 hl (by decide) rfl (fun ls hl => ?_)
                    exact J_133 x_32 x_30 x_34 x_35 S_33 _ _ _ hf hP hS (lv_sub hl [3, 4, 5, 2, 6, 1, 0, 7] rfl)
                  refine lv_if_eq (tgt := 119) hx hb dX12_whose_111 (by decide) (fun c_36 => ?_) (fun c_36 => ?_)
                  · have hf := z_it c_36 hf
                    refine lv_iload_n hx hb dX12_whose_119 rfl (lv_at hl 4 rfl) ?_
                    exact J_120 x_15 S_31 _ _ _ hf hP hS (lv_sub hl [1, 2, 3, 0, 5] rfl)
                  · have hf := z_if c_36 hf
                    refine lv_iload hx hb dX12_whose_114 (lv_at hl 5 rfl) ?_
                    refine lv_goto (tgt := 120) hx hb dX12_whose_116 (by decide) ?_
                    exact J_120 x_19 S_31 _ _ _ hf hP hS (lv_sub hl [1, 2, 3, 0, 5] rfl)
                refine lv_if_le (tgt := 106) hx hb dX12_whose_99 (by decide) (fun c_37 => ?_) (fun c_37 => ?_)
                · have hf := z_it c_37 hf
                  refine lv_iconst (v := 0) hx hb dX12_whose_106 (by decide) ?_
                  exact J_107 (0 : Int32) S_22 _ _ _ hf hP hS (lv_sub hl [0, 1, 2, 3, 7] rfl)
                · have hf := z_if c_37 hf
                  refine lv_iconst (v := 1) hx hb dX12_whose_102 (by decide) ?_
                  refine lv_goto (tgt := 107) hx hb dX12_whose_103 (by decide) ?_
                  exact J_107 (1 : Int32) S_22 _ _ _ hf hP hS (lv_sub hl [0, 1, 2, 3, 7] rfl)
              · have hf := z_if c_38 hf
                refine lv_goto (tgt := 133) hx hb dX12_whose_81 (by decide) ?_
                exact J_133 x_15 x_16 x_17 x_18 S_22 _ _ _ hf hP hS (lv_sub hl [0, 1, 2, 3, 4, 5, 6, 7] rfl)
      exact L_36 zFU (-1 : Int32) (0 : Int32) (0 : Int64) (1 : Int64) (0 : Int32) S_6 _ _ _ hf hP hS (lv_sub hl [6, 7, 5, 4, 3, 2, 1, 0] rfl)
    · have hf := z_it c_41 hf
      exact J_19  S_6 _ _ _ hf hP hS (lv_sub hl [] rfl)
def fm_owe (S_0 : zSt) (a_1 : Int32) (a_2 : Int32) (a_3 : Int32) : Option (Int32 × zSt) :=
  zbd (fm_isHouse S_0 a_1) fun r_1 S_2 =>
  znm (fun (S_4 : zSt) =>
  some ((0 : Int32), S_4)) fun j_33 =>
  if r_1 = 0 then (
  j_33  S_2) else (
  zbd (fm_isHouse S_2 a_2) fun r_5 S_6 =>
  if r_5 = 0 then (
  j_33  S_6) else (
  if a_1 = a_2 then (
  j_33  S_6) else (
  zbd (fm_isIn S_6 a_3 (-99999 : Int32) (99999 : Int32)) fun r_8 S_9 =>
  if r_8 = 0 then (
  j_33  S_9) else (
  zck (zix (((180 : Int32) + ((9 : Int32) * a_1)) + a_2) 1480) <|
  zck (zix (((180 : Int32) + ((9 : Int32) * a_1)) + a_2) 1480) <|
  znm (zpI S_9 1 ((((180 : Int32) + ((9 : Int32) * a_1)) + a_2).toNatClampNeg) ((S_9.1 1 ((((180 : Int32) + ((9 : Int32) * a_1)) + a_2).toNatClampNeg)) + a_3)) fun S_13 =>
  some ((1 : Int32), S_13)))))
set_option maxHeartbeats 4000000 in
set_option maxRecDepth 100000 in
theorem cm_owe (l : Launch) (D : va_G) (K : (Nat → Nat) × (Nat → Nat)) (cy : Nat → ClassId) (ad : Nat → Nat) (S_0 : zSt) (a_1 : Int32) (a_2 : Int32) (a_3 : Int32) (ro : Int32) (So : zSt) (hf : fm_owe S_0 a_1 a_2 a_3 = some (ro, So)) : zMI l yX12_owe (zws yX12_owe cX12_owe 4 (Option.some .boolean)) ({ frames := 2, cells := 0, slots := 0, locals := 43 }) D (zTy cy) K (zM cy ad) [.ref (ad 0), .int a_1, .int a_2, .int a_3] S_0 ro So := by
  refine z_metZ (own := RX12) (lv := [(0, .ref (ad 0)), (1, .int a_1), (2, .int a_2), (3, .int a_3)]) (by decide) rfl rfl (Nat.le_of_ble_eq_true rfl) rfl ?_
  intro p e s m below meth c A Q X hK hE hD hA hret hP hS ls hl
  obtain ⟨hx, hb, hml, hown, hts⟩ := id X
  have k0 := hts _ (List.mem_cons_of_mem _ wt_7_32)
  have k1 := hts _ (List.mem_cons_of_mem _ wt_6_94)
  have k2 := (fun w h => List.mem_cons_of_mem _ (zFX12 w h) : ∀ w ∈ u_ws RX12 TX12 36, w ∈ zws yX12_owe cX12_owe 4 (Option.some .boolean))
  have k3 := hts _ (List.mem_cons_of_mem _ wt_5_95)
  refine lv_aload_n hx hb dX12_owe_0 rfl (lv_at hl 0 rfl) ?_
  refine lv_iload_n hx hb dX12_owe_1 rfl (lv_at hl 1 rfl) ?_
  obtain ⟨r_1, S_2, h_3, hf⟩ := z_bd hf
  refine z_cVI (As := [.int a_1]) (rest := []) X hK hE hD hA hP hS (cm_isHouse l D K cy ad S_0 _ _ _ h_3) (cwV 1 hts (z_gV wt_6_90 wt_6_92 wp_63 wt_1_13 wt_6_93) rfl rfl rfl ⟨rfl, yd_yX12_isHouse⟩ ⟨Nat.le_of_ble_eq_true rfl, Nat.le_of_ble_eq_true rfl⟩) (va_recv hK hP (ci := 12) (q0 := 0) rfl (zM_0 cy ad S_0)) hl.1 rfl rfl (Nat.le_of_ble_eq_true rfl) dX12_owe_2 (fun H locs hP hS => ?_)
  obtain ⟨j_33, ej_33, hf⟩ := z_nm hf
  have J_33 : ∀ (S_4 : zSt) (H : Heap) (locs : List Loc) (ls : Array Slot), j_33  S_4 = some (ro, So) → va_P D vwCl (zM cy ad S_4) H → va_S A s.heap H locs → lv_has ls 4 [] → W p l e ({ frames := 2, cells := 0, slots := 0, locals := 43 }) s m ([.ref (ad 0), .int a_1, .int a_2, .int a_3] : List Value).toArray below meth c H locs 0 0 Q (F0 m 33 ls []) := by
    intro  S_4 H locs ls hf hP hS hl
    have hf := z_e1 ej_33 hf
    refine lv_iconst (v := 0) hx hb dX12_owe_33 (by decide) ?_
    obtain ⟨h1, h2⟩ := z_s2 hf
    subst h1 h2
    exact hret _ _ _ _ rfl hP hS dX12_owe_34
  refine lv_if_eq (tgt := 33) hx hb dX12_owe_5 (by decide) (fun c_17 => ?_) (fun c_17 => ?_)
  · have hf := z_it c_17 hf
    exact J_33  S_2 _ _ _ hf hP hS (lv_sub hl [] rfl)
  · have hf := z_if c_17 hf
    refine lv_aload_n hx hb dX12_owe_8 rfl (lv_at hl 0 rfl) ?_
    refine lv_iload_n hx hb dX12_owe_9 rfl (lv_at hl 2 rfl) ?_
    obtain ⟨r_5, S_6, h_7, hf⟩ := z_bd hf
    refine z_cVI (As := [.int a_2]) (rest := []) X hK hE hD hA hP hS (cm_isHouse l D K cy ad S_2 _ _ _ h_7) (cwV 1 hts (z_gV wt_6_90 wt_6_92 wp_63 wt_1_13 wt_6_93) rfl rfl rfl ⟨rfl, yd_yX12_isHouse⟩ ⟨Nat.le_of_ble_eq_true rfl, Nat.le_of_ble_eq_true rfl⟩) (va_recv hK hP (ci := 12) (q0 := 0) rfl (zM_0 cy ad S_2)) hl.1 rfl rfl (Nat.le_of_ble_eq_true rfl) dX12_owe_10 (fun H locs hP hS => ?_)
    refine lv_if_eq (tgt := 33) hx hb dX12_owe_13 (by decide) (fun c_16 => ?_) (fun c_16 => ?_)
    · have hf := z_it c_16 hf
      exact J_33  S_6 _ _ _ hf hP hS (lv_sub hl [] rfl)
    · have hf := z_if c_16 hf
      refine lv_iload_n hx hb dX12_owe_16 rfl (lv_at hl 1 rfl) ?_
      refine lv_iload_n hx hb dX12_owe_17 rfl (lv_at hl 2 rfl) ?_
      refine lv_icmp_eq (tgt := 33) hx hb dX12_owe_18 (by decide) (fun c_15 => ?_) (fun c_15 => ?_)
      · have hf := z_it c_15 hf
        exact J_33  S_6 _ _ _ hf hP hS (lv_sub hl [] rfl)
      · have hf := z_if c_15 hf
        refine lv_iload_n hx hb dX12_owe_21 rfl (lv_at hl 3 rfl) ?_
        refine lv_ldcw hx hb hown k0 dX12_owe_22 ?_
        refine lv_ldc hx hb hown k1 dX12_owe_25 ?_
        obtain ⟨r_8, S_9, h_10, hf⟩ := z_bd hf
        refine z_cSI (As := [.int a_3, .int (-99999 : Int32), .int (99999 : Int32)]) (rest := []) X hK hE hD hA hP hS (cm_isIn l D K cy ad S_6 _ _ _ _ _ h_10) (va_cwS 3 hts (z_gS wt_5_216 wt_5_217 wt_1_13 wt_5_218) rfl rfl rfl yd_yX12_isIn ⟨Nat.le_of_ble_eq_true rfl, Nat.le_of_ble_eq_true rfl⟩) hl.1 rfl rfl (Nat.le_of_ble_eq_true rfl) dX12_owe_27 (fun H locs hP hS => ?_)
        refine lv_if_ne (tgt := 35) hx hb dX12_owe_30 (by decide) (fun c_14 => ?_) (fun c_14 => ?_)
        · have hf := z_if c_14 hf
          refine lv_aload_n hx hb dX12_owe_35 rfl (lv_at hl 0 rfl) ?_
          refine va_get (D := D) (ci := 12) (v := .ref (ad 1)) (C := RX12) (T := TX12) (N := 36) hx hb hts k2 hown hK hP 0 (zM_0 cy ad S_9) rfl 0 (by decide) k3 (fun _ h9 => h9) rfl dX12_owe_36 ?_
          refine lv_sipush (v := 180) hx hb dX12_owe_39 (by decide) ?_
          refine lv_bipush (v := 9) hx hb dX12_owe_42 (by decide) ?_
          refine lv_iload_n hx hb dX12_owe_44 rfl (lv_at hl 1 rfl) ?_
          refine lv_imul hx hb dX12_owe_45 ?_
          refine lv_iadd hx hb dX12_owe_46 ?_
          refine lv_iload_n hx hb dX12_owe_47 rfl (lv_at hl 2 rfl) ?_
          refine lv_iadd hx hb dX12_owe_48 ?_
          refine lv_dup2_11 hx hb dX12_owe_49 rfl rfl ?_
          obtain ⟨h_11, hf⟩ := z_ix hf
          refine z_iald hx hb hK hP 1 0 (zM_1 cy ad S_9) rfl h_11 (k := ((((180 : Int32) + ((9 : Int32) * a_1)) + a_2).toNatClampNeg)) rfl dX12_owe_50 ?_
          refine lv_iload_n hx hb dX12_owe_51 rfl (lv_at hl 3 rfl) ?_
          refine lv_iadd hx hb dX12_owe_52 ?_
          obtain ⟨h_12, hf⟩ := z_ix hf
          refine z_iast hx hb hK hP (hD S_9) hS 1 0 (zM_1 cy ad S_9) rfl h_12 (k := ((((180 : Int32) + ((9 : Int32) * a_1)) + a_2).toNatClampNeg)) rfl dX12_owe_53 (fun H locs hP hS => ?_)
          obtain ⟨S_13, eS_13, hf⟩ := z_nm hf
          have hP := zW_putI hP eS_13 (by decide) rfl
          refine lv_iconst (v := 1) hx hb dX12_owe_54 (by decide) ?_
          obtain ⟨h1, h2⟩ := z_s2 hf
          subst h1 h2
          exact hret _ _ _ _ rfl hP hS dX12_owe_55
        · have hf := z_it c_14 hf
          exact J_33  S_9 _ _ _ hf hP hS (lv_sub hl [] rfl)
def fm_payments_L31 (x_1 : Int32) (x_5 : Int32) (j_95 : Int32 → Int32 → zSt → Option (Int32 × zSt)) : Nat → Int32 → Int32 → Int32 → zSt → Option (Int32 × zSt)
  | 0, _, _, _, _ => none
  | n_31 + 1, x_16, x_17, x_18, S_19 =>
    if x_1 ≤ x_18 then (
    j_95 x_16 x_17 S_19) else (
    znm (fun (x_20 : Int32) (x_21 : Int32) (S_22 : zSt) =>
    znm (x_18 + (1 : Int32)) fun x_23 =>
    fm_payments_L31 x_1 x_5 j_95 n_31 x_20 x_21 x_23 S_22) fun j_89 =>
    if ((x_5 >>> (x_18 &&& 31)) &&& (1 : Int32)) = 0 then (
    j_89 x_16 x_17 S_19) else (
    zbd (fm_net S_19 x_18) fun r_24 S_25 =>
    znm (x_16 + r_24) fun x_27 =>
    zck (zix (x_5 &&& (((1 : Int32) <<< (x_18 &&& 31)) ^^^ (-1 : Int32))) 512) <|
    znm (S_25.1 17 ((x_5 &&& (((1 : Int32) <<< (x_18 &&& 31)) ^^^ (-1 : Int32))).toNatClampNeg)) fun x_29 =>
    znm (fun (x_30 : Int32) (S_31 : zSt) =>
    j_89 x_27 x_30 S_31) fun j_87 =>
    if x_29 ≤ x_17 then (
    j_87 x_17 S_25) else (
    j_87 x_29 S_25)))
def fm_payments_L16 (x_1 : Int32) (j_119 : zSt → Option (Int32 × zSt)) : Nat → Int32 → zSt → Option (Int32 × zSt)
  | 0, _, _ => none
  | n_16 + 1, x_5, S_6 =>
    if ((1 : Int32) <<< (x_1 &&& 31)) ≤ x_5 then (
    j_119  S_6) else (
    znm (fun (x_7 : Int32) (x_8 : Int32) (S_9 : zSt) =>
    znm (fun (x_10 : Int32) (S_11 : zSt) =>
    zck (zix x_5 512) <|
    znm (zpI S_11 17 (x_5.toNatClampNeg) (x_8 + x_10)) fun S_13 =>
    znm (x_5 + (1 : Int32)) fun x_14 =>
    fm_payments_L16 x_1 j_119 n_16 x_14 S_13) fun j_111 =>
    if x_7 = 0 then (
    j_111 (1 : Int32) S_9) else (
    j_111 (0 : Int32) S_9)) fun j_95 =>
    fm_payments_L31 x_1 x_5 j_95 zFU (0 : Int32) (0 : Int32) (0 : Int32) S_6)
def fm_payments (S_0 : zSt) : Option (Int32 × zSt) :=
  znm (S_0.1 1 4) fun x_1 =>
  znm (zpI S_0 17 0 (0 : Int32)) fun S_2 =>
  znm (fun (S_3 : zSt) =>
  zck (zix (((1 : Int32) <<< (x_1 &&& 31)) - (1 : Int32)) 512) <|
  some (x_1 - (S_3.1 17 ((((1 : Int32) <<< (x_1 &&& 31)) - (1 : Int32)).toNatClampNeg)), S_3)) fun j_119 =>
  fm_payments_L16 x_1 j_119 zFU (1 : Int32) S_2
set_option maxHeartbeats 4000000 in
set_option maxRecDepth 100000 in
theorem cm_payments (l : Launch) (D : va_G) (K : (Nat → Nat) × (Nat → Nat)) (cy : Nat → ClassId) (ad : Nat → Nat) (S_0 : zSt) (ro : Int32) (So : zSt) (hf : fm_payments S_0 = some (ro, So)) : zMI l yX12_payments (zws yX12_payments cX12_payments 7 (Option.some .int)) ({ frames := 2, cells := 0, slots := 0, locals := 45 }) D (zTy cy) K (zM cy ad) [.ref (ad 0)] S_0 ro So := by
  refine z_metI (own := RX12) (lv := [(0, .ref (ad 0))]) (by decide) rfl rfl (Nat.le_of_ble_eq_true rfl) rfl ?_
  intro p e s m below meth c A Q X hK hE hD hA hret hP hS ls hl
  obtain ⟨hx, hb, hml, hown, hts⟩ := id X
  have k0 := (fun w h => List.mem_cons_of_mem _ (zFX12 w h) : ∀ w ∈ u_ws RX12 TX12 36, w ∈ zws yX12_payments cX12_payments 7 (Option.some .int))
  have k1 := hts _ (List.mem_cons_of_mem _ wt_5_95)
  have k2 := hts _ (List.mem_cons_of_mem _ wt_5_130)
  refine lv_aload_n hx hb dX12_payments_0 rfl (lv_at hl 0 rfl) ?_
  refine va_get (D := D) (ci := 12) (v := .ref (ad 1)) (C := RX12) (T := TX12) (N := 36) hx hb hts k0 hown hK hP 0 (zM_0 cy ad S_0) rfl 0 (by decide) k1 (fun _ h9 => h9) rfl dX12_payments_1 ?_
  refine lv_iconst (v := 4) hx hb dX12_payments_4 (by decide) ?_
  refine z_iald hx hb hK hP 1 0 (zM_1 cy ad S_0) rfl (vp_in_iff.mpr (by decide)) (k := 4) (by decide) dX12_payments_5 ?_
  refine lv_topi (fun x_1 ex_1 => ?_)
  have hf := z_nv ex_1 hf
  refine lv_istore_n (lv' := [(1, .int x_1), (0, .ref (ad 0))]) hx hb dX12_payments_6 rfl hl (by decide) rfl (fun ls hl => ?_)
  refine lv_aload_n hx hb dX12_payments_7 rfl (lv_at hl 1 rfl) ?_
  refine va_get (D := D) (ci := 12) (v := .ref (ad 17)) (C := RX12) (T := TX12) (N := 36) hx hb hts k0 hown hK hP 0 (zM_0 cy ad S_0) rfl 35 (by decide) k2 (fun _ h9 => h9) rfl dX12_payments_8 ?_
  refine lv_iconst (v := 0) hx hb dX12_payments_11 (by decide) ?_
  refine lv_iconst (v := 0) hx hb dX12_payments_12 (by decide) ?_
  refine z_iast hx hb hK hP (hD S_0) hS 17 0 (zM_17 cy ad S_0) rfl (vp_in_iff.mpr (by decide)) (k := 0) (by decide) dX12_payments_13 (fun H locs hP hS => ?_)
  obtain ⟨S_2, eS_2, hf⟩ := z_nm hf
  have hP := zW_putI hP eS_2 (by decide) rfl
  refine lv_iconst (v := 1) hx hb dX12_payments_14 (by decide) ?_
  refine lv_istore_n (lv' := [(2, .int (1 : Int32)), (1, .int x_1), (0, .ref (ad 0))]) hx hb dX12_payments_15 rfl hl (by decide) rfl (fun ls hl => ?_)
  obtain ⟨j_119, ej_119, hf⟩ := z_nm hf
  have J_119 : ∀ (S_3 : zSt) (H : Heap) (locs : List Loc) (ls : Array Slot), j_119  S_3 = some (ro, So) → va_P D vwCl (zM cy ad S_3) H → va_S A s.heap H locs → lv_has ls 7 [(0, .ref (ad 0)), (1, .int x_1)] → W p l e ({ frames := 2, cells := 0, slots := 0, locals := 45 }) s m ([.ref (ad 0)] : List Value).toArray below meth c H locs 0 0 Q (F0 m 119 ls []) := by
    intro  S_3 H locs ls hf hP hS hl
    have hf := z_e1 ej_119 hf
    refine lv_iload_n hx hb dX12_payments_119 rfl (lv_at hl 1 rfl) ?_
    refine lv_aload_n hx hb dX12_payments_120 rfl (lv_at hl 0 rfl) ?_
    refine va_get (D := D) (ci := 12) (v := .ref (ad 17)) (C := RX12) (T := TX12) (N := 36) hx hb hts k0 hown hK hP 0 (zM_0 cy ad S_3) rfl 35 (by decide) k2 (fun _ h9 => h9) rfl dX12_payments_121 ?_
    refine lv_iconst (v := 1) hx hb dX12_payments_124 (by decide) ?_
    refine lv_iload_n hx hb dX12_payments_125 rfl (lv_at hl 1 rfl) ?_
    refine lv_ishl hx hb dX12_payments_126 ?_
    refine lv_iconst (v := 1) hx hb dX12_payments_127 (by decide) ?_
    refine lv_isub hx hb dX12_payments_128 ?_
    obtain ⟨h_4, hf⟩ := z_ix hf
    refine z_iald hx hb hK hP 17 0 (zM_17 cy ad S_3) rfl h_4 (k := ((((1 : Int32) <<< (x_1 &&& 31)) - (1 : Int32)).toNatClampNeg)) rfl dX12_payments_129 ?_
    refine lv_isub hx hb dX12_payments_130 ?_
    obtain ⟨h1, h2⟩ := z_s2 hf
    subst h1 h2
    exact hret _ _ _ _ hP hS dX12_payments_131
  have L_16 : ∀ (n_16 : Nat) (x_5 : Int32) (S_6 : zSt) (H : Heap) (locs : List Loc) (ls : Array Slot), fm_payments_L16 x_1 j_119 n_16 x_5 S_6 = some (ro, So) → va_P D vwCl (zM cy ad S_6) H → va_S A s.heap H locs → lv_has ls 7 [(0, .ref (ad 0)), (1, .int x_1), (2, .int x_5)] → W p l e ({ frames := 2, cells := 0, slots := 0, locals := 45 }) s m ([.ref (ad 0)] : List Value).toArray below meth c H locs 0 0 Q (F0 m 16 ls []) := by
    intro n_16
    induction n_16 with
    | zero =>
      intro x_5 S_6 H locs ls hf hP hS hl
      exact z_no hf
    | succ n_16 ih_16 =>
      intro x_5 S_6 H locs ls hf hP hS hl
      rw [fm_payments_L16] at hf
      refine lv_iload_n hx hb dX12_payments_16 rfl (lv_at hl 2 rfl) ?_
      refine lv_iconst (v := 1) hx hb dX12_payments_17 (by decide) ?_
      refine lv_iload_n hx hb dX12_payments_18 rfl (lv_at hl 1 rfl) ?_
      refine lv_ishl hx hb dX12_payments_19 ?_
      refine lv_icmp_ge (tgt := 119) hx hb dX12_payments_20 (by decide) (fun c_35 => ?_) (fun c_35 => ?_)
      · have hf := z_it c_35 hf
        exact J_119  S_6 _ _ _ hf hP hS (lv_sub hl [0, 1] rfl)
      · have hf := z_if c_35 hf
        refine lv_iconst (v := 0) hx hb dX12_payments_23 (by decide) ?_
        refine lv_istore_n (lv' := [(3, .int (0 : Int32)), (0, .ref (ad 0)), (1, .int x_1), (2, .int x_5)]) hx hb dX12_payments_24 rfl hl (by decide) rfl (fun ls hl => ?_)
        refine lv_iconst (v := 0) hx hb dX12_payments_25 (by decide) ?_
        refine lv_istore (lv' := [(4, .int (0 : Int32)), (3, .int (0 : Int32)), (0, .ref (ad 0)), (1, .int x_1), (2, .int x_5)]) hx hb dX12_payments_26 hl (by decide) rfl (fun ls hl => ?_)
        refine lv_iconst (v := 0) hx hb dX12_payments_28 (by decide) ?_
        refine lv_istore (lv' := [(5, .int (0 : Int32)), (4, .int (0 : Int32)), (3, .int (0 : Int32)), (0, .ref (ad 0)), (1, .int x_1), (2, .int x_5)]) hx hb dX12_payments_29 hl (by decide) rfl (fun ls hl => ?_)
        obtain ⟨j_95, ej_95, hf⟩ := z_nm hf
        have J_95 : ∀ (x_7 : Int32) (x_8 : Int32) (S_9 : zSt) (H : Heap) (locs : List Loc) (ls : Array Slot), j_95 x_7 x_8 S_9 = some (ro, So) → va_P D vwCl (zM cy ad S_9) H → va_S A s.heap H locs → lv_has ls 7 [(0, .ref (ad 0)), (1, .int x_1), (2, .int x_5), (3, .int x_7), (4, .int x_8)] → W p l e ({ frames := 2, cells := 0, slots := 0, locals := 45 }) s m ([.ref (ad 0)] : List Value).toArray below meth c H locs 0 0 Q (F0 m 95 ls []) := by
          intro x_7 x_8 S_9 H locs ls hf hP hS hl
          have hf := z_e3 ej_95 hf
          refine lv_aload_n hx hb dX12_payments_95 rfl (lv_at hl 0 rfl) ?_
          refine va_get (D := D) (ci := 12) (v := .ref (ad 17)) (C := RX12) (T := TX12) (N := 36) hx hb hts k0 hown hK hP 0 (zM_0 cy ad S_9) rfl 35 (by decide) k2 (fun _ h9 => h9) rfl dX12_payments_96 ?_
          refine lv_iload_n hx hb dX12_payments_99 rfl (lv_at hl 2 rfl) ?_
          refine lv_iload hx hb dX12_payments_100 (lv_at hl 4 rfl) ?_
          refine lv_iload_n hx hb dX12_payments_102 rfl (lv_at hl 3 rfl) ?_
          obtain ⟨j_111, ej_111, hf⟩ := z_nm hf
          have J_111 : ∀ (x_10 : Int32) (S_11 : zSt) (H : Heap) (locs : List Loc) (ls : Array Slot), j_111 x_10 S_11 = some (ro, So) → va_P D vwCl (zM cy ad S_11) H → va_S A s.heap H locs → lv_has ls 7 [(0, .ref (ad 0)), (1, .int x_1), (2, .int x_5)] → W p l e ({ frames := 2, cells := 0, slots := 0, locals := 45 }) s m ([.ref (ad 0)] : List Value).toArray below meth c H locs 0 0 Q (F0 m 111 ls [.int x_10, .int x_8, .int x_5, .ref (ad 17)]) := by
            intro x_10 S_11 H locs ls hf hP hS hl
            have hf := z_e2 ej_111 hf
            refine lv_iadd hx hb dX12_payments_111 ?_
            obtain ⟨h_12, hf⟩ := z_ix hf
            refine z_iast hx hb hK hP (hD S_11) hS 17 0 (zM_17 cy ad S_11) rfl h_12 (k := (x_5.toNatClampNeg)) rfl dX12_payments_112 (fun H locs hP hS => ?_)
            obtain ⟨S_13, eS_13, hf⟩ := z_nm hf
            have hP := zW_putI hP eS_13 (by decide) rfl
            obtain ⟨x_14, ex_14, hf⟩ := z_nm hf
            refine lv_iinc (v := x_14) (lv' := [(2, .int x_14), (0, .ref (ad 0)), (1, .int x_1)]) hx hb dX12_payments_113 hl (k := 2) rfl (by rw [ex_14]; rfl) (by decide) rfl (fun ls hl => ?_)
            refine lv_goto (tgt := 16) hx hb dX12_payments_116 (by decide) ?_
            exact ih_16 x_14 S_13 _ _ _ hf hP hS (lv_sub hl [1, 2, 0] rfl)
          refine lv_if_ne (tgt := 110) hx hb dX12_payments_103 (by decide) (fun c_15 => ?_) (fun c_15 => ?_)
          · have hf := z_if c_15 hf
            refine lv_iconst (v := 0) hx hb dX12_payments_110 (by decide) ?_
            exact J_111 (0 : Int32) S_9 _ _ _ hf hP hS (lv_sub hl [0, 1, 2] rfl)
          · have hf := z_it c_15 hf
            refine lv_iconst (v := 1) hx hb dX12_payments_106 (by decide) ?_
            refine lv_goto (tgt := 111) hx hb dX12_payments_107 (by decide) ?_
            exact J_111 (1 : Int32) S_9 _ _ _ hf hP hS (lv_sub hl [0, 1, 2] rfl)
        have L_31 : ∀ (n_31 : Nat) (x_16 : Int32) (x_17 : Int32) (x_18 : Int32) (S_19 : zSt) (H : Heap) (locs : List Loc) (ls : Array Slot), fm_payments_L31 x_1 x_5 j_95 n_31 x_16 x_17 x_18 S_19 = some (ro, So) → va_P D vwCl (zM cy ad S_19) H → va_S A s.heap H locs → lv_has ls 7 [(0, .ref (ad 0)), (1, .int x_1), (2, .int x_5), (3, .int x_16), (4, .int x_17), (5, .int x_18)] → W p l e ({ frames := 2, cells := 0, slots := 0, locals := 45 }) s m ([.ref (ad 0)] : List Value).toArray below meth c H locs 0 0 Q (F0 m 31 ls []) := by
          intro n_31
          induction n_31 with
          | zero =>
            intro x_16 x_17 x_18 S_19 H locs ls hf hP hS hl
            exact z_no hf
          | succ n_31 ih_31 =>
            intro x_16 x_17 x_18 S_19 H locs ls hf hP hS hl
            rw [fm_payments_L31] at hf
            refine lv_iload hx hb dX12_payments_31 (lv_at hl 5 rfl) ?_
            refine lv_iload_n hx hb dX12_payments_33 rfl (lv_at hl 1 rfl) ?_
            refine lv_icmp_ge (tgt := 95) hx hb dX12_payments_34 (by decide) (fun c_34 => ?_) (fun c_34 => ?_)
            · have hf := z_it c_34 hf
              exact J_95 x_16 x_17 S_19 _ _ _ hf hP hS (lv_sub hl [0, 1, 2, 3, 4] rfl)
            · have hf := z_if c_34 hf
              refine lv_iload_n hx hb dX12_payments_37 rfl (lv_at hl 2 rfl) ?_
              refine lv_iload hx hb dX12_payments_38 (lv_at hl 5 rfl) ?_
              refine lv_ishr hx hb dX12_payments_40 ?_
              refine lv_iconst (v := 1) hx hb dX12_payments_41 (by decide) ?_
              refine lv_iand hx hb dX12_payments_42 ?_
              obtain ⟨j_89, ej_89, hf⟩ := z_nm hf
              have J_89 : ∀ (x_20 : Int32) (x_21 : Int32) (S_22 : zSt) (H : Heap) (locs : List Loc) (ls : Array Slot), j_89 x_20 x_21 S_22 = some (ro, So) → va_P D vwCl (zM cy ad S_22) H → va_S A s.heap H locs → lv_has ls 7 [(0, .ref (ad 0)), (1, .int x_1), (2, .int x_5), (3, .int x_20), (4, .int x_21), (5, .int x_18)] → W p l e ({ frames := 2, cells := 0, slots := 0, locals := 45 }) s m ([.ref (ad 0)] : List Value).toArray below meth c H locs 0 0 Q (F0 m 89 ls []) := by
                intro x_20 x_21 S_22 H locs ls hf hP hS hl
                have hf := z_e3 ej_89 hf
                obtain ⟨x_23, ex_23, hf⟩ := z_nm hf
                refine lv_iinc (v := x_23) (lv' := [(5, .int x_23), (0, .ref (ad 0)), (1, .int x_1), (2, .int x_5), (3, .int x_20), (4, .int x_21)]) hx hb dX12_payments_89 hl (k := 5) rfl (by rw [ex_23]; rfl) (by decide) rfl (fun ls hl => ?_)
                refine lv_goto (tgt := 31) hx hb dX12_payments_92 (by decide) ?_
                exact ih_31 x_20 x_21 x_23 S_22 _ _ _ hf hP hS (lv_sub hl [1, 2, 3, 4, 5, 0] rfl)
              refine lv_if_ne (tgt := 49) hx hb dX12_payments_43 (by decide) (fun c_33 => ?_) (fun c_33 => ?_)
              · have hf := z_if c_33 hf
                refine lv_iload_n hx hb dX12_payments_49 rfl (lv_at hl 3 rfl) ?_
                refine lv_aload_n hx hb dX12_payments_50 rfl (lv_at hl 0 rfl) ?_
                refine lv_iload hx hb dX12_payments_51 (lv_at hl 5 rfl) ?_
                obtain ⟨r_24, S_25, h_26, hf⟩ := z_bd hf
                refine z_cVI (As := [.int x_18]) (rest := [.int x_16]) X hK hE hD hA hP hS (cm_net l D K cy ad S_19 _ _ _ h_26) (cwV 1 hts (z_gV wt_6_120 wt_6_122 wp_68 wt_1_13 wt_6_123) rfl rfl rfl ⟨rfl, yd_yX12_net⟩ ⟨Nat.le_of_ble_eq_true rfl, Nat.le_of_ble_eq_true rfl⟩) (va_recv hK hP (ci := 12) (q0 := 0) rfl (zM_0 cy ad S_19)) hl.1 rfl rfl (Nat.le_of_ble_eq_true rfl) dX12_payments_53 (fun H locs hP hS => ?_)
                refine lv_iadd hx hb dX12_payments_56 ?_
                refine lv_topi (fun x_27 ex_27 => ?_)
                have hf := z_nv ex_27 hf
                refine lv_istore_n (lv' := [(3, .int x_27), (0, .ref (ad 0)), (1, .int x_1), (2, .int x_5), (4, .int x_17), (5, .int x_18)]) hx hb dX12_payments_57 rfl hl (by decide) rfl (fun ls hl => ?_)
                refine lv_aload_n hx hb dX12_payments_58 rfl (lv_at hl 1 rfl) ?_
                refine va_get (D := D) (ci := 12) (v := .ref (ad 17)) (C := RX12) (T := TX12) (N := 36) hx hb hts k0 hown hK hP 0 (zM_0 cy ad S_25) rfl 35 (by decide) k2 (fun _ h9 => h9) rfl dX12_payments_59 ?_
                refine lv_iload_n hx hb dX12_payments_62 rfl (lv_at hl 3 rfl) ?_
                refine lv_iconst (v := 1) hx hb dX12_payments_63 (by decide) ?_
                refine lv_iload hx hb dX12_payments_64 (lv_at hl 5 rfl) ?_
                refine lv_ishl hx hb dX12_payments_66 ?_
                refine lv_iconst (v := -1) hx hb dX12_payments_67 (by decide) ?_
                refine lv_ixor hx hb dX12_payments_68 ?_
                refine lv_iand hx hb dX12_payments_69 ?_
                obtain ⟨h_28, hf⟩ := z_ix hf
                refine z_iald hx hb hK hP 17 0 (zM_17 cy ad S_25) rfl h_28 (k := ((x_5 &&& (((1 : Int32) <<< (x_18 &&& 31)) ^^^ (-1 : Int32))).toNatClampNeg)) rfl dX12_payments_70 ?_
                refine lv_topi (fun x_29 ex_29 => ?_)
                have hf := z_nv ex_29 hf
                refine lv_istore (lv' := [(6, .int x_29), (3, .int x_27), (0, .ref (ad 0)), (1, .int x_1), (2, .int x_5), (4, .int x_17), (5, .int x_18)]) hx hb dX12_payments_71 hl (by decide) rfl (fun ls hl => ?_)
                refine lv_iload hx hb dX12_payments_73 (lv_at hl 0 rfl) ?_
                refine lv_iload hx hb dX12_payments_75 (lv_at hl 5 rfl) ?_
                obtain ⟨j_87, ej_87, hf⟩ := z_nm hf
                have J_87 : ∀ (x_30 : Int32) (S_31 : zSt) (H : Heap) (locs : List Loc) (ls : Array Slot), j_87 x_30 S_31 = some (ro, So) → va_P D vwCl (zM cy ad S_31) H → va_S A s.heap H locs → lv_has ls 7 [(0, .ref (ad 0)), (1, .int x_1), (2, .int x_5), (3, .int x_27), (5, .int x_18)] → W p l e ({ frames := 2, cells := 0, slots := 0, locals := 45 }) s m ([.ref (ad 0)] : List Value).toArray below meth c H locs 0 0 Q (F0 m 87 ls [.int x_30]) := by
                  intro x_30 S_31 H locs ls hf hP hS hl
                  have hf := z_e2 ej_87 hf
                  refine lv_istore (lv' := [(4, .int x_30), (0, .ref (ad 0)), (1, .int x_1), (2, .int x_5), (3, .int x_27), (5, .int x_18)]) hx hb dX12_payments_87 hl (by decide) rfl (fun ls hl => ?_)
                  exact J_89 x_27 x_30 S_31 _ _ _ hf hP hS (lv_sub hl [1, 2, 3, 4, 0, 5] rfl)
                refine lv_icmp_le (tgt := 85) hx hb dX12_payments_77 (by decide) (fun c_32 => ?_) (fun c_32 => ?_)
                · have hf := z_it c_32 hf
                  refine lv_iload hx hb dX12_payments_85 (lv_at hl 5 rfl) ?_
                  exact J_87 x_17 S_25 _ _ _ hf hP hS (lv_sub hl [2, 3, 4, 1, 6] rfl)
                · have hf := z_if c_32 hf
                  refine lv_iload hx hb dX12_payments_80 (lv_at hl 0 rfl) ?_
                  refine lv_goto (tgt := 87) hx hb dX12_payments_82 (by decide) ?_
                  exact J_87 x_29 S_25 _ _ _ hf hP hS (lv_sub hl [2, 3, 4, 1, 6] rfl)
              · have hf := z_it c_33 hf
                refine lv_goto (tgt := 89) hx hb dX12_payments_46 (by decide) ?_
                exact J_89 x_16 x_17 S_19 _ _ _ hf hP hS (lv_sub hl [0, 1, 2, 3, 4, 5] rfl)
        exact L_31 zFU (0 : Int32) (0 : Int32) (0 : Int32) S_6 _ _ _ hf hP hS (lv_sub hl [3, 4, 5, 2, 1, 0] rfl)
  exact L_16 zFU (1 : Int32) S_2 _ _ _ hf hP hS (lv_sub hl [2, 1, 0] rfl)
def fm_image_L15 (a_1 : Int32) (j_59 : zSt → Option (Int32 × zSt)) : Nat → Int32 → zSt → Option (Int32 × zSt)
  | 0, _, _ => none
  | n_15 + 1, x_9, S_10 =>
    if (1480 : Int32) ≤ x_9 then (
    j_59  S_10) else (
    znm (fun (S_11 : zSt) =>
    znm (x_9 + (1 : Int32)) fun x_12 =>
    fm_image_L15 a_1 j_59 n_15 x_12 S_11) fun j_53 =>
    if a_1 = 0 then (
    zck (zix x_9 1480) <|
    zck (zix x_9 1480) <|
    znm (zpI S_10 1 (x_9.toNatClampNeg) (S_10.1 2 (x_9.toNatClampNeg))) fun S_15 =>
    j_53  S_15) else (
    zck (zix x_9 1480) <|
    zck (zix x_9 1480) <|
    znm (zpI S_10 2 (x_9.toNatClampNeg) (S_10.1 1 (x_9.toNatClampNeg))) fun S_18 =>
    j_53  S_18))
def fm_image (S_0 : zSt) (a_1 : Int32) : Option (Int32 × zSt) :=
  znm (fun (S_1 : zSt) =>
  znm (fun (S_2 : zSt) =>
  znm (fun (S_3 : zSt) =>
  znm (zpI S_3 0 4 (1 : Int32)) fun S_4 =>
  some ((1 : Int32), S_4)) fun j_67 =>
  if a_1 = 0 then (
  zbd (fm_forgets S_2) fun _ S_6 =>
  j_67  S_6) else (
  j_67  S_2)) fun j_59 =>
  fm_image_L15 a_1 j_59 zFU (0 : Int32) S_1) fun j_13 =>
  if a_1 = 0 then (
  if (S_0.1 0 4) = 0 then (
  some ((0 : Int32), S_0)) else (
  j_13  S_0)) else (
  j_13  S_0)
set_option maxHeartbeats 4000000 in
set_option maxRecDepth 100000 in
theorem cm_image (l : Launch) (D : va_G) (K : (Nat → Nat) × (Nat → Nat)) (cy : Nat → ClassId) (ad : Nat → Nat) (S_0 : zSt) (a_1 : Int32) (ro : Int32) (So : zSt) (hf : fm_image S_0 a_1 = some (ro, So)) : zMI l yX12_image (zws yX12_image cX12_image 3 (Option.some .boolean)) ({ frames := 1, cells := 0, slots := 0, locals := 20 }) D (zTy cy) K (zM cy ad) [.ref (ad 0), .int a_1] S_0 ro So := by
  refine z_metZ (own := RX12) (lv := [(0, .ref (ad 0)), (1, .int a_1)]) (by decide) rfl rfl (Nat.le_of_ble_eq_true rfl) rfl ?_
  intro p e s m below meth c A Q X hK hE hD hA hret hP hS ls hl
  obtain ⟨hx, hb, hml, hown, hts⟩ := id X
  have k0 := (fun w h => List.mem_cons_of_mem _ (zFX12 w h) : ∀ w ∈ u_ws RX12 TX12 36, w ∈ zws yX12_image cX12_image 3 (Option.some .boolean))
  have k1 := hts _ (List.mem_cons_of_mem _ wt_5_99)
  have k2 := hts _ (List.mem_cons_of_mem _ wt_5_95)
  have k3 := hts _ (List.mem_cons_of_mem _ wt_5_96)
  refine lv_iload_n hx hb dX12_image_0 rfl (lv_at hl 1 rfl) ?_
  obtain ⟨j_13, ej_13, hf⟩ := z_nm hf
  have J_13 : ∀ (S_1 : zSt) (H : Heap) (locs : List Loc) (ls : Array Slot), j_13  S_1 = some (ro, So) → va_P D vwCl (zM cy ad S_1) H → va_S A s.heap H locs → lv_has ls 3 [(0, .ref (ad 0)), (1, .int a_1)] → W p l e ({ frames := 1, cells := 0, slots := 0, locals := 20 }) s m ([.ref (ad 0), .int a_1] : List Value).toArray below meth c H locs 0 0 Q (F0 m 13 ls []) := by
    intro  S_1 H locs ls hf hP hS hl
    have hf := z_e1 ej_13 hf
    refine lv_iconst (v := 0) hx hb dX12_image_13 (by decide) ?_
    refine lv_istore_n (lv' := [(2, .int (0 : Int32)), (0, .ref (ad 0)), (1, .int a_1)]) hx hb dX12_image_14 rfl hl (by decide) rfl (fun ls hl => ?_)
    obtain ⟨j_59, ej_59, hf⟩ := z_nm hf
    have J_59 : ∀ (S_2 : zSt) (H : Heap) (locs : List Loc) (ls : Array Slot), j_59  S_2 = some (ro, So) → va_P D vwCl (zM cy ad S_2) H → va_S A s.heap H locs → lv_has ls 3 [(0, .ref (ad 0)), (1, .int a_1)] → W p l e ({ frames := 1, cells := 0, slots := 0, locals := 20 }) s m ([.ref (ad 0), .int a_1] : List Value).toArray below meth c H locs 0 0 Q (F0 m 59 ls []) := by
      intro  S_2 H locs ls hf hP hS hl
      have hf := z_e1 ej_59 hf
      refine lv_iload_n hx hb dX12_image_59 rfl (lv_at hl 1 rfl) ?_
      obtain ⟨j_67, ej_67, hf⟩ := z_nm hf
      have J_67 : ∀ (S_3 : zSt) (H : Heap) (locs : List Loc) (ls : Array Slot), j_67  S_3 = some (ro, So) → va_P D vwCl (zM cy ad S_3) H → va_S A s.heap H locs → lv_has ls 3 [(0, .ref (ad 0))] → W p l e ({ frames := 1, cells := 0, slots := 0, locals := 20 }) s m ([.ref (ad 0), .int a_1] : List Value).toArray below meth c H locs 0 0 Q (F0 m 67 ls []) := by
        intro  S_3 H locs ls hf hP hS hl
        have hf := z_e1 ej_67 hf
        refine lv_aload_n hx hb dX12_image_67 rfl (lv_at hl 0 rfl) ?_
        refine lv_iconst (v := 1) hx hb dX12_image_68 (by decide) ?_
        refine va_put (D := D) (ci := 12) (v := .int (1 : Int32)) (ty := .boolean) (C := RX12) (T := TX12) (N := 36) hx hb hts k0 tyX12 tyX12_ok nmX12 hown hK hP (hD S_3) hS 0 (zM_0 cy ad S_3) rfl 4 (by decide) k1 (fun _ h9 => h9) rfl (tyX12_ok 4 (by decide)) rfl rfl (Nat.le_of_ble_eq_true rfl) dX12_image_69 (fun H locs hP _ hS => ?_)
        obtain ⟨S_4, eS_4, hf⟩ := z_nm hf
        have hP := zW_putI hP eS_4 (by decide) rfl
        refine lv_iconst (v := 1) hx hb dX12_image_72 (by decide) ?_
        obtain ⟨h1, h2⟩ := z_s2 hf
        subst h1 h2
        exact hret _ _ _ _ rfl hP hS dX12_image_73
      refine lv_if_ne (tgt := 67) hx hb dX12_image_60 (by decide) (fun c_8 => ?_) (fun c_8 => ?_)
      · have hf := z_if c_8 hf
        exact J_67  S_2 _ _ _ hf hP hS (lv_sub hl [0] rfl)
      · have hf := z_it c_8 hf
        refine lv_aload_n hx hb dX12_image_63 rfl (lv_at hl 0 rfl) ?_
        obtain ⟨r_5, S_6, h_7, hf⟩ := z_bd hf
        refine z_cVV (As := []) (rest := []) X hK hE hD hA hP hS (cm_forgets l D K cy ad S_2 _ h_7) (cwV 0 hts (z_gV wt_6_82 wt_6_84 wp_62 wt_1_13 wt_6_85) rfl rfl rfl ⟨rfl, yd_yX12_forgets⟩ ⟨Nat.le_of_ble_eq_true rfl, Nat.le_of_ble_eq_true rfl⟩) (va_recv hK hP (ci := 12) (q0 := 0) rfl (zM_0 cy ad S_2)) hl.1 rfl rfl (Nat.le_of_ble_eq_true rfl) dX12_image_64 (fun H locs hP hS => ?_)
        exact J_67  S_6 _ _ _ hf hP hS (lv_sub hl [0] rfl)
    have L_15 : ∀ (n_15 : Nat) (x_9 : Int32) (S_10 : zSt) (H : Heap) (locs : List Loc) (ls : Array Slot), fm_image_L15 a_1 j_59 n_15 x_9 S_10 = some (ro, So) → va_P D vwCl (zM cy ad S_10) H → va_S A s.heap H locs → lv_has ls 3 [(0, .ref (ad 0)), (1, .int a_1), (2, .int x_9)] → W p l e ({ frames := 1, cells := 0, slots := 0, locals := 20 }) s m ([.ref (ad 0), .int a_1] : List Value).toArray below meth c H locs 0 0 Q (F0 m 15 ls []) := by
      intro n_15
      induction n_15 with
      | zero =>
        intro x_9 S_10 H locs ls hf hP hS hl
        exact z_no hf
      | succ n_15 ih_15 =>
        intro x_9 S_10 H locs ls hf hP hS hl
        rw [fm_image_L15] at hf
        refine lv_iload_n hx hb dX12_image_15 rfl (lv_at hl 2 rfl) ?_
        refine lv_sipush (v := 1480) hx hb dX12_image_16 (by decide) ?_
        refine lv_icmp_ge (tgt := 59) hx hb dX12_image_19 (by decide) (fun c_20 => ?_) (fun c_20 => ?_)
        · have hf := z_it c_20 hf
          exact J_59  S_10 _ _ _ hf hP hS (lv_sub hl [0, 1] rfl)
        · have hf := z_if c_20 hf
          refine lv_iload_n hx hb dX12_image_22 rfl (lv_at hl 1 rfl) ?_
          obtain ⟨j_53, ej_53, hf⟩ := z_nm hf
          have J_53 : ∀ (S_11 : zSt) (H : Heap) (locs : List Loc) (ls : Array Slot), j_53  S_11 = some (ro, So) → va_P D vwCl (zM cy ad S_11) H → va_S A s.heap H locs → lv_has ls 3 [(0, .ref (ad 0)), (1, .int a_1), (2, .int x_9)] → W p l e ({ frames := 1, cells := 0, slots := 0, locals := 20 }) s m ([.ref (ad 0), .int a_1] : List Value).toArray below meth c H locs 0 0 Q (F0 m 53 ls []) := by
            intro  S_11 H locs ls hf hP hS hl
            have hf := z_e1 ej_53 hf
            obtain ⟨x_12, ex_12, hf⟩ := z_nm hf
            refine lv_iinc (v := x_12) (lv' := [(2, .int x_12), (0, .ref (ad 0)), (1, .int a_1)]) hx hb dX12_image_53 hl (k := 2) rfl (by rw [ex_12]; rfl) (by decide) rfl (fun ls hl => ?_)
            refine lv_goto (tgt := 15) hx hb dX12_image_56 (by decide) ?_
            exact ih_15 x_12 S_11 _ _ _ hf hP hS (lv_sub hl [1, 2, 0] rfl)
          refine lv_if_eq (tgt := 41) hx hb dX12_image_23 (by decide) (fun c_19 => ?_) (fun c_19 => ?_)
          · have hf := z_it c_19 hf
            refine lv_aload_n hx hb dX12_image_41 rfl (lv_at hl 0 rfl) ?_
            refine va_get (D := D) (ci := 12) (v := .ref (ad 1)) (C := RX12) (T := TX12) (N := 36) hx hb hts k0 hown hK hP 0 (zM_0 cy ad S_10) rfl 0 (by decide) k2 (fun _ h9 => h9) rfl dX12_image_42 ?_
            refine lv_iload_n hx hb dX12_image_45 rfl (lv_at hl 2 rfl) ?_
            refine lv_aload_n hx hb dX12_image_46 rfl (lv_at hl 0 rfl) ?_
            refine va_get (D := D) (ci := 12) (v := .ref (ad 2)) (C := RX12) (T := TX12) (N := 36) hx hb hts k0 hown hK hP 0 (zM_0 cy ad S_10) rfl 1 (by decide) k3 (fun _ h9 => h9) rfl dX12_image_47 ?_
            refine lv_iload_n hx hb dX12_image_50 rfl (lv_at hl 2 rfl) ?_
            obtain ⟨h_13, hf⟩ := z_ix hf
            refine z_iald hx hb hK hP 2 0 (zM_2 cy ad S_10) rfl h_13 (k := (x_9.toNatClampNeg)) rfl dX12_image_51 ?_
            obtain ⟨h_14, hf⟩ := z_ix hf
            refine z_iast hx hb hK hP (hD S_10) hS 1 0 (zM_1 cy ad S_10) rfl h_14 (k := (x_9.toNatClampNeg)) rfl dX12_image_52 (fun H locs hP hS => ?_)
            obtain ⟨S_15, eS_15, hf⟩ := z_nm hf
            have hP := zW_putI hP eS_15 (by decide) rfl
            exact J_53  S_15 _ _ _ hf hP hS (lv_sub hl [0, 1, 2] rfl)
          · have hf := z_if c_19 hf
            refine lv_aload_n hx hb dX12_image_26 rfl (lv_at hl 0 rfl) ?_
            refine va_get (D := D) (ci := 12) (v := .ref (ad 2)) (C := RX12) (T := TX12) (N := 36) hx hb hts k0 hown hK hP 0 (zM_0 cy ad S_10) rfl 1 (by decide) k3 (fun _ h9 => h9) rfl dX12_image_27 ?_
            refine lv_iload_n hx hb dX12_image_30 rfl (lv_at hl 2 rfl) ?_
            refine lv_aload_n hx hb dX12_image_31 rfl (lv_at hl 0 rfl) ?_
            refine va_get (D := D) (ci := 12) (v := .ref (ad 1)) (C := RX12) (T := TX12) (N := 36) hx hb hts k0 hown hK hP 0 (zM_0 cy ad S_10) rfl 0 (by decide) k2 (fun _ h9 => h9) rfl dX12_image_32 ?_
            refine lv_iload_n hx hb dX12_image_35 rfl (lv_at hl 2 rfl) ?_
            obtain ⟨h_16, hf⟩ := z_ix hf
            refine z_iald hx hb hK hP 1 0 (zM_1 cy ad S_10) rfl h_16 (k := (x_9.toNatClampNeg)) rfl dX12_image_36 ?_
            obtain ⟨h_17, hf⟩ := z_ix hf
            refine z_iast hx hb hK hP (hD S_10) hS 2 0 (zM_2 cy ad S_10) rfl h_17 (k := (x_9.toNatClampNeg)) rfl dX12_image_37 (fun H locs hP hS => ?_)
            obtain ⟨S_18, eS_18, hf⟩ := z_nm hf
            have hP := zW_putI hP eS_18 (by decide) rfl
            refine lv_goto (tgt := 53) hx hb dX12_image_38 (by decide) ?_
            exact J_53  S_18 _ _ _ hf hP hS (lv_sub hl [0, 1, 2] rfl)
    exact L_15 zFU (0 : Int32) S_1 _ _ _ hf hP hS (lv_sub hl [1, 2, 0] rfl)
  refine lv_if_ne (tgt := 13) hx hb dX12_image_1 (by decide) (fun c_22 => ?_) (fun c_22 => ?_)
  · have hf := z_if c_22 hf
    exact J_13  S_0 _ _ _ hf hP hS (lv_sub hl [0, 1] rfl)
  · have hf := z_it c_22 hf
    refine lv_aload_n hx hb dX12_image_4 rfl (lv_at hl 0 rfl) ?_
    refine va_get (D := D) (ci := 12) (v := .int (S_0.1 0 4)) (C := RX12) (T := TX12) (N := 36) hx hb hts k0 hown hK hP 0 (zM_0 cy ad S_0) rfl 4 (by decide) k1 (fun _ h9 => h9) rfl dX12_image_5 ?_
    refine lv_if_ne (tgt := 13) hx hb dX12_image_8 (by decide) (fun c_21 => ?_) (fun c_21 => ?_)
    · have hf := z_if c_21 hf
      exact J_13  S_0 _ _ _ hf hP hS (lv_sub hl [0, 1] rfl)
    · have hf := z_it c_21 hf
      refine lv_iconst (v := 0) hx hb dX12_image_11 (by decide) ?_
      obtain ⟨h1, h2⟩ := z_s2 hf
      subst h1 h2
      exact hret _ _ _ _ rfl hP hS dX12_image_12
def fm_look (S_0 : zSt) (a_1 : Int32) : Option (Int32 × zSt) :=
  if a_1 = (0 : Int32) then (
  some (S_0.1 1 4, S_0)) else (
  if a_1 = (1 : Int32) then (
  some (S_0.1 1 5, S_0)) else (
  if a_1 = (2 : Int32) then (
  some (S_0.1 1 6, S_0)) else (
  if a_1 = (3 : Int32) then (
  some (S_0.1 1 585, S_0)) else (
  if a_1 = (4 : Int32) then (
  some (S_0.1 1 590, S_0)) else (
  if a_1 = (5 : Int32) then (
  some (S_0.1 0 3, S_0)) else (
  if a_1 = (6 : Int32) then (
  some (S_0.1 1 8, S_0)) else (
  zbd (fm_isIn S_0 a_1 (10 : Int32) (13 : Int32)) fun r_15 S_16 =>
  znm (fun (x_18 : Int32) (S_19 : zSt) =>
  some (x_18, S_19)) fun j_121 =>
  if r_15 = 0 then (
  j_121 (-1 : Int32) S_16) else (
  zck (zix (a_1 - (10 : Int32)) 1480) <|
  j_121 (S_16.1 1 ((a_1 - (10 : Int32)).toNatClampNeg)) S_16))))))))
set_option maxHeartbeats 4000000 in
set_option maxRecDepth 100000 in
theorem cm_look (l : Launch) (D : va_G) (K : (Nat → Nat) × (Nat → Nat)) (cy : Nat → ClassId) (ad : Nat → Nat) (S_0 : zSt) (a_1 : Int32) (ro : Int32) (So : zSt) (hf : fm_look S_0 a_1 = some (ro, So)) : zMI l yX12_look (zws yX12_look cX12_look 2 (Option.some .int)) ({ frames := 1, cells := 0, slots := 0, locals := 22 }) D (zTy cy) K (zM cy ad) [.ref (ad 0), .int a_1] S_0 ro So := by
  refine z_metI (own := RX12) (lv := [(0, .ref (ad 0)), (1, .int a_1)]) (by decide) rfl rfl (Nat.le_of_ble_eq_true rfl) rfl ?_
  intro p e s m below meth c A Q X hK hE hD hA hret hP hS ls hl
  obtain ⟨hx, hb, hml, hown, hts⟩ := id X
  have k0 := (fun w h => List.mem_cons_of_mem _ (zFX12 w h) : ∀ w ∈ u_ws RX12 TX12 36, w ∈ zws yX12_look cX12_look 2 (Option.some .int))
  have k1 := hts _ (List.mem_cons_of_mem _ wt_5_95)
  have k2 := hts _ (List.mem_cons_of_mem _ wt_5_98)
  refine lv_iload_n hx hb dX12_look_0 rfl (lv_at hl 1 rfl) ?_
  by_cases c_1 : a_1 = (0 : Int32)
  · have hf := z_it c_1 hf
    refine lv_tableIn (off := 43) (tgt := 44) hx hb dX12_look_1 (by rw [c_1]; decide) (by rw [c_1]; decide) (by rw [c_1]; rfl) (by decide) ?_
    refine lv_aload_n hx hb dX12_look_44 rfl (lv_at hl 0 rfl) ?_
    refine va_get (D := D) (ci := 12) (v := .ref (ad 1)) (C := RX12) (T := TX12) (N := 36) hx hb hts k0 hown hK hP 0 (zM_0 cy ad S_0) rfl 0 (by decide) k1 (fun _ h9 => h9) rfl dX12_look_45 ?_
    refine lv_iconst (v := 4) hx hb dX12_look_48 (by decide) ?_
    refine z_iald hx hb hK hP 1 0 (zM_1 cy ad S_0) rfl (vp_in_iff.mpr (by decide)) (k := 4) (by decide) dX12_look_49 ?_
    obtain ⟨h1, h2⟩ := z_s2 hf
    subst h1 h2
    exact hret _ _ _ _ hP hS dX12_look_50
  have hf := z_if c_1 hf
  have n_2 : a_1.toInt ≠ 0 := z_ne c_1 (by decide)
  by_cases c_3 : a_1 = (1 : Int32)
  · have hf := z_it c_3 hf
    refine lv_tableIn (off := 50) (tgt := 51) hx hb dX12_look_1 (by rw [c_3]; decide) (by rw [c_3]; decide) (by rw [c_3]; rfl) (by decide) ?_
    refine lv_aload_n hx hb dX12_look_51 rfl (lv_at hl 0 rfl) ?_
    refine va_get (D := D) (ci := 12) (v := .ref (ad 1)) (C := RX12) (T := TX12) (N := 36) hx hb hts k0 hown hK hP 0 (zM_0 cy ad S_0) rfl 0 (by decide) k1 (fun _ h9 => h9) rfl dX12_look_52 ?_
    refine lv_iconst (v := 5) hx hb dX12_look_55 (by decide) ?_
    refine z_iald hx hb hK hP 1 0 (zM_1 cy ad S_0) rfl (vp_in_iff.mpr (by decide)) (k := 5) (by decide) dX12_look_56 ?_
    obtain ⟨h1, h2⟩ := z_s2 hf
    subst h1 h2
    exact hret _ _ _ _ hP hS dX12_look_57
  have hf := z_if c_3 hf
  have n_4 : a_1.toInt ≠ 1 := z_ne c_3 (by decide)
  by_cases c_5 : a_1 = (2 : Int32)
  · have hf := z_it c_5 hf
    refine lv_tableIn (off := 57) (tgt := 58) hx hb dX12_look_1 (by rw [c_5]; decide) (by rw [c_5]; decide) (by rw [c_5]; rfl) (by decide) ?_
    refine lv_aload_n hx hb dX12_look_58 rfl (lv_at hl 0 rfl) ?_
    refine va_get (D := D) (ci := 12) (v := .ref (ad 1)) (C := RX12) (T := TX12) (N := 36) hx hb hts k0 hown hK hP 0 (zM_0 cy ad S_0) rfl 0 (by decide) k1 (fun _ h9 => h9) rfl dX12_look_59 ?_
    refine lv_bipush (v := 6) hx hb dX12_look_62 (by decide) ?_
    refine z_iald hx hb hK hP 1 0 (zM_1 cy ad S_0) rfl (vp_in_iff.mpr (by decide)) (k := 6) (by decide) dX12_look_64 ?_
    obtain ⟨h1, h2⟩ := z_s2 hf
    subst h1 h2
    exact hret _ _ _ _ hP hS dX12_look_65
  have hf := z_if c_5 hf
  have n_6 : a_1.toInt ≠ 2 := z_ne c_5 (by decide)
  by_cases c_7 : a_1 = (3 : Int32)
  · have hf := z_it c_7 hf
    refine lv_tableIn (off := 65) (tgt := 66) hx hb dX12_look_1 (by rw [c_7]; decide) (by rw [c_7]; decide) (by rw [c_7]; rfl) (by decide) ?_
    refine lv_aload_n hx hb dX12_look_66 rfl (lv_at hl 0 rfl) ?_
    refine va_get (D := D) (ci := 12) (v := .ref (ad 1)) (C := RX12) (T := TX12) (N := 36) hx hb hts k0 hown hK hP 0 (zM_0 cy ad S_0) rfl 0 (by decide) k1 (fun _ h9 => h9) rfl dX12_look_67 ?_
    refine lv_sipush (v := 585) hx hb dX12_look_70 (by decide) ?_
    refine z_iald hx hb hK hP 1 0 (zM_1 cy ad S_0) rfl (vp_in_iff.mpr (by decide)) (k := 585) (by decide) dX12_look_73 ?_
    obtain ⟨h1, h2⟩ := z_s2 hf
    subst h1 h2
    exact hret _ _ _ _ hP hS dX12_look_74
  have hf := z_if c_7 hf
  have n_8 : a_1.toInt ≠ 3 := z_ne c_7 (by decide)
  by_cases c_9 : a_1 = (4 : Int32)
  · have hf := z_it c_9 hf
    refine lv_tableIn (off := 74) (tgt := 75) hx hb dX12_look_1 (by rw [c_9]; decide) (by rw [c_9]; decide) (by rw [c_9]; rfl) (by decide) ?_
    refine lv_aload_n hx hb dX12_look_75 rfl (lv_at hl 0 rfl) ?_
    refine va_get (D := D) (ci := 12) (v := .ref (ad 1)) (C := RX12) (T := TX12) (N := 36) hx hb hts k0 hown hK hP 0 (zM_0 cy ad S_0) rfl 0 (by decide) k1 (fun _ h9 => h9) rfl dX12_look_76 ?_
    refine lv_sipush (v := 590) hx hb dX12_look_79 (by decide) ?_
    refine z_iald hx hb hK hP 1 0 (zM_1 cy ad S_0) rfl (vp_in_iff.mpr (by decide)) (k := 590) (by decide) dX12_look_82 ?_
    obtain ⟨h1, h2⟩ := z_s2 hf
    subst h1 h2
    exact hret _ _ _ _ hP hS dX12_look_83
  have hf := z_if c_9 hf
  have n_10 : a_1.toInt ≠ 4 := z_ne c_9 (by decide)
  by_cases c_11 : a_1 = (5 : Int32)
  · have hf := z_it c_11 hf
    refine lv_tableIn (off := 83) (tgt := 84) hx hb dX12_look_1 (by rw [c_11]; decide) (by rw [c_11]; decide) (by rw [c_11]; rfl) (by decide) ?_
    refine lv_aload_n hx hb dX12_look_84 rfl (lv_at hl 0 rfl) ?_
    refine va_get (D := D) (ci := 12) (v := .int (S_0.1 0 3)) (C := RX12) (T := TX12) (N := 36) hx hb hts k0 hown hK hP 0 (zM_0 cy ad S_0) rfl 3 (by decide) k2 (fun _ h9 => h9) rfl dX12_look_85 ?_
    obtain ⟨h1, h2⟩ := z_s2 hf
    subst h1 h2
    exact hret _ _ _ _ hP hS dX12_look_88
  have hf := z_if c_11 hf
  have n_12 : a_1.toInt ≠ 5 := z_ne c_11 (by decide)
  by_cases c_13 : a_1 = (6 : Int32)
  · have hf := z_it c_13 hf
    refine lv_tableIn (off := 88) (tgt := 89) hx hb dX12_look_1 (by rw [c_13]; decide) (by rw [c_13]; decide) (by rw [c_13]; rfl) (by decide) ?_
    refine lv_aload_n hx hb dX12_look_89 rfl (lv_at hl 0 rfl) ?_
    refine va_get (D := D) (ci := 12) (v := .ref (ad 1)) (C := RX12) (T := TX12) (N := 36) hx hb hts k0 hown hK hP 0 (zM_0 cy ad S_0) rfl 0 (by decide) k1 (fun _ h9 => h9) rfl dX12_look_90 ?_
    refine lv_bipush (v := 8) hx hb dX12_look_93 (by decide) ?_
    refine z_iald hx hb hK hP 1 0 (zM_1 cy ad S_0) rfl (vp_in_iff.mpr (by decide)) (k := 8) (by decide) dX12_look_95 ?_
    obtain ⟨h1, h2⟩ := z_s2 hf
    subst h1 h2
    exact hret _ _ _ _ hP hS dX12_look_96
  have hf := z_if c_13 hf
  have n_14 : a_1.toInt ≠ 6 := z_ne c_13 (by decide)
  refine lv_tableOut (tgt := 97) hx hb dX12_look_1 (by omega) (by decide) ?_
  refine lv_iload_n hx hb dX12_look_97 rfl (lv_at hl 1 rfl) ?_
  refine lv_bipush (v := 10) hx hb dX12_look_98 (by decide) ?_
  refine lv_bipush (v := 13) hx hb dX12_look_100 (by decide) ?_
  obtain ⟨r_15, S_16, h_17, hf⟩ := z_bd hf
  refine z_cSI (As := [.int a_1, .int (10 : Int32), .int (13 : Int32)]) (rest := []) X hK hE hD hA hP hS (cm_isIn l D K cy ad S_0 _ _ _ _ _ h_17) (va_cwS 3 hts (z_gS wt_5_216 wt_5_217 wt_1_13 wt_5_218) rfl rfl rfl yd_yX12_isIn ⟨Nat.le_of_ble_eq_true rfl, Nat.le_of_ble_eq_true rfl⟩) hl.1 rfl rfl (Nat.le_of_ble_eq_true rfl) dX12_look_102 (fun H locs hP hS => ?_)
  obtain ⟨j_121, ej_121, hf⟩ := z_nm hf
  have J_121 : ∀ (x_18 : Int32) (S_19 : zSt) (H : Heap) (locs : List Loc) (ls : Array Slot), j_121 x_18 S_19 = some (ro, So) → va_P D vwCl (zM cy ad S_19) H → va_S A s.heap H locs → lv_has ls 2 [] → W p l e ({ frames := 1, cells := 0, slots := 0, locals := 22 }) s m ([.ref (ad 0), .int a_1] : List Value).toArray below meth c H locs 0 0 Q (F0 m 121 ls [.int x_18]) := by
    intro x_18 S_19 H locs ls hf hP hS hl
    have hf := z_e2 ej_121 hf
    obtain ⟨h1, h2⟩ := z_s2 hf
    subst h1 h2
    exact hret _ _ _ _ hP hS dX12_look_121
  refine lv_if_eq (tgt := 120) hx hb dX12_look_105 (by decide) (fun c_21 => ?_) (fun c_21 => ?_)
  · have hf := z_it c_21 hf
    refine lv_iconst (v := -1) hx hb dX12_look_120 (by decide) ?_
    exact J_121 (-1 : Int32) S_16 _ _ _ hf hP hS (lv_sub hl [] rfl)
  · have hf := z_if c_21 hf
    refine lv_aload_n hx hb dX12_look_108 rfl (lv_at hl 0 rfl) ?_
    refine va_get (D := D) (ci := 12) (v := .ref (ad 1)) (C := RX12) (T := TX12) (N := 36) hx hb hts k0 hown hK hP 0 (zM_0 cy ad S_16) rfl 0 (by decide) k1 (fun _ h9 => h9) rfl dX12_look_109 ?_
    refine lv_iload_n hx hb dX12_look_112 rfl (lv_at hl 1 rfl) ?_
    refine lv_bipush (v := 10) hx hb dX12_look_113 (by decide) ?_
    refine lv_isub hx hb dX12_look_115 ?_
    obtain ⟨h_20, hf⟩ := z_ix hf
    refine z_iald hx hb hK hP 1 0 (zM_1 cy ad S_16) rfl h_20 (k := ((a_1 - (10 : Int32)).toNatClampNeg)) rfl dX12_look_116 ?_
    refine lv_goto (tgt := 121) hx hb dX12_look_117 (by decide) ?_
    exact J_121 (S_16.1 1 ((a_1 - (10 : Int32)).toNatClampNeg)) S_16 _ _ _ hf hP hS (lv_sub hl [] rfl)
