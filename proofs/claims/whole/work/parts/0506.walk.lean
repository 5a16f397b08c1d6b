theorem yd_yX8_fewest : (yX8_fewest).cls ≠ "java/lang/invoke/MethodHandle" ∧ (yX8_fewest).cls ≠ "java/lang/invoke/VarHandle" ∧ (parseMethodDescriptor (yX8_fewest).desc).map (fun d => d.parameters.length) = some 1 := by decide +kernel
def fx_Settling_fewest_L74 (x_1 : Int32) (x_3 : Int32) (x_6 : Int32) (j_151 : zSt → Option (Int32 × zSt)) : Nat → Int32 → zSt → Option (Int32 × zSt)
  | 0, _, _ => none
  | n_74 + 1, x_20, S_21 =>
    if x_1 ≤ x_20 then (
    j_151  S_21) else (
    znm (fun (S_22 : zSt) =>
    znm (x_20 + (1 : Int32)) fun x_23 =>
    fx_Settling_fewest_L74 x_1 x_3 x_6 j_151 n_74 x_23 S_22) fun j_145 =>
    if (x_6 &&& ((1 : Int32) <<< (x_20 &&& 31))) = 0 then (
    j_145  S_21) else (
    znm (x_6 ^^^ ((1 : Int32) <<< (x_20 &&& 31))) fun x_24 =>
    zck (zix x_24 512) <|
    zck (zix x_20 9) <|
    zck (zix x_6 512) <|
    znm (zpI S_21 140 (x_6.toNatClampNeg) ((S_21.1 140 (x_24.toNatClampNeg)) + (S_21.1 139 (x_20.toNatClampNeg)))) fun S_28 =>
    zck (zix x_6 512) <|
    zck (zix x_24 512) <|
    zck (zix x_6 512) <|
    znm (zpI S_28 141 (x_6.toNatClampNeg) (if (S_28.1 141 (x_6.toNatClampNeg)) < (S_28.1 141 (x_24.toNatClampNeg)) then (S_28.1 141 (x_24.toNatClampNeg)) else (S_28.1 141 (x_6.toNatClampNeg)))) fun S_32 =>
    j_145  S_32))
def fx_Settling_fewest_L49 (x_1 : Int32) (x_3 : Int32) (j_178 : zSt → Option (Int32 × zSt)) : Nat → Int32 → zSt → Option (Int32 × zSt)
  | 0, _, _ => none
  | n_49 + 1, x_6, S_7 =>
    if x_3 ≤ x_6 then (
    j_178  S_7) else (
    zck (zix x_6 512) <|
    znm (zpI S_7 140 (x_6.toNatClampNeg) (0 : Int32)) fun S_9 =>
    zck (zix x_6 512) <|
    znm (zpI S_9 141 (x_6.toNatClampNeg) (0 : Int32)) fun S_11 =>
    znm (fun (S_12 : zSt) =>
    zck (zix x_6 512) <|
    znm (fun (S_14 : zSt) =>
    znm (x_6 + (1 : Int32)) fun x_15 =>
    fx_Settling_fewest_L49 x_1 x_3 j_178 n_49 x_15 S_14) fun j_172 =>
    if (S_12.1 140 (x_6.toNatClampNeg)) = 0 then (
    zck (zix x_6 512) <|
    zck (zix x_6 512) <|
    znm (zpI S_12 141 (x_6.toNatClampNeg) ((S_12.1 141 (x_6.toNatClampNeg)) + (1 : Int32))) fun S_18 =>
    j_172  S_18) else (
    j_172  S_12)) fun j_151 =>
    fx_Settling_fewest_L74 x_1 x_3 x_6 j_151 zFU (0 : Int32) S_11)
def fx_Settling_fewest_L4 (j_42 : Int32 → zSt → Option (Int32 × zSt)) : Nat → Int32 → Int32 → zSt → Option (Int32 × zSt)
  | 0, _, _, _ => none
  | n_4 + 1, x_36, x_37, S_38 =>
    if (S_38.1 4 0) ≤ x_37 then (
    j_42 x_36 S_38) else (
    zck (zix x_37 9) <|
    znm (fun (x_40 : Int32) (S_41 : zSt) =>
    znm (x_37 + (1 : Int32)) fun x_42 =>
    fx_Settling_fewest_L4 j_42 n_4 x_40 x_42 S_41) fun j_36 =>
    if (S_38.1 10 (x_37.toNatClampNeg)) = 0 then (
    j_36 x_36 S_38) else (
    zck (zix x_37 9) <|
    zck (zix x_36 9) <|
    znm (zpI S_38 139 (x_36.toNatClampNeg) (S_38.1 10 (x_37.toNatClampNeg))) fun S_45 =>
    znm (x_36 + (1 : Int32)) fun x_46 =>
    j_36 x_46 S_45))
def fx_Settling_fewest (S_0 : zSt) : Option (Int32 × zSt) :=
  znm (fun (x_1 : Int32) (S_2 : zSt) =>
  znm ((1 : Int32) <<< (x_1 &&& 31)) fun x_3 =>
  znm (fun (S_4 : zSt) =>
  zck (zix (x_3 - (1 : Int32)) 512) <|
  some (x_1 - (S_4.1 141 ((x_3 - (1 : Int32)).toNatClampNeg)), S_4)) fun j_178 =>
  fx_Settling_fewest_L49 x_1 x_3 j_178 zFU (1 : Int32) S_2) fun j_42 =>
  fx_Settling_fewest_L4 j_42 zFU (0 : Int32) (0 : Int32) S_0
set_option maxHeartbeats 4000000 in
set_option maxRecDepth 100000 in
theorem cx_Settling_fewest (l : Launch) (D : va_G) (K : (Nat → Nat) × (Nat → Nat)) (cy : Nat → ClassId) (ad : Nat → Nat) (S_0 : zSt) (ro : Int32) (So : zSt) (hf : fx_Settling_fewest S_0 = some (ro, So)) : zMI l yX8_fewest (zws yX8_fewest cX8_fewest 7 (Option.some .int)) ({ frames := 1, cells := 0, slots := 0, locals := 200 }) D (zTy cy) K (zX cy ad) [.ref (ad 138), .ref (ad 4)] S_0 ro So := by
  refine z_metI (own := RX8) (lv := [(0, .ref (ad 138)), (1, .ref (ad 4))]) (by decide) rfl rfl (Nat.le_of_ble_eq_true rfl) rfl ?_
  intro p e s m below meth c A Q X hK hE hD hA hret hP hS ls hl
  obtain ⟨hx, hb, hml, hown, hts⟩ := id X
  have k0 := (fun w h => List.mem_cons_of_mem _ (zFX8 w h) : ∀ w ∈ u_ws RX8 TX8 3, w ∈ zws yX8_fewest cX8_fewest 7 (Option.some .int))
  have k1 := hts _ (List.mem_cons_of_mem _ wt_2_166)
  have k2 := hts _ (List.mem_cons_of_mem _ wt_2_165)
  have k3 := hts _ (List.mem_cons_of_mem _ wt_2_164)
  have k4 := hts _ (List.mem_cons_of_mem _ wt_5_55)
  have k5 := hts _ (List.mem_cons_of_mem _ wt_3_122)
  have k6 := hts _ (List.mem_cons_of_mem _ wt_1_18)
  have k7 := hts _ (List.mem_cons_of_mem _ wt_3_123)
  have k8 := (fun w h => List.mem_cons_of_mem _ (zFX2 w h) : ∀ w ∈ u_ws RX2 TX2 7, w ∈ zws yX8_fewest cX8_fewest 7 (Option.some .int))
  have k9 := hts _ (List.mem_cons_of_mem _ wt_1_65)
  have k10 := hts _ (List.mem_cons_of_mem _ wt_1_83)
  refine lv_iconst (v := 0) hx hb dX8_fewest_0 (by decide) ?_
  refine lv_istore_n (lv' := [(2, .int (0 : Int32)), (0, .ref (ad 138)), (1, .ref (ad 4))]) hx hb dX8_fewest_1 rfl hl (by decide) rfl (fun ls hl => ?_)
  refine lv_iconst (v := 0) hx hb dX8_fewest_2 (by decide) ?_
  refine lv_istore_n (lv' := [(3, .int (0 : Int32)), (2, .int (0 : Int32)), (0, .ref (ad 138)), (1, .ref (ad 4))]) hx hb dX8_fewest_3 rfl hl (by decide) rfl (fun ls hl => ?_)
  obtain ⟨j_42, ej_42, hf⟩ := z_nm hf
  have J_42 : ∀ (x_1 : Int32) (S_2 : zSt) (H : Heap) (locs : List Loc) (ls : Array Slot), j_42 x_1 S_2 = some (ro, So) → va_P D vwCl (zX cy ad S_2) H → va_S A s.heap H locs → lv_has ls 7 [(0, .ref (ad 138)), (2, .int x_1)] → W p l e ({ frames := 1, cells := 0, slots := 0, locals := 200 }) s m ([.ref (ad 138), .ref (ad 4)] : List Value).toArray below meth c H locs 0 0 Q (F0 m 42 ls []) := by
    intro x_1 S_2 H locs ls hf hP hS hl
    have hf := z_e2 ej_42 hf
    refine lv_iconst (v := 1) hx hb dX8_fewest_42 (by decide) ?_
    refine lv_iload_n hx hb dX8_fewest_43 rfl (lv_at hl 1 rfl) ?_
    refine lv_ishl hx hb dX8_fewest_44 ?_
    refine lv_topi (fun x_3 ex_3 => ?_)
    have hf := z_nv ex_3 hf
    refine lv_istore_n (lv' := [(3, .int x_3), (0, .ref (ad 138)), (2, .int x_1)]) hx hb dX8_fewest_45 rfl hl (by decide) rfl (fun ls hl => ?_)
    refine lv_iconst (v := 1) hx hb dX8_fewest_46 (by decide) ?_
    refine lv_istore (lv' := [(4, .int (1 : Int32)), (3, .int x_3), (0, .ref (ad 138)), (2, .int x_1)]) hx hb dX8_fewest_47 hl (by decide) rfl (fun ls hl => ?_)
    obtain ⟨j_178, ej_178, hf⟩ := z_nm hf
    have J_178 : ∀ (S_4 : zSt) (H : Heap) (locs : List Loc) (ls : Array Slot), j_178  S_4 = some (ro, So) → va_P D vwCl (zX cy ad S_4) H → va_S A s.heap H locs → lv_has ls 7 [(0, .ref (ad 138)), (2, .int x_1), (3, .int x_3)] → W p l e ({ frames := 1, cells := 0, slots := 0, locals := 200 }) s m ([.ref (ad 138), .ref (ad 4)] : List Value).toArray below meth c H locs 0 0 Q (F0 m 178 ls []) := by
      intro  S_4 H locs ls hf hP hS hl
      have hf := z_e1 ej_178 hf
      refine lv_iload_n hx hb dX8_fewest_178 rfl (lv_at hl 1 rfl) ?_
      refine lv_aload_n hx hb dX8_fewest_179 rfl (lv_at hl 0 rfl) ?_
      refine va_get (D := D) (ci := 8) (v := .ref (ad 141)) (C := RX8) (T := TX8) (N := 3) hx hb hts k0 hown hK hP 138 (zX_138 cy ad S_4) rfl 2 (by decide) k1 (fun _ h9 => h9) rfl dX8_fewest_180 ?_
      refine lv_iload_n hx hb dX8_fewest_183 rfl (lv_at hl 2 rfl) ?_
      refine lv_iconst (v := 1) hx hb dX8_fewest_184 (by decide) ?_
      refine lv_isub hx hb dX8_fewest_185 ?_
      obtain ⟨h_5, hf⟩ := z_ix hf
      refine z_iald hx hb hK hP 141 0 (zX_141 cy ad S_4) rfl h_5 (k := ((x_3 - (1 : Int32)).toNatClampNeg)) rfl dX8_fewest_186 ?_
      refine lv_isub hx hb dX8_fewest_187 ?_
      obtain ⟨h1, h2⟩ := z_s2 hf
      subst h1 h2
      exact hret _ _ _ _ hP hS dX8_fewest_188
    have L_49 : ∀ (n_49 : Nat) (x_6 : Int32) (S_7 : zSt) (H : Heap) (locs : List Loc) (ls : Array Slot), fx_Settling_fewest_L49 x_1 x_3 j_178 n_49 x_6 S_7 = some (ro, So) → va_P D vwCl (zX cy ad S_7) H → va_S A s.heap H locs → lv_has ls 7 [(0, .ref (ad 138)), (2, .int x_1), (3, .int x_3), (4, .int x_6)] → W p l e ({ frames := 1, cells := 0, slots := 0, locals := 200 }) s m ([.ref (ad 138), .ref (ad 4)] : List Value).toArray below meth c H locs 0 0 Q (F0 m 49 ls []) := by
      intro n_49
      induction n_49 with
      | zero =>
        intro x_6 S_7 H locs ls hf hP hS hl
        exact z_no hf
      | succ n_49 ih_49 =>
        intro x_6 S_7 H locs ls hf hP hS hl
        rw [fx_Settling_fewest_L49] at hf
        refine lv_iload hx hb dX8_fewest_49 (lv_at hl 3 rfl) ?_
        refine lv_iload_n hx hb dX8_fewest_51 rfl (lv_at hl 2 rfl) ?_
        refine lv_icmp_ge (tgt := 178) hx hb dX8_fewest_52 (by decide) (fun c_35 => ?_) (fun c_35 => ?_)
        · have hf := z_it c_35 hf
          exact J_178  S_7 _ _ _ hf hP hS (lv_sub hl [0, 1, 2] rfl)
        · have hf := z_if c_35 hf
          refine lv_aload_n hx hb dX8_fewest_55 rfl (lv_at hl 0 rfl) ?_
          refine va_get (D := D) (ci := 8) (v := .ref (ad 140)) (C := RX8) (T := TX8) (N := 3) hx hb hts k0 hown hK hP 138 (zX_138 cy ad S_7) rfl 1 (by decide) k2 (fun _ h9 => h9) rfl dX8_fewest_56 ?_
          refine lv_iload hx hb dX8_fewest_59 (lv_at hl 3 rfl) ?_
          refine lv_iconst (v := 0) hx hb dX8_fewest_61 (by decide) ?_
          obtain ⟨h_8, hf⟩ := z_ix hf
          refine z_iast hx hb hK hP (hD S_7) hS 140 0 (zX_140 cy ad S_7) rfl h_8 (k := (x_6.toNatClampNeg)) rfl dX8_fewest_62 (fun H locs hP hS => ?_)
          obtain ⟨S_9, eS_9, hf⟩ := z_nm hf
          have hP := zW_putI hP eS_9 (by decide) rfl
          refine lv_aload_n hx hb dX8_fewest_63 rfl (lv_at hl 0 rfl) ?_
          refine va_get (D := D) (ci := 8) (v := .ref (ad 141)) (C := RX8) (T := TX8) (N := 3) hx hb hts k0 hown hK hP 138 (zX_138 cy ad S_9) rfl 2 (by decide) k1 (fun _ h9 => h9) rfl dX8_fewest_64 ?_
          refine lv_iload hx hb dX8_fewest_67 (lv_at hl 3 rfl) ?_
          refine lv_iconst (v := 0) hx hb dX8_fewest_69 (by decide) ?_
          obtain ⟨h_10, hf⟩ := z_ix hf
          refine z_iast hx hb hK hP (hD S_9) hS 141 0 (zX_141 cy ad S_9) rfl h_10 (k := (x_6.toNatClampNeg)) rfl dX8_fewest_70 (fun H locs hP hS => ?_)
          obtain ⟨S_11, eS_11, hf⟩ := z_nm hf
          have hP := zW_putI hP eS_11 (by decide) rfl
          refine lv_iconst (v := 0) hx hb dX8_fewest_71 (by decide) ?_
          refine lv_istore (lv' := [(5, .int (0 : Int32)), (0, .ref (ad 138)), (2, .int x_1), (3, .int x_3), (4, .int x_6)]) hx hb dX8_fewest_72 hl (by decide) rfl (fun ls hl => ?_)
          obtain ⟨j_151, ej_151, hf⟩ := z_nm hf
          have J_151 : ∀ (S_12 : zSt) (H : Heap) (locs : List Loc) (ls : Array Slot), j_151  S_12 = some (ro, So) → va_P D vwCl (zX cy ad S_12) H → va_S A s.heap H locs → lv_has ls 7 [(0, .ref (ad 138)), (2, .int x_1), (3, .int x_3), (4, .int x_6)] → W p l e ({ frames := 1, cells := 0, slots := 0, locals := 200 }) s m ([.ref (ad 138), .ref (ad 4)] : List Value).toArray below meth c H locs 0 0 Q (F0 m 151 ls []) := by
            intro  S_12 H locs ls hf hP hS hl
            have hf := z_e1 ej_151 hf
            refine lv_aload_n hx hb dX8_fewest_151 rfl (lv_at hl 0 rfl) ?_
            refine va_get (D := D) (ci := 8) (v := .ref (ad 140)) (C := RX8) (T := TX8) (N := 3) hx hb hts k0 hown hK hP 138 (zX_138 cy ad S_12) rfl 1 (by decide) k2 (fun _ h9 => h9) rfl dX8_fewest_152 ?_
            refine lv_iload hx hb dX8_fewest_155 (lv_at hl 3 rfl) ?_
            obtain ⟨h_13, hf⟩ := z_ix hf
            refine z_iald hx hb hK hP 140 0 (zX_140 cy ad S_12) rfl h_13 (k := (x_6.toNatClampNeg)) rfl dX8_fewest_157 ?_
            obtain ⟨j_172, ej_172, hf⟩ := z_nm hf
            have J_172 : ∀ (S_14 : zSt) (H : Heap) (locs : List Loc) (ls : Array Slot), j_172  S_14 = some (ro, So) → va_P D vwCl (zX cy ad S_14) H → va_S A s.heap H locs → lv_has ls 7 [(0, .ref (ad 138)), (2, .int x_1), (3, .int x_3), (4, .int x_6)] → W p l e ({ frames := 1, cells := 0, slots := 0, locals := 200 }) s m ([.ref (ad 138), .ref (ad 4)] : List Value).toArray below meth c H locs 0 0 Q (F0 m 172 ls []) := by
              intro  S_14 H locs ls hf hP hS hl
              have hf := z_e1 ej_172 hf
              obtain ⟨x_15, ex_15, hf⟩ := z_nm hf
              refine lv_iinc (v := x_15) (lv' := [(4, .int x_15), (0, .ref (ad 138)), (2, .int x_1), (3, .int x_3)]) hx hb dX8_fewest_172 hl (k := 3) rfl (by rw [ex_15]; rfl) (by decide) rfl (fun ls hl => ?_)
              refine lv_goto (tgt := 49) hx hb dX8_fewest_175 (by decide) ?_
              exact ih_49 x_15 S_14 _ _ _ hf hP hS (lv_sub hl [1, 2, 3, 0] rfl)
            refine lv_if_ne (tgt := 172) hx hb dX8_fewest_158 (by decide) (fun c_19 => ?_) (fun c_19 => ?_)
            · have hf := z_if c_19 hf
              exact J_172  S_12 _ _ _ hf hP hS (lv_sub hl [0, 1, 2, 3] rfl)
            · have hf := z_it c_19 hf
              refine lv_aload_n hx hb dX8_fewest_161 rfl (lv_at hl 0 rfl) ?_
              refine va_get (D := D) (ci := 8) (v := .ref (ad 141)) (C := RX8) (T := TX8) (N := 3) hx hb hts k0 hown hK hP 138 (zX_138 cy ad S_12) rfl 2 (by decide) k1 (fun _ h9 => h9) rfl dX8_fewest_162 ?_
              refine lv_iload hx hb dX8_fewest_165 (lv_at hl 3 rfl) ?_
              refine lv_dup2_11 hx hb dX8_fewest_167 rfl rfl ?_
              obtain ⟨h_16, hf⟩ := z_ix hf
              refine z_iald hx hb hK hP 141 0 (zX_141 cy ad S_12) rfl h_16 (k := (x_6.toNatClampNeg)) rfl dX8_fewest_168 ?_
              refine lv_iconst (v := 1) hx hb dX8_fewest_169 (by decide) ?_
              refine lv_iadd hx hb dX8_fewest_170 ?_
              obtain ⟨h_17, hf⟩ := z_ix hf
              refine z_iast hx hb hK hP (hD S_12) hS 141 0 (zX_141 cy ad S_12) rfl h_17 (k := (x_6.toNatClampNeg)) rfl dX8_fewest_171 (fun H locs hP hS => ?_)
              obtain ⟨S_18, eS_18, hf⟩ := z_nm hf
              have hP := zW_putI hP eS_18 (by decide) rfl
              exact J_172  S_18 _ _ _ hf hP hS (lv_sub hl [0, 1, 2, 3] rfl)
          have L_74 : ∀ (n_74 : Nat) (x_20 : Int32) (S_21 : zSt) (H : Heap) (locs : List Loc) (ls : Array Slot), fx_Settling_fewest_L74 x_1 x_3 x_6 j_151 n_74 x_20 S_21 = some (ro, So) → va_P D vwCl (zX cy ad S_21) H → va_S A s.heap H locs → lv_has ls 7 [(0, .ref (ad 138)), (2, .int x_1), (3, .int x_3), (4, .int x_6), (5, .int x_20)] → W p l e ({ frames := 1, cells := 0, slots := 0, locals := 200 }) s m ([.ref (ad 138), .ref (ad 4)] : List Value).toArray below meth c H locs 0 0 Q (F0 m 74 ls []) := by
            intro n_74
            induction n_74 with
            | zero =>
              intro x_20 S_21 H locs ls hf hP hS hl
              exact z_no hf
            | succ n_74 ih_74 =>
              intro x_20 S_21 H locs ls hf hP hS hl
              rw [fx_Settling_fewest_L74] at hf
              refine lv_iload hx hb dX8_fewest_74 (lv_at hl 4 rfl) ?_
              refine lv_iload_n hx hb dX8_fewest_76 rfl (lv_at hl 1 rfl) ?_
              refine lv_icmp_ge (tgt := 151) hx hb dX8_fewest_77 (by decide) (fun c_34 => ?_) (fun c_34 => ?_)
              · have hf := z_it c_34 hf
                exact J_151  S_21 _ _ _ hf hP hS (lv_sub hl [0, 1, 2, 3] rfl)
              · have hf := z_if c_34 hf
                refine lv_iload hx hb dX8_fewest_80 (lv_at hl 3 rfl) ?_
                refine lv_iconst (v := 1) hx hb dX8_fewest_82 (by decide) ?_
                refine lv_iload hx hb dX8_fewest_83 (lv_at hl 4 rfl) ?_
                refine lv_ishl hx hb dX8_fewest_85 ?_
                refine lv_iand hx hb dX8_fewest_86 ?_
                obtain ⟨j_145, ej_145, hf⟩ := z_nm hf
                have J_145 : ∀ (S_22 : zSt) (H : Heap) (locs : List Loc) (ls : Array Slot), j_145  S_22 = some (ro, So) → va_P D vwCl (zX cy ad S_22) H → va_S A s.heap H locs → lv_has ls 7 [(0, .ref (ad 138)), (2, .int x_1), (3, .int x_3), (4, .int x_6), (5, .int x_20)] → W p l e ({ frames := 1, cells := 0, slots := 0, locals := 200 }) s m ([.ref (ad 138), .ref (ad 4)] : List Value).toArray below meth c H locs 0 0 Q (F0 m 145 ls []) := by
                  intro  S_22 H locs ls hf hP hS hl
                  have hf := z_e1 ej_145 hf
                  obtain ⟨x_23, ex_23, hf⟩ := z_nm hf
                  refine lv_iinc (v := x_23) (lv' := [(5, .int x_23), (0, .ref (ad 138)), (2, .int x_1), (3, .int x_3), (4, .int x_6)]) hx hb dX8_fewest_145 hl (k := 4) rfl (by rw [ex_23]; rfl) (by decide) rfl (fun ls hl => ?_)
                  refine lv_goto (tgt := 74) hx hb dX8_fewest_148 (by decide) ?_
                  exact ih_74 x_23 S_22 _ _ _ hf hP hS (lv_sub hl [1, 2, 3, 4, 0] rfl)
                refine lv_if_eq (tgt := 145) hx hb dX8_fewest_87 (by decide) (fun c_33 => ?_) (fun c_33 => ?_)
                · have hf := z_it c_33 hf
                  exact J_145  S_21 _ _ _ hf hP hS (lv_sub hl [0, 1, 2, 3, 4] rfl)
                · have hf := z_if c_33 hf
                  refine lv_iload hx hb dX8_fewest_90 (lv_at hl 3 rfl) ?_
                  refine lv_iconst (v := 1) hx hb dX8_fewest_92 (by decide) ?_
                  refine lv_iload hx hb dX8_fewest_93 (lv_at hl 4 rfl) ?_
                  refine lv_ishl hx hb dX8_fewest_95 ?_
                  refine lv_ixor hx hb dX8_fewest_96 ?_
                  refine lv_topi (fun x_24 ex_24 => ?_)
                  have hf := z_nv ex_24 hf
                  refine lv_istore (lv' := [(6, .int x_24), (0, .ref (ad 138)), (2, .int x_1), (3, .int x_3), (4, .int x_6), (5, .int x_20)]) hx hb dX8_fewest_97 hl (by decide) rfl (fun ls hl => ?_)
                  refine lv_aload_n hx hb dX8_fewest_99 rfl (lv_at hl 1 rfl) ?_
                  refine va_get (D := D) (ci := 8) (v := .ref (ad 140)) (C := RX8) (T := TX8) (N := 3) hx hb hts k0 hown hK hP 138 (zX_138 cy ad S_21) rfl 1 (by decide) k2 (fun _ h9 => h9) rfl dX8_fewest_100 ?_
                  refine lv_iload hx hb dX8_fewest_103 (lv_at hl 4 rfl) ?_
                  refine lv_aload_n hx hb dX8_fewest_105 rfl (lv_at hl 1 rfl) ?_
                  refine va_get (D := D) (ci := 8) (v := .ref (ad 140)) (C := RX8) (T := TX8) (N := 3) hx hb hts k0 hown hK hP 138 (zX_138 cy ad S_21) rfl 1 (by decide) k2 (fun _ h9 => h9) rfl dX8_fewest_106 ?_
                  refine lv_iload hx hb dX8_fewest_109 (lv_at hl 0 rfl) ?_
                  obtain ⟨h_25, hf⟩ := z_ix hf
                  refine z_iald hx hb hK hP 140 0 (zX_140 cy ad S_21) rfl h_25 (k := (x_24.toNatClampNeg)) rfl dX8_fewest_111 ?_
                  refine lv_aload_n hx hb dX8_fewest_112 rfl (lv_at hl 1 rfl) ?_
                  refine va_get (D := D) (ci := 8) (v := .ref (ad 139)) (C := RX8) (T := TX8) (N := 3) hx hb hts k0 hown hK hP 138 (zX_138 cy ad S_21) rfl 0 (by decide) k3 (fun _ h9 => h9) rfl dX8_fewest_113 ?_
                  refine lv_iload hx hb dX8_fewest_116 (lv_at hl 5 rfl) ?_
                  obtain ⟨h_26, hf⟩ := z_ix hf
                  refine z_iald hx hb hK hP 139 0 (zX_139 cy ad S_21) rfl h_26 (k := (x_20.toNatClampNeg)) rfl dX8_fewest_118 ?_
                  refine lv_iadd hx hb dX8_fewest_119 ?_
                  obtain ⟨h_27, hf⟩ := z_ix hf
                  refine z_iast hx hb hK hP (hD S_21) hS 140 0 (zX_140 cy ad S_21) rfl h_27 (k := (x_6.toNatClampNeg)) rfl dX8_fewest_120 (fun H locs hP hS => ?_)
                  obtain ⟨S_28, eS_28, hf⟩ := z_nm hf
                  have hP := zW_putI hP eS_28 (by decide) rfl
                  refine lv_aload_n hx hb dX8_fewest_121 rfl (lv_at hl 1 rfl) ?_
                  refine va_get (D := D) (ci := 8) (v := .ref (ad 141)) (C := RX8) (T := TX8) (N := 3) hx hb hts k0 hown hK hP 138 (zX_138 cy ad S_28) rfl 2 (by decide) k1 (fun _ h9 => h9) rfl dX8_fewest_122 ?_
                  refine lv_iload hx hb dX8_fewest_125 (lv_at hl 4 rfl) ?_
                  refine lv_aload_n hx hb dX8_fewest_127 rfl (lv_at hl 1 rfl) ?_
                  refine va_get (D := D) (ci := 8) (v := .ref (ad 141)) (C := RX8) (T := TX8) (N := 3) hx hb hts k0 hown hK hP 138 (zX_138 cy ad S_28) rfl 2 (by decide) k1 (fun _ h9 => h9) rfl dX8_fewest_128 ?_
                  refine lv_iload hx hb dX8_fewest_131 (lv_at hl 4 rfl) ?_
                  obtain ⟨h_29, hf⟩ := z_ix hf
                  refine z_iald hx hb hK hP 141 0 (zX_141 cy ad S_28) rfl h_29 (k := (x_6.toNatClampNeg)) rfl dX8_fewest_133 ?_
                  refine lv_aload_n hx hb dX8_fewest_134 rfl (lv_at hl 1 rfl) ?_
                  refine va_get (D := D) (ci := 8) (v := .ref (ad 141)) (C := RX8) (T := TX8) (N := 3) hx hb hts k0 hown hK hP 138 (zX_138 cy ad S_28) rfl 2 (by decide) k1 (fun _ h9 => h9) rfl dX8_fewest_135 ?_
                  refine lv_iload hx hb dX8_fewest_138 (lv_at hl 0 rfl) ?_
                  obtain ⟨h_30, hf⟩ := z_ix hf
                  refine z_iald hx hb hK hP 141 0 (zX_141 cy ad S_28) rfl h_30 (k := (x_24.toNatClampNeg)) rfl dX8_fewest_140 ?_
                  refine va_mmax hx hb (by rw [hml]; exact hl.1.symm) hown k4 k5 k6 k7 (Nat.le_of_ble_eq_true rfl) (Nat.le_of_ble_eq_true rfl) (Nat.zero_le _) (Nat.zero_le _) dX8_fewest_141 ?_
                  obtain ⟨h_31, hf⟩ := z_ix hf
                  refine z_iast hx hb hK hP (hD S_28) hS 141 0 (zX_141 cy ad S_28) rfl h_31 (k := (x_6.toNatClampNeg)) rfl dX8_fewest_144 (fun H locs hP hS => ?_)
                  obtain ⟨S_32, eS_32, hf⟩ := z_nm hf
                  have hP := zW_putI hP eS_32 (by decide) rfl
                  exact J_145  S_32 _ _ _ hf hP hS (lv_sub hl [1, 2, 3, 4, 5] rfl)
          exact L_74 zFU (0 : Int32) S_11 _ _ _ hf hP hS (lv_sub hl [1, 2, 3, 4, 0] rfl)
    exact L_49 zFU (1 : Int32) S_2 _ _ _ hf hP hS (lv_sub hl [2, 3, 1, 0] rfl)
  have L_4 : ∀ (n_4 : Nat) (x_36 : Int32) (x_37 : Int32) (S_38 : zSt) (H : Heap) (locs : List Loc) (ls : Array Slot), fx_Settling_fewest_L4 j_42 n_4 x_36 x_37 S_38 = some (ro, So) → va_P D vwCl (zX cy ad S_38) H → va_S A s.heap H locs → lv_has ls 7 [(0, .ref (ad 138)), (1, .ref (ad 4)), (2, .int x_36), (3, .int x_37)] → W p l e ({ frames := 1, cells := 0, slots := 0, locals := 200 }) s m ([.ref (ad 138), .ref (ad 4)] : List Value).toArray below meth c H locs 0 0 Q (F0 m 4 ls []) := by
    intro n_4
    induction n_4 with
    | zero =>
      intro x_36 x_37 S_38 H locs ls hf hP hS hl
      exact z_no hf
    | succ n_4 ih_4 =>
      intro x_36 x_37 S_38 H locs ls hf hP hS hl
      rw [fx_Settling_fewest_L4] at hf
      refine lv_iload_n hx hb dX8_fewest_4 rfl (lv_at hl 3 rfl) ?_
      refine lv_aload_n hx hb dX8_fewest_5 rfl (lv_at hl 1 rfl) ?_
      refine va_get (D := D) (ci := 2) (v := .int (S_38.1 4 0)) (C := RX2) (T := TX2) (N := 7) hx hb hts k8 hown hK hP 4 (zX_4 cy ad S_38) rfl 0 (by decide) k9 (fun _ h9 => h9) rfl dX8_fewest_6 ?_
      refine lv_icmp_ge (tgt := 42) hx hb dX8_fewest_9 (by decide) (fun c_48 => ?_) (fun c_48 => ?_)
      · have hf := z_it c_48 hf
        exact J_42 x_36 S_38 _ _ _ hf hP hS (lv_sub hl [0, 2] rfl)
      · have hf := z_if c_48 hf
        refine lv_aload_n hx hb dX8_fewest_12 rfl (lv_at hl 1 rfl) ?_
        refine va_get (D := D) (ci := 2) (v := .ref (ad 10)) (C := RX2) (T := TX2) (N := 7) hx hb hts k8 hown hK hP 4 (zX_4 cy ad S_38) rfl 6 (by decide) k10 (fun _ h9 => h9) rfl dX8_fewest_13 ?_
        refine lv_iload_n hx hb dX8_fewest_16 rfl (lv_at hl 3 rfl) ?_
        obtain ⟨h_39, hf⟩ := z_ix hf
        refine z_iald hx hb hK hP 10 0 (zX_10 cy ad S_38) rfl h_39 (k := (x_37.toNatClampNeg)) rfl dX8_fewest_17 ?_
        obtain ⟨j_36, ej_36, hf⟩ := z_nm hf
        have J_36 : ∀ (x_40 : Int32) (S_41 : zSt) (H : Heap) (locs : List Loc) (ls : Array Slot), j_36 x_40 S_41 = some (ro, So) → va_P D vwCl (zX cy ad S_41) H → va_S A s.heap H locs → lv_has ls 7 [(0, .ref (ad 138)), (1, .ref (ad 4)), (2, .int x_40), (3, .int x_37)] → W p l e ({ frames := 1, cells := 0, slots := 0, locals := 200 }) s m ([.ref (ad 138), .ref (ad 4)] : List Value).toArray below meth c H locs 0 0 Q (F0 m 36 ls []) := by
          intro x_40 S_41 H locs ls hf hP hS hl
          have hf := z_e2 ej_36 hf
          obtain ⟨x_42, ex_42, hf⟩ := z_nm hf
          refine lv_iinc (v := x_42) (lv' := [(3, .int x_42), (0, .ref (ad 138)), (1, .ref (ad 4)), (2, .int x_40)]) hx hb dX8_fewest_36 hl (k := 3) rfl (by rw [ex_42]; rfl) (by decide) rfl (fun ls hl => ?_)
          refine lv_goto (tgt := 4) hx hb dX8_fewest_39 (by decide) ?_
          exact ih_4 x_40 x_42 S_41 _ _ _ hf hP hS (lv_sub hl [1, 2, 3, 0] rfl)
        refine lv_if_eq (tgt := 36) hx hb dX8_fewest_18 (by decide) (fun c_47 => ?_) (fun c_47 => ?_)
        · have hf := z_it c_47 hf
          exact J_36 x_36 S_38 _ _ _ hf hP hS (lv_sub hl [0, 1, 2, 3] rfl)
        · have hf := z_if c_47 hf
          refine lv_aload_n hx hb dX8_fewest_21 rfl (lv_at hl 0 rfl) ?_
          refine va_get (D := D) (ci := 8) (v := .ref (ad 139)) (C := RX8) (T := TX8) (N := 3) hx hb hts k0 hown hK hP 138 (zX_138 cy ad S_38) rfl 0 (by decide) k3 (fun _ h9 => h9) rfl dX8_fewest_22 ?_
          refine lv_iload_n hx hb dX8_fewest_25 rfl (lv_at hl 2 rfl) ?_
          refine lv_aload_n hx hb dX8_fewest_26 rfl (lv_at hl 1 rfl) ?_
          refine va_get (D := D) (ci := 2) (v := .ref (ad 10)) (C := RX2) (T := TX2) (N := 7) hx hb hts k8 hown hK hP 4 (zX_4 cy ad S_38) rfl 6 (by decide) k10 (fun _ h9 => h9) rfl dX8_fewest_27 ?_
          refine lv_iload_n hx hb dX8_fewest_30 rfl (lv_at hl 3 rfl) ?_
          obtain ⟨h_43, hf⟩ := z_ix hf
          refine z_iald hx hb hK hP 10 0 (zX_10 cy ad S_38) rfl h_43 (k := (x_37.toNatClampNeg)) rfl dX8_fewest_31 ?_
          obtain ⟨h_44, hf⟩ := z_ix hf
          refine z_iast hx hb hK hP (hD S_38) hS 139 0 (zX_139 cy ad S_38) rfl h_44 (k := (x_36.toNatClampNeg)) rfl dX8_fewest_32 (fun H locs hP hS => ?_)
          obtain ⟨S_45, eS_45, hf⟩ := z_nm hf
          have hP := zW_putI hP eS_45 (by decide) rfl
          obtain ⟨x_46, ex_46, hf⟩ := z_nm hf
          refine lv_iinc (v := x_46) (lv' := [(2, .int x_46), (0, .ref (ad 138)), (1, .ref (ad 4)), (3, .int x_37)]) hx hb dX8_fewest_33 hl (k := 2) rfl (by rw [ex_46]; rfl) (by decide) rfl (fun ls hl => ?_)
          exact J_36 x_46 S_45 _ _ _ hf hP hS (lv_sub hl [1, 2, 0, 3] rfl)
  exact L_4 zFU (0 : Int32) (0 : Int32) S_0 _ _ _ hf hP hS (lv_sub hl [2, 3, 1, 0] rfl)
theorem yd_yX9_add : (yX9_add).cls ≠ "java/lang/invoke/MethodHandle" ∧ (yX9_add).cls ≠ "java/lang/invoke/VarHandle" ∧ (parseMethodDescriptor (yX9_add).desc).map (fun d => d.parameters.length) = some 1 := by decide +kernel
def fx_Tape_add_L3 (a_1 : Int32) (j_49 : zSt → Option (Unit × zSt)) : Nat → Int32 → zSt → Option (Unit × zSt)
  | 0, _, _ => none
  | n_3 + 1, x_2, S_3 =>
    if x_2 < 0 then (
    j_49  S_3) else (
    if (400 : Int32) ≤ (S_3.1 1 1) then (
    j_49  S_3) else (
    zck (zix (S_3.1 1 1) 400) <|
    znm (zpI S_3 2 ((S_3.1 1 1).toNatClampNeg) (((a_1.toUInt32 >>> (x_2.toUInt32 &&& Int32.toUInt32 31)).toInt32) &&& (255 : Int32))) fun S_5 =>
    znm (zpI S_5 1 1 ((S_5.1 1 1) + (1 : Int32))) fun S_6 =>
    znm (x_2 + (-8 : Int32)) fun x_7 =>
    fx_Tape_add_L3 a_1 j_49 n_3 x_7 S_6))
def fx_Tape_add (S_0 : zSt) (a_1 : Int32) : Option (Unit × zSt) :=
  znm (fun (S_1 : zSt) =>
  some ((), S_1)) fun j_49 =>
  fx_Tape_add_L3 a_1 j_49 zFU (24 : Int32) S_0
set_option maxHeartbeats 4000000 in
set_option maxRecDepth 100000 in
theorem cx_Tape_add (l : Launch) (D : va_G) (K : (Nat → Nat) × (Nat → Nat)) (cy : Nat → ClassId) (ad : Nat → Nat) (S_0 : zSt) (a_1 : Int32) (So : zSt) (hf : fx_Tape_add S_0 a_1 = some ((), So)) : zMV l yX9_add (zws yX9_add cX9_add 3 none) ({ frames := 0, cells := 0, slots := 0, locals := 0 }) D (zTy cy) K (zX cy ad) [.ref (ad 1), .int a_1] S_0 So := by
  refine z_metV (own := RX9) (lv := [(0, .ref (ad 1)), (1, .int a_1)]) (by decide) rfl rfl (Nat.le_of_ble_eq_true rfl) rfl ?_
  intro p e s m below meth c A Q X hK hE hD hA hret hP hS ls hl
  obtain ⟨hx, hb, hml, hown, hts⟩ := id X
  have k0 := (fun w h => List.mem_cons_of_mem _ (zFX9 w h) : ∀ w ∈ u_ws RX9 TX9 2, w ∈ zws yX9_add cX9_add 3 none)
  have k1 := hts _ (List.mem_cons_of_mem _ wt_1_41)
  have k2 := hts _ (List.mem_cons_of_mem _ wt_1_37)
  refine lv_bipush (v := 24) hx hb dX9_add_0 (by decide) ?_
  refine lv_istore_n (lv' := [(2, .int (24 : Int32)), (0, .ref (ad 1)), (1, .int a_1)]) hx hb dX9_add_2 rfl hl (by decide) rfl (fun ls hl => ?_)
  obtain ⟨j_49, ej_49, hf⟩ := z_nm hf
  have J_49 : ∀ (S_1 : zSt) (H : Heap) (locs : List Loc) (ls : Array Slot), j_49  S_1 = some ((), So) → va_P D vwCl (zX cy ad S_1) H → va_S A s.heap H locs → lv_has ls 3 [] → W p l e ({ frames := 0, cells := 0, slots := 0, locals := 0 }) s m ([.ref (ad 1), .int a_1] : List Value).toArray below meth c H locs 0 0 Q (F0 m 49 ls []) := by
    intro  S_1 H locs ls hf hP hS hl
    have hf := z_e1 ej_49 hf
    obtain ⟨h1, h2⟩ := z_s2 hf
    subst h2
    exact hret _ _ _ _ hP hS dX9_add_49
  have L_3 : ∀ (n_3 : Nat) (x_2 : Int32) (S_3 : zSt) (H : Heap) (locs : List Loc) (ls : Array Slot), fx_Tape_add_L3 a_1 j_49 n_3 x_2 S_3 = some ((), So) → va_P D vwCl (zX cy ad S_3) H → va_S A s.heap H locs → lv_has ls 3 [(0, .ref (ad 1)), (1, .int a_1), (2, .int x_2)] → W p l e ({ frames := 0, cells := 0, slots := 0, locals := 0 }) s m ([.ref (ad 1), .int a_1] : List Value).toArray below meth c H locs 0 0 Q (F0 m 3 ls []) := by
    intro n_3
    induction n_3 with
    | zero =>
      intro x_2 S_3 H locs ls hf hP hS hl
      exact z_no hf
    | succ n_3 ih_3 =>
      intro x_2 S_3 H locs ls hf hP hS hl
      rw [fx_Tape_add_L3] at hf
      refine lv_iload_n hx hb dX9_add_3 rfl (lv_at hl 2 rfl) ?_
      refine lv_if_lt (tgt := 49) hx hb dX9_add_4 (by decide) (fun c_9 => ?_) (fun c_9 => ?_)
      · have hf := z_it c_9 hf
        exact J_49  S_3 _ _ _ hf hP hS (lv_sub hl [] rfl)
      · have hf := z_if c_9 hf
        refine lv_aload_n hx hb dX9_add_7 rfl (lv_at hl 0 rfl) ?_
        refine va_get (D := D) (ci := 9) (v := .int (S_3.1 1 1)) (C := RX9) (T := TX9) (N := 2) hx hb hts k0 hown hK hP 1 (zX_1 cy ad S_3) rfl 1 (by decide) k1 (fun _ h9 => h9) rfl dX9_add_8 ?_
        refine lv_sipush (v := 400) hx hb dX9_add_11 (by decide) ?_
        refine lv_icmp_ge (tgt := 49) hx hb dX9_add_14 (by decide) (fun c_8 => ?_) (fun c_8 => ?_)
        · have hf := z_it c_8 hf
          exact J_49  S_3 _ _ _ hf hP hS (lv_sub hl [] rfl)
        · have hf := z_if c_8 hf
          refine lv_aload_n hx hb dX9_add_17 rfl (lv_at hl 0 rfl) ?_
          refine va_get (D := D) (ci := 9) (v := .ref (ad 2)) (C := RX9) (T := TX9) (N := 2) hx hb hts k0 hown hK hP 1 (zX_1 cy ad S_3) rfl 0 (by decide) k2 (fun _ h9 => h9) rfl dX9_add_18 ?_
          refine lv_aload_n hx hb dX9_add_21 rfl (lv_at hl 0 rfl) ?_
          refine va_get (D := D) (ci := 9) (v := .int (S_3.1 1 1)) (C := RX9) (T := TX9) (N := 2) hx hb hts k0 hown hK hP 1 (zX_1 cy ad S_3) rfl 1 (by decide) k1 (fun _ h9 => h9) rfl dX9_add_22 ?_
          refine lv_iload_n hx hb dX9_add_25 rfl (lv_at hl 1 rfl) ?_
          refine lv_iload_n hx hb dX9_add_26 rfl (lv_at hl 2 rfl) ?_
          refine lv_iushr hx hb dX9_add_27 rfl ?_
          refine lv_sipush (v := 255) hx hb dX9_add_28 (by decide) ?_
          refine lv_iand hx hb dX9_add_31 ?_
          obtain ⟨h_4, hf⟩ := z_ix hf
          refine z_iast hx hb hK hP (hD S_3) hS 2 0 (zX_2 cy ad S_3) rfl h_4 (k := ((S_3.1 1 1).toNatClampNeg)) rfl dX9_add_32 (fun H locs hP hS => ?_)
          obtain ⟨S_5, eS_5, hf⟩ := z_nm hf
          have hP := zW_putI hP eS_5 (by decide) rfl
          refine lv_aload_n hx hb dX9_add_33 rfl (lv_at hl 0 rfl) ?_
          refine lv_dup hx hb dX9_add_34 rfl ?_
          refine va_get (D := D) (ci := 9) (v := .int (S_5.1 1 1)) (C := RX9) (T := TX9) (N := 2) hx hb hts k0 hown hK hP 1 (zX_1 cy ad S_5) rfl 1 (by decide) k1 (fun _ h9 => h9) rfl dX9_add_35 ?_
          refine lv_iconst (v := 1) hx hb dX9_add_38 (by decide) ?_
          refine lv_iadd hx hb dX9_add_39 ?_
          refine va_put (D := D) (ci := 9) (v := .int ((S_5.1 1 1) + (1 : Int32))) (ty := .int) (C := RX9) (T := TX9) (N := 2) hx hb hts k0 tyX9 tyX9_ok nmX9 hown hK hP (hD S_5) hS 1 (zX_1 cy ad S_5) rfl 1 (by decide) k1 (fun _ h9 => h9) rfl (tyX9_ok 1 (by decide)) rfl rfl (Nat.le_of_ble_eq_true rfl) dX9_add_40 (fun H locs hP _ hS => ?_)
          obtain ⟨S_6, eS_6, hf⟩ := z_nm hf
          have hP := zW_putI hP eS_6 (by decide) rfl
          obtain ⟨x_7, ex_7, hf⟩ := z_nm hf
          refine lv_iinc (v := x_7) (lv' := [(2, .int x_7), (0, .ref (ad 1)), (1, .int a_1)]) hx hb dX9_add_43 hl (k := 2) rfl (by rw [ex_7]; rfl) (by decide) rfl (fun ls hl => ?_)
          refine lv_goto (tgt := 3) hx hb dX9_add_46 (by decide) ?_
          exact ih_3 x_7 S_6 _ _ _ hf hP hS (lv_sub hl [1, 2, 0] rfl)
  exact L_3 zFU (24 : Int32) S_0 _ _ _ hf hP hS (lv_sub hl [1, 2, 0] rfl)
theorem yd_yX9_isMark : (yX9_isMark).cls ≠ "java/lang/invoke/MethodHandle" ∧ (yX9_isMark).cls ≠ "java/lang/invoke/VarHandle" ∧ (parseMethodDescriptor (yX9_isMark).desc).map (fun d => d.parameters.length) = some 0 := by decide +kernel
def fx_Tape_isMark_L20 (j_46 : zSt → Option (Int32 × zSt)) : Nat → Int32 → zSt → Option (Int32 × zSt)
  | 0, _, _ => none
  | n_20 + 1, x_3, S_4 =>
    if (S_4.1 1 1) ≤ x_3 then (
    some ((1 : Int32), S_4)) else (
    zbd (fx_Tape_letterAt S_4 x_3) fun r_5 S_6 =>
    if r_5 < 0 then (
    j_46  S_6) else (
    zbd (fx_Tape_letterAt S_6 x_3) fun r_8 S_9 =>
    if r_8 < (8 : Int32) then (
    znm (x_3 + (1 : Int32)) fun x_11 =>
    fx_Tape_isMark_L20 j_46 n_20 x_11 S_9) else (
    j_46  S_9)))
def fx_Tape_isMark (S_0 : zSt) : Option (Int32 × zSt) :=
  znm (fun (S_1 : zSt) =>
  some ((0 : Int32), S_1)) fun j_16 =>
  if (S_0.1 1 1) < (1 : Int32) then (
  j_16  S_0) else (
  if (S_0.1 1 1) ≤ (5 : Int32) then (
  znm (fun (S_2 : zSt) =>
  some ((0 : Int32), S_2)) fun j_46 =>
  fx_Tape_isMark_L20 j_46 zFU (0 : Int32) S_0) else (
  j_16  S_0))
set_option maxHeartbeats 4000000 in
set_option maxRecDepth 100000 in
theorem cx_Tape_isMark (l : Launch) (D : va_G) (K : (Nat → Nat) × (Nat → Nat)) (cy : Nat → ClassId) (ad : Nat → Nat) (S_0 : zSt) (ro : Int32) (So : zSt) (hf : fx_Tape_isMark S_0 = some (ro, So)) : zMI l yX9_isMark (zws yX9_isMark cX9_isMark 2 (Option.some .boolean)) ({ frames := 1, cells := 0, slots := 0, locals := 21 }) D (zTy cy) K (zX cy ad) [.ref (ad 1)] S_0 ro So := by
  refine z_metZ (own := RX9) (lv := [(0, .ref (ad 1))]) (by decide) rfl rfl (Nat.le_of_ble_eq_true rfl) rfl ?_
  intro p e s m below meth c A Q X hK hE hD hA hret hP hS ls hl
  obtain ⟨hx, hb, hml, hown, hts⟩ := id X
  have k0 := (fun w h => List.mem_cons_of_mem _ (zFX9 w h) : ∀ w ∈ u_ws RX9 TX9 2, w ∈ zws yX9_isMark cX9_isMark 2 (Option.some .boolean))
  have k1 := hts _ (List.mem_cons_of_mem _ wt_1_41)
  refine lv_aload_n hx hb dX9_isMark_0 rfl (lv_at hl 0 rfl) ?_
  refine va_get (D := D) (ci := 9) (v := .int (S_0.1 1 1)) (C := RX9) (T := TX9) (N := 2) hx hb hts k0 hown hK hP 1 (zX_1 cy ad S_0) rfl 1 (by decide) k1 (fun _ h9 => h9) rfl dX9_isMark_1 ?_
  refine lv_iconst (v := 1) hx hb dX9_isMark_4 (by decide) ?_
  obtain ⟨j_16, ej_16, hf⟩ := z_nm hf
  have J_16 : ∀ (S_1 : zSt) (H : Heap) (locs : List Loc) (ls : Array Slot), j_16  S_1 = some (ro, So) → va_P D vwCl (zX cy ad S_1) H → va_S A s.heap H locs → lv_has ls 2 [] → W p l e ({ frames := 1, cells := 0, slots := 0, locals := 21 }) s m ([.ref (ad 1)] : List Value).toArray below meth c H locs 0 0 Q (F0 m 16 ls []) := by
    intro  S_1 H locs ls hf hP hS hl
    have hf := z_e1 ej_16 hf
    refine lv_iconst (v := 0) hx hb dX9_isMark_16 (by decide) ?_
    obtain ⟨h1, h2⟩ := z_s2 hf
    subst h1 h2
    exact hret _ _ _ _ rfl hP hS dX9_isMark_17
  refine lv_icmp_lt (tgt := 16) hx hb dX9_isMark_5 (by decide) (fun c_16 => ?_) (fun c_16 => ?_)
  · have hf := z_it c_16 hf
    exact J_16  S_0 _ _ _ hf hP hS (lv_sub hl [] rfl)
  · have hf := z_if c_16 hf
    refine lv_aload_n hx hb dX9_isMark_8 rfl (lv_at hl 0 rfl) ?_
    refine va_get (D := D) (ci := 9) (v := .int (S_0.1 1 1)) (C := RX9) (T := TX9) (N := 2) hx hb hts k0 hown hK hP 1 (zX_1 cy ad S_0) rfl 1 (by decide) k1 (fun _ h9 => h9) rfl dX9_isMark_9 ?_
    refine lv_iconst (v := 5) hx hb dX9_isMark_12 (by decide) ?_
    refine lv_icmp_le (tgt := 18) hx hb dX9_isMark_13 (by decide) (fun c_15 => ?_) (fun c_15 => ?_)
    · have hf := z_it c_15 hf
      refine lv_iconst (v := 0) hx hb dX9_isMark_18 (by decide) ?_
      refine lv_istore_n (lv' := [(1, .int (0 : Int32)), (0, .ref (ad 1))]) hx hb dX9_isMark_19 rfl hl (by decide) rfl (fun ls hl => ?_)
      obtain ⟨j_46, ej_46, hf⟩ := z_nm hf
      have J_46 : ∀ (S_2 : zSt) (H : Heap) (locs : List Loc) (ls : Array Slot), j_46  S_2 = some (ro, So) → va_P D vwCl (zX cy ad S_2) H → va_S A s.heap H locs → lv_has ls 2 [] → W p l e ({ frames := 1, cells := 0, slots := 0, locals := 21 }) s m ([.ref (ad 1)] : List Value).toArray below meth c H locs 0 0 Q (F0 m 46 ls []) := by
        intro  S_2 H locs ls hf hP hS hl
        have hf := z_e1 ej_46 hf
        refine lv_iconst (v := 0) hx hb dX9_isMark_46 (by decide) ?_
        obtain ⟨h1, h2⟩ := z_s2 hf
        subst h1 h2
        exact hret _ _ _ _ rfl hP hS dX9_isMark_47
      have L_20 : ∀ (n_20 : Nat) (x_3 : Int32) (S_4 : zSt) (H : Heap) (locs : List Loc) (ls : Array Slot), fx_Tape_isMark_L20 j_46 n_20 x_3 S_4 = some (ro, So) → va_P D vwCl (zX cy ad S_4) H → va_S A s.heap H locs → lv_has ls 2 [(0, .ref (ad 1)), (1, .int x_3)] → W p l e ({ frames := 1, cells := 0, slots := 0, locals := 21 }) s m ([.ref (ad 1)] : List Value).toArray below meth c H locs 0 0 Q (F0 m 20 ls []) := by
        intro n_20
        induction n_20 with
        | zero =>
          intro x_3 S_4 H locs ls hf hP hS hl
          exact z_no hf
        | succ n_20 ih_20 =>
          intro x_3 S_4 H locs ls hf hP hS hl
          rw [fx_Tape_isMark_L20] at hf
          refine lv_iload_n hx hb dX9_isMark_20 rfl (lv_at hl 1 rfl) ?_
          refine lv_aload_n hx hb dX9_isMark_21 rfl (lv_at hl 0 rfl) ?_
          refine va_get (D := D) (ci := 9) (v := .int (S_4.1 1 1)) (C := RX9) (T := TX9) (N := 2) hx hb hts k0 hown hK hP 1 (zX_1 cy ad S_4) rfl 1 (by decide) k1 (fun _ h9 => h9) rfl dX9_isMark_22 ?_
          refine lv_icmp_ge (tgt := 54) hx hb dX9_isMark_25 (by decide) (fun c_14 => ?_) (fun c_14 => ?_)
          · have hf := z_it c_14 hf
            refine lv_iconst (v := 1) hx hb dX9_isMark_54 (by decide) ?_
            obtain ⟨h1, h2⟩ := z_s2 hf
            subst h1 h2
            exact hret _ _ _ _ rfl hP hS dX9_isMark_55
          · have hf := z_if c_14 hf
            refine lv_aload_n hx hb dX9_isMark_28 rfl (lv_at hl 0 rfl) ?_
            refine lv_iload_n hx hb dX9_isMark_29 rfl (lv_at hl 1 rfl) ?_
            obtain ⟨r_5, S_6, h_7, hf⟩ := z_bd hf
            refine z_cVI (As := [.int x_3]) (rest := []) X hK hE hD hA hP hS (cx_Tape_letterAt l D K cy ad S_4 _ _ _ h_7) (cwV 1 hts (z_gV wt_2_226 wt_2_227 wt_2_228 wt_1_2 wt_2_229) rfl rfl rfl ⟨rfl, yd_yX9_letterAt⟩ ⟨Nat.le_of_ble_eq_true rfl, Nat.le_of_ble_eq_true rfl⟩) (va_recv hK hP (ci := 9) (q0 := 1) rfl (zX_1 cy ad S_4)) hl.1 rfl rfl (Nat.le_of_ble_eq_true rfl) dX9_isMark_30 (fun H locs hP hS => ?_)
            refine lv_if_lt (tgt := 46) hx hb dX9_isMark_33 (by decide) (fun c_13 => ?_) (fun c_13 => ?_)
            · have hf := z_it c_13 hf
              exact J_46  S_6 _ _ _ hf hP hS (lv_sub hl [] rfl)
            · have hf := z_if c_13 hf
              refine lv_aload_n hx hb dX9_isMark_36 rfl (lv_at hl 0 rfl) ?_
              refine lv_iload_n hx hb dX9_isMark_37 rfl (lv_at hl 1 rfl) ?_
              obtain ⟨r_8, S_9, h_10, hf⟩ := z_bd hf
              refine z_cVI (As := [.int x_3]) (rest := []) X hK hE hD hA hP hS (cx_Tape_letterAt l D K cy ad S_6 _ _ _ h_10) (cwV 1 hts (z_gV wt_2_226 wt_2_227 wt_2_228 wt_1_2 wt_2_229) rfl rfl rfl ⟨rfl, yd_yX9_letterAt⟩ ⟨Nat.le_of_ble_eq_true rfl, Nat.le_of_ble_eq_true rfl⟩) (va_recv hK hP (ci := 9) (q0 := 1) rfl (zX_1 cy ad S_6)) hl.1 rfl rfl (Nat.le_of_ble_eq_true rfl) dX9_isMark_38 (fun H locs hP hS => ?_)
              refine lv_bipush (v := 8) hx hb dX9_isMark_41 (by decide) ?_
              refine lv_icmp_lt (tgt := 48) hx hb dX9_isMark_43 (by decide) (fun c_12 => ?_) (fun c_12 => ?_)
              · have hf := z_it c_12 hf
                obtain ⟨x_11, ex_11, hf⟩ := z_nm hf
                refine lv_iinc (v := x_11) (lv' := [(1, .int x_11), (0, .ref (ad 1))]) hx hb dX9_isMark_48 hl (k := 1) rfl (by rw [ex_11]; rfl) (by decide) rfl (fun ls hl => ?_)
                refine lv_goto (tgt := 20) hx hb dX9_isMark_51 (by decide) ?_
                exact ih_20 x_11 S_9 _ _ _ hf hP hS (lv_sub hl [1, 0] rfl)
              · have hf := z_if c_12 hf
                exact J_46  S_9 _ _ _ hf hP hS (lv_sub hl [] rfl)
      exact L_20 zFU (0 : Int32) S_0 _ _ _ hf hP hS (lv_sub hl [1, 0] rfl)
    · have hf := z_if c_15 hf
      exact J_16  S_0 _ _ _ hf hP hS (lv_sub hl [] rfl)
theorem yd_yX11_state : (yX11_state).cls ≠ "java/lang/invoke/MethodHandle" ∧ (yX11_state).cls ≠ "java/lang/invoke/VarHandle" ∧ (parseMethodDescriptor (yX11_state).desc).map (fun d => d.parameters.length) = some 1 := by decide +kernel
def fx_state (S_0 : zSt) (a_1 : Int32) : Option (Int32 × zSt) :=
  znm (S_0.1 11 0) fun x_1 =>
  znm (zpI S_0 11 0 a_1) fun S_2 =>
  some (x_1, S_2)
set_option maxHeartbeats 4000000 in
set_option maxRecDepth 100000 in
theorem cx_state (l : Launch) (D : va_G) (K : (Nat → Nat) × (Nat → Nat)) (cy : Nat → ClassId) (ad : Nat → Nat) (S_0 : zSt) (a_1 : Int32) (ro : Int32) (So : zSt) (hf : fx_state S_0 a_1 = some (ro, So)) : zMI l yX11_state (zws yX11_state cX11_state 3 (Option.some .int)) ({ frames := 0, cells := 0, slots := 0, locals := 0 }) D (zTy cy) K (zX cy ad) [.ref (ad 0), .int a_1] S_0 ro So := by
  refine z_metI (own := RX11) (lv := [(0, .ref (ad 0)), (1, .int a_1)]) (by decide) rfl rfl (Nat.le_of_ble_eq_true rfl) rfl ?_
  intro p e s m below meth c A Q X hK hE hD hA hret hP hS ls hl
  obtain ⟨hx, hb, hml, hown, hts⟩ := id X
  have k0 := (fun w h => List.mem_cons_of_mem _ (zFX11 w h) : ∀ w ∈ u_ws RX11 TX11 8, w ∈ zws yX11_state cX11_state 3 (Option.some .int))
  have k1 := hts _ (List.mem_cons_of_mem _ wt_2_175)
  have k2 := (fun w h => List.mem_cons_of_mem _ (zFX0 w h) : ∀ w ∈ u_ws RX0 TX0 6, w ∈ zws yX11_state cX11_state 3 (Option.some .int))
  have k3 := hts _ (List.mem_cons_of_mem _ wt_1_237)
  have k4 := (fun w h => List.mem_cons_of_mem _ (zFX10 w h) : ∀ w ∈ u_ws RX10 TX10 12, w ∈ zws yX11_state cX11_state 3 (Option.some .int))
  have k5 := hts _ (List.mem_cons_of_mem _ wt_1_108)
  refine lv_aload_n hx hb dX11_state_0 rfl (lv_at hl 0 rfl) ?_
  refine va_get (D := D) (ci := 11) (v := .ref (ad 3)) (C := RX11) (T := TX11) (N := 8) hx hb hts k0 hown hK hP 0 (zX_0 cy ad S_0) rfl 1 (by decide) k1 (fun _ h9 => h9) rfl dX11_state_1 ?_
  refine va_get (D := D) (ci := 0) (v := .ref (ad 11)) (C := RX0) (T := TX0) (N := 6) hx hb hts k2 hown hK hP 3 (zX_3 cy ad S_0) rfl 1 (by decide) k3 (fun _ h9 => h9) rfl dX11_state_4 ?_
  refine va_get (D := D) (ci := 10) (v := .int (S_0.1 11 0)) (C := RX10) (T := TX10) (N := 12) hx hb hts k4 hown hK hP 11 (zX_11 cy ad S_0) rfl 0 (by decide) k5 (fun _ h9 => h9) rfl dX11_state_7 ?_
  refine lv_topi (fun x_1 ex_1 => ?_)
  have hf := z_nv ex_1 hf
  refine lv_istore_n (lv' := [(2, .int x_1), (0, .ref (ad 0)), (1, .int a_1)]) hx hb dX11_state_10 rfl hl (by decide) rfl (fun ls hl => ?_)
  refine lv_aload_n hx hb dX11_state_11 rfl (lv_at hl 1 rfl) ?_
  refine va_get (D := D) (ci := 11) (v := .ref (ad 3)) (C := RX11) (T := TX11) (N := 8) hx hb hts k0 hown hK hP 0 (zX_0 cy ad S_0) rfl 1 (by decide) k1 (fun _ h9 => h9) rfl dX11_state_12 ?_
  refine va_get (D := D) (ci := 0) (v := .ref (ad 11)) (C := RX0) (T := TX0) (N := 6) hx hb hts k2 hown hK hP 3 (zX_3 cy ad S_0) rfl 1 (by decide) k3 (fun _ h9 => h9) rfl dX11_state_15 ?_
  refine lv_iload_n hx hb dX11_state_18 rfl (lv_at hl 2 rfl) ?_
  refine va_put (D := D) (ci := 10) (v := .int a_1) (ty := .int) (C := RX10) (T := TX10) (N := 12) hx hb hts k4 tyX10 tyX10_ok nmX10 hown hK hP (hD S_0) hS 11 (zX_11 cy ad S_0) rfl 0 (by decide) k5 (fun _ h9 => h9) rfl (tyX10_ok 0 (by decide)) rfl rfl (Nat.le_of_ble_eq_true rfl) dX11_state_19 (fun H locs hP _ hS => ?_)
  obtain ⟨S_2, eS_2, hf⟩ := z_nm hf
  have hP := zW_putI hP eS_2 (by decide) rfl
  refine lv_iload_n hx hb dX11_state_22 rfl (lv_at hl 0 rfl) ?_
  obtain ⟨h1, h2⟩ := z_s2 hf
  subst h1 h2
  exact hret _ _ _ _ hP hS dX11_state_23
theorem yd_yX11_feed : (yX11_feed).cls ≠ "java/lang/invoke/MethodHandle" ∧ (yX11_feed).cls ≠ "java/lang/invoke/VarHandle" ∧ (parseMethodDescriptor (yX11_feed).desc).map (fun d => d.parameters.length) = some 5 := by decide +kernel
def fx_feed (S_0 : zSt) (a_1 : Int32) (a_2 : Int32) (a_3 : Int32) (a_4 : Int32) (a_5 : Int32) : Option (Int32 × zSt) :=
  if (S_0.1 1 1) ≤ (380 : Int32) then (
  zbd (fx_Tape_add S_0 a_1) fun _ S_2 =>
  zbd (fx_Tape_add S_2 a_2) fun _ S_5 =>
  zbd (fx_Tape_add S_5 a_3) fun _ S_8 =>
  zbd (fx_Tape_add S_8 a_4) fun _ S_11 =>
  zbd (fx_Tape_add S_11 a_5) fun _ S_14 =>
  some (S_14.1 1 1, S_14)) else (
  some ((-1 : Int32), S_0))
set_option maxHeartbeats 4000000 in
set_option maxRecDepth 100000 in
theorem cx_feed (l : Launch) (D : va_G) (K : (Nat → Nat) × (Nat → Nat)) (cy : Nat → ClassId) (ad : Nat → Nat) (S_0 : zSt) (a_1 : Int32) (a_2 : Int32) (a_3 : Int32) (a_4 : Int32) (a_5 : Int32) (ro : Int32) (So : zSt) (hf : fx_feed S_0 a_1 a_2 a_3 a_4 a_5 = some (ro, So)) : zMI l yX11_feed (zws yX11_feed cX11_feed 6 (Option.some .int)) ({ frames := 1, cells := 0, slots := 0, locals := 22 }) D (zTy cy) K (zX cy ad) [.ref (ad 0), .int a_1, .int a_2, .int a_3, .int a_4, .int a_5] S_0 ro So := by
  refine z_metI (own := RX11) (lv := [(0, .ref (ad 0)), (1, .int a_1), (2, .int a_2), (3, .int a_3), (4, .int a_4), (5, .int a_5)]) (by decide) rfl rfl (Nat.le_of_ble_eq_true rfl) rfl ?_
  intro p e s m below meth c A Q X hK hE hD hA hret hP hS ls hl
  obtain ⟨hx, hb, hml, hown, hts⟩ := id X
  have k0 := (fun w h => List.mem_cons_of_mem _ (zFX11 w h) : ∀ w ∈ u_ws RX11 TX11 8, w ∈ zws yX11_feed cX11_feed 6 (Option.some .int))
  have k1 := hts _ (List.mem_cons_of_mem _ wt_2_174)
  have k2 := (fun w h => List.mem_cons_of_mem _ (zFX9 w h) : ∀ w ∈ u_ws RX9 TX9 2, w ∈ zws yX11_feed cX11_feed 6 (Option.some .int))
  have k3 := hts _ (List.mem_cons_of_mem _ wt_1_44)
  refine lv_aload_n hx hb dX11_feed_0 rfl (lv_at hl 0 rfl) ?_
  refine va_get (D := D) (ci := 11) (v := .ref (ad 1)) (C := RX11) (T := TX11) (N := 8) hx hb hts k0 hown hK hP 0 (zX_0 cy ad S_0) rfl 0 (by decide) k1 (fun _ h9 => h9) rfl dX11_feed_1 ?_
  refine va_get (D := D) (ci := 9) (v := .int (S_0.1 1 1)) (C := RX9) (T := TX9) (N := 2) hx hb hts k2 hown hK hP 1 (zX_1 cy ad S_0) rfl 1 (by decide) k3 (fun _ h9 => h9) rfl dX11_feed_4 ?_
  refine lv_sipush (v := 380) hx hb dX11_feed_7 (by decide) ?_
  refine lv_icmp_le (tgt := 15) hx hb dX11_feed_10 (by decide) (fun c_16 => ?_) (fun c_16 => ?_)
  · have hf := z_it c_16 hf
    refine lv_aload_n hx hb dX11_feed_15 rfl (lv_at hl 0 rfl) ?_
    refine va_get (D := D) (ci := 11) (v := .ref (ad 1)) (C := RX11) (T := TX11) (N := 8) hx hb hts k0 hown hK hP 0 (zX_0 cy ad S_0) rfl 0 (by decide) k1 (fun _ h9 => h9) rfl dX11_feed_16 ?_
    refine lv_iload_n hx hb dX11_feed_19 rfl (lv_at hl 1 rfl) ?_
    obtain ⟨r_1, S_2, h_3, hf⟩ := z_bd hf
    refine z_cVV (As := [.int a_1]) (rest := []) X hK hE hD hA hP hS (cx_Tape_add l D K cy ad S_0 _ _ h_3) (cwV 1 hts (z_gV wt_2_207 wt_2_208 wt_2_209 wt_1_2 wt_2_210) rfl rfl rfl ⟨rfl, yd_yX9_add⟩ ⟨Nat.le_of_ble_eq_true rfl, Nat.le_of_ble_eq_true rfl⟩) (va_recv hK hP (ci := 9) (q0 := 1) rfl (zX_1 cy ad S_0)) hl.1 rfl rfl (Nat.le_of_ble_eq_true rfl) dX11_feed_20 (fun H locs hP hS => ?_)
    refine lv_aload_n hx hb dX11_feed_23 rfl (lv_at hl 0 rfl) ?_
    refine va_get (D := D) (ci := 11) (v := .ref (ad 1)) (C := RX11) (T := TX11) (N := 8) hx hb hts k0 hown hK hP 0 (zX_0 cy ad S_2) rfl 0 (by decide) k1 (fun _ h9 => h9) rfl dX11_feed_24 ?_
    refine lv_iload_n hx hb dX11_feed_27 rfl (lv_at hl 2 rfl) ?_
    obtain ⟨r_4, S_5, h_6, hf⟩ := z_bd hf
    refine z_cVV (As := [.int a_2]) (rest := []) X hK hE hD hA hP hS (cx_Tape_add l D K cy ad S_2 _ _ h_6) (cwV 1 hts (z_gV wt_2_207 wt_2_208 wt_2_209 wt_1_2 wt_2_210) rfl rfl rfl ⟨rfl, yd_yX9_add⟩ ⟨Nat.le_of_ble_eq_true rfl, Nat.le_of_ble_eq_true rfl⟩) (va_recv hK hP (ci := 9) (q0 := 1) rfl (zX_1 cy ad S_2)) hl.1 rfl rfl (Nat.le_of_ble_eq_true rfl) dX11_feed_28 (fun H locs hP hS => ?_)
    refine lv_aload_n hx hb dX11_feed_31 rfl (lv_at hl 0 rfl) ?_
    refine va_get (D := D) (ci := 11) (v := .ref (ad 1)) (C := RX11) (T := TX11) (N := 8) hx hb hts k0 hown hK hP 0 (zX_0 cy ad S_5) rfl 0 (by decide) k1 (fun _ h9 => h9) rfl dX11_feed_32 ?_
    refine lv_iload_n hx hb dX11_feed_35 rfl (lv_at hl 3 rfl) ?_
    obtain ⟨r_7, S_8, h_9, hf⟩ := z_bd hf
    refine z_cVV (As := [.int a_3]) (rest := []) X hK hE hD hA hP hS (cx_Tape_add l D K cy ad S_5 _ _ h_9) (cwV 1 hts (z_gV wt_2_207 wt_2_208 wt_2_209 wt_1_2 wt_2_210) rfl rfl rfl ⟨rfl, yd_yX9_add⟩ ⟨Nat.le_of_ble_eq_true rfl, Nat.le_of_ble_eq_true rfl⟩) (va_recv hK hP (ci := 9) (q0 := 1) rfl (zX_1 cy ad S_5)) hl.1 rfl rfl (Nat.le_of_ble_eq_true rfl) dX11_feed_36 (fun H locs hP hS => ?_)
    refine lv_aload_n hx hb dX11_feed_39 rfl (lv_at hl 0 rfl) ?_
    refine va_get (D := D) (ci := 11) (v := .ref (ad 1)) (C := RX11) (T := TX11) (N := 8) hx hb hts k0 hown hK hP 0 (zX_0 cy ad S_8) rfl 0 (by decide) k1 (fun _ h9 => h9) rfl dX11_feed_40 ?_
    refine lv_iload hx hb dX11_feed_43 (lv_at hl 4 rfl) ?_
    obtain ⟨r_10, S_11, h_12, hf⟩ := z_bd hf
    refine z_cVV (As := [.int a_4]) (rest := []) X hK hE hD hA hP hS (cx_Tape_add l D K cy ad S_8 _ _ h_12) (cwV 1 hts (z_gV wt_2_207 wt_2_208 wt_2_209 wt_1_2 wt_2_210) rfl rfl rfl ⟨rfl, yd_yX9_add⟩ ⟨Nat.le_of_ble_eq_true rfl, Nat.le_of_ble_eq_true rfl⟩) (va_recv hK hP (ci := 9) (q0 := 1) rfl (zX_1 cy ad S_8)) hl.1 rfl rfl (Nat.le_of_ble_eq_true rfl) dX11_feed_45 (fun H locs hP hS => ?_)
    refine lv_aload_n hx hb dX11_feed_48 rfl (lv_at hl 0 rfl) ?_
    refine va_get (D := D) (ci := 11) (v := .ref (ad 1)) (C := RX11) (T := TX11) (N := 8) hx hb hts k0 hown hK hP 0 (zX_0 cy ad S_11) rfl 0 (by decide) k1 (fun _ h9 => h9) rfl dX11_feed_49 ?_
    refine lv_iload hx hb dX11_feed_52 (lv_at hl 5 rfl) ?_
    obtain ⟨r_13, S_14, h_15, hf⟩ := z_bd hf
    refine z_cVV (As := [.int a_5]) (rest := []) X hK hE hD hA hP hS (cx_Tape_add l D K cy ad S_11 _ _ h_15) (cwV 1 hts (z_gV wt_2_207 wt_2_208 wt_2_209 wt_1_2 wt_2_210) rfl rfl rfl ⟨rfl, yd_yX9_add⟩ ⟨Nat.le_of_ble_eq_true rfl, Nat.le_of_ble_eq_true rfl⟩) (va_recv hK hP (ci := 9) (q0 := 1) rfl (zX_1 cy ad S_11)) hl.1 rfl rfl (Nat.le_of_ble_eq_true rfl) dX11_feed_54 (fun H locs hP hS => ?_)
    refine lv_aload_n hx hb dX11_feed_57 rfl (lv_at hl 0 rfl) ?_
    refine va_get (D := D) (ci := 11) (v := .ref (ad 1)) (C := RX11) (T := TX11) (N := 8) hx hb hts k0 hown hK hP 0 (zX_0 cy ad S_14) rfl 0 (by decide) k1 (fun _ h9 => h9) rfl dX11_feed_58 ?_
    refine va_get (D := D) (ci := 9) (v := .int (S_14.1 1 1)) (C := RX9) (T := TX9) (N := 2) hx hb hts k2 hown hK hP 1 (zX_1 cy ad S_14) rfl 1 (by decide) k3 (fun _ h9 => h9) rfl dX11_feed_61 ?_
    obtain ⟨h1, h2⟩ := z_s2 hf
    subst h1 h2
    exact hret _ _ _ _ hP hS dX11_feed_64
  · have hf := z_if c_16 hf
    refine lv_iconst (v := -1) hx hb dX11_feed_13 (by decide) ?_
    obtain ⟨h1, h2⟩ := z_s2 hf
    subst h1 h2
    exact hret _ _ _ _ hP hS dX11_feed_14
theorem yd_yX11_end : (yX11_end).cls ≠ "java/lang/invoke/MethodHandle" ∧ (yX11_end).cls ≠ "java/lang/invoke/VarHandle" ∧ (parseMethodDescriptor (yX11_end).desc).map (fun d => d.parameters.length) = some 1 := by decide +kernel
def fx_end (S_0 : zSt) (a_1 : Int32) : Option (Int32 × zSt) :=
  znm (fun (S_1 : zSt) =>
  some ((0 : Int32), S_1)) fun j_15 =>
  if a_1 < 0 then (
  j_15  S_0) else (
  if a_1 ≤ (S_0.1 1 1) then (
  znm (zpI S_0 1 1 a_1) fun S_2 =>
  some ((1 : Int32), S_2)) else (
  j_15  S_0))
set_option maxHeartbeats 4000000 in
set_option maxRecDepth 100000 in
theorem cx_end (l : Launch) (D : va_G) (K : (Nat → Nat) × (Nat → Nat)) (cy : Nat → ClassId) (ad : Nat → Nat) (S_0 : zSt) (a_1 : Int32) (ro : Int32) (So : zSt) (hf : fx_end S_0 a_1 = some (ro, So)) : zMI l yX11_end (zws yX11_end cX11_end 2 (Option.some .boolean)) ({ frames := 0, cells := 0, slots := 0, locals := 0 }) D (zTy cy) K (zX cy ad) [.ref (ad 0), .int a_1] S_0 ro So := by
  refine z_metZ (own := RX11) (lv := [(0, .ref (ad 0)), (1, .int a_1)]) (by decide) rfl rfl (Nat.le_of_ble_eq_true rfl) rfl ?_
  intro p e s m below meth c A Q X hK hE hD hA hret hP hS ls hl
  obtain ⟨hx, hb, hml, hown, hts⟩ := id X
  have k0 := (fun w h => List.mem_cons_of_mem _ (zFX11 w h) : ∀ w ∈ u_ws RX11 TX11 8, w ∈ zws yX11_end cX11_end 2 (Option.some .boolean))
  have k1 := hts _ (List.mem_cons_of_mem _ wt_2_174)
  have k2 := (fun w h => List.mem_cons_of_mem _ (zFX9 w h) : ∀ w ∈ u_ws RX9 TX9 2, w ∈ zws yX11_end cX11_end 2 (Option.some .boolean))
  have k3 := hts _ (List.mem_cons_of_mem _ wt_1_44)
  refine lv_iload_n hx hb dX11_end_0 rfl (lv_at hl 1 rfl) ?_
  obtain ⟨j_15, ej_15, hf⟩ := z_nm hf
  have J_15 : ∀ (S_1 : zSt) (H : Heap) (locs : List Loc) (ls : Array Slot), j_15  S_1 = some (ro, So) → va_P D vwCl (zX cy ad S_1) H → va_S A s.heap H locs → lv_has ls 2 [] → W p l e ({ frames := 0, cells := 0, slots := 0, locals := 0 }) s m ([.ref (ad 0), .int a_1] : List Value).toArray below meth c H locs 0 0 Q (F0 m 15 ls []) := by
    intro  S_1 H locs ls hf hP hS hl
    have hf := z_e1 ej_15 hf
    refine lv_iconst (v := 0) hx hb dX11_end_15 (by decide) ?_
    obtain ⟨h1, h2⟩ := z_s2 hf
    subst h1 h2
    exact hret _ _ _ _ rfl hP hS dX11_end_16
  refine lv_if_lt (tgt := 15) hx hb dX11_end_1 (by decide) (fun c_4 => ?_) (fun c_4 => ?_)
  · have hf := z_it c_4 hf
    exact J_15  S_0 _ _ _ hf hP hS (lv_sub hl [] rfl)
  · have hf := z_if c_4 hf
    refine lv_iload_n hx hb dX11_end_4 rfl (lv_at hl 1 rfl) ?_
    refine lv_aload_n hx hb dX11_end_5 rfl (lv_at hl 0 rfl) ?_
    refine va_get (D := D) (ci := 11) (v := .ref (ad 1)) (C := RX11) (T := TX11) (N := 8) hx hb hts k0 hown hK hP 0 (zX_0 cy ad S_0) rfl 0 (by decide) k1 (fun _ h9 => h9) rfl dX11_end_6 ?_
    refine va_get (D := D) (ci := 9) (v := .int (S_0.1 1 1)) (C := RX9) (T := TX9) (N := 2) hx hb hts k2 hown hK hP 1 (zX_1 cy ad S_0) rfl 1 (by decide) k3 (fun _ h9 => h9) rfl dX11_end_9 ?_
    refine lv_icmp_le (tgt := 17) hx hb dX11_end_12 (by decide) (fun c_3 => ?_) (fun c_3 => ?_)
    · have hf := z_it c_3 hf
      refine lv_aload_n hx hb dX11_end_17 rfl (lv_at hl 0 rfl) ?_
      refine va_get (D := D) (ci := 11) (v := .ref (ad 1)) (C := RX11) (T := TX11) (N := 8) hx hb hts k0 hown hK hP 0 (zX_0 cy ad S_0) rfl 0 (by decide) k1 (fun _ h9 => h9) rfl dX11_end_18 ?_
      refine lv_iload_n hx hb dX11_end_21 rfl (lv_at hl 1 rfl) ?_
      refine va_put (D := D) (ci := 9) (v := .int a_1) (ty := .int) (C := RX9) (T := TX9) (N := 2) hx hb hts k2 tyX9 tyX9_ok nmX9 hown hK hP (hD S_0) hS 1 (zX_1 cy ad S_0) rfl 1 (by decide) k3 (fun _ h9 => h9) rfl (tyX9_ok 1 (by decide)) rfl rfl (Nat.le_of_ble_eq_true rfl) dX11_end_22 (fun H locs hP _ hS => ?_)
      obtain ⟨S_2, eS_2, hf⟩ := z_nm hf
      have hP := zW_putI hP eS_2 (by decide) rfl
      refine lv_iconst (v := 1) hx hb dX11_end_25 (by decide) ?_
      obtain ⟨h1, h2⟩ := z_s2 hf
      subst h1 h2
      exact hret _ _ _ _ rfl hP hS dX11_end_26
    · have hf := z_if c_3 hf
      exact J_15  S_0 _ _ _ hf hP hS (lv_sub hl [] rfl)
theorem yd_yX11_house : (yX11_house).cls ≠ "java/lang/invoke/MethodHandle" ∧ (yX11_house).cls ≠ "java/lang/invoke/VarHandle" ∧ (parseMethodDescriptor (yX11_house).desc).map (fun d => d.parameters.length) = some 3 := by decide +kernel
def fx_house (S_0 : zSt) (a_1 : Int32) (a_2 : Int32) (a_3 : Int32) : Option (Int32 × zSt) :=
  zbd (fx_isWithin S_0 a_1 (0 : Int32) (999 : Int32)) fun r_1 S_2 =>
  znm (fun (x_4 : Int32) (S_5 : zSt) =>
  znm (zpI S_5 1 1 (0 : Int32)) fun S_6 =>
  znm (fun (S_7 : zSt) =>
  some (x_4, S_7)) fun j_85 =>
  if x_4 = (-1 : Int32) then (
  j_85  S_6) else (
  zbd (fx_History_forget S_6) fun _ S_9 =>
  j_85  S_9)) fun j_64 =>
  if r_1 = 0 then (
  j_64 (-1 : Int32) S_2) else (
  zbd (fx_isWithin S_2 a_2 (1 : Int32) (999 : Int32)) fun r_12 S_13 =>
  if r_12 = 0 then (
  j_64 (-1 : Int32) S_13) else (
  zbd (fx_isWithin S_13 a_3 (1 : Int32) (99 : Int32)) fun r_15 S_16 =>
  if r_15 = 0 then (
  j_64 (-1 : Int32) S_16) else (
  zbd (fx_Tape_isMark S_16) fun r_18 S_19 =>
  if r_18 = 0 then (
  j_64 (-1 : Int32) S_19) else (
  zbd (fx_Houses_add S_19 a_1 a_2 a_3) fun r_21 S_22 =>
  j_64 r_21 S_22))))
set_option maxHeartbeats 4000000 in
set_option maxRecDepth 100000 in
theorem cx_house (l : Launch) (D : va_G) (K : (Nat → Nat) × (Nat → Nat)) (cy : Nat → ClassId) (ad : Nat → Nat) (S_0 : zSt) (a_1 : Int32) (a_2 : Int32) (a_3 : Int32) (ro : Int32) (So : zSt) (hf : fx_house S_0 a_1 a_2 a_3 = some (ro, So)) : zMI l yX11_house (zws yX11_house cX11_house 5 (Option.some .int)) ({ frames := 2, cells := 0, slots := 0, locals := 46 }) D (zTy cy) K (zX cy ad) [.ref (ad 0), .int a_1, .int a_2, .int a_3] S_0 ro So := by
  refine z_metI (own := RX11) (lv := [(0, .ref (ad 0)), (1, .int a_1), (2, .int a_2), (3, .int a_3)]) (by decide) rfl rfl (Nat.le_of_ble_eq_true rfl) rfl ?_
  intro p e s m below meth c A Q X hK hE hD hA hret hP hS ls hl
  obtain ⟨hx, hb, hml, hown, hts⟩ := id X
  have k0 := (fun w h => List.mem_cons_of_mem _ (zFX11 w h) : ∀ w ∈ u_ws RX11 TX11 8, w ∈ zws yX11_house cX11_house 5 (Option.some .int))
  have k1 := hts _ (List.mem_cons_of_mem _ wt_2_174)
  have k2 := (fun w h => List.mem_cons_of_mem _ (zFX9 w h) : ∀ w ∈ u_ws RX9 TX9 2, w ∈ zws yX11_house cX11_house 5 (Option.some .int))
  have k3 := hts _ (List.mem_cons_of_mem _ wt_1_44)
  have k4 := hts _ (List.mem_cons_of_mem _ wt_2_178)
  have k5 := hts _ (List.mem_cons_of_mem _ wt_2_175)
  have k6 := (fun w h => List.mem_cons_of_mem _ (zFX0 w h) : ∀ w ∈ u_ws RX0 TX0 6, w ∈ zws yX11_house cX11_house 5 (Option.some .int))
  have k7 := hts _ (List.mem_cons_of_mem _ wt_1_235)
  refine lv_iconst (v := -1) hx hb dX11_house_0 (by decide) ?_
  refine lv_istore (lv' := [(4, .int (-1 : Int32)), (0, .ref (ad 0)), (1, .int a_1), (2, .int a_2), (3, .int a_3)]) hx hb dX11_house_1 hl (by decide) rfl (fun ls hl => ?_)
  refine lv_iload_n hx hb dX11_house_3 rfl (lv_at hl 2 rfl) ?_
  refine lv_iconst (v := 0) hx hb dX11_house_4 (by decide) ?_
  refine lv_sipush (v := 999) hx hb dX11_house_5 (by decide) ?_
  obtain ⟨r_1, S_2, h_3, hf⟩ := z_bd hf
  refine z_cSI (As := [.int a_1, .int (0 : Int32), .int (999 : Int32)]) (rest := []) X hK hE hD hA hP hS (cx_isWithin l D K cy ad S_0 _ _ _ _ _ h_3) (va_cwS 3 hts (z_gS wt_2_219 wt_2_220 wt_1_1 wt_2_221) rfl rfl rfl yd_yX11_isWithin ⟨Nat.le_of_ble_eq_true rfl, Nat.le_of_ble_eq_true rfl⟩) hl.1 rfl rfl (Nat.le_of_ble_eq_true rfl) dX11_house_8 (fun H locs hP hS => ?_)
  obtain ⟨j_64, ej_64, hf⟩ := z_nm hf
  have J_64 : ∀ (x_4 : Int32) (S_5 : zSt) (H : Heap) (locs : List Loc) (ls : Array Slot), j_64 x_4 S_5 = some (ro, So) → va_P D vwCl (zX cy ad S_5) H → va_S A s.heap H locs → lv_has ls 5 [(0, .ref (ad 0)), (4, .int x_4)] → W p l e ({ frames := 2, cells := 0, slots := 0, locals := 46 }) s m ([.ref (ad 0), .int a_1, .int a_2, .int a_3] : List Value).toArray below meth c H locs 0 0 Q (F0 m 64 ls []) := by
    intro x_4 S_5 H locs ls hf hP hS hl
    have hf := z_e2 ej_64 hf
    refine lv_aload_n hx hb dX11_house_64 rfl (lv_at hl 0 rfl) ?_
    refine va_get (D := D) (ci := 11) (v := .ref (ad 1)) (C := RX11) (T := TX11) (N := 8) hx hb hts k0 hown hK hP 0 (zX_0 cy ad S_5) rfl 0 (by decide) k1 (fun _ h9 => h9) rfl dX11_house_65 ?_
    refine lv_iconst (v := 0) hx hb dX11_house_68 (by decide) ?_
    refine va_put (D := D) (ci := 9) (v := .int (0 : Int32)) (ty := .int) (C := RX9) (T := TX9) (N := 2) hx hb hts k2 tyX9 tyX9_ok nmX9 hown hK hP (hD S_5) hS 1 (zX_1 cy ad S_5) rfl 1 (by decide) k3 (fun _ h9 => h9) rfl (tyX9_ok 1 (by decide)) rfl rfl (Nat.le_of_ble_eq_true rfl) dX11_house_69 (fun H locs hP _ hS => ?_)
    obtain ⟨S_6, eS_6, hf⟩ := z_nm hf
    have hP := zW_putI hP eS_6 (by decide) rfl
    refine lv_iload hx hb dX11_house_72 (lv_at hl 1 rfl) ?_
    refine lv_iconst (v := -1) hx hb dX11_house_74 (by decide) ?_
    obtain ⟨j_85, ej_85, hf⟩ := z_nm hf
    have J_85 : ∀ (S_7 : zSt) (H : Heap) (locs : List Loc) (ls : Array Slot), j_85  S_7 = some (ro, So) → va_P D vwCl (zX cy ad S_7) H → va_S A s.heap H locs → lv_has ls 5 [(4, .int x_4)] → W p l e ({ frames := 2, cells := 0, slots := 0, locals := 46 }) s m ([.ref (ad 0), .int a_1, .int a_2, .int a_3] : List Value).toArray below meth c H locs 0 0 Q (F0 m 85 ls []) := by
      intro  S_7 H locs ls hf hP hS hl
      have hf := z_e1 ej_85 hf
      refine lv_iload hx hb dX11_house_85 (lv_at hl 0 rfl) ?_
      obtain ⟨h1, h2⟩ := z_s2 hf
      subst h1 h2
      exact hret _ _ _ _ hP hS dX11_house_87
    refine lv_icmp_eq (tgt := 85) hx hb dX11_house_75 (by decide) (fun c_11 => ?_) (fun c_11 => ?_)
    · have hf := z_it c_11 hf
      exact J_85  S_6 _ _ _ hf hP hS (lv_sub hl [1] rfl)
    · have hf := z_if c_11 hf
      refine lv_aload_n hx hb dX11_house_78 rfl (lv_at hl 0 rfl) ?_
      refine va_get (D := D) (ci := 11) (v := .ref (ad 59)) (C := RX11) (T := TX11) (N := 8) hx hb hts k0 hown hK hP 0 (zX_0 cy ad S_6) rfl 4 (by decide) k4 (fun _ h9 => h9) rfl dX11_house_79 ?_
      obtain ⟨r_8, S_9, h_10, hf⟩ := z_bd hf
      refine z_cVV (As := []) (rest := []) X hK hE hD hA hP hS (cx_History_forget l D K cy ad S_6 _ h_10) (cwV 0 hts (z_gV wt_2_235 wt_2_236 wt_2_237 wt_1_9 wt_2_238) rfl rfl rfl ⟨rfl, yd_yX1_forget⟩ ⟨Nat.le_of_ble_eq_true rfl, Nat.le_of_ble_eq_true rfl⟩) (va_recv hK hP (ci := 1) (q0 := 59) rfl (zX_59 cy ad S_6)) hl.1 rfl rfl (Nat.le_of_ble_eq_true rfl) dX11_house_82 (fun H locs hP hS => ?_)
      exact J_85  S_9 _ _ _ hf hP hS (lv_sub hl [1] rfl)
  refine lv_if_eq (tgt := 64) hx hb dX11_house_11 (by decide) (fun c_27 => ?_) (fun c_27 => ?_)
  · have hf := z_it c_27 hf
    exact J_64 (-1 : Int32) S_2 _ _ _ hf hP hS (lv_sub hl [1, 0] rfl)
  · have hf := z_if c_27 hf
    refine lv_iload_n hx hb dX11_house_14 rfl (lv_at hl 3 rfl) ?_
    refine lv_iconst (v := 1) hx hb dX11_house_15 (by decide) ?_
    refine lv_sipush (v := 999) hx hb dX11_house_16 (by decide) ?_
    obtain ⟨r_12, S_13, h_14, hf⟩ := z_bd hf
    refine z_cSI (As := [.int a_2, .int (1 : Int32), .int (999 : Int32)]) (rest := []) X hK hE hD hA hP hS (cx_isWithin l D K cy ad S_2 _ _ _ _ _ h_14) (va_cwS 3 hts (z_gS wt_2_219 wt_2_220 wt_1_1 wt_2_221) rfl rfl rfl yd_yX11_isWithin ⟨Nat.le_of_ble_eq_true rfl, Nat.le_of_ble_eq_true rfl⟩) hl.1 rfl rfl (Nat.le_of_ble_eq_true rfl) dX11_house_19 (fun H locs hP hS => ?_)
    refine lv_if_eq (tgt := 64) hx hb dX11_house_22 (by decide) (fun c_26 => ?_) (fun c_26 => ?_)
    · have hf := z_it c_26 hf
      exact J_64 (-1 : Int32) S_13 _ _ _ hf hP hS (lv_sub hl [1, 0] rfl)
    · have hf := z_if c_26 hf
      refine lv_iload_n hx hb dX11_house_25 rfl (lv_at hl 4 rfl) ?_
      refine lv_iconst (v := 1) hx hb dX11_house_26 (by decide) ?_
      refine lv_bipush (v := 99) hx hb dX11_house_27 (by decide) ?_
      obtain ⟨r_15, S_16, h_17, hf⟩ := z_bd hf
      refine z_cSI (As := [.int a_3, .int (1 : Int32), .int (99 : Int32)]) (rest := []) X hK hE hD hA hP hS (cx_isWithin l D K cy ad S_13 _ _ _ _ _ h_17) (va_cwS 3 hts (z_gS wt_2_219 wt_2_220 wt_1_1 wt_2_221) rfl rfl rfl yd_yX11_isWithin ⟨Nat.le_of_ble_eq_true rfl, Nat.le_of_ble_eq_true rfl⟩) hl.1 rfl rfl (Nat.le_of_ble_eq_true rfl) dX11_house_29 (fun H locs hP hS => ?_)
      refine lv_if_eq (tgt := 64) hx hb dX11_house_32 (by decide) (fun c_25 => ?_) (fun c_25 => ?_)
      · have hf := z_it c_25 hf
        exact J_64 (-1 : Int32) S_16 _ _ _ hf hP hS (lv_sub hl [1, 0] rfl)
      · have hf := z_if c_25 hf
        refine lv_aload_n hx hb dX11_house_35 rfl (lv_at hl 1 rfl) ?_
        refine va_get (D := D) (ci := 11) (v := .ref (ad 1)) (C := RX11) (T := TX11) (N := 8) hx hb hts k0 hown hK hP 0 (zX_0 cy ad S_16) rfl 0 (by decide) k1 (fun _ h9 => h9) rfl dX11_house_36 ?_
        obtain ⟨r_18, S_19, h_20, hf⟩ := z_bd hf
        refine z_cVI (As := []) (rest := []) X hK hE hD hA hP hS (cx_Tape_isMark l D K cy ad S_16 _ _ h_20) (cwV 0 hts (z_gV wt_2_222 wt_2_223 wt_2_224 wt_1_2 wt_2_225) rfl rfl rfl ⟨rfl, yd_yX9_isMark⟩ ⟨Nat.le_of_ble_eq_true rfl, Nat.le_of_ble_eq_true rfl⟩) (va_recv hK hP (ci := 9) (q0 := 1) rfl (zX_1 cy ad S_16)) hl.1 rfl rfl (Nat.le_of_ble_eq_true rfl) dX11_house_39 (fun H locs hP hS => ?_)
        refine lv_if_eq (tgt := 64) hx hb dX11_house_42 (by decide) (fun c_24 => ?_) (fun c_24 => ?_)
        · have hf := z_it c_24 hf
          exact J_64 (-1 : Int32) S_19 _ _ _ hf hP hS (lv_sub hl [1, 0] rfl)
        · have hf := z_if c_24 hf
          refine lv_aload_n hx hb dX11_house_45 rfl (lv_at hl 1 rfl) ?_
          refine va_get (D := D) (ci := 11) (v := .ref (ad 3)) (C := RX11) (T := TX11) (N := 8) hx hb hts k0 hown hK hP 0 (zX_0 cy ad S_19) rfl 1 (by decide) k5 (fun _ h9 => h9) rfl dX11_house_46 ?_
          refine va_get (D := D) (ci := 0) (v := .ref (ad 4)) (C := RX0) (T := TX0) (N := 6) hx hb hts k6 hown hK hP 3 (zX_3 cy ad S_19) rfl 0 (by decide) k7 (fun _ h9 => h9) rfl dX11_house_49 ?_
          refine lv_iload_n hx hb dX11_house_52 rfl (lv_at hl 2 rfl) ?_
          refine lv_iload_n hx hb dX11_house_53 rfl (lv_at hl 3 rfl) ?_
          refine lv_iload_n hx hb dX11_house_54 rfl (lv_at hl 4 rfl) ?_
          refine lv_aload_n hx hb dX11_house_55 rfl (lv_at hl 1 rfl) ?_
          refine va_get (D := D) (ci := 11) (v := .ref (ad 1)) (C := RX11) (T := TX11) (N := 8) hx hb hts k0 hown hK hP 0 (zX_0 cy ad S_19) rfl 0 (by decide) k1 (fun _ h9 => h9) rfl dX11_house_56 ?_
          obtain ⟨r_21, S_22, h_23, hf⟩ := z_bd hf
          refine z_cVI (As := [.int a_1, .int a_2, .int a_3, .ref (ad 1)]) (rest := []) X hK hE hD hA hP hS (cx_Houses_add l D K cy ad S_19 _ _ _ _ _ h_23) (cwV 4 hts (z_gV wt_2_230 wt_2_231 wt_2_232 wt_1_4 wt_2_233) rfl rfl rfl ⟨rfl, yd_yX2_add⟩ ⟨Nat.le_of_ble_eq_true rfl, Nat.le_of_ble_eq_true rfl⟩) (va_recv hK hP (ci := 2) (q0 := 4) rfl (zX_4 cy ad S_19)) hl.1 rfl rfl (Nat.le_of_ble_eq_true rfl) dX11_house_59 (fun H locs hP hS => ?_)
          refine lv_istore (lv' := [(4, .int r_21), (0, .ref (ad 0)), (1, .int a_1), (2, .int a_2), (3, .int a_3)]) hx hb dX11_house_62 hl (by decide) rfl (fun ls hl => ?_)
          exact J_64 r_21 S_22 _ _ _ hf hP hS (lv_sub hl [1, 0] rfl)
theorem yd_yX11_give : (yX11_give).cls ≠ "java/lang/invoke/MethodHandle" ∧ (yX11_give).cls ≠ "java/lang/invoke/VarHandle" ∧ (parseMethodDescriptor (yX11_give).desc).map (fun d => d.parameters.length) = some 2 := by decide +kernel
def fx_give (S_0 : zSt) (a_1 : Int32) (a_2 : Int32) : Option (Int32 × zSt) :=
  zbd (fx_Houses_has S_0 a_1) fun r_1 S_2 =>
  znm (fun (S_4 : zSt) =>
  some ((0 : Int32), S_4)) fun j_43 =>
  if r_1 = 0 then (
  j_43  S_2) else (
  zbd (fx_isWithin S_2 a_2 (0 : Int32) (99999 : Int32)) fun r_5 S_6 =>
  if r_5 = 0 then (
  j_43  S_6) else (
  zck (zix a_1 9) <|
  if (S_6.1 12 (a_1.toNatClampNeg)) ≤ ((999999 : Int32) - a_2) then (
  zck (zix a_1 9) <|
  zck (zix a_1 9) <|
  znm (zpI S_6 12 (a_1.toNatClampNeg) ((S_6.1 12 (a_1.toNatClampNeg)) + a_2)) fun S_11 =>
  zbd (fx_History_forget S_11) fun _ S_13 =>
  some ((1 : Int32), S_13)) else (
  j_43  S_6)))
set_option maxHeartbeats 4000000 in
set_option maxRecDepth 100000 in
theorem cx_give (l : Launch) (D : va_G) (K : (Nat → Nat) × (Nat → Nat)) (cy : Nat → ClassId) (ad : Nat → Nat) (S_0 : zSt) (a_1 : Int32) (a_2 : Int32) (ro : Int32) (So : zSt) (hf : fx_give S_0 a_1 a_2 = some (ro, So)) : zMI l yX11_give (zws yX11_give cX11_give 3 (Option.some .boolean)) ({ frames := 1, cells := 0, slots := 0, locals := 22 }) D (zTy cy) K (zX cy ad) [.ref (ad 0), .int a_1, .int a_2] S_0 ro So := by
  refine z_metZ (own := RX11) (lv := [(0, .ref (ad 0)), (1, .int a_1), (2, .int a_2)]) (by decide) rfl rfl (Nat.le_of_ble_eq_true rfl) rfl ?_
  intro p e s m below meth c A Q X hK hE hD hA hret hP hS ls hl
  obtain ⟨hx, hb, hml, hown, hts⟩ := id X
  have k0 := (fun w h => List.mem_cons_of_mem _ (zFX11 w h) : ∀ w ∈ u_ws RX11 TX11 8, w ∈ zws yX11_give cX11_give 3 (Option.some .boolean))
  have k1 := hts _ (List.mem_cons_of_mem _ wt_2_175)
  have k2 := (fun w h => List.mem_cons_of_mem _ (zFX0 w h) : ∀ w ∈ u_ws RX0 TX0 6, w ∈ zws yX11_give cX11_give 3 (Option.some .boolean))
  have k3 := hts _ (List.mem_cons_of_mem _ wt_1_235)
  have k4 := hts _ (List.mem_cons_of_mem _ wt_3_7)
  have k5 := hts _ (List.mem_cons_of_mem _ wt_1_237)
  have k6 := (fun w h => List.mem_cons_of_mem _ (zFX10 w h) : ∀ w ∈ u_ws RX10 TX10 12, w ∈ zws yX11_give cX11_give 3 (Option.some .boolean))
  have k7 := hts _ (List.mem_cons_of_mem _ wt_1_117)
  have k8 := hts _ (List.mem_cons_of_mem _ wt_3_8)
  have k9 := hts _ (List.mem_cons_of_mem _ wt_2_178)
  refine lv_aload_n hx hb dX11_give_0 rfl (lv_at hl 0 rfl) ?_
  refine va_get (D := D) (ci := 11) (v := .ref (ad 3)) (C := RX11) (T := TX11) (N := 8) hx hb hts k0 hown hK hP 0 (zX_0 cy ad S_0) rfl 1 (by decide) k1 (fun _ h9 => h9) rfl dX11_give_1 ?_
  refine va_get (D := D) (ci := 0) (v := .ref (ad 4)) (C := RX0) (T := TX0) (N := 6) hx hb hts k2 hown hK hP 3 (zX_3 cy ad S_0) rfl 0 (by decide) k3 (fun _ h9 => h9) rfl dX11_give_4 ?_
  refine lv_iload_n hx hb dX11_give_7 rfl (lv_at hl 1 rfl) ?_
  obtain ⟨r_1, S_2, h_3, hf⟩ := z_bd hf
  refine z_cVI (As := [.int a_1]) (rest := []) X hK hE hD hA hP hS (cx_Houses_has l D K cy ad S_0 _ _ _ h_3) (cwV 1 hts (z_gV wt_3_3 wt_3_4 wt_3_5 wt_1_4 wt_3_6) rfl rfl rfl ⟨rfl, yd_yX2_has⟩ ⟨Nat.le_of_ble_eq_true rfl, Nat.le_of_ble_eq_true rfl⟩) (va_recv hK hP (ci := 2) (q0 := 4) rfl (zX_4 cy ad S_0)) hl.1 rfl rfl (Nat.le_of_ble_eq_true rfl) dX11_give_8 (fun H locs hP hS => ?_)
  obtain ⟨j_43, ej_43, hf⟩ := z_nm hf
  have J_43 : ∀ (S_4 : zSt) (H : Heap) (locs : List Loc) (ls : Array Slot), j_43  S_4 = some (ro, So) → va_P D vwCl (zX cy ad S_4) H → va_S A s.heap H locs → lv_has ls 3 [] → W p l e ({ frames := 1, cells := 0, slots := 0, locals := 22 }) s m ([.ref (ad 0), .int a_1, .int a_2] : List Value).toArray below meth c H locs 0 0 Q (F0 m 43 ls []) := by
    intro  S_4 H locs ls hf hP hS hl
    have hf := z_e1 ej_43 hf
    refine lv_iconst (v := 0) hx hb dX11_give_43 (by decide) ?_
    obtain ⟨h1, h2⟩ := z_s2 hf
    subst h1 h2
    exact hret _ _ _ _ rfl hP hS dX11_give_44
  refine lv_if_eq (tgt := 43) hx hb dX11_give_11 (by decide) (fun c_17 => ?_) (fun c_17 => ?_)
  · have hf := z_it c_17 hf
    exact J_43  S_2 _ _ _ hf hP hS (lv_sub hl [] rfl)
  · have hf := z_if c_17 hf
    refine lv_iload_n hx hb dX11_give_14 rfl (lv_at hl 2 rfl) ?_
    refine lv_iconst (v := 0) hx hb dX11_give_15 (by decide) ?_
    refine lv_ldc hx hb hown k4 dX11_give_16 ?_
    obtain ⟨r_5, S_6, h_7, hf⟩ := z_bd hf
    refine z_cSI (As := [.int a_2, .int (0 : Int32), .int (99999 : Int32)]) (rest := []) X hK hE hD hA hP hS (cx_isWithin l D K cy ad S_2 _ _ _ _ _ h_7) (va_cwS 3 hts (z_gS wt_2_219 wt_2_220 wt_1_1 wt_2_221) rfl rfl rfl yd_yX11_isWithin ⟨Nat.le_of_ble_eq_true rfl, Nat.le_of_ble_eq_true rfl⟩) hl.1 rfl rfl (Nat.le_of_ble_eq_true rfl) dX11_give_18 (fun H locs hP hS => ?_)
    refine lv_if_eq (tgt := 43) hx hb dX11_give_21 (by decide) (fun c_16 => ?_) (fun c_16 => ?_)
    · have hf := z_it c_16 hf
      exact J_43  S_6 _ _ _ hf hP hS (lv_sub hl [] rfl)
    · have hf := z_if c_16 hf
      refine lv_aload_n hx hb dX11_give_24 rfl (lv_at hl 0 rfl) ?_
      refine va_get (D := D) (ci := 11) (v := .ref (ad 3)) (C := RX11) (T := TX11) (N := 8) hx hb hts k0 hown hK hP 0 (zX_0 cy ad S_6) rfl 1 (by decide) k1 (fun _ h9 => h9) rfl dX11_give_25 ?_
      refine va_get (D := D) (ci := 0) (v := .ref (ad 11)) (C := RX0) (T := TX0) (N := 6) hx hb hts k2 hown hK hP 3 (zX_3 cy ad S_6) rfl 1 (by decide) k5 (fun _ h9 => h9) rfl dX11_give_28 ?_
      refine va_get (D := D) (ci := 10) (v := .ref (ad 12)) (C := RX10) (T := TX10) (N := 12) hx hb hts k6 hown hK hP 11 (zX_11 cy ad S_6) rfl 3 (by decide) k7 (fun _ h9 => h9) rfl dX11_give_31 ?_
      refine lv_iload_n hx hb dX11_give_34 rfl (lv_at hl 1 rfl) ?_
      obtain ⟨h_8, hf⟩ := z_ix hf
      refine z_iald hx hb hK hP 12 0 (zX_12 cy ad S_6) rfl h_8 (k := (a_1.toNatClampNeg)) rfl dX11_give_35 ?_
      refine lv_ldc hx hb hown k8 dX11_give_36 ?_
      refine lv_iload_n hx hb dX11_give_38 rfl (lv_at hl 2 rfl) ?_
      refine lv_isub hx hb dX11_give_39 ?_
      refine lv_icmp_le (tgt := 45) hx hb dX11_give_40 (by decide) (fun c_15 => ?_) (fun c_15 => ?_)
      · have hf := z_it c_15 hf
        refine lv_aload_n hx hb dX11_give_45 rfl (lv_at hl 0 rfl) ?_
        refine va_get (D := D) (ci := 11) (v := .ref (ad 3)) (C := RX11) (T := TX11) (N := 8) hx hb hts k0 hown hK hP 0 (zX_0 cy ad S_6) rfl 1 (by decide) k1 (fun _ h9 => h9) rfl dX11_give_46 ?_
        refine va_get (D := D) (ci := 0) (v := .ref (ad 11)) (C := RX0) (T := TX0) (N := 6) hx hb hts k2 hown hK hP 3 (zX_3 cy ad S_6) rfl 1 (by decide) k5 (fun _ h9 => h9) rfl dX11_give_49 ?_
        refine va_get (D := D) (ci := 10) (v := .ref (ad 12)) (C := RX10) (T := TX10) (N := 12) hx hb hts k6 hown hK hP 11 (zX_11 cy ad S_6) rfl 3 (by decide) k7 (fun _ h9 => h9) rfl dX11_give_52 ?_
        refine lv_iload_n hx hb dX11_give_55 rfl (lv_at hl 1 rfl) ?_
        refine lv_dup2_11 hx hb dX11_give_56 rfl rfl ?_
        obtain ⟨h_9, hf⟩ := z_ix hf
        refine z_iald hx hb hK hP 12 0 (zX_12 cy ad S_6) rfl h_9 (k := (a_1.toNatClampNeg)) rfl dX11_give_57 ?_
        refine lv_iload_n hx hb dX11_give_58 rfl (lv_at hl 2 rfl) ?_
        refine lv_iadd hx hb dX11_give_59 ?_
        obtain ⟨h_10, hf⟩ := z_ix hf
        refine z_iast hx hb hK hP (hD S_6) hS 12 0 (zX_12 cy ad S_6) rfl h_10 (k := (a_1.toNatClampNeg)) rfl dX11_give_60 (fun H locs hP hS => ?_)
        obtain ⟨S_11, eS_11, hf⟩ := z_nm hf
        have hP := zW_putI hP eS_11 (by decide) rfl
        refine lv_aload_n hx hb dX11_give_61 rfl (lv_at hl 0 rfl) ?_
        refine va_get (D := D) (ci := 11) (v := .ref (ad 59)) (C := RX11) (T := TX11) (N := 8) hx hb hts k0 hown hK hP 0 (zX_0 cy ad S_11) rfl 4 (by decide) k9 (fun _ h9 => h9) rfl dX11_give_62 ?_
        obtain ⟨r_12, S_13, h_14, hf⟩ := z_bd hf
        refine z_cVV (As := []) (rest := []) X hK hE hD hA hP hS (cx_History_forget l D K cy ad S_11 _ h_14) (cwV 0 hts (z_gV wt_2_235 wt_2_236 wt_2_237 wt_1_9 wt_2_238) rfl rfl rfl ⟨rfl, yd_yX1_forget⟩ ⟨Nat.le_of_ble_eq_true rfl, Nat.le_of_ble_eq_true rfl⟩) (va_recv hK hP (ci := 1) (q0 := 59) rfl (zX_59 cy ad S_11)) hl.1 rfl rfl (Nat.le_of_ble_eq_true rfl) dX11_give_65 (fun H locs hP hS => ?_)
        refine lv_iconst (v := 1) hx hb dX11_give_68 (by decide) ?_
        obtain ⟨h1, h2⟩ := z_s2 hf
        subst h1 h2
        exact hret _ _ _ _ rfl hP hS dX11_give_69
      · have hf := z_if c_15 hf
        exact J_43  S_6 _ _ _ hf hP hS (lv_sub hl [] rfl)
theorem yd_yX11_isSetting : (yX11_isSetting).cls ≠ "java/lang/invoke/MethodHandle" ∧ (yX11_isSetting).cls ≠ "java/lang/invoke/VarHandle" ∧ (parseMethodDescriptor (yX11_isSetting).desc).map (fun d => d.parameters.length) = some 2 := by decide +kernel
def fx_isSetting (S_0 : zSt) (a_1 : Int32) (a_2 : Int32) : Option (Int32 × zSt) :=
  if a_1 = (0 : Int32) then (
  zbd (fx_isWithin S_0 a_2 (1 : Int32) (99 : Int32)) fun r_1 S_2 =>
  zck (zbo r_1) <|
  some (r_1, S_2)) else (
  if a_1 = (1 : Int32) then (
  zbd (fx_isWithin S_0 a_2 (0 : Int32) (99 : Int32)) fun r_7 S_8 =>
  zck (zbo r_7) <|
  some (r_7, S_8)) else (
  if a_1 = (2 : Int32) then (
  zbd (fx_isWithin S_0 a_2 (0 : Int32) (99 : Int32)) fun r_13 S_14 =>
  zck (zbo r_13) <|
  some (r_13, S_14)) else (
  if a_1 = (3 : Int32) then (
  zbd (fx_isWithin S_0 a_2 (0 : Int32) (100 : Int32)) fun r_19 S_20 =>
  zck (zbo r_19) <|
  some (r_19, S_20)) else (
  some ((0 : Int32), S_0)))))
set_option maxHeartbeats 4000000 in
set_option maxRecDepth 100000 in
theorem cx_isSetting (l : Launch) (D : va_G) (K : (Nat → Nat) × (Nat → Nat)) (cy : Nat → ClassId) (ad : Nat → Nat) (S_0 : zSt) (a_1 : Int32) (a_2 : Int32) (ro : Int32) (So : zSt) (hf : fx_isSetting S_0 a_1 a_2 = some (ro, So)) : zMI l yX11_isSetting (zws yX11_isSetting cX11_isSetting 2 (Option.some .boolean)) ({ frames := 1, cells := 0, slots := 0, locals := 22 }) D (zTy cy) K (zX cy ad) [.int a_1, .int a_2] S_0 ro So := by
  refine z_metZ (own := RX11) (lv := [(0, .int a_1), (1, .int a_2)]) (by decide) rfl rfl (Nat.le_of_ble_eq_true rfl) rfl ?_
  intro p e s m below meth c A Q X hK hE hD hA hret hP hS ls hl
  obtain ⟨hx, hb, hml, hown, hts⟩ := id X
  refine lv_iload_n hx hb dX11_isSetting_0 rfl (lv_at hl 0 rfl) ?_
  by_cases c_5 : a_1 = (0 : Int32)
  · have hf := z_it c_5 hf
    refine lv_tableIn (off := 31) (tgt := 32) hx hb dX11_isSetting_1 (by rw [c_5]; decide) (by rw [c_5]; decide) (by rw [c_5]; rfl) (by decide) ?_
    refine lv_iload_n hx hb dX11_isSetting_32 rfl (lv_at hl 1 rfl) ?_
    refine lv_iconst (v := 1) hx hb dX11_isSetting_33 (by decide) ?_
    refine lv_bipush (v := 99) hx hb dX11_isSetting_34 (by decide) ?_
    obtain ⟨r_1, S_2, h_3, hf⟩ := z_bd hf
    refine z_cSI (As := [.int a_2, .int (1 : Int32), .int (99 : Int32)]) (rest := []) X hK hE hD hA hP hS (cx_isWithin l D K cy ad S_0 _ _ _ _ _ h_3) (va_cwS 3 hts (z_gS wt_2_219 wt_2_220 wt_1_1 wt_2_221) rfl rfl rfl yd_yX11_isWithin ⟨Nat.le_of_ble_eq_true rfl, Nat.le_of_ble_eq_true rfl⟩) hl.1 rfl rfl (Nat.le_of_ble_eq_true rfl) dX11_isSetting_36 (fun H locs hP hS => ?_)
    obtain ⟨h_4, hf⟩ := z_bo hf
    obtain ⟨h1, h2⟩ := z_s2 hf
    subst h1 h2
    exact hret _ _ _ _ h_4 hP hS dX11_isSetting_39
  have hf := z_if c_5 hf
  have n_6 : a_1.toInt ≠ 0 := z_ne c_5 (by decide)
  by_cases c_11 : a_1 = (1 : Int32)
  · have hf := z_it c_11 hf
    refine lv_tableIn (off := 39) (tgt := 40) hx hb dX11_isSetting_1 (by rw [c_11]; decide) (by rw [c_11]; decide) (by rw [c_11]; rfl) (by decide) ?_
    refine lv_iload_n hx hb dX11_isSetting_40 rfl (lv_at hl 1 rfl) ?_
    refine lv_iconst (v := 0) hx hb dX11_isSetting_41 (by decide) ?_
    refine lv_bipush (v := 99) hx hb dX11_isSetting_42 (by decide) ?_
    obtain ⟨r_7, S_8, h_9, hf⟩ := z_bd hf
    refine z_cSI (As := [.int a_2, .int (0 : Int32), .int (99 : Int32)]) (rest := []) X hK hE hD hA hP hS (cx_isWithin l D K cy ad S_0 _ _ _ _ _ h_9) (va_cwS 3 hts (z_gS wt_2_219 wt_2_220 wt_1_1 wt_2_221) rfl rfl rfl yd_yX11_isWithin ⟨Nat.le_of_ble_eq_true rfl, Nat.le_of_ble_eq_true rfl⟩) hl.1 rfl rfl (Nat.le_of_ble_eq_true rfl) dX11_isSetting_44 (fun H locs hP hS => ?_)
    obtain ⟨h_10, hf⟩ := z_bo hf
    obtain ⟨h1, h2⟩ := z_s2 hf
    subst h1 h2
    exact hret _ _ _ _ h_10 hP hS dX11_isSetting_47
  have hf := z_if c_11 hf
  have n_12 : a_1.toInt ≠ 1 := z_ne c_11 (by decide)
  by_cases c_17 : a_1 = (2 : Int32)
  · have hf := z_it c_17 hf
    refine lv_tableIn (off := 47) (tgt := 48) hx hb dX11_isSetting_1 (by rw [c_17]; decide) (by rw [c_17]; decide) (by rw [c_17]; rfl) (by decide) ?_
    refine lv_iload_n hx hb dX11_isSetting_48 rfl (lv_at hl 1 rfl) ?_
    refine lv_iconst (v := 0) hx hb dX11_isSetting_49 (by decide) ?_
    refine lv_bipush (v := 99) hx hb dX11_isSetting_50 (by decide) ?_
    obtain ⟨r_13, S_14, h_15, hf⟩ := z_bd hf
    refine z_cSI (As := [.int a_2, .int (0 : Int32), .int (99 : Int32)]) (rest := []) X hK hE hD hA hP hS (cx_isWithin l D K cy ad S_0 _ _ _ _ _ h_15) (va_cwS 3 hts (z_gS wt_2_219 wt_2_220 wt_1_1 wt_2_221) rfl rfl rfl yd_yX11_isWithin ⟨Nat.le_of_ble_eq_true rfl, Nat.le_of_ble_eq_true rfl⟩) hl.1 rfl rfl (Nat.le_of_ble_eq_true rfl) dX11_isSetting_52 (fun H locs hP hS => ?_)
    obtain ⟨h_16, hf⟩ := z_bo hf
    obtain ⟨h1, h2⟩ := z_s2 hf
    subst h1 h2
    exact hret _ _ _ _ h_16 hP hS dX11_isSetting_55
  have hf := z_if c_17 hf
  have n_18 : a_1.toInt ≠ 2 := z_ne c_17 (by decide)
  by_cases c_23 : a_1 = (3 : Int32)
  · have hf := z_it c_23 hf
    refine lv_tableIn (off := 55) (tgt := 56) hx hb dX11_isSetting_1 (by rw [c_23]; decide) (by rw [c_23]; decide) (by rw [c_23]; rfl) (by decide) ?_
    refine lv_iload_n hx hb dX11_isSetting_56 rfl (lv_at hl 1 rfl) ?_
    refine lv_iconst (v := 0) hx hb dX11_isSetting_57 (by decide) ?_
    refine lv_bipush (v := 100) hx hb dX11_isSetting_58 (by decide) ?_
    obtain ⟨r_19, S_20, h_21, hf⟩ := z_bd hf
    refine z_cSI (As := [.int a_2, .int (0 : Int32), .int (100 : Int32)]) (rest := []) X hK hE hD hA hP hS (cx_isWithin l D K cy ad S_0 _ _ _ _ _ h_21) (va_cwS 3 hts (z_gS wt_2_219 wt_2_220 wt_1_1 wt_2_221) rfl rfl rfl yd_yX11_isWithin ⟨Nat.le_of_ble_eq_true rfl, Nat.le_of_ble_eq_true rfl⟩) hl.1 rfl rfl (Nat.le_of_ble_eq_true rfl) dX11_isSetting_60 (fun H locs hP hS => ?_)
    obtain ⟨h_22, hf⟩ := z_bo hf
    obtain ⟨h1, h2⟩ := z_s2 hf
    subst h1 h2
    exact hret _ _ _ _ h_22 hP hS dX11_isSetting_63
  have hf := z_if c_23 hf
  have n_24 : a_1.toInt ≠ 3 := z_ne c_23 (by decide)
  refine lv_tableOut (tgt := 64) hx hb dX11_isSetting_1 (by omega) (by decide) ?_
  refine lv_iconst (v := 0) hx hb dX11_isSetting_64 (by decide) ?_
  obtain ⟨h1, h2⟩ := z_s2 hf
  subst h1 h2
  exact hret _ _ _ _ rfl hP hS dX11_isSetting_65
theorem yd_yX11_set : (yX11_set).cls ≠ "java/lang/invoke/MethodHandle" ∧ (yX11_set).cls ≠ "java/lang/invoke/VarHandle" ∧ (parseMethodDescriptor (yX11_set).desc).map (fun d => d.parameters.length) = some 2 := by decide +kernel
def fx_set (S_0 : zSt) (a_1 : Int32) (a_2 : Int32) : Option (Int32 × zSt) :=
  zbd (fx_isSetting S_0 a_1 a_2) fun r_1 S_2 =>
  if r_1 = 0 then (
  some ((0 : Int32), S_2)) else (
  zck (zix a_1 4) <|
  znm (zpI S_2 19 (a_1.toNatClampNeg) a_2) fun S_5 =>
  zbd (fx_History_forget S_5) fun _ S_7 =>
  some ((1 : Int32), S_7))
set_option maxHeartbeats 4000000 in
set_option maxRecDepth 100000 in
theorem cx_set (l : Launch) (D : va_G) (K : (Nat → Nat) × (Nat → Nat)) (cy : Nat → ClassId) (ad : Nat → Nat) (S_0 : zSt) (a_1 : Int32) (a_2 : Int32) (ro : Int32) (So : zSt) (hf : fx_set S_0 a_1 a_2 = some (ro, So)) : zMI l yX11_set (zws yX11_set cX11_set 3 (Option.some .boolean)) ({ frames := 2, cells := 0, slots := 0, locals := 43 }) D (zTy cy) K (zX cy ad) [.ref (ad 0), .int a_1, .int a_2] S_0 ro So := by
  refine z_metZ (own := RX11) (lv := [(0, .ref (ad 0)), (1, .int a_1), (2, .int a_2)]) (by decide) rfl rfl (Nat.le_of_ble_eq_true rfl) rfl ?_
  intro p e s m below meth c A Q X hK hE hD hA hret hP hS ls hl
  obtain ⟨hx, hb, hml, hown, hts⟩ := id X
  have k0 := (fun w h => List.mem_cons_of_mem _ (zFX11 w h) : ∀ w ∈ u_ws RX11 TX11 8, w ∈ zws yX11_set cX11_set 3 (Option.some .boolean))
  have k1 := hts _ (List.mem_cons_of_mem _ wt_2_175)
  have k2 := (fun w h => List.mem_cons_of_mem _ (zFX0 w h) : ∀ w ∈ u_ws RX0 TX0 6, w ∈ zws yX11_set cX11_set 3 (Option.some .boolean))
  have k3 := hts _ (List.mem_cons_of_mem _ wt_2_0)
  have k4 := hts _ (List.mem_cons_of_mem _ wt_2_178)
  refine lv_iload_n hx hb dX11_set_0 rfl (lv_at hl 1 rfl) ?_
  refine lv_iload_n hx hb dX11_set_1 rfl (lv_at hl 2 rfl) ?_
  obtain ⟨r_1, S_2, h_3, hf⟩ := z_bd hf
  refine z_cSI (As := [.int a_1, .int a_2]) (rest := []) X hK hE hD hA hP hS (cx_isSetting l D K cy ad S_0 _ _ _ _ h_3) (va_cwS 2 hts (z_gS wt_3_13 wt_3_14 wt_1_1 wt_3_15) rfl rfl rfl yd_yX11_isSetting ⟨Nat.le_of_ble_eq_true rfl, Nat.le_of_ble_eq_true rfl⟩) hl.1 rfl rfl (Nat.le_of_ble_eq_true rfl) dX11_set_2 (fun H locs hP hS => ?_)
  refine lv_if_ne (tgt := 10) hx hb dX11_set_5 (by decide) (fun c_9 => ?_) (fun c_9 => ?_)
  · have hf := z_if c_9 hf
    refine lv_aload_n hx hb dX11_set_10 rfl (lv_at hl 0 rfl) ?_
    refine va_get (D := D) (ci := 11) (v := .ref (ad 3)) (C := RX11) (T := TX11) (N := 8) hx hb hts k0 hown hK hP 0 (zX_0 cy ad S_2) rfl 1 (by decide) k1 (fun _ h9 => h9) rfl dX11_set_11 ?_
    refine va_get (D := D) (ci := 0) (v := .ref (ad 19)) (C := RX0) (T := TX0) (N := 6) hx hb hts k2 hown hK hP 3 (zX_3 cy ad S_2) rfl 2 (by decide) k3 (fun _ h9 => h9) rfl dX11_set_14 ?_
    refine lv_iload_n hx hb dX11_set_17 rfl (lv_at hl 1 rfl) ?_
    refine lv_iload_n hx hb dX11_set_18 rfl (lv_at hl 2 rfl) ?_
    obtain ⟨h_4, hf⟩ := z_ix hf
    refine z_iast hx hb hK hP (hD S_2) hS 19 0 (zX_19 cy ad S_2) rfl h_4 (k := (a_1.toNatClampNeg)) rfl dX11_set_19 (fun H locs hP hS => ?_)
    obtain ⟨S_5, eS_5, hf⟩ := z_nm hf
    have hP := zW_putI hP eS_5 (by decide) rfl
    refine lv_aload_n hx hb dX11_set_20 rfl (lv_at hl 0 rfl) ?_
    refine va_get (D := D) (ci := 11) (v := .ref (ad 59)) (C := RX11) (T := TX11) (N := 8) hx hb hts k0 hown hK hP 0 (zX_0 cy ad S_5) rfl 4 (by decide) k4 (fun _ h9 => h9) rfl dX11_set_21 ?_
    obtain ⟨r_6, S_7, h_8, hf⟩ := z_bd hf
    refine z_cVV (As := []) (rest := []) X hK hE hD hA hP hS (cx_History_forget l D K cy ad S_5 _ h_8) (cwV 0 hts (z_gV wt_2_235 wt_2_236 wt_2_237 wt_1_9 wt_2_238) rfl rfl rfl ⟨rfl, yd_yX1_forget⟩ ⟨Nat.le_of_ble_eq_true rfl, Nat.le_of_ble_eq_true rfl⟩) (va_recv hK hP (ci := 1) (q0 := 59) rfl (zX_59 cy ad S_5)) hl.1 rfl rfl (Nat.le_of_ble_eq_true rfl) dX11_set_24 (fun H locs hP hS => ?_)
    refine lv_iconst (v := 1) hx hb dX11_set_27 (by decide) ?_
    obtain ⟨h1, h2⟩ := z_s2 hf
    subst h1 h2
    exact hret _ _ _ _ rfl hP hS dX11_set_28
  · have hf := z_it c_9 hf
    refine lv_iconst (v := 0) hx hb dX11_set_8 (by decide) ?_
    obtain ⟨h1, h2⟩ := z_s2 hf
    subst h1 h2
    exact hret _ _ _ _ rfl hP hS dX11_set_9
theorem yd_yX11_fault : (yX11_fault).cls ≠ "java/lang/invoke/MethodHandle" ∧ (yX11_fault).cls ≠ "java/lang/invoke/VarHandle" ∧ (parseMethodDescriptor (yX11_fault).desc).map (fun d => d.parameters.length) = some 1 := by decide +kernel
def fx_fault (S_0 : zSt) (a_1 : Int32) : Option (Int32 × zSt) :=
  if a_1 = 0 then (
  some (S_0.1 125 4, S_0)) else (
  znm (fun (x_1 : Int32) (S_2 : zSt) =>
  some (x_1, S_2)) fun j_28 =>
  if a_1 = (1 : Int32) then (
  j_28 (S_0.1 125 5) S_0) else (
  j_28 (-1 : Int32) S_0))
set_option maxHeartbeats 4000000 in
set_option maxRecDepth 100000 in
theorem cx_fault (l : Launch) (D : va_G) (K : (Nat → Nat) × (Nat → Nat)) (cy : Nat → ClassId) (ad : Nat → Nat) (S_0 : zSt) (a_1 : Int32) (ro : Int32) (So : zSt) (hf : fx_fault S_0 a_1 = some (ro, So)) : zMI l yX11_fault (zws yX11_fault cX11_fault 2 (Option.some .int)) ({ frames := 0, cells := 0, slots := 0, locals := 0 }) D (zTy cy) K (zX cy ad) [.ref (ad 0), .int a_1] S_0 ro So := by
  refine z_metI (own := RX11) (lv := [(0, .ref (ad 0)), (1, .int a_1)]) (by decide) rfl rfl (Nat.le_of_ble_eq_true rfl) rfl ?_
  intro p e s m below meth c A Q X hK hE hD hA hret hP hS ls hl
  obtain ⟨hx, hb, hml, hown, hts⟩ := id X
  have k0 := (fun w h => List.mem_cons_of_mem _ (zFX11 w h) : ∀ w ∈ u_ws RX11 TX11 8, w ∈ zws yX11_fault cX11_fault 2 (Option.some .int))
  have k1 := hts _ (List.mem_cons_of_mem _ wt_2_179)
  have k2 := (fun w h => List.mem_cons_of_mem _ (zFX7 w h) : ∀ w ∈ u_ws RX7 TX7 16, w ∈ zws yX11_fault cX11_fault 2 (Option.some .int))
  have k3 := hts _ (List.mem_cons_of_mem _ wt_2_58)
  have k4 := hts _ (List.mem_cons_of_mem _ wt_2_56)
  refine lv_iload_n hx hb dX11_fault_0 rfl (lv_at hl 1 rfl) ?_
  refine lv_if_ne (tgt := 12) hx hb dX11_fault_1 (by decide) (fun c_4 => ?_) (fun c_4 => ?_)
  · have hf := z_if c_4 hf
    refine lv_iload_n hx hb dX11_fault_12 rfl (lv_at hl 1 rfl) ?_
    refine lv_iconst (v := 1) hx hb dX11_fault_13 (by decide) ?_
    obtain ⟨j_28, ej_28, hf⟩ := z_nm hf
    have J_28 : ∀ (x_1 : Int32) (S_2 : zSt) (H : Heap) (locs : List Loc) (ls : Array Slot), j_28 x_1 S_2 = some (ro, So) → va_P D vwCl (zX cy ad S_2) H → va_S A s.heap H locs → lv_has ls 2 [] → W p l e ({ frames := 0, cells := 0, slots := 0, locals := 0 }) s m ([.ref (ad 0), .int a_1] : List Value).toArray below meth c H locs 0 0 Q (F0 m 28 ls [.int x_1]) := by
      intro x_1 S_2 H locs ls hf hP hS hl
      have hf := z_e2 ej_28 hf
      obtain ⟨h1, h2⟩ := z_s2 hf
      subst h1 h2
      exact hret _ _ _ _ hP hS dX11_fault_28
    refine lv_icmp_ne (tgt := 27) hx hb dX11_fault_14 (by decide) (fun c_3 => ?_) (fun c_3 => ?_)
    · have hf := z_if c_3 hf
      refine lv_iconst (v := -1) hx hb dX11_fault_27 (by decide) ?_
      exact J_28 (-1 : Int32) S_0 _ _ _ hf hP hS (lv_sub hl [] rfl)
    · have hf := z_it c_3 hf
      refine lv_aload_n hx hb dX11_fault_17 rfl (lv_at hl 0 rfl) ?_
      refine va_get (D := D) (ci := 11) (v := .ref (ad 125)) (C := RX11) (T := TX11) (N := 8) hx hb hts k0 hown hK hP 0 (zX_0 cy ad S_0) rfl 5 (by decide) k1 (fun _ h9 => h9) rfl dX11_fault_18 ?_
      refine va_get (D := D) (ci := 7) (v := .int (S_0.1 125 5)) (C := RX7) (T := TX7) (N := 16) hx hb hts k2 hown hK hP 125 (zX_125 cy ad S_0) rfl 5 (by decide) k3 (fun _ h9 => h9) rfl dX11_fault_21 ?_
      refine lv_goto (tgt := 28) hx hb dX11_fault_24 (by decide) ?_
      exact J_28 (S_0.1 125 5) S_0 _ _ _ hf hP hS (lv_sub hl [] rfl)
  · have hf := z_it c_4 hf
    refine lv_aload_n hx hb dX11_fault_4 rfl (lv_at hl 0 rfl) ?_
    refine va_get (D := D) (ci := 11) (v := .ref (ad 125)) (C := RX11) (T := TX11) (N := 8) hx hb hts k0 hown hK hP 0 (zX_0 cy ad S_0) rfl 5 (by decide) k1 (fun _ h9 => h9) rfl dX11_fault_5 ?_
    refine va_get (D := D) (ci := 7) (v := .int (S_0.1 125 4)) (C := RX7) (T := TX7) (N := 16) hx hb hts k2 hown hK hP 125 (zX_125 cy ad S_0) rfl 4 (by decide) k4 (fun _ h9 => h9) rfl dX11_fault_8 ?_
    obtain ⟨h1, h2⟩ := z_s2 hf
    subst h1 h2
    exact hret _ _ _ _ hP hS dX11_fault_11
theorem yd_yX11_order : (yX11_order).cls ≠ "java/lang/invoke/MethodHandle" ∧ (yX11_order).cls ≠ "java/lang/invoke/VarHandle" ∧ (parseMethodDescriptor (yX11_order).desc).map (fun d => d.parameters.length) = some 1 := by decide +kernel
def fx_order (S_0 : zSt) (a_1 : Int32) : Option (Int32 × zSt) :=
  zbd (fx_Houses_has S_0 a_1) fun r_1 S_2 =>
  if r_1 = 0 then (
  some ((-1 : Int32), S_2)) else (
  zbd (fx_Lineup_standForToday S_2) fun _ S_5 =>
  zck (zix a_1 9) <|
  some (S_5.1 129 (a_1.toNatClampNeg), S_5))
set_option maxHeartbeats 4000000 in
set_option maxRecDepth 100000 in
theorem cx_order (l : Launch) (D : va_G) (K : (Nat → Nat) × (Nat → Nat)) (cy : Nat → ClassId) (ad : Nat → Nat) (S_0 : zSt) (a_1 : Int32) (ro : Int32) (So : zSt) (hf : fx_order S_0 a_1 = some (ro, So)) : zMI l yX11_order (zws yX11_order cX11_order 2 (Option.some .int)) ({ frames := 4, cells := 0, slots := 0, locals := 89 }) D (zTy cy) K (zX cy ad) [.ref (ad 0), .int a_1] S_0 ro So := by
  refine z_metI (own := RX11) (lv := [(0, .ref (ad 0)), (1, .int a_1)]) (by decide) rfl rfl (Nat.le_of_ble_eq_true rfl) rfl ?_
  intro p e s m below meth c A Q X hK hE hD hA hret hP hS ls hl
  obtain ⟨hx, hb, hml, hown, hts⟩ := id X
  have k0 := (fun w h => List.mem_cons_of_mem _ (zFX11 w h) : ∀ w ∈ u_ws RX11 TX11 8, w ∈ zws yX11_order cX11_order 2 (Option.some .int))
  have k1 := hts _ (List.mem_cons_of_mem _ wt_2_175)
  have k2 := (fun w h => List.mem_cons_of_mem _ (zFX0 w h) : ∀ w ∈ u_ws RX0 TX0 6, w ∈ zws yX11_order cX11_order 2 (Option.some .int))
  have k3 := hts _ (List.mem_cons_of_mem _ wt_1_235)
  have k4 := hts _ (List.mem_cons_of_mem _ wt_2_180)
  have k5 := (fun w h => List.mem_cons_of_mem _ (zFX4 w h) : ∀ w ∈ u_ws RX4 TX4 14, w ∈ zws yX11_order cX11_order 2 (Option.some .int))
  have k6 := hts _ (List.mem_cons_of_mem _ wt_2_110)
  refine lv_aload_n hx hb dX11_order_0 rfl (lv_at hl 0 rfl) ?_
  refine va_get (D := D) (ci := 11) (v := .ref (ad 3)) (C := RX11) (T := TX11) (N := 8) hx hb hts k0 hown hK hP 0 (zX_0 cy ad S_0) rfl 1 (by decide) k1 (fun _ h9 => h9) rfl dX11_order_1 ?_
  refine va_get (D := D) (ci := 0) (v := .ref (ad 4)) (C := RX0) (T := TX0) (N := 6) hx hb hts k2 hown hK hP 3 (zX_3 cy ad S_0) rfl 0 (by decide) k3 (fun _ h9 => h9) rfl dX11_order_4 ?_
  refine lv_iload_n hx hb dX11_order_7 rfl (lv_at hl 1 rfl) ?_
  obtain ⟨r_1, S_2, h_3, hf⟩ := z_bd hf
  refine z_cVI (As := [.int a_1]) (rest := []) X hK hE hD hA hP hS (cx_Houses_has l D K cy ad S_0 _ _ _ h_3) (cwV 1 hts (z_gV wt_3_3 wt_3_4 wt_3_5 wt_1_4 wt_3_6) rfl rfl rfl ⟨rfl, yd_yX2_has⟩ ⟨Nat.le_of_ble_eq_true rfl, Nat.le_of_ble_eq_true rfl⟩) (va_recv hK hP (ci := 2) (q0 := 4) rfl (zX_4 cy ad S_0)) hl.1 rfl rfl (Nat.le_of_ble_eq_true rfl) dX11_order_8 (fun H locs hP hS => ?_)
  refine lv_if_ne (tgt := 16) hx hb dX11_order_11 (by decide) (fun c_8 => ?_) (fun c_8 => ?_)
  · have hf := z_if c_8 hf
    refine lv_aload_n hx hb dX11_order_16 rfl (lv_at hl 0 rfl) ?_
    refine va_get (D := D) (ci := 11) (v := .ref (ad 128)) (C := RX11) (T := TX11) (N := 8) hx hb hts k0 hown hK hP 0 (zX_0 cy ad S_2) rfl 6 (by decide) k4 (fun _ h9 => h9) rfl dX11_order_17 ?_
    obtain ⟨r_4, S_5, h_6, hf⟩ := z_bd hf
    refine z_cVV (As := []) (rest := []) X hK hE hD hA hP hS (cx_Lineup_standForToday l D K cy ad S_2 _ h_6) (cwV 0 hts (z_gV wt_4_1 wt_4_2 wt_4_3 wt_1_11 wt_4_4) rfl rfl rfl ⟨rfl, yd_yX4_standForToday⟩ ⟨Nat.le_of_ble_eq_true rfl, Nat.le_of_ble_eq_true rfl⟩) (va_recv hK hP (ci := 4) (q0 := 128) rfl (zX_128 cy ad S_2)) hl.1 rfl rfl (Nat.le_of_ble_eq_true rfl) dX11_order_20 (fun H locs hP hS => ?_)
    refine lv_aload_n hx hb dX11_order_23 rfl (lv_at hl 0 rfl) ?_
    refine va_get (D := D) (ci := 11) (v := .ref (ad 128)) (C := RX11) (T := TX11) (N := 8) hx hb hts k0 hown hK hP 0 (zX_0 cy ad S_5) rfl 6 (by decide) k4 (fun _ h9 => h9) rfl dX11_order_24 ?_
    refine va_get (D := D) (ci := 4) (v := .ref (ad 129)) (C := RX4) (T := TX4) (N := 14) hx hb hts k5 hown hK hP 128 (zX_128 cy ad S_5) rfl 1 (by decide) k6 (fun _ h9 => h9) rfl dX11_order_27 ?_
    refine lv_iload_n hx hb dX11_order_30 rfl (lv_at hl 1 rfl) ?_
    obtain ⟨h_7, hf⟩ := z_ix hf
    refine z_iald hx hb hK hP 129 0 (zX_129 cy ad S_5) rfl h_7 (k := (a_1.toNatClampNeg)) rfl dX11_order_31 ?_
    obtain ⟨h1, h2⟩ := z_s2 hf
    subst h1 h2
    exact hret _ _ _ _ hP hS dX11_order_32
  · have hf := z_it c_8 hf
    refine lv_iconst (v := -1) hx hb dX11_order_14 (by decide) ?_
    obtain ⟨h1, h2⟩ := z_s2 hf
    subst h1 h2
    exact hret _ _ _ _ hP hS dX11_order_15
theorem yd_yX11_days : (yX11_days).cls ≠ "java/lang/invoke/MethodHandle" ∧ (yX11_days).cls ≠ "java/lang/invoke/VarHandle" ∧ (parseMethodDescriptor (yX11_days).desc).map (fun d => d.parameters.length) = some 1 := by decide +kernel
def fx_days_L35 (a_1 : Int32) : Nat → Int32 → Int32 → zSt → Option (Int32 × zSt)
  | 0, _, _, _ => none
  | n_35 + 1, x_5, x_6, S_7 =>
    if a_1 ≤ x_6 then (
    some (x_5, S_7)) else (
    znm (fun (S_8 : zSt) =>
    zbd (fx_Lineup_passDay S_8) fun r_9 S_10 =>
    znm (fun (x_12 : Int32) (S_13 : zSt) =>
    znm (x_6 + (1 : Int32)) fun x_14 =>
    fx_days_L35 a_1 n_35 x_12 x_14 S_13) fun j_75 =>
    if r_9 = 0 then (
    j_75 x_5 S_10) else (
    znm (x_5 + (1 : Int32)) fun x_15 =>
    j_75 x_15 S_10)) fun j_62 =>
    if (8 : Int32) < (a_1 - x_6) then (
    j_62  S_7) else (
    zbd (fx_History_keep S_7) fun _ S_18 =>
    j_62  S_18))
def fx_days (S_0 : zSt) (a_1 : Int32) : Option (Int32 × zSt) :=
  zbd (fx_isWithin S_0 a_1 (1 : Int32) (400 : Int32)) fun r_1 S_2 =>
  znm (fun (S_4 : zSt) =>
  some ((-1 : Int32), S_4)) fun j_29 =>
  if r_1 = 0 then (
  j_29  S_2) else (
  if (S_2.1 11 1) ≤ ((9999 : Int32) - a_1) then (
  fx_days_L35 a_1 zFU (0 : Int32) (0 : Int32) S_2) else (
  j_29  S_2))
set_option maxHeartbeats 4000000 in
set_option maxRecDepth 100000 in
theorem cx_days (l : Launch) (D : va_G) (K : (Nat → Nat) × (Nat → Nat)) (cy : Nat → ClassId) (ad : Nat → Nat) (S_0 : zSt) (a_1 : Int32) (ro : Int32) (So : zSt) (hf : fx_days S_0 a_1 = some (ro, So)) : zMI l yX11_days (zws yX11_days cX11_days 4 (Option.some .int)) ({ frames := 5, cells := 0, slots := 0, locals := 272 }) D (zTy cy) K (zX cy ad) [.ref (ad 0), .int a_1] S_0 ro So := by
  refine z_metI (own := RX11) (lv := [(0, .ref (ad 0)), (1, .int a_1)]) (by decide) rfl rfl (Nat.le_of_ble_eq_true rfl) rfl ?_
  intro p e s m below meth c A Q X hK hE hD hA hret hP hS ls hl
  obtain ⟨hx, hb, hml, hown, hts⟩ := id X
  have k0 := (fun w h => List.mem_cons_of_mem _ (zFX11 w h) : ∀ w ∈ u_ws RX11 TX11 8, w ∈ zws yX11_days cX11_days 4 (Option.some .int))
  have k1 := hts _ (List.mem_cons_of_mem _ wt_2_175)
  have k2 := (fun w h => List.mem_cons_of_mem _ (zFX0 w h) : ∀ w ∈ u_ws RX0 TX0 6, w ∈ zws yX11_days cX11_days 4 (Option.some .int))
  have k3 := hts _ (List.mem_cons_of_mem _ wt_1_237)
  have k4 := (fun w h => List.mem_cons_of_mem _ (zFX10 w h) : ∀ w ∈ u_ws RX10 TX10 12, w ∈ zws yX11_days cX11_days 4 (Option.some .int))
  have k5 := hts _ (List.mem_cons_of_mem _ wt_1_111)
  have k6 := hts _ (List.mem_cons_of_mem _ wt_2_180)
  have k7 := hts _ (List.mem_cons_of_mem _ wt_2_178)
  refine lv_iload_n hx hb dX11_days_0 rfl (lv_at hl 1 rfl) ?_
  refine lv_iconst (v := 1) hx hb dX11_days_1 (by decide) ?_
  refine lv_sipush (v := 400) hx hb dX11_days_2 (by decide) ?_
  obtain ⟨r_1, S_2, h_3, hf⟩ := z_bd hf
  refine z_cSI (As := [.int a_1, .int (1 : Int32), .int (400 : Int32)]) (rest := []) X hK hE hD hA hP hS (cx_isWithin l D K cy ad S_0 _ _ _ _ _ h_3) (va_cwS 3 hts (z_gS wt_2_219 wt_2_220 wt_1_1 wt_2_221) rfl rfl rfl yd_yX11_isWithin ⟨Nat.le_of_ble_eq_true rfl, Nat.le_of_ble_eq_true rfl⟩) hl.1 rfl rfl (Nat.le_of_ble_eq_true rfl) dX11_days_5 (fun H locs hP hS => ?_)
  obtain ⟨j_29, ej_29, hf⟩ := z_nm hf
  have J_29 : ∀ (S_4 : zSt) (H : Heap) (locs : List Loc) (ls : Array Slot), j_29  S_4 = some (ro, So) → va_P D vwCl (zX cy ad S_4) H → va_S A s.heap H locs → lv_has ls 4 [] → W p l e ({ frames := 5, cells := 0, slots := 0, locals := 272 }) s m ([.ref (ad 0), .int a_1] : List Value).toArray below meth c H locs 0 0 Q (F0 m 29 ls []) := by
    intro  S_4 H locs ls hf hP hS hl
    have hf := z_e1 ej_29 hf
    refine lv_iconst (v := -1) hx hb dX11_days_29 (by decide) ?_
    obtain ⟨h1, h2⟩ := z_s2 hf
    subst h1 h2
    exact hret _ _ _ _ hP hS dX11_days_30
  refine lv_if_eq (tgt := 29) hx hb dX11_days_8 (by decide) (fun c_23 => ?_) (fun c_23 => ?_)
  · have hf := z_it c_23 hf
    exact J_29  S_2 _ _ _ hf hP hS (lv_sub hl [] rfl)
  · have hf := z_if c_23 hf
    refine lv_aload_n hx hb dX11_days_11 rfl (lv_at hl 0 rfl) ?_
    refine va_get (D := D) (ci := 11) (v := .ref (ad 3)) (C := RX11) (T := TX11) (N := 8) hx hb hts k0 hown hK hP 0 (zX_0 cy ad S_2) rfl 1 (by decide) k1 (fun _ h9 => h9) rfl dX11_days_12 ?_
    refine va_get (D := D) (ci := 0) (v := .ref (ad 11)) (C := RX0) (T := TX0) (N := 6) hx hb hts k2 hown hK hP 3 (zX_3 cy ad S_2) rfl 1 (by decide) k3 (fun _ h9 => h9) rfl dX11_days_15 ?_
    refine va_get (D := D) (ci := 10) (v := .int (S_2.1 11 1)) (C := RX10) (T := TX10) (N := 12) hx hb hts k4 hown hK hP 11 (zX_11 cy ad S_2) rfl 1 (by decide) k5 (fun _ h9 => h9) rfl dX11_days_18 ?_
    refine lv_sipush (v := 9999) hx hb dX11_days_21 (by decide) ?_
    refine lv_iload_n hx hb dX11_days_24 rfl (lv_at hl 1 rfl) ?_
    refine lv_isub hx hb dX11_days_25 ?_
    refine lv_icmp_le (tgt := 31) hx hb dX11_days_26 (by decide) (fun c_22 => ?_) (fun c_22 => ?_)
    · have hf := z_it c_22 hf
      refine lv_iconst (v := 0) hx hb dX11_days_31 (by decide) ?_
      refine lv_istore_n (lv' := [(2, .int (0 : Int32)), (0, .ref (ad 0)), (1, .int a_1)]) hx hb dX11_days_32 rfl hl (by decide) rfl (fun ls hl => ?_)
      refine lv_iconst (v := 0) hx hb dX11_days_33 (by decide) ?_
      refine lv_istore_n (lv' := [(3, .int (0 : Int32)), (2, .int (0 : Int32)), (0, .ref (ad 0)), (1, .int a_1)]) hx hb dX11_days_34 rfl hl (by decide) rfl (fun ls hl => ?_)
      have L_35 : ∀ (n_35 : Nat) (x_5 : Int32) (x_6 : Int32) (S_7 : zSt) (H : Heap) (locs : List Loc) (ls : Array Slot), fx_days_L35 a_1 n_35 x_5 x_6 S_7 = some (ro, So) → va_P D vwCl (zX cy ad S_7) H → va_S A s.heap H locs → lv_has ls 4 [(0, .ref (ad 0)), (1, .int a_1), (2, .int x_5), (3, .int x_6)] → W p l e ({ frames := 5, cells := 0, slots := 0, locals := 272 }) s m ([.ref (ad 0), .int a_1] : List Value).toArray below meth c H locs 0 0 Q (F0 m 35 ls []) := by
        intro n_35
        induction n_35 with
        | zero =>
          intro x_5 x_6 S_7 H locs ls hf hP hS hl
          exact z_no hf
        | succ n_35 ih_35 =>
          intro x_5 x_6 S_7 H locs ls hf hP hS hl
          rw [fx_days_L35] at hf
          refine lv_iload_n hx hb dX11_days_35 rfl (lv_at hl 3 rfl) ?_
          refine lv_iload_n hx hb dX11_days_36 rfl (lv_at hl 1 rfl) ?_
          refine lv_icmp_ge (tgt := 81) hx hb dX11_days_37 (by decide) (fun c_21 => ?_) (fun c_21 => ?_)
          · have hf := z_it c_21 hf
            refine lv_iload_n hx hb dX11_days_81 rfl (lv_at hl 2 rfl) ?_
            obtain ⟨h1, h2⟩ := z_s2 hf
            subst h1 h2
            exact hret _ _ _ _ hP hS dX11_days_82
          · have hf := z_if c_21 hf
            refine lv_iload_n hx hb dX11_days_40 rfl (lv_at hl 1 rfl) ?_
            refine lv_iload_n hx hb dX11_days_41 rfl (lv_at hl 3 rfl) ?_
            refine lv_isub hx hb dX11_days_42 ?_
            refine lv_bipush (v := 8) hx hb dX11_days_43 (by decide) ?_
            obtain ⟨j_62, ej_62, hf⟩ := z_nm hf
            have J_62 : ∀ (S_8 : zSt) (H : Heap) (locs : List Loc) (ls : Array Slot), j_62  S_8 = some (ro, So) → va_P D vwCl (zX cy ad S_8) H → va_S A s.heap H locs → lv_has ls 4 [(0, .ref (ad 0)), (1, .int a_1), (2, .int x_5), (3, .int x_6)] → W p l e ({ frames := 5, cells := 0, slots := 0, locals := 272 }) s m ([.ref (ad 0), .int a_1] : List Value).toArray below meth c H locs 0 0 Q (F0 m 62 ls []) := by
              intro  S_8 H locs ls hf hP hS hl
              have hf := z_e1 ej_62 hf
              refine lv_aload_n hx hb dX11_days_62 rfl (lv_at hl 0 rfl) ?_
              refine va_get (D := D) (ci := 11) (v := .ref (ad 128)) (C := RX11) (T := TX11) (N := 8) hx hb hts k0 hown hK hP 0 (zX_0 cy ad S_8) rfl 6 (by decide) k6 (fun _ h9 => h9) rfl dX11_days_63 ?_
              obtain ⟨r_9, S_10, h_11, hf⟩ := z_bd hf
              refine z_cVI (As := []) (rest := []) X hK hE hD hA hP hS (cx_Lineup_passDay l D K cy ad S_8 _ _ h_11) (cwV 0 hts (z_gV wt_4_48 wt_4_49 wt_4_50 wt_1_11 wt_4_51) rfl rfl rfl ⟨rfl, yd_yX4_passDay⟩ ⟨Nat.le_of_ble_eq_true rfl, Nat.le_of_ble_eq_true rfl⟩) (va_recv hK hP (ci := 4) (q0 := 128) rfl (zX_128 cy ad S_8)) hl.1 rfl rfl (Nat.le_of_ble_eq_true rfl) dX11_days_66 (fun H locs hP hS => ?_)
              obtain ⟨j_75, ej_75, hf⟩ := z_nm hf
              have J_75 : ∀ (x_12 : Int32) (S_13 : zSt) (H : Heap) (locs : List Loc) (ls : Array Slot), j_75 x_12 S_13 = some (ro, So) → va_P D vwCl (zX cy ad S_13) H → va_S A s.heap H locs → lv_has ls 4 [(0, .ref (ad 0)), (1, .int a_1), (2, .int x_12), (3, .int x_6)] → W p l e ({ frames := 5, cells := 0, slots := 0, locals := 272 }) s m ([.ref (ad 0), .int a_1] : List Value).toArray below meth c H locs 0 0 Q (F0 m 75 ls []) := by
                intro x_12 S_13 H locs ls hf hP hS hl
                have hf := z_e2 ej_75 hf
                obtain ⟨x_14, ex_14, hf⟩ := z_nm hf
                refine lv_iinc (v := x_14) (lv' := [(3, .int x_14), (0, .ref (ad 0)), (1, .int a_1), (2, .int x_12)]) hx hb dX11_days_75 hl (k := 3) rfl (by rw [ex_14]; rfl) (by decide) rfl (fun ls hl => ?_)
                refine lv_goto (tgt := 35) hx hb dX11_days_78 (by decide) ?_
                exact ih_35 x_12 x_14 S_13 _ _ _ hf hP hS (lv_sub hl [1, 2, 3, 0] rfl)
              refine lv_if_eq (tgt := 75) hx hb dX11_days_69 (by decide) (fun c_16 => ?_) (fun c_16 => ?_)
              · have hf := z_it c_16 hf
                exact J_75 x_5 S_10 _ _ _ hf hP hS (lv_sub hl [0, 1, 2, 3] rfl)
              · have hf := z_if c_16 hf
                obtain ⟨x_15, ex_15, hf⟩ := z_nm hf
                refine lv_iinc (v := x_15) (lv' := [(2, .int x_15), (0, .ref (ad 0)), (1, .int a_1), (3, .int x_6)]) hx hb dX11_days_72 hl (k := 2) rfl (by rw [ex_15]; rfl) (by decide) rfl (fun ls hl => ?_)
                exact J_75 x_15 S_10 _ _ _ hf hP hS (lv_sub hl [1, 2, 0, 3] rfl)
            refine lv_icmp_gt (tgt := 62) hx hb dX11_days_45 (by decide) (fun c_20 => ?_) (fun c_20 => ?_)
            · have hf := z_it c_20 hf
              exact J_62  S_7 _ _ _ hf hP hS (lv_sub hl [0, 1, 2, 3] rfl)
            · have hf := z_if c_20 hf
              refine lv_aload_n hx hb dX11_days_48 rfl (lv_at hl 0 rfl) ?_
              refine va_get (D := D) (ci := 11) (v := .ref (ad 59)) (C := RX11) (T := TX11) (N := 8) hx hb hts k0 hown hK hP 0 (zX_0 cy ad S_7) rfl 4 (by decide) k7 (fun _ h9 => h9) rfl dX11_days_49 ?_
              refine lv_aload_n hx hb dX11_days_52 rfl (lv_at hl 0 rfl) ?_
              refine va_get (D := D) (ci := 11) (v := .ref (ad 3)) (C := RX11) (T := TX11) (N := 8) hx hb hts k0 hown hK hP 0 (zX_0 cy ad S_7) rfl 1 (by decide) k1 (fun _ h9 => h9) rfl dX11_days_53 ?_
              refine va_get (D := D) (ci := 0) (v := .ref (ad 11)) (C := RX0) (T := TX0) (N := 6) hx hb hts k2 hown hK hP 3 (zX_3 cy ad S_7) rfl 1 (by decide) k3 (fun _ h9 => h9) rfl dX11_days_56 ?_
              obtain ⟨r_17, S_18, h_19, hf⟩ := z_bd hf
              refine z_cVV (As := [.ref (ad 11)]) (rest := []) X hK hE hD hA hP hS (cx_History_keep l D K cy ad S_7 _ h_19) (cwV 1 hts (z_gV wt_4_39 wt_4_40 wt_4_41 wt_1_9 wt_4_42) rfl rfl rfl ⟨rfl, yd_yX1_keep⟩ ⟨Nat.le_of_ble_eq_true rfl, Nat.le_of_ble_eq_true rfl⟩) (va_recv hK hP (ci := 1) (q0 := 59) rfl (zX_59 cy ad S_7)) hl.1 rfl rfl (Nat.le_of_ble_eq_true rfl) dX11_days_59 (fun H locs hP hS => ?_)
              exact J_62  S_18 _ _ _ hf hP hS (lv_sub hl [0, 1, 2, 3] rfl)
      exact L_35 zFU (0 : Int32) (0 : Int32) S_2 _ _ _ hf hP hS (lv_sub hl [2, 3, 1, 0] rfl)
    · have hf := z_if c_22 hf
      exact J_29  S_2 _ _ _ hf hP hS (lv_sub hl [] rfl)
