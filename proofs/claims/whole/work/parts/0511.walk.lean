def fm_days_L93 (a_1 : Int32) (x_5 : Int32) (x_6 : Int32) (j_130 : zSt → Option (Int32 × zSt)) : Nat → Int32 → zSt → Option (Int32 × zSt)
  | 0, _, _ => none
  | n_93 + 1, x_16, S_17 =>
    if (180 : Int32) ≤ x_16 then (
    j_130  S_17) else (
    zck (zix x_16 1480) <|
    zck (zix (((180 : Int32) * (S_17.1 0 3)) + x_16) 1440) <|
    znm (zpI S_17 3 ((((180 : Int32) * (S_17.1 0 3)) + x_16).toNatClampNeg) (S_17.1 1 (x_16.toNatClampNeg))) fun S_20 =>
    znm (x_16 + (1 : Int32)) fun x_21 =>
    fm_days_L93 a_1 x_5 x_6 j_130 n_93 x_21 S_20)
def fm_days_L48 (a_1 : Int32) (x_5 : Int32) (x_6 : Int32) (j_80 : zSt → Option (Int32 × zSt)) : Nat → Int32 → zSt → Option (Int32 × zSt)
  | 0, _, _ => none
  | n_48 + 1, x_25, S_26 =>
    if (1260 : Int32) ≤ x_25 then (
    j_80  S_26) else (
    zck (zix (x_25 + (180 : Int32)) 1440) <|
    zck (zix x_25 1440) <|
    znm (zpI S_26 3 (x_25.toNatClampNeg) (S_26.1 3 ((x_25 + (180 : Int32)).toNatClampNeg))) fun S_29 =>
    znm (x_25 + (1 : Int32)) fun x_30 =>
    fm_days_L48 a_1 x_5 x_6 j_80 n_48 x_30 S_29)
def fm_days_L31 (a_1 : Int32) : Nat → Int32 → Int32 → zSt → Option (Int32 × zSt)
  | 0, _, _, _ => none
  | n_31 + 1, x_5, x_6, S_7 =>
    if a_1 ≤ x_6 then (
    some (x_5, S_7)) else (
    znm (fun (S_8 : zSt) =>
    znm (fun (S_9 : zSt) =>
    znm (zpI S_9 0 3 ((S_9.1 0 3) + (1 : Int32))) fun S_10 =>
    zbd (fm_aDay S_10) fun r_11 S_12 =>
    znm (x_5 + r_11) fun x_14 =>
    znm (x_6 + (1 : Int32)) fun x_15 =>
    fm_days_L31 a_1 n_31 x_14 x_15 S_12) fun j_130 =>
    fm_days_L93 a_1 x_5 x_6 j_130 zFU (0 : Int32) S_8) fun j_90 =>
    if (S_7.1 0 3) = (8 : Int32) then (
    znm (fun (S_23 : zSt) =>
    znm (zpI S_23 0 3 ((S_23.1 0 3) - (1 : Int32))) fun S_24 =>
    j_90  S_24) fun j_80 =>
    fm_days_L48 a_1 x_5 x_6 j_80 zFU (0 : Int32) S_7) else (
    j_90  S_7))
def fm_days (S_0 : zSt) (a_1 : Int32) : Option (Int32 × zSt) :=
  zbd (fm_isIn S_0 a_1 (1 : Int32) (400 : Int32)) fun r_1 S_2 =>
  znm (fun (S_4 : zSt) =>
  some ((-1 : Int32), S_4)) fun j_25 =>
  if r_1 = 0 then (
  j_25  S_2) else (
  if ((S_2.1 1 5) + a_1) ≤ (9999 : Int32) then (
  fm_days_L31 a_1 zFU (0 : Int32) (0 : Int32) S_2) else (
  j_25  S_2))
set_option maxHeartbeats 4000000 in
set_option maxRecDepth 100000 in
theorem cm_days (l : Launch) (D : va_G) (K : (Nat → Nat) × (Nat → Nat)) (cy : Nat → ClassId) (ad : Nat → Nat) (S_0 : zSt) (a_1 : Int32) (ro : Int32) (So : zSt) (hf : fm_days S_0 a_1 = some (ro, So)) : zMI l yX12_days (zws yX12_days cX12_days 5 (Option.some .int)) ({ frames := 5, cells := 0, slots := 0, locals := 122 }) D (zTy cy) K (zM cy ad) [.ref (ad 0), .int a_1] S_0 ro So := by
  refine z_metI (own := RX12) (lv := [(0, .ref (ad 0)), (1, .int a_1)]) (by decide) rfl rfl (Nat.le_of_ble_eq_true rfl) rfl ?_
  intro p e s m below meth c A Q X hK hE hD hA hret hP hS ls hl
  obtain ⟨hx, hb, hml, hown, hts⟩ := id X
  have k0 := (fun w h => List.mem_cons_of_mem _ (zFX12 w h) : ∀ w ∈ u_ws RX12 TX12 36, w ∈ zws yX12_days cX12_days 5 (Option.some .int))
  have k1 := hts _ (List.mem_cons_of_mem _ wt_5_95)
  have k2 := hts _ (List.mem_cons_of_mem _ wt_5_98)
  have k3 := hts _ (List.mem_cons_of_mem _ wt_5_97)
  refine lv_iload_n hx hb dX12_days_0 rfl (lv_at hl 1 rfl) ?_
  refine lv_iconst (v := 1) hx hb dX12_days_1 (by decide) ?_
  refine lv_sipush (v := 400) hx hb dX12_days_2 (by decide) ?_
  obtain ⟨r_1, S_2, h_3, hf⟩ := z_bd hf
  refine z_cSI (As := [.int a_1, .int (1 : Int32), .int (400 : Int32)]) (rest := []) X hK hE hD hA hP hS (cm_isIn l D K cy ad S_0 _ _ _ _ _ h_3) (va_cwS 3 hts (z_gS wt_5_216 wt_5_217 wt_1_13 wt_5_218) rfl rfl rfl yd_yX12_isIn ⟨Nat.le_of_ble_eq_true rfl, Nat.le_of_ble_eq_true rfl⟩) hl.1 rfl rfl (Nat.le_of_ble_eq_true rfl) dX12_days_5 (fun H locs hP hS => ?_)
  obtain ⟨j_25, ej_25, hf⟩ := z_nm hf
  have J_25 : ∀ (S_4 : zSt) (H : Heap) (locs : List Loc) (ls : Array Slot), j_25  S_4 = some (ro, So) → va_P D vwCl (zM cy ad S_4) H → va_S A s.heap H locs → lv_has ls 5 [] → W p l e ({ frames := 5, cells := 0, slots := 0, locals := 122 }) s m ([.ref (ad 0), .int a_1] : List Value).toArray below meth c H locs 0 0 Q (F0 m 25 ls []) := by
    intro  S_4 H locs ls hf hP hS hl
    have hf := z_e1 ej_25 hf
    refine lv_iconst (v := -1) hx hb dX12_days_25 (by decide) ?_
    obtain ⟨h1, h2⟩ := z_s2 hf
    subst h1 h2
    exact hret _ _ _ _ hP hS dX12_days_26
  refine lv_if_eq (tgt := 25) hx hb dX12_days_8 (by decide) (fun c_35 => ?_) (fun c_35 => ?_)
  · have hf := z_it c_35 hf
    exact J_25  S_2 _ _ _ hf hP hS (lv_sub hl [] rfl)
  · have hf := z_if c_35 hf
    refine lv_aload_n hx hb dX12_days_11 rfl (lv_at hl 0 rfl) ?_
    refine va_get (D := D) (ci := 12) (v := .ref (ad 1)) (C := RX12) (T := TX12) (N := 36) hx hb hts k0 hown hK hP 0 (zM_0 cy ad S_2) rfl 0 (by decide) k1 (fun _ h9 => h9) rfl dX12_days_12 ?_
    refine lv_iconst (v := 5) hx hb dX12_days_15 (by decide) ?_
    refine z_iald hx hb hK hP 1 0 (zM_1 cy ad S_2) rfl (vp_in_iff.mpr (by decide)) (k := 5) (by decide) dX12_days_16 ?_
    refine lv_iload_n hx hb dX12_days_17 rfl (lv_at hl 1 rfl) ?_
    refine lv_iadd hx hb dX12_days_18 ?_
    refine lv_sipush (v := 9999) hx hb dX12_days_19 (by decide) ?_
    refine lv_icmp_le (tgt := 27) hx hb dX12_days_22 (by decide) (fun c_34 => ?_) (fun c_34 => ?_)
    · have hf := z_it c_34 hf
      refine lv_iconst (v := 0) hx hb dX12_days_27 (by decide) ?_
      refine lv_istore_n (lv' := [(2, .int (0 : Int32)), (0, .ref (ad 0)), (1, .int a_1)]) hx hb dX12_days_28 rfl hl (by decide) rfl (fun ls hl => ?_)
      refine lv_iconst (v := 0) hx hb dX12_days_29 (by decide) ?_
      refine lv_istore_n (lv' := [(3, .int (0 : Int32)), (2, .int (0 : Int32)), (0, .ref (ad 0)), (1, .int a_1)]) hx hb dX12_days_30 rfl hl (by decide) rfl (fun ls hl => ?_)
      have L_31 : ∀ (n_31 : Nat) (x_5 : Int32) (x_6 : Int32) (S_7 : zSt) (H : Heap) (locs : List Loc) (ls : Array Slot), fm_days_L31 a_1 n_31 x_5 x_6 S_7 = some (ro, So) → va_P D vwCl (zM cy ad S_7) H → va_S A s.heap H locs → lv_has ls 5 [(0, .ref (ad 0)), (1, .int a_1), (2, .int x_5), (3, .int x_6)] → W p l e ({ frames := 5, cells := 0, slots := 0, locals := 122 }) s m ([.ref (ad 0), .int a_1] : List Value).toArray below meth c H locs 0 0 Q (F0 m 31 ls []) := by
        intro n_31
        induction n_31 with
        | zero =>
          intro x_5 x_6 S_7 H locs ls hf hP hS hl
          exact z_no hf
        | succ n_31 ih_31 =>
          intro x_5 x_6 S_7 H locs ls hf hP hS hl
          rw [fm_days_L31] at hf
          refine lv_iload_n hx hb dX12_days_31 rfl (lv_at hl 3 rfl) ?_
          refine lv_iload_n hx hb dX12_days_32 rfl (lv_at hl 1 rfl) ?_
          refine lv_icmp_ge (tgt := 153) hx hb dX12_days_33 (by decide) (fun c_33 => ?_) (fun c_33 => ?_)
          · have hf := z_it c_33 hf
            refine lv_iload_n hx hb dX12_days_153 rfl (lv_at hl 2 rfl) ?_
            obtain ⟨h1, h2⟩ := z_s2 hf
            subst h1 h2
            exact hret _ _ _ _ hP hS dX12_days_154
          · have hf := z_if c_33 hf
            refine lv_aload_n hx hb dX12_days_36 rfl (lv_at hl 0 rfl) ?_
            refine va_get (D := D) (ci := 12) (v := .int (S_7.1 0 3)) (C := RX12) (T := TX12) (N := 36) hx hb hts k0 hown hK hP 0 (zM_0 cy ad S_7) rfl 3 (by decide) k2 (fun _ h9 => h9) rfl dX12_days_37 ?_
            refine lv_bipush (v := 8) hx hb dX12_days_40 (by decide) ?_
            obtain ⟨j_90, ej_90, hf⟩ := z_nm hf
            have J_90 : ∀ (S_8 : zSt) (H : Heap) (locs : List Loc) (ls : Array Slot), j_90  S_8 = some (ro, So) → va_P D vwCl (zM cy ad S_8) H → va_S A s.heap H locs → lv_has ls 5 [(0, .ref (ad 0)), (1, .int a_1), (2, .int x_5), (3, .int x_6)] → W p l e ({ frames := 5, cells := 0, slots := 0, locals := 122 }) s m ([.ref (ad 0), .int a_1] : List Value).toArray below meth c H locs 0 0 Q (F0 m 90 ls []) := by
              intro  S_8 H locs ls hf hP hS hl
              have hf := z_e1 ej_90 hf
              refine lv_iconst (v := 0) hx hb dX12_days_90 (by decide) ?_
              refine lv_istore (lv' := [(4, .int (0 : Int32)), (0, .ref (ad 0)), (1, .int a_1), (2, .int x_5), (3, .int x_6)]) hx hb dX12_days_91 hl (by decide) rfl (fun ls hl => ?_)
              obtain ⟨j_130, ej_130, hf⟩ := z_nm hf
              have J_130 : ∀ (S_9 : zSt) (H : Heap) (locs : List Loc) (ls : Array Slot), j_130  S_9 = some (ro, So) → va_P D vwCl (zM cy ad S_9) H → va_S A s.heap H locs → lv_has ls 5 [(0, .ref (ad 0)), (1, .int a_1), (2, .int x_5), (3, .int x_6)] → W p l e ({ frames := 5, cells := 0, slots := 0, locals := 122 }) s m ([.ref (ad 0), .int a_1] : List Value).toArray below meth c H locs 0 0 Q (F0 m 130 ls []) := by
                intro  S_9 H locs ls hf hP hS hl
                have hf := z_e1 ej_130 hf
                refine lv_aload_n hx hb dX12_days_130 rfl (lv_at hl 0 rfl) ?_
                refine lv_dup hx hb dX12_days_131 rfl ?_
                refine va_get (D := D) (ci := 12) (v := .int (S_9.1 0 3)) (C := RX12) (T := TX12) (N := 36) hx hb hts k0 hown hK hP 0 (zM_0 cy ad S_9) rfl 3 (by decide) k2 (fun _ h9 => h9) rfl dX12_days_132 ?_
                refine lv_iconst (v := 1) hx hb dX12_days_135 (by decide) ?_
                refine lv_iadd hx hb dX12_days_136 ?_
                refine va_put (D := D) (ci := 12) (v := .int ((S_9.1 0 3) + (1 : Int32))) (ty := .int) (C := RX12) (T := TX12) (N := 36) hx hb hts k0 tyX12 tyX12_ok nmX12 hown hK hP (hD S_9) hS 0 (zM_0 cy ad S_9) rfl 3 (by decide) k2 (fun _ h9 => h9) rfl (tyX12_ok 3 (by decide)) rfl rfl (Nat.le_of_ble_eq_true rfl) dX12_days_137 (fun H locs hP _ hS => ?_)
                obtain ⟨S_10, eS_10, hf⟩ := z_nm hf
                have hP := zW_putI hP eS_10 (by decide) rfl
                refine lv_iload_n hx hb dX12_days_140 rfl (lv_at hl 2 rfl) ?_
                refine lv_aload_n hx hb dX12_days_141 rfl (lv_at hl 0 rfl) ?_
                obtain ⟨r_11, S_12, h_13, hf⟩ := z_bd hf
                refine z_cVI (As := []) (rest := [.int x_5]) X hK hE hD hA hP hS (cm_aDay l D K cy ad S_10 _ _ h_13) (cwV 0 hts (z_gV wt_6_139 wt_6_141 wp_71 wt_1_13 wt_6_142) rfl rfl rfl ⟨rfl, yd_yX12_aDay⟩ ⟨Nat.le_of_ble_eq_true rfl, Nat.le_of_ble_eq_true rfl⟩) (va_recv hK hP (ci := 12) (q0 := 0) rfl (zM_0 cy ad S_10)) hl.1 rfl rfl (Nat.le_of_ble_eq_true rfl) dX12_days_142 (fun H locs hP hS => ?_)
                refine lv_iadd hx hb dX12_days_145 ?_
                refine lv_topi (fun x_14 ex_14 => ?_)
                have hf := z_nv ex_14 hf
                refine lv_istore_n (lv' := [(2, .int x_14), (0, .ref (ad 0)), (1, .int a_1), (3, .int x_6)]) hx hb dX12_days_146 rfl hl (by decide) rfl (fun ls hl => ?_)
                obtain ⟨x_15, ex_15, hf⟩ := z_nm hf
                refine lv_iinc (v := x_15) (lv' := [(3, .int x_15), (2, .int x_14), (0, .ref (ad 0)), (1, .int a_1)]) hx hb dX12_days_147 hl (k := 3) rfl (by rw [ex_15]; rfl) (by decide) rfl (fun ls hl => ?_)
                refine lv_goto (tgt := 31) hx hb dX12_days_150 (by decide) ?_
                exact ih_31 x_14 x_15 S_12 _ _ _ hf hP hS (lv_sub hl [2, 3, 1, 0] rfl)
              have L_93 : ∀ (n_93 : Nat) (x_16 : Int32) (S_17 : zSt) (H : Heap) (locs : List Loc) (ls : Array Slot), fm_days_L93 a_1 x_5 x_6 j_130 n_93 x_16 S_17 = some (ro, So) → va_P D vwCl (zM cy ad S_17) H → va_S A s.heap H locs → lv_has ls 5 [(0, .ref (ad 0)), (1, .int a_1), (2, .int x_5), (3, .int x_6), (4, .int x_16)] → W p l e ({ frames := 5, cells := 0, slots := 0, locals := 122 }) s m ([.ref (ad 0), .int a_1] : List Value).toArray below meth c H locs 0 0 Q (F0 m 93 ls []) := by
                intro n_93
                induction n_93 with
                | zero =>
                  intro x_16 S_17 H locs ls hf hP hS hl
                  exact z_no hf
                | succ n_93 ih_93 =>
                  intro x_16 S_17 H locs ls hf hP hS hl
                  rw [fm_days_L93] at hf
                  refine lv_iload hx hb dX12_days_93 (lv_at hl 4 rfl) ?_
                  refine lv_sipush (v := 180) hx hb dX12_days_95 (by decide) ?_
                  refine lv_icmp_ge (tgt := 130) hx hb dX12_days_98 (by decide) (fun c_22 => ?_) (fun c_22 => ?_)
                  · have hf := z_it c_22 hf
                    exact J_130  S_17 _ _ _ hf hP hS (lv_sub hl [0, 1, 2, 3] rfl)
                  · have hf := z_if c_22 hf
                    refine lv_aload_n hx hb dX12_days_101 rfl (lv_at hl 0 rfl) ?_
                    refine va_get (D := D) (ci := 12) (v := .ref (ad 3)) (C := RX12) (T := TX12) (N := 36) hx hb hts k0 hown hK hP 0 (zM_0 cy ad S_17) rfl 2 (by decide) k3 (fun _ h9 => h9) rfl dX12_days_102 ?_
                    refine lv_sipush (v := 180) hx hb dX12_days_105 (by decide) ?_
                    refine lv_aload_n hx hb dX12_days_108 rfl (lv_at hl 0 rfl) ?_
                    refine va_get (D := D) (ci := 12) (v := .int (S_17.1 0 3)) (C := RX12) (T := TX12) (N := 36) hx hb hts k0 hown hK hP 0 (zM_0 cy ad S_17) rfl 3 (by decide) k2 (fun _ h9 => h9) rfl dX12_days_109 ?_
                    refine lv_imul hx hb dX12_days_112 ?_
                    refine lv_iload hx hb dX12_days_113 (lv_at hl 4 rfl) ?_
                    refine lv_iadd hx hb dX12_days_115 ?_
                    refine lv_aload_n hx hb dX12_days_116 rfl (lv_at hl 0 rfl) ?_
                    refine va_get (D := D) (ci := 12) (v := .ref (ad 1)) (C := RX12) (T := TX12) (N := 36) hx hb hts k0 hown hK hP 0 (zM_0 cy ad S_17) rfl 0 (by decide) k1 (fun _ h9 => h9) rfl dX12_days_117 ?_
                    refine lv_iload hx hb dX12_days_120 (lv_at hl 4 rfl) ?_
                    obtain ⟨h_18, hf⟩ := z_ix hf
                    refine z_iald hx hb hK hP 1 0 (zM_1 cy ad S_17) rfl h_18 (k := (x_16.toNatClampNeg)) rfl dX12_days_122 ?_
                    obtain ⟨h_19, hf⟩ := z_ix hf
                    refine z_iast hx hb hK hP (hD S_17) hS 3 0 (zM_3 cy ad S_17) rfl h_19 (k := ((((180 : Int32) * (S_17.1 0 3)) + x_16).toNatClampNeg)) rfl dX12_days_123 (fun H locs hP hS => ?_)
                    obtain ⟨S_20, eS_20, hf⟩ := z_nm hf
                    have hP := zW_putI hP eS_20 (by decide) rfl
                    obtain ⟨x_21, ex_21, hf⟩ := z_nm hf
                    refine lv_iinc (v := x_21) (lv' := [(4, .int x_21), (0, .ref (ad 0)), (1, .int a_1), (2, .int x_5), (3, .int x_6)]) hx hb dX12_days_124 hl (k := 4) rfl (by rw [ex_21]; rfl) (by decide) rfl (fun ls hl => ?_)
                    refine lv_goto (tgt := 93) hx hb dX12_days_127 (by decide) ?_
                    exact ih_93 x_21 S_20 _ _ _ hf hP hS (lv_sub hl [1, 2, 3, 4, 0] rfl)
              exact L_93 zFU (0 : Int32) S_8 _ _ _ hf hP hS (lv_sub hl [1, 2, 3, 4, 0] rfl)
            refine lv_icmp_ne (tgt := 90) hx hb dX12_days_42 (by decide) (fun c_32 => ?_) (fun c_32 => ?_)
            · have hf := z_if c_32 hf
              exact J_90  S_7 _ _ _ hf hP hS (lv_sub hl [0, 1, 2, 3] rfl)
            · have hf := z_it c_32 hf
              refine lv_iconst (v := 0) hx hb dX12_days_45 (by decide) ?_
              refine lv_istore (lv' := [(4, .int (0 : Int32)), (0, .ref (ad 0)), (1, .int a_1), (2, .int x_5), (3, .int x_6)]) hx hb dX12_days_46 hl (by decide) rfl (fun ls hl => ?_)
              obtain ⟨j_80, ej_80, hf⟩ := z_nm hf
              have J_80 : ∀ (S_23 : zSt) (H : Heap) (locs : List Loc) (ls : Array Slot), j_80  S_23 = some (ro, So) → va_P D vwCl (zM cy ad S_23) H → va_S A s.heap H locs → lv_has ls 5 [(0, .ref (ad 0)), (1, .int a_1), (2, .int x_5), (3, .int x_6)] → W p l e ({ frames := 5, cells := 0, slots := 0, locals := 122 }) s m ([.ref (ad 0), .int a_1] : List Value).toArray below meth c H locs 0 0 Q (F0 m 80 ls []) := by
                intro  S_23 H locs ls hf hP hS hl
                have hf := z_e1 ej_80 hf
                refine lv_aload_n hx hb dX12_days_80 rfl (lv_at hl 0 rfl) ?_
                refine lv_dup hx hb dX12_days_81 rfl ?_
                refine va_get (D := D) (ci := 12) (v := .int (S_23.1 0 3)) (C := RX12) (T := TX12) (N := 36) hx hb hts k0 hown hK hP 0 (zM_0 cy ad S_23) rfl 3 (by decide) k2 (fun _ h9 => h9) rfl dX12_days_82 ?_
                refine lv_iconst (v := 1) hx hb dX12_days_85 (by decide) ?_
                refine lv_isub hx hb dX12_days_86 ?_
                refine va_put (D := D) (ci := 12) (v := .int ((S_23.1 0 3) - (1 : Int32))) (ty := .int) (C := RX12) (T := TX12) (N := 36) hx hb hts k0 tyX12 tyX12_ok nmX12 hown hK hP (hD S_23) hS 0 (zM_0 cy ad S_23) rfl 3 (by decide) k2 (fun _ h9 => h9) rfl (tyX12_ok 3 (by decide)) rfl rfl (Nat.le_of_ble_eq_true rfl) dX12_days_87 (fun H locs hP _ hS => ?_)
                obtain ⟨S_24, eS_24, hf⟩ := z_nm hf
                have hP := zW_putI hP eS_24 (by decide) rfl
                exact J_90  S_24 _ _ _ hf hP hS (lv_sub hl [0, 1, 2, 3] rfl)
              have L_48 : ∀ (n_48 : Nat) (x_25 : Int32) (S_26 : zSt) (H : Heap) (locs : List Loc) (ls : Array Slot), fm_days_L48 a_1 x_5 x_6 j_80 n_48 x_25 S_26 = some (ro, So) → va_P D vwCl (zM cy ad S_26) H → va_S A s.heap H locs → lv_has ls 5 [(0, .ref (ad 0)), (1, .int a_1), (2, .int x_5), (3, .int x_6), (4, .int x_25)] → W p l e ({ frames := 5, cells := 0, slots := 0, locals := 122 }) s m ([.ref (ad 0), .int a_1] : List Value).toArray below meth c H locs 0 0 Q (F0 m 48 ls []) := by
                intro n_48
                induction n_48 with
                | zero =>
                  intro x_25 S_26 H locs ls hf hP hS hl
                  exact z_no hf
                | succ n_48 ih_48 =>
                  intro x_25 S_26 H locs ls hf hP hS hl
                  rw [fm_days_L48] at hf
                  refine lv_iload hx hb dX12_days_48 (lv_at hl 4 rfl) ?_
                  refine lv_sipush (v := 1260) hx hb dX12_days_50 (by decide) ?_
                  refine lv_icmp_ge (tgt := 80) hx hb dX12_days_53 (by decide) (fun c_31 => ?_) (fun c_31 => ?_)
                  · have hf := z_it c_31 hf
                    exact J_80  S_26 _ _ _ hf hP hS (lv_sub hl [0, 1, 2, 3] rfl)
                  · have hf := z_if c_31 hf
                    refine lv_aload_n hx hb dX12_days_56 rfl (lv_at hl 0 rfl) ?_
                    refine va_get (D := D) (ci := 12) (v := .ref (ad 3)) (C := RX12) (T := TX12) (N := 36) hx hb hts k0 hown hK hP 0 (zM_0 cy ad S_26) rfl 2 (by decide) k3 (fun _ h9 => h9) rfl dX12_days_57 ?_
                    refine lv_iload hx hb dX12_days_60 (lv_at hl 4 rfl) ?_
                    refine lv_aload_n hx hb dX12_days_62 rfl (lv_at hl 0 rfl) ?_
                    refine va_get (D := D) (ci := 12) (v := .ref (ad 3)) (C := RX12) (T := TX12) (N := 36) hx hb hts k0 hown hK hP 0 (zM_0 cy ad S_26) rfl 2 (by decide) k3 (fun _ h9 => h9) rfl dX12_days_63 ?_
                    refine lv_iload hx hb dX12_days_66 (lv_at hl 4 rfl) ?_
                    refine lv_sipush (v := 180) hx hb dX12_days_68 (by decide) ?_
                    refine lv_iadd hx hb dX12_days_71 ?_
                    obtain ⟨h_27, hf⟩ := z_ix hf
                    refine z_iald hx hb hK hP 3 0 (zM_3 cy ad S_26) rfl h_27 (k := ((x_25 + (180 : Int32)).toNatClampNeg)) rfl dX12_days_72 ?_
                    obtain ⟨h_28, hf⟩ := z_ix hf
                    refine z_iast hx hb hK hP (hD S_26) hS 3 0 (zM_3 cy ad S_26) rfl h_28 (k := (x_25.toNatClampNeg)) rfl dX12_days_73 (fun H locs hP hS => ?_)
                    obtain ⟨S_29, eS_29, hf⟩ := z_nm hf
                    have hP := zW_putI hP eS_29 (by decide) rfl
                    obtain ⟨x_30, ex_30, hf⟩ := z_nm hf
                    refine lv_iinc (v := x_30) (lv' := [(4, .int x_30), (0, .ref (ad 0)), (1, .int a_1), (2, .int x_5), (3, .int x_6)]) hx hb dX12_days_74 hl (k := 4) rfl (by rw [ex_30]; rfl) (by decide) rfl (fun ls hl => ?_)
                    refine lv_goto (tgt := 48) hx hb dX12_days_77 (by decide) ?_
                    exact ih_48 x_30 S_29 _ _ _ hf hP hS (lv_sub hl [1, 2, 3, 4, 0] rfl)
              exact L_48 zFU (0 : Int32) S_7 _ _ _ hf hP hS (lv_sub hl [1, 2, 3, 4, 0] rfl)
      exact L_31 zFU (0 : Int32) (0 : Int32) S_2 _ _ _ hf hP hS (lv_sub hl [2, 3, 1, 0] rfl)
    · have hf := z_if c_34 hf
      exact J_25  S_2 _ _ _ hf hP hS (lv_sub hl [] rfl)
def fm_undo_L21 : Nat → Int32 → zSt → Option (Int32 × zSt)
  | 0, _, _ => none
  | n_21 + 1, x_2, S_3 =>
    if (180 : Int32) ≤ x_2 then (
    some ((1 : Int32), S_3)) else (
    zck (zix (((180 : Int32) * (S_3.1 0 3)) + x_2) 1440) <|
    zck (zix x_2 1480) <|
    znm (zpI S_3 1 (x_2.toNatClampNeg) (S_3.1 3 ((((180 : Int32) * (S_3.1 0 3)) + x_2).toNatClampNeg))) fun S_6 =>
    znm (x_2 + (1 : Int32)) fun x_7 =>
    fm_undo_L21 n_21 x_7 S_6)
def fm_undo (S_0 : zSt) : Option (Int32 × zSt) :=
  if (S_0.1 0 3) = 0 then (
  some ((0 : Int32), S_0)) else (
  znm (zpI S_0 0 3 ((S_0.1 0 3) - (1 : Int32))) fun S_1 =>
  fm_undo_L21 zFU (0 : Int32) S_1)
set_option maxHeartbeats 4000000 in
set_option maxRecDepth 100000 in
theorem cm_undo (l : Launch) (D : va_G) (K : (Nat → Nat) × (Nat → Nat)) (cy : Nat → ClassId) (ad : Nat → Nat) (S_0 : zSt) (ro : Int32) (So : zSt) (hf : fm_undo S_0 = some (ro, So)) : zMI l yX12_undo (zws yX12_undo cX12_undo 2 (Option.some .boolean)) ({ frames := 0, cells := 0, slots := 0, locals := 0 }) D (zTy cy) K (zM cy ad) [.ref (ad 0)] S_0 ro So := by
  refine z_metZ (own := RX12) (lv := [(0, .ref (ad 0))]) (by decide) rfl rfl (Nat.le_of_ble_eq_true rfl) rfl ?_
  intro p e s m below meth c A Q X hK hE hD hA hret hP hS ls hl
  obtain ⟨hx, hb, hml, hown, hts⟩ := id X
  have k0 := (fun w h => List.mem_cons_of_mem _ (zFX12 w h) : ∀ w ∈ u_ws RX12 TX12 36, w ∈ zws yX12_undo cX12_undo 2 (Option.some .boolean))
  have k1 := hts _ (List.mem_cons_of_mem _ wt_5_98)
  have k2 := hts _ (List.mem_cons_of_mem _ wt_5_95)
  have k3 := hts _ (List.mem_cons_of_mem _ wt_5_97)
  refine lv_aload_n hx hb dX12_undo_0 rfl (lv_at hl 0 rfl) ?_
  refine va_get (D := D) (ci := 12) (v := .int (S_0.1 0 3)) (C := RX12) (T := TX12) (N := 36) hx hb hts k0 hown hK hP 0 (zM_0 cy ad S_0) rfl 3 (by decide) k1 (fun _ h9 => h9) rfl dX12_undo_1 ?_
  refine lv_if_ne (tgt := 9) hx hb dX12_undo_4 (by decide) (fun c_9 => ?_) (fun c_9 => ?_)
  · have hf := z_if c_9 hf
    refine lv_aload_n hx hb dX12_undo_9 rfl (lv_at hl 0 rfl) ?_
    refine lv_dup hx hb dX12_undo_10 rfl ?_
    refine va_get (D := D) (ci := 12) (v := .int (S_0.1 0 3)) (C := RX12) (T := TX12) (N := 36) hx hb hts k0 hown hK hP 0 (zM_0 cy ad S_0) rfl 3 (by decide) k1 (fun _ h9 => h9) rfl dX12_undo_11 ?_
    refine lv_iconst (v := 1) hx hb dX12_undo_14 (by decide) ?_
    refine lv_isub hx hb dX12_undo_15 ?_
    refine va_put (D := D) (ci := 12) (v := .int ((S_0.1 0 3) - (1 : Int32))) (ty := .int) (C := RX12) (T := TX12) (N := 36) hx hb hts k0 tyX12 tyX12_ok nmX12 hown hK hP (hD S_0) hS 0 (zM_0 cy ad S_0) rfl 3 (by decide) k1 (fun _ h9 => h9) rfl (tyX12_ok 3 (by decide)) rfl rfl (Nat.le_of_ble_eq_true rfl) dX12_undo_16 (fun H locs hP _ hS => ?_)
    obtain ⟨S_1, eS_1, hf⟩ := z_nm hf
    have hP := zW_putI hP eS_1 (by decide) rfl
    refine lv_iconst (v := 0) hx hb dX12_undo_19 (by decide) ?_
    refine lv_istore_n (lv' := [(1, .int (0 : Int32)), (0, .ref (ad 0))]) hx hb dX12_undo_20 rfl hl (by decide) rfl (fun ls hl => ?_)
    have L_21 : ∀ (n_21 : Nat) (x_2 : Int32) (S_3 : zSt) (H : Heap) (locs : List Loc) (ls : Array Slot), fm_undo_L21 n_21 x_2 S_3 = some (ro, So) → va_P D vwCl (zM cy ad S_3) H → va_S A s.heap H locs → lv_has ls 2 [(0, .ref (ad 0)), (1, .int x_2)] → W p l e ({ frames := 0, cells := 0, slots := 0, locals := 0 }) s m ([.ref (ad 0)] : List Value).toArray below meth c H locs 0 0 Q (F0 m 21 ls []) := by
      intro n_21
      induction n_21 with
      | zero =>
        intro x_2 S_3 H locs ls hf hP hS hl
        exact z_no hf
      | succ n_21 ih_21 =>
        intro x_2 S_3 H locs ls hf hP hS hl
        rw [fm_undo_L21] at hf
        refine lv_iload_n hx hb dX12_undo_21 rfl (lv_at hl 1 rfl) ?_
        refine lv_sipush (v := 180) hx hb dX12_undo_22 (by decide) ?_
        refine lv_icmp_ge (tgt := 55) hx hb dX12_undo_25 (by decide) (fun c_8 => ?_) (fun c_8 => ?_)
        · have hf := z_it c_8 hf
          refine lv_iconst (v := 1) hx hb dX12_undo_55 (by decide) ?_
          obtain ⟨h1, h2⟩ := z_s2 hf
          subst h1 h2
          exact hret _ _ _ _ rfl hP hS dX12_undo_56
        · have hf := z_if c_8 hf
          refine lv_aload_n hx hb dX12_undo_28 rfl (lv_at hl 0 rfl) ?_
          refine va_get (D := D) (ci := 12) (v := .ref (ad 1)) (C := RX12) (T := TX12) (N := 36) hx hb hts k0 hown hK hP 0 (zM_0 cy ad S_3) rfl 0 (by decide) k2 (fun _ h9 => h9) rfl dX12_undo_29 ?_
          refine lv_iload_n hx hb dX12_undo_32 rfl (lv_at hl 1 rfl) ?_
          refine lv_aload_n hx hb dX12_undo_33 rfl (lv_at hl 0 rfl) ?_
          refine va_get (D := D) (ci := 12) (v := .ref (ad 3)) (C := RX12) (T := TX12) (N := 36) hx hb hts k0 hown hK hP 0 (zM_0 cy ad S_3) rfl 2 (by decide) k3 (fun _ h9 => h9) rfl dX12_undo_34 ?_
          refine lv_sipush (v := 180) hx hb dX12_undo_37 (by decide) ?_
          refine lv_aload_n hx hb dX12_undo_40 rfl (lv_at hl 0 rfl) ?_
          refine va_get (D := D) (ci := 12) (v := .int (S_3.1 0 3)) (C := RX12) (T := TX12) (N := 36) hx hb hts k0 hown hK hP 0 (zM_0 cy ad S_3) rfl 3 (by decide) k1 (fun _ h9 => h9) rfl dX12_undo_41 ?_
          refine lv_imul hx hb dX12_undo_44 ?_
          refine lv_iload_n hx hb dX12_undo_45 rfl (lv_at hl 1 rfl) ?_
          refine lv_iadd hx hb dX12_undo_46 ?_
          obtain ⟨h_4, hf⟩ := z_ix hf
          refine z_iald hx hb hK hP 3 0 (zM_3 cy ad S_3) rfl h_4 (k := ((((180 : Int32) * (S_3.1 0 3)) + x_2).toNatClampNeg)) rfl dX12_undo_47 ?_
          obtain ⟨h_5, hf⟩ := z_ix hf
          refine z_iast hx hb hK hP (hD S_3) hS 1 0 (zM_1 cy ad S_3) rfl h_5 (k := (x_2.toNatClampNeg)) rfl dX12_undo_48 (fun H locs hP hS => ?_)
          obtain ⟨S_6, eS_6, hf⟩ := z_nm hf
          have hP := zW_putI hP eS_6 (by decide) rfl
          obtain ⟨x_7, ex_7, hf⟩ := z_nm hf
          refine lv_iinc (v := x_7) (lv' := [(1, .int x_7), (0, .ref (ad 0))]) hx hb dX12_undo_49 hl (k := 1) rfl (by rw [ex_7]; rfl) (by decide) rfl (fun ls hl => ?_)
          refine lv_goto (tgt := 21) hx hb dX12_undo_52 (by decide) ?_
          exact ih_21 x_7 S_6 _ _ _ hf hP hS (lv_sub hl [1, 0] rfl)
    exact L_21 zFU (0 : Int32) S_1 _ _ _ hf hP hS (lv_sub hl [1, 0] rfl)
  · have hf := z_it c_9 hf
    refine lv_iconst (v := 0) hx hb dX12_undo_7 (by decide) ?_
    obtain ⟨h1, h2⟩ := z_s2 hf
    subst h1 h2
    exact hret _ _ _ _ rfl hP hS dX12_undo_8
def fm_of (S_0 : zSt) (a_1 : Int32) (a_2 : Int32) : Option (Int32 × zSt) :=
  zbd (fm_isHouse S_0 a_1) fun r_1 S_2 =>
  if r_1 = 0 then (
  some ((-1000000000 : Int32), S_2)) else (
  zbd (fm_isIn S_2 a_2 (0 : Int32) (8 : Int32)) fun r_4 S_5 =>
  if r_4 = 0 then (
  if a_2 = (9 : Int32) then (
  zbd (fm_net S_5 a_1) fun r_19 S_20 =>
  some (r_19, S_20)) else (
  zbd (fm_own S_5 a_1 (9 : Int32)) fun r_7 S_8 =>
  zbd (fm_isIn S_8 a_2 (10 : Int32) ((9 : Int32) + r_7)) fun r_10 S_11 =>
  znm (fun (x_13 : Int32) (S_14 : zSt) =>
  some (x_13, S_14)) fun j_78 =>
  if r_10 = 0 then (
  j_78 (-1000000000 : Int32) S_11) else (
  zbd (fm_own S_11 a_1 (((10 : Int32) + a_2) - (10 : Int32))) fun r_15 S_16 =>
  j_78 r_15 S_16))) else (
  zbd (fm_own S_5 a_1 a_2) fun r_23 S_24 =>
  some (r_23, S_24)))
set_option maxHeartbeats 4000000 in
set_option maxRecDepth 100000 in
theorem cm_of (l : Launch) (D : va_G) (K : (Nat → Nat) × (Nat → Nat)) (cy : Nat → ClassId) (ad : Nat → Nat) (S_0 : zSt) (a_1 : Int32) (a_2 : Int32) (ro : Int32) (So : zSt) (hf : fm_of S_0 a_1 a_2 = some (ro, So)) : zMI l yX12_of (zws yX12_of cX12_of 3 (Option.some .int)) ({ frames := 2, cells := 0, slots := 0, locals := 45 }) D (zTy cy) K (zM cy ad) [.ref (ad 0), .int a_1, .int a_2] S_0 ro So := by
  refine z_metI (own := RX12) (lv := [(0, .ref (ad 0)), (1, .int a_1), (2, .int a_2)]) (by decide) rfl rfl (Nat.le_of_ble_eq_true rfl) rfl ?_
  intro p e s m below meth c A Q X hK hE hD hA hret hP hS ls hl
  obtain ⟨hx, hb, hml, hown, hts⟩ := id X
  have k0 := hts _ (List.mem_cons_of_mem _ wt_6_165)
  refine lv_aload_n hx hb dX12_of_0 rfl (lv_at hl 0 rfl) ?_
  refine lv_iload_n hx hb dX12_of_1 rfl (lv_at hl 1 rfl) ?_
  obtain ⟨r_1, S_2, h_3, hf⟩ := z_bd hf
  refine z_cVI (As := [.int a_1]) (rest := []) X hK hE hD hA hP hS (cm_isHouse l D K cy ad S_0 _ _ _ h_3) (cwV 1 hts (z_gV wt_6_90 wt_6_92 wp_63 wt_1_13 wt_6_93) rfl rfl rfl ⟨rfl, yd_yX12_isHouse⟩ ⟨Nat.le_of_ble_eq_true rfl, Nat.le_of_ble_eq_true rfl⟩) (va_recv hK hP (ci := 12) (q0 := 0) rfl (zM_0 cy ad S_0)) hl.1 rfl rfl (Nat.le_of_ble_eq_true rfl) dX12_of_2 (fun H locs hP hS => ?_)
  refine lv_if_ne (tgt := 12) hx hb dX12_of_5 (by decide) (fun c_27 => ?_) (fun c_27 => ?_)
  · have hf := z_if c_27 hf
    refine lv_iload_n hx hb dX12_of_12 rfl (lv_at hl 2 rfl) ?_
    refine lv_iconst (v := 0) hx hb dX12_of_13 (by decide) ?_
    refine lv_bipush (v := 8) hx hb dX12_of_14 (by decide) ?_
    obtain ⟨r_4, S_5, h_6, hf⟩ := z_bd hf
    refine z_cSI (As := [.int a_2, .int (0 : Int32), .int (8 : Int32)]) (rest := []) X hK hE hD hA hP hS (cm_isIn l D K cy ad S_2 _ _ _ _ _ h_6) (va_cwS 3 hts (z_gS wt_5_216 wt_5_217 wt_1_13 wt_5_218) rfl rfl rfl yd_yX12_isIn ⟨Nat.le_of_ble_eq_true rfl, Nat.le_of_ble_eq_true rfl⟩) hl.1 rfl rfl (Nat.le_of_ble_eq_true rfl) dX12_of_16 (fun H locs hP hS => ?_)
    refine lv_if_eq (tgt := 29) hx hb dX12_of_19 (by decide) (fun c_26 => ?_) (fun c_26 => ?_)
    · have hf := z_it c_26 hf
      refine lv_iload_n hx hb dX12_of_29 rfl (lv_at hl 2 rfl) ?_
      refine lv_bipush (v := 9) hx hb dX12_of_30 (by decide) ?_
      refine lv_icmp_ne (tgt := 41) hx hb dX12_of_32 (by decide) (fun c_22 => ?_) (fun c_22 => ?_)
      · have hf := z_if c_22 hf
        refine lv_iload_n hx hb dX12_of_41 rfl (lv_at hl 2 rfl) ?_
        refine lv_bipush (v := 10) hx hb dX12_of_42 (by decide) ?_
        refine lv_bipush (v := 9) hx hb dX12_of_44 (by decide) ?_
        refine lv_aload_n hx hb dX12_of_46 rfl (lv_at hl 0 rfl) ?_
        refine lv_iload_n hx hb dX12_of_47 rfl (lv_at hl 1 rfl) ?_
        refine lv_bipush (v := 9) hx hb dX12_of_48 (by decide) ?_
        obtain ⟨r_7, S_8, h_9, hf⟩ := z_bd hf
        refine z_cVI (As := [.int a_1, .int (9 : Int32)]) (rest := [.int (9 : Int32), .int (10 : Int32), .int a_2]) X hK hE hD hA hP hS (cm_own l D K cy ad S_5 _ _ _ _ h_9) (cwV 2 hts (z_gV wt_6_95 wt_6_97 wp_64 wt_1_13 wt_6_98) rfl rfl rfl ⟨rfl, yd_yX12_own⟩ ⟨Nat.le_of_ble_eq_true rfl, Nat.le_of_ble_eq_true rfl⟩) (va_recv hK hP (ci := 12) (q0 := 0) rfl (zM_0 cy ad S_5)) hl.1 rfl rfl (Nat.le_of_ble_eq_true rfl) dX12_of_50 (fun H locs hP hS => ?_)
        refine lv_iadd hx hb dX12_of_53 ?_
        obtain ⟨r_10, S_11, h_12, hf⟩ := z_bd hf
        refine z_cSI (As := [.int a_2, .int (10 : Int32), .int ((9 : Int32) + r_7)]) (rest := []) X hK hE hD hA hP hS (cm_isIn l D K cy ad S_8 _ _ _ _ _ h_12) (va_cwS 3 hts (z_gS wt_5_216 wt_5_217 wt_1_13 wt_5_218) rfl rfl rfl yd_yX12_isIn ⟨Nat.le_of_ble_eq_true rfl, Nat.le_of_ble_eq_true rfl⟩) hl.1 rfl rfl (Nat.le_of_ble_eq_true rfl) dX12_of_54 (fun H locs hP hS => ?_)
        obtain ⟨j_78, ej_78, hf⟩ := z_nm hf
        have J_78 : ∀ (x_13 : Int32) (S_14 : zSt) (H : Heap) (locs : List Loc) (ls : Array Slot), j_78 x_13 S_14 = some (ro, So) → va_P D vwCl (zM cy ad S_14) H → va_S A s.heap H locs → lv_has ls 3 [] → W p l e ({ frames := 2, cells := 0, slots := 0, locals := 45 }) s m ([.ref (ad 0), .int a_1, .int a_2] : List Value).toArray below meth c H locs 0 0 Q (F0 m 78 ls [.int x_13]) := by
          intro x_13 S_14 H locs ls hf hP hS hl
          have hf := z_e2 ej_78 hf
          obtain ⟨h1, h2⟩ := z_s2 hf
          subst h1 h2
          exact hret _ _ _ _ hP hS dX12_of_78
        refine lv_if_eq (tgt := 75) hx hb dX12_of_57 (by decide) (fun c_18 => ?_) (fun c_18 => ?_)
        · have hf := z_it c_18 hf
          refine lv_ldcw hx hb hown k0 dX12_of_75 ?_
          exact J_78 (-1000000000 : Int32) S_11 _ _ _ hf hP hS (lv_sub hl [] rfl)
        · have hf := z_if c_18 hf
          refine lv_aload_n hx hb dX12_of_60 rfl (lv_at hl 0 rfl) ?_
          refine lv_iload_n hx hb dX12_of_61 rfl (lv_at hl 1 rfl) ?_
          refine lv_bipush (v := 10) hx hb dX12_of_62 (by decide) ?_
          refine lv_iload_n hx hb dX12_of_64 rfl (lv_at hl 2 rfl) ?_
          refine lv_iadd hx hb dX12_of_65 ?_
          refine lv_bipush (v := 10) hx hb dX12_of_66 (by decide) ?_
          refine lv_isub hx hb dX12_of_68 ?_
          obtain ⟨r_15, S_16, h_17, hf⟩ := z_bd hf
          refine z_cVI (As := [.int a_1, .int (((10 : Int32) + a_2) - (10 : Int32))]) (rest := []) X hK hE hD hA hP hS (cm_own l D K cy ad S_11 _ _ _ _ h_17) (cwV 2 hts (z_gV wt_6_95 wt_6_97 wp_64 wt_1_13 wt_6_98) rfl rfl rfl ⟨rfl, yd_yX12_own⟩ ⟨Nat.le_of_ble_eq_true rfl, Nat.le_of_ble_eq_true rfl⟩) (va_recv hK hP (ci := 12) (q0 := 0) rfl (zM_0 cy ad S_11)) hl.1 rfl rfl (Nat.le_of_ble_eq_true rfl) dX12_of_69 (fun H locs hP hS => ?_)
          refine lv_goto (tgt := 78) hx hb dX12_of_72 (by decide) ?_
          exact J_78 r_15 S_16 _ _ _ hf hP hS (lv_sub hl [] rfl)
      · have hf := z_it c_22 hf
        refine lv_aload_n hx hb dX12_of_35 rfl (lv_at hl 0 rfl) ?_
        refine lv_iload_n hx hb dX12_of_36 rfl (lv_at hl 1 rfl) ?_
        obtain ⟨r_19, S_20, h_21, hf⟩ := z_bd hf
        refine z_cVI (As := [.int a_1]) (rest := []) X hK hE hD hA hP hS (cm_net l D K cy ad S_5 _ _ _ h_21) (cwV 1 hts (z_gV wt_6_120 wt_6_122 wp_68 wt_1_13 wt_6_123) rfl rfl rfl ⟨rfl, yd_yX12_net⟩ ⟨Nat.le_of_ble_eq_true rfl, Nat.le_of_ble_eq_true rfl⟩) (va_recv hK hP (ci := 12) (q0 := 0) rfl (zM_0 cy ad S_5)) hl.1 rfl rfl (Nat.le_of_ble_eq_true rfl) dX12_of_37 (fun H locs hP hS => ?_)
        obtain ⟨h1, h2⟩ := z_s2 hf
        subst h1 h2
        exact hret _ _ _ _ hP hS dX12_of_40
    · have hf := z_if c_26 hf
      refine lv_aload_n hx hb dX12_of_22 rfl (lv_at hl 0 rfl) ?_
      refine lv_iload_n hx hb dX12_of_23 rfl (lv_at hl 1 rfl) ?_
      refine lv_iload_n hx hb dX12_of_24 rfl (lv_at hl 2 rfl) ?_
      obtain ⟨r_23, S_24, h_25, hf⟩ := z_bd hf
      refine z_cVI (As := [.int a_1, .int a_2]) (rest := []) X hK hE hD hA hP hS (cm_own l D K cy ad S_5 _ _ _ _ h_25) (cwV 2 hts (z_gV wt_6_95 wt_6_97 wp_64 wt_1_13 wt_6_98) rfl rfl rfl ⟨rfl, yd_yX12_own⟩ ⟨Nat.le_of_ble_eq_true rfl, Nat.le_of_ble_eq_true rfl⟩) (va_recv hK hP (ci := 12) (q0 := 0) rfl (zM_0 cy ad S_5)) hl.1 rfl rfl (Nat.le_of_ble_eq_true rfl) dX12_of_25 (fun H locs hP hS => ?_)
      obtain ⟨h1, h2⟩ := z_s2 hf
      subst h1 h2
      exact hret _ _ _ _ hP hS dX12_of_28
  · have hf := z_it c_27 hf
    refine lv_ldcw hx hb hown k0 dX12_of_8 ?_
    obtain ⟨h1, h2⟩ := z_s2 hf
    subst h1 h2
    exact hret _ _ _ _ hP hS dX12_of_11
def fm_book (S_0 : zSt) (a_1 : Int32) : Option (Int32 × zSt) :=
  if (S_0.1 1 9) = (-1 : Int32) then (
  some ((-1 : Int32), S_0)) else (
  znm (fun (x_1 : Int32) (S_2 : zSt) =>
  some (x_1, S_2)) fun j_60 =>
  if a_1 = (100 : Int32) then (
  j_60 (S_0.1 1 10) S_0) else (
  zbd (fm_isIn S_0 a_1 (0 : Int32) ((S_0.1 1 9) - (1 : Int32))) fun r_3 S_4 =>
  if r_3 = 0 then (
  j_60 (-1 : Int32) S_4) else (
  zck (zix ((170 : Int32) + a_1) 1480) <|
  j_60 (S_4.1 1 (((170 : Int32) + a_1).toNatClampNeg)) S_4)))
set_option maxHeartbeats 4000000 in
set_option maxRecDepth 100000 in
theorem cm_book (l : Launch) (D : va_G) (K : (Nat → Nat) × (Nat → Nat)) (cy : Nat → ClassId) (ad : Nat → Nat) (S_0 : zSt) (a_1 : Int32) (ro : Int32) (So : zSt) (hf : fm_book S_0 a_1 = some (ro, So)) : zMI l yX12_book (zws yX12_book cX12_book 2 (Option.some .int)) ({ frames := 1, cells := 0, slots := 0, locals := 22 }) D (zTy cy) K (zM cy ad) [.ref (ad 0), .int a_1] S_0 ro So := by
  refine z_metI (own := RX12) (lv := [(0, .ref (ad 0)), (1, .int a_1)]) (by decide) rfl rfl (Nat.le_of_ble_eq_true rfl) rfl ?_
  intro p e s m below meth c A Q X hK hE hD hA hret hP hS ls hl
  obtain ⟨hx, hb, hml, hown, hts⟩ := id X
  have k0 := (fun w h => List.mem_cons_of_mem _ (zFX12 w h) : ∀ w ∈ u_ws RX12 TX12 36, w ∈ zws yX12_book cX12_book 2 (Option.some .int))
  have k1 := hts _ (List.mem_cons_of_mem _ wt_5_95)
  refine lv_aload_n hx hb dX12_book_0 rfl (lv_at hl 0 rfl) ?_
  refine va_get (D := D) (ci := 12) (v := .ref (ad 1)) (C := RX12) (T := TX12) (N := 36) hx hb hts k0 hown hK hP 0 (zM_0 cy ad S_0) rfl 0 (by decide) k1 (fun _ h9 => h9) rfl dX12_book_1 ?_
  refine lv_bipush (v := 9) hx hb dX12_book_4 (by decide) ?_
  refine z_iald hx hb hK hP 1 0 (zM_1 cy ad S_0) rfl (vp_in_iff.mpr (by decide)) (k := 9) (by decide) dX12_book_6 ?_
  refine lv_iconst (v := -1) hx hb dX12_book_7 (by decide) ?_
  refine lv_icmp_ne (tgt := 13) hx hb dX12_book_8 (by decide) (fun c_9 => ?_) (fun c_9 => ?_)
  · have hf := z_if c_9 hf
    refine lv_iload_n hx hb dX12_book_13 rfl (lv_at hl 1 rfl) ?_
    refine lv_bipush (v := 100) hx hb dX12_book_14 (by decide) ?_
    obtain ⟨j_60, ej_60, hf⟩ := z_nm hf
    have J_60 : ∀ (x_1 : Int32) (S_2 : zSt) (H : Heap) (locs : List Loc) (ls : Array Slot), j_60 x_1 S_2 = some (ro, So) → va_P D vwCl (zM cy ad S_2) H → va_S A s.heap H locs → lv_has ls 2 [] → W p l e ({ frames := 1, cells := 0, slots := 0, locals := 22 }) s m ([.ref (ad 0), .int a_1] : List Value).toArray below meth c H locs 0 0 Q (F0 m 60 ls [.int x_1]) := by
      intro x_1 S_2 H locs ls hf hP hS hl
      have hf := z_e2 ej_60 hf
      obtain ⟨h1, h2⟩ := z_s2 hf
      subst h1 h2
      exact hret _ _ _ _ hP hS dX12_book_60
    refine lv_icmp_ne (tgt := 29) hx hb dX12_book_16 (by decide) (fun c_8 => ?_) (fun c_8 => ?_)
    · have hf := z_if c_8 hf
      refine lv_iload_n hx hb dX12_book_29 rfl (lv_at hl 1 rfl) ?_
      refine lv_iconst (v := 0) hx hb dX12_book_30 (by decide) ?_
      refine lv_aload_n hx hb dX12_book_31 rfl (lv_at hl 0 rfl) ?_
      refine va_get (D := D) (ci := 12) (v := .ref (ad 1)) (C := RX12) (T := TX12) (N := 36) hx hb hts k0 hown hK hP 0 (zM_0 cy ad S_0) rfl 0 (by decide) k1 (fun _ h9 => h9) rfl dX12_book_32 ?_
      refine lv_bipush (v := 9) hx hb dX12_book_35 (by decide) ?_
      refine z_iald hx hb hK hP 1 0 (zM_1 cy ad S_0) rfl (vp_in_iff.mpr (by decide)) (k := 9) (by decide) dX12_book_37 ?_
      refine lv_iconst (v := 1) hx hb dX12_book_38 (by decide) ?_
      refine lv_isub hx hb dX12_book_39 ?_
      obtain ⟨r_3, S_4, h_5, hf⟩ := z_bd hf
      refine z_cSI (As := [.int a_1, .int (0 : Int32), .int ((S_0.1 1 9) - (1 : Int32))]) (rest := []) X hK hE hD hA hP hS (cm_isIn l D K cy ad S_0 _ _ _ _ _ h_5) (va_cwS 3 hts (z_gS wt_5_216 wt_5_217 wt_1_13 wt_5_218) rfl rfl rfl yd_yX12_isIn ⟨Nat.le_of_ble_eq_true rfl, Nat.le_of_ble_eq_true rfl⟩) hl.1 rfl rfl (Nat.le_of_ble_eq_true rfl) dX12_book_40 (fun H locs hP hS => ?_)
      refine lv_if_eq (tgt := 59) hx hb dX12_book_43 (by decide) (fun c_7 => ?_) (fun c_7 => ?_)
      · have hf := z_it c_7 hf
        refine lv_iconst (v := -1) hx hb dX12_book_59 (by decide) ?_
        exact J_60 (-1 : Int32) S_4 _ _ _ hf hP hS (lv_sub hl [] rfl)
      · have hf := z_if c_7 hf
        refine lv_aload_n hx hb dX12_book_46 rfl (lv_at hl 0 rfl) ?_
        refine va_get (D := D) (ci := 12) (v := .ref (ad 1)) (C := RX12) (T := TX12) (N := 36) hx hb hts k0 hown hK hP 0 (zM_0 cy ad S_4) rfl 0 (by decide) k1 (fun _ h9 => h9) rfl dX12_book_47 ?_
        refine lv_sipush (v := 170) hx hb dX12_book_50 (by decide) ?_
        refine lv_iload_n hx hb dX12_book_53 rfl (lv_at hl 1 rfl) ?_
        refine lv_iadd hx hb dX12_book_54 ?_
        obtain ⟨h_6, hf⟩ := z_ix hf
        refine z_iald hx hb hK hP 1 0 (zM_1 cy ad S_4) rfl h_6 (k := (((170 : Int32) + a_1).toNatClampNeg)) rfl dX12_book_55 ?_
        refine lv_goto (tgt := 60) hx hb dX12_book_56 (by decide) ?_
        exact J_60 (S_4.1 1 (((170 : Int32) + a_1).toNatClampNeg)) S_4 _ _ _ hf hP hS (lv_sub hl [] rfl)
    · have hf := z_it c_8 hf
      refine lv_aload_n hx hb dX12_book_19 rfl (lv_at hl 0 rfl) ?_
      refine va_get (D := D) (ci := 12) (v := .ref (ad 1)) (C := RX12) (T := TX12) (N := 36) hx hb hts k0 hown hK hP 0 (zM_0 cy ad S_0) rfl 0 (by decide) k1 (fun _ h9 => h9) rfl dX12_book_20 ?_
      refine lv_bipush (v := 10) hx hb dX12_book_23 (by decide) ?_
      refine z_iald hx hb hK hP 1 0 (zM_1 cy ad S_0) rfl (vp_in_iff.mpr (by decide)) (k := 10) (by decide) dX12_book_25 ?_
      refine lv_goto (tgt := 60) hx hb dX12_book_26 (by decide) ?_
      exact J_60 (S_0.1 1 10) S_0 _ _ _ hf hP hS (lv_sub hl [] rfl)
  · have hf := z_it c_9 hf
    refine lv_iconst (v := -1) hx hb dX12_book_11 (by decide) ?_
    obtain ⟨h1, h2⟩ := z_s2 hf
    subst h1 h2
    exact hret _ _ _ _ hP hS dX12_book_12
def fm_bakes_L9 : Nat → Int32 → Int32 → zSt → Option (Int32 × zSt)
  | 0, _, _, _ => none
  | n_9 + 1, x_2, x_3, S_4 =>
    if (S_4.1 1 4) ≤ x_3 then (
    some (x_2, S_4)) else (
    zck (zix x_3 9) <|
    zbd (fm_heats S_4 (S_4.1 11 (x_3.toNatClampNeg))) fun r_6 S_7 =>
    zck (zix x_3 9) <|
    znm (zpI S_7 12 (x_3.toNatClampNeg) r_6) fun S_10 =>
    zck (zix x_3 9) <|
    znm (x_2 + (S_10.1 12 (x_3.toNatClampNeg))) fun x_12 =>
    znm (x_3 + (1 : Int32)) fun x_13 =>
    fm_bakes_L9 n_9 x_12 x_13 S_10)
def fm_bakes (S_0 : zSt) : Option (Int32 × zSt) :=
  znm (zpI S_0 0 24 (0 : Int32)) fun S_1 =>
  fm_bakes_L9 zFU (0 : Int32) (0 : Int32) S_1
set_option maxHeartbeats 4000000 in
set_option maxRecDepth 100000 in
theorem cm_bakes (l : Launch) (D : va_G) (K : (Nat → Nat) × (Nat → Nat)) (cy : Nat → ClassId) (ad : Nat → Nat) (S_0 : zSt) (ro : Int32) (So : zSt) (hf : fm_bakes S_0 = some (ro, So)) : zMI l yX12_bakes (zws yX12_bakes cX12_bakes 3 (Option.some .int)) ({ frames := 3, cells := 0, slots := 0, locals := 65 }) D (zTy cy) K (zM cy ad) [.ref (ad 0)] S_0 ro So := by
  refine z_metI (own := RX12) (lv := [(0, .ref (ad 0))]) (by decide) rfl rfl (Nat.le_of_ble_eq_true rfl) rfl ?_
  intro p e s m below meth c A Q X hK hE hD hA hret hP hS ls hl
  obtain ⟨hx, hb, hml, hown, hts⟩ := id X
  have k0 := (fun w h => List.mem_cons_of_mem _ (zFX12 w h) : ∀ w ∈ u_ws RX12 TX12 36, w ∈ zws yX12_bakes cX12_bakes 3 (Option.some .int))
  have k1 := hts _ (List.mem_cons_of_mem _ wt_5_119)
  have k2 := hts _ (List.mem_cons_of_mem _ wt_5_95)
  have k3 := hts _ (List.mem_cons_of_mem _ wt_5_121)
  have k4 := hts _ (List.mem_cons_of_mem _ wt_5_120)
  refine lv_iconst (v := 0) hx hb dX12_bakes_0 (by decide) ?_
  refine lv_istore_n (lv' := [(1, .int (0 : Int32)), (0, .ref (ad 0))]) hx hb dX12_bakes_1 rfl hl (by decide) rfl (fun ls hl => ?_)
  refine lv_aload_n hx hb dX12_bakes_2 rfl (lv_at hl 1 rfl) ?_
  refine lv_iconst (v := 0) hx hb dX12_bakes_3 (by decide) ?_
  refine va_put (D := D) (ci := 12) (v := .int (0 : Int32)) (ty := .int) (C := RX12) (T := TX12) (N := 36) hx hb hts k0 tyX12 tyX12_ok nmX12 hown hK hP (hD S_0) hS 0 (zM_0 cy ad S_0) rfl 24 (by decide) k1 (fun _ h9 => h9) rfl (tyX12_ok 24 (by decide)) rfl rfl (Nat.le_of_ble_eq_true rfl) dX12_bakes_4 (fun H locs hP _ hS => ?_)
  obtain ⟨S_1, eS_1, hf⟩ := z_nm hf
  have hP := zW_putI hP eS_1 (by decide) rfl
  refine lv_iconst (v := 0) hx hb dX12_bakes_7 (by decide) ?_
  refine lv_istore_n (lv' := [(2, .int (0 : Int32)), (1, .int (0 : Int32)), (0, .ref (ad 0))]) hx hb dX12_bakes_8 rfl hl (by decide) rfl (fun ls hl => ?_)
  have L_9 : ∀ (n_9 : Nat) (x_2 : Int32) (x_3 : Int32) (S_4 : zSt) (H : Heap) (locs : List Loc) (ls : Array Slot), fm_bakes_L9 n_9 x_2 x_3 S_4 = some (ro, So) → va_P D vwCl (zM cy ad S_4) H → va_S A s.heap H locs → lv_has ls 3 [(0, .ref (ad 0)), (1, .int x_2), (2, .int x_3)] → W p l e ({ frames := 3, cells := 0, slots := 0, locals := 65 }) s m ([.ref (ad 0)] : List Value).toArray below meth c H locs 0 0 Q (F0 m 9 ls []) := by
    intro n_9
    induction n_9 with
    | zero =>
      intro x_2 x_3 S_4 H locs ls hf hP hS hl
      exact z_no hf
    | succ n_9 ih_9 =>
      intro x_2 x_3 S_4 H locs ls hf hP hS hl
      rw [fm_bakes_L9] at hf
      refine lv_iload_n hx hb dX12_bakes_9 rfl (lv_at hl 2 rfl) ?_
      refine lv_aload_n hx hb dX12_bakes_10 rfl (lv_at hl 0 rfl) ?_
      refine va_get (D := D) (ci := 12) (v := .ref (ad 1)) (C := RX12) (T := TX12) (N := 36) hx hb hts k0 hown hK hP 0 (zM_0 cy ad S_4) rfl 0 (by decide) k2 (fun _ h9 => h9) rfl dX12_bakes_11 ?_
      refine lv_iconst (v := 4) hx hb dX12_bakes_14 (by decide) ?_
      refine z_iald hx hb hK hP 1 0 (zM_1 cy ad S_4) rfl (vp_in_iff.mpr (by decide)) (k := 4) (by decide) dX12_bakes_15 ?_
      refine lv_icmp_ge (tgt := 50) hx hb dX12_bakes_16 (by decide) (fun c_14 => ?_) (fun c_14 => ?_)
      · have hf := z_it c_14 hf
        refine lv_iload_n hx hb dX12_bakes_50 rfl (lv_at hl 1 rfl) ?_
        obtain ⟨h1, h2⟩ := z_s2 hf
        subst h1 h2
        exact hret _ _ _ _ hP hS dX12_bakes_51
      · have hf := z_if c_14 hf
        refine lv_aload_n hx hb dX12_bakes_19 rfl (lv_at hl 0 rfl) ?_
        refine va_get (D := D) (ci := 12) (v := .ref (ad 12)) (C := RX12) (T := TX12) (N := 36) hx hb hts k0 hown hK hP 0 (zM_0 cy ad S_4) rfl 26 (by decide) k3 (fun _ h9 => h9) rfl dX12_bakes_20 ?_
        refine lv_iload_n hx hb dX12_bakes_23 rfl (lv_at hl 2 rfl) ?_
        refine lv_aload_n hx hb dX12_bakes_24 rfl (lv_at hl 0 rfl) ?_
        refine lv_aload_n hx hb dX12_bakes_25 rfl (lv_at hl 0 rfl) ?_
        refine va_get (D := D) (ci := 12) (v := .ref (ad 11)) (C := RX12) (T := TX12) (N := 36) hx hb hts k0 hown hK hP 0 (zM_0 cy ad S_4) rfl 25 (by decide) k4 (fun _ h9 => h9) rfl dX12_bakes_26 ?_
        refine lv_iload_n hx hb dX12_bakes_29 rfl (lv_at hl 2 rfl) ?_
        obtain ⟨h_5, hf⟩ := z_ix hf
        refine z_iald hx hb hK hP 11 0 (zM_11 cy ad S_4) rfl h_5 (k := (x_3.toNatClampNeg)) rfl dX12_bakes_30 ?_
        obtain ⟨r_6, S_7, h_8, hf⟩ := z_bd hf
        refine z_cVI (As := [.int (S_4.1 11 (x_3.toNatClampNeg))]) (rest := [.int x_3, .ref (ad 12)]) X hK hE hD hA hP hS (cm_heats l D K cy ad S_4 _ _ _ h_8) (cwV 1 hts (z_gV wt_6_153 wt_6_155 wp_74 wt_1_13 wt_6_156) rfl rfl rfl ⟨rfl, yd_yX12_heats⟩ ⟨Nat.le_of_ble_eq_true rfl, Nat.le_of_ble_eq_true rfl⟩) (va_recv hK hP (ci := 12) (q0 := 0) rfl (zM_0 cy ad S_4)) hl.1 rfl rfl (Nat.le_of_ble_eq_true rfl) dX12_bakes_31 (fun H locs hP hS => ?_)
        obtain ⟨h_9, hf⟩ := z_ix hf
        refine z_iast hx hb hK hP (hD S_7) hS 12 0 (zM_12 cy ad S_7) rfl h_9 (k := (x_3.toNatClampNeg)) rfl dX12_bakes_34 (fun H locs hP hS => ?_)
        obtain ⟨S_10, eS_10, hf⟩ := z_nm hf
        have hP := zW_putI hP eS_10 (by decide) rfl
        refine lv_iload_n hx hb dX12_bakes_35 rfl (lv_at hl 1 rfl) ?_
        refine lv_aload_n hx hb dX12_bakes_36 rfl (lv_at hl 0 rfl) ?_
        refine va_get (D := D) (ci := 12) (v := .ref (ad 12)) (C := RX12) (T := TX12) (N := 36) hx hb hts k0 hown hK hP 0 (zM_0 cy ad S_10) rfl 26 (by decide) k3 (fun _ h9 => h9) rfl dX12_bakes_37 ?_
        refine lv_iload_n hx hb dX12_bakes_40 rfl (lv_at hl 2 rfl) ?_
        obtain ⟨h_11, hf⟩ := z_ix hf
        refine z_iald hx hb hK hP 12 0 (zM_12 cy ad S_10) rfl h_11 (k := (x_3.toNatClampNeg)) rfl dX12_bakes_41 ?_
        refine lv_iadd hx hb dX12_bakes_42 ?_
        refine lv_topi (fun x_12 ex_12 => ?_)
        have hf := z_nv ex_12 hf
        refine lv_istore_n (lv' := [(1, .int x_12), (0, .ref (ad 0)), (2, .int x_3)]) hx hb dX12_bakes_43 rfl hl (by decide) rfl (fun ls hl => ?_)
        obtain ⟨x_13, ex_13, hf⟩ := z_nm hf
        refine lv_iinc (v := x_13) (lv' := [(2, .int x_13), (1, .int x_12), (0, .ref (ad 0))]) hx hb dX12_bakes_44 hl (k := 2) rfl (by rw [ex_13]; rfl) (by decide) rfl (fun ls hl => ?_)
        refine lv_goto (tgt := 9) hx hb dX12_bakes_47 (by decide) ?_
        exact ih_9 x_12 x_13 S_10 _ _ _ hf hP hS (lv_sub hl [2, 1, 0] rfl)
  exact L_9 zFU (0 : Int32) (0 : Int32) S_1 _ _ _ hf hP hS (lv_sub hl [2, 1, 0] rfl)
def fm_gainAt (S_0 : zSt) (a_1 : Int32) : Option (Int32 × zSt) :=
  znm (fun (x_1 : Int32) (S_2 : zSt) =>
  znm (fun (x_3 : Int32) (S_4 : zSt) =>
  zck (zix a_1 9) <|
  some (x_3 - ((S_4.1 1 2) * (S_4.1 12 (a_1.toNatClampNeg))), S_4)) fun j_53 =>
  if (S_2.1 1 4) ≤ (a_1 + (1 : Int32)) then (
  j_53 x_1 S_2) else (
  zck (zix (a_1 + (1 : Int32)) 9) <|
  zbd (fm_loaf S_2 (S_2.1 11 ((a_1 + (1 : Int32)).toNatClampNeg))) fun r_7 S_8 =>
  znm (x_1 + (r_7 / (9 : Int32))) fun x_10 =>
  j_53 x_10 S_8)) fun j_22 =>
  if a_1 = 0 then (
  j_22 (0 : Int32) S_0) else (
  zck (zix a_1 9) <|
  zbd (fm_loaf S_0 (S_0.1 11 (a_1.toNatClampNeg))) fun r_13 S_14 =>
  j_22 (-(r_13 / (9 : Int32))) S_14)
set_option maxHeartbeats 4000000 in
set_option maxRecDepth 100000 in
theorem cm_gainAt (l : Launch) (D : va_G) (K : (Nat → Nat) × (Nat → Nat)) (cy : Nat → ClassId) (ad : Nat → Nat) (S_0 : zSt) (a_1 : Int32) (ro : Int32) (So : zSt) (hf : fm_gainAt S_0 a_1 = some (ro, So)) : zMI l yX12_gainAt (zws yX12_gainAt cX12_gainAt 3 (Option.some .int)) ({ frames := 2, cells := 0, slots := 0, locals := 43 }) D (zTy cy) K (zM cy ad) [.ref (ad 0), .int a_1] S_0 ro So := by
  refine z_metI (own := RX12) (lv := [(0, .ref (ad 0)), (1, .int a_1)]) (by decide) rfl rfl (Nat.le_of_ble_eq_true rfl) rfl ?_
  intro p e s m below meth c A Q X hK hE hD hA hret hP hS ls hl
  obtain ⟨hx, hb, hml, hown, hts⟩ := id X
  have k0 := (fun w h => List.mem_cons_of_mem _ (zFX12 w h) : ∀ w ∈ u_ws RX12 TX12 36, w ∈ zws yX12_gainAt cX12_gainAt 3 (Option.some .int))
  have k1 := hts _ (List.mem_cons_of_mem _ wt_5_95)
  have k2 := hts _ (List.mem_cons_of_mem _ wt_5_121)
  have k3 := hts _ (List.mem_cons_of_mem _ wt_5_120)
  refine lv_iload_n hx hb dX12_gainAt_0 rfl (lv_at hl 1 rfl) ?_
  obtain ⟨j_22, ej_22, hf⟩ := z_nm hf
  have J_22 : ∀ (x_1 : Int32) (S_2 : zSt) (H : Heap) (locs : List Loc) (ls : Array Slot), j_22 x_1 S_2 = some (ro, So) → va_P D vwCl (zM cy ad S_2) H → va_S A s.heap H locs → lv_has ls 3 [(0, .ref (ad 0)), (1, .int a_1)] → W p l e ({ frames := 2, cells := 0, slots := 0, locals := 43 }) s m ([.ref (ad 0), .int a_1] : List Value).toArray below meth c H locs 0 0 Q (F0 m 22 ls [.int x_1]) := by
    intro x_1 S_2 H locs ls hf hP hS hl
    have hf := z_e2 ej_22 hf
    refine lv_istore_n (lv' := [(2, .int x_1), (0, .ref (ad 0)), (1, .int a_1)]) hx hb dX12_gainAt_22 rfl hl (by decide) rfl (fun ls hl => ?_)
    refine lv_iload_n hx hb dX12_gainAt_23 rfl (lv_at hl 2 rfl) ?_
    refine lv_iconst (v := 1) hx hb dX12_gainAt_24 (by decide) ?_
    refine lv_iadd hx hb dX12_gainAt_25 ?_
    refine lv_aload_n hx hb dX12_gainAt_26 rfl (lv_at hl 1 rfl) ?_
    refine va_get (D := D) (ci := 12) (v := .ref (ad 1)) (C := RX12) (T := TX12) (N := 36) hx hb hts k0 hown hK hP 0 (zM_0 cy ad S_2) rfl 0 (by decide) k1 (fun _ h9 => h9) rfl dX12_gainAt_27 ?_
    refine lv_iconst (v := 4) hx hb dX12_gainAt_30 (by decide) ?_
    refine z_iald hx hb hK hP 1 0 (zM_1 cy ad S_2) rfl (vp_in_iff.mpr (by decide)) (k := 4) (by decide) dX12_gainAt_31 ?_
    obtain ⟨j_53, ej_53, hf⟩ := z_nm hf
    have J_53 : ∀ (x_3 : Int32) (S_4 : zSt) (H : Heap) (locs : List Loc) (ls : Array Slot), j_53 x_3 S_4 = some (ro, So) → va_P D vwCl (zM cy ad S_4) H → va_S A s.heap H locs → lv_has ls 3 [(0, .ref (ad 0)), (1, .int a_1), (2, .int x_3)] → W p l e ({ frames := 2, cells := 0, slots := 0, locals := 43 }) s m ([.ref (ad 0), .int a_1] : List Value).toArray below meth c H locs 0 0 Q (F0 m 53 ls []) := by
      intro x_3 S_4 H locs ls hf hP hS hl
      have hf := z_e2 ej_53 hf
      refine lv_iload_n hx hb dX12_gainAt_53 rfl (lv_at hl 2 rfl) ?_
      refine lv_aload_n hx hb dX12_gainAt_54 rfl (lv_at hl 0 rfl) ?_
      refine va_get (D := D) (ci := 12) (v := .ref (ad 1)) (C := RX12) (T := TX12) (N := 36) hx hb hts k0 hown hK hP 0 (zM_0 cy ad S_4) rfl 0 (by decide) k1 (fun _ h9 => h9) rfl dX12_gainAt_55 ?_
      refine lv_iconst (v := 2) hx hb dX12_gainAt_58 (by decide) ?_
      refine z_iald hx hb hK hP 1 0 (zM_1 cy ad S_4) rfl (vp_in_iff.mpr (by decide)) (k := 2) (by decide) dX12_gainAt_59 ?_
      refine lv_aload_n hx hb dX12_gainAt_60 rfl (lv_at hl 0 rfl) ?_
      refine va_get (D := D) (ci := 12) (v := .ref (ad 12)) (C := RX12) (T := TX12) (N := 36) hx hb hts k0 hown hK hP 0 (zM_0 cy ad S_4) rfl 26 (by decide) k2 (fun _ h9 => h9) rfl dX12_gainAt_61 ?_
      refine lv_iload_n hx hb dX12_gainAt_64 rfl (lv_at hl 1 rfl) ?_
      obtain ⟨h_5, hf⟩ := z_ix hf
      refine z_iald hx hb hK hP 12 0 (zM_12 cy ad S_4) rfl h_5 (k := (a_1.toNatClampNeg)) rfl dX12_gainAt_65 ?_
      refine lv_imul hx hb dX12_gainAt_66 ?_
      refine lv_isub hx hb dX12_gainAt_67 ?_
      obtain ⟨h1, h2⟩ := z_s2 hf
      subst h1 h2
      exact hret _ _ _ _ hP hS dX12_gainAt_68
    refine lv_icmp_ge (tgt := 53) hx hb dX12_gainAt_32 (by decide) (fun c_11 => ?_) (fun c_11 => ?_)
    · have hf := z_it c_11 hf
      exact J_53 x_1 S_2 _ _ _ hf hP hS (lv_sub hl [1, 2, 0] rfl)
    · have hf := z_if c_11 hf
      refine lv_iload_n hx hb dX12_gainAt_35 rfl (lv_at hl 0 rfl) ?_
      refine lv_aload_n hx hb dX12_gainAt_36 rfl (lv_at hl 1 rfl) ?_
      refine lv_aload_n hx hb dX12_gainAt_37 rfl (lv_at hl 1 rfl) ?_
      refine va_get (D := D) (ci := 12) (v := .ref (ad 11)) (C := RX12) (T := TX12) (N := 36) hx hb hts k0 hown hK hP 0 (zM_0 cy ad S_2) rfl 25 (by decide) k3 (fun _ h9 => h9) rfl dX12_gainAt_38 ?_
      refine lv_iload_n hx hb dX12_gainAt_41 rfl (lv_at hl 2 rfl) ?_
      refine lv_iconst (v := 1) hx hb dX12_gainAt_42 (by decide) ?_
      refine lv_iadd hx hb dX12_gainAt_43 ?_
      obtain ⟨h_6, hf⟩ := z_ix hf
      refine z_iald hx hb hK hP 11 0 (zM_11 cy ad S_2) rfl h_6 (k := ((a_1 + (1 : Int32)).toNatClampNeg)) rfl dX12_gainAt_44 ?_
      obtain ⟨r_7, S_8, h_9, hf⟩ := z_bd hf
      refine z_cVI (As := [.int (S_2.1 11 ((a_1 + (1 : Int32)).toNatClampNeg))]) (rest := [.int x_1]) X hK hE hD hA hP hS (cm_loaf l D K cy ad S_2 _ _ _ h_9) (cwV 1 hts (z_gV wt_6_149 wt_6_151 wp_73 wt_1_13 wt_6_152) rfl rfl rfl ⟨rfl, yd_yX12_loaf⟩ ⟨Nat.le_of_ble_eq_true rfl, Nat.le_of_ble_eq_true rfl⟩) (va_recv hK hP (ci := 12) (q0 := 0) rfl (zM_0 cy ad S_2)) hl.1 rfl rfl (Nat.le_of_ble_eq_true rfl) dX12_gainAt_45 (fun H locs hP hS => ?_)
      refine lv_bipush (v := 9) hx hb dX12_gainAt_48 (by decide) ?_
      refine lv_idiv hx hb dX12_gainAt_50 (by decide) ?_
      refine lv_iadd hx hb dX12_gainAt_51 ?_
      refine lv_topi (fun x_10 ex_10 => ?_)
      have hf := z_nv ex_10 hf
      refine lv_istore_n (lv' := [(2, .int x_10), (0, .ref (ad 0)), (1, .int a_1)]) hx hb dX12_gainAt_52 rfl hl (by decide) rfl (fun ls hl => ?_)
      exact J_53 x_10 S_8 _ _ _ hf hP hS (lv_sub hl [1, 2, 0] rfl)
  refine lv_if_ne (tgt := 8) hx hb dX12_gainAt_1 (by decide) (fun c_16 => ?_) (fun c_16 => ?_)
  · have hf := z_if c_16 hf
    refine lv_aload_n hx hb dX12_gainAt_8 rfl (lv_at hl 0 rfl) ?_
    refine lv_aload_n hx hb dX12_gainAt_9 rfl (lv_at hl 0 rfl) ?_
    refine va_get (D := D) (ci := 12) (v := .ref (ad 11)) (C := RX12) (T := TX12) (N := 36) hx hb hts k0 hown hK hP 0 (zM_0 cy ad S_0) rfl 25 (by decide) k3 (fun _ h9 => h9) rfl dX12_gainAt_10 ?_
    refine lv_iload_n hx hb dX12_gainAt_13 rfl (lv_at hl 1 rfl) ?_
    obtain ⟨h_12, hf⟩ := z_ix hf
    refine z_iald hx hb hK hP 11 0 (zM_11 cy ad S_0) rfl h_12 (k := (a_1.toNatClampNeg)) rfl dX12_gainAt_14 ?_
    obtain ⟨r_13, S_14, h_15, hf⟩ := z_bd hf
    refine z_cVI (As := [.int (S_0.1 11 (a_1.toNatClampNeg))]) (rest := []) X hK hE hD hA hP hS (cm_loaf l D K cy ad S_0 _ _ _ h_15) (cwV 1 hts (z_gV wt_6_149 wt_6_151 wp_73 wt_1_13 wt_6_152) rfl rfl rfl ⟨rfl, yd_yX12_loaf⟩ ⟨Nat.le_of_ble_eq_true rfl, Nat.le_of_ble_eq_true rfl⟩) (va_recv hK hP (ci := 12) (q0 := 0) rfl (zM_0 cy ad S_0)) hl.1 rfl rfl (Nat.le_of_ble_eq_true rfl) dX12_gainAt_15 (fun H locs hP hS => ?_)
    refine lv_bipush (v := 9) hx hb dX12_gainAt_18 (by decide) ?_
    refine lv_idiv hx hb dX12_gainAt_20 (by decide) ?_
    refine lv_ineg hx hb dX12_gainAt_21 ?_
    exact J_22 (-(r_13 / (9 : Int32))) S_14 _ _ _ hf hP hS (lv_sub hl [0, 1] rfl)
  · have hf := z_it c_16 hf
    refine lv_iconst (v := 0) hx hb dX12_gainAt_4 (by decide) ?_
    refine lv_goto (tgt := 22) hx hb dX12_gainAt_5 (by decide) ?_
    exact J_22 (0 : Int32) S_0 _ _ _ hf hP hS (lv_sub hl [0, 1] rfl)
def fm_gain_L40 (a_1 : Int32) (x_1 : Int32) (j_77 : zSt → Option (Int32 × zSt)) : Nat → Int32 → Int32 → Int32 → zSt → Option (Int32 × zSt)
  | 0, _, _, _, _ => none
  | n_40 + 1, x_8, x_9, x_10, S_11 =>
    if x_1 ≤ x_10 then (
    zbd (fm_bakes S_11) fun r_12 S_13 =>
    zbd (fm_gainAt S_13 x_9) fun r_15 S_16 =>
    some (r_15, S_16)) else (
    zck (zix x_10 400) <|
    znm ((S_11.1 6 (x_10.toNatClampNeg)) - (48 : Int32)) fun x_19 =>
    zbd (fm_isHouse S_11 x_19) fun r_20 S_21 =>
    if r_20 = 0 then (
    j_77  S_21) else (
    if ((x_8 >>> (x_19 &&& 31)) &&& (1 : Int32)) = (1 : Int32) then (
    j_77  S_21) else (
    znm (x_8 ||| ((1 : Int32) <<< (x_19 &&& 31))) fun x_23 =>
    zck (zix x_10 9) <|
    znm (zpI S_21 11 (x_10.toNatClampNeg) x_19) fun S_25 =>
    znm (fun (x_26 : Int32) (S_27 : zSt) =>
    znm (x_10 + (1 : Int32)) fun x_28 =>
    fm_gain_L40 a_1 x_1 j_77 n_40 x_23 x_26 x_28 S_27) fun j_110 =>
    if x_19 = a_1 then (
    j_110 x_10 S_25) else (
    j_110 x_9 S_25))))
def fm_gain (S_0 : zSt) (a_1 : Int32) : Option (Int32 × zSt) :=
  znm (S_0.1 0 12) fun x_1 =>
  znm (zpI S_0 0 12 (0 : Int32)) fun S_2 =>
  zbd (fm_isHouse S_2 a_1) fun r_3 S_4 =>
  znm (fun (S_6 : zSt) =>
  some ((-1000000000 : Int32), S_6)) fun j_28 =>
  if r_3 = 0 then (
  j_28  S_4) else (
  if x_1 = (S_4.1 1 4) then (
  znm (fun (S_7 : zSt) =>
  some ((-1000000000 : Int32), S_7)) fun j_77 =>
  fm_gain_L40 a_1 x_1 j_77 zFU (0 : Int32) (-1 : Int32) (0 : Int32) S_4) else (
  j_28  S_4))
set_option maxHeartbeats 4000000 in
set_option maxRecDepth 100000 in
theorem cm_gain (l : Launch) (D : va_G) (K : (Nat → Nat) × (Nat → Nat)) (cy : Nat → ClassId) (ad : Nat → Nat) (S_0 : zSt) (a_1 : Int32) (ro : Int32) (So : zSt) (hf : fm_gain S_0 a_1 = some (ro, So)) : zMI l yX12_gain (zws yX12_gain cX12_gain 7 (Option.some .int)) ({ frames := 4, cells := 0, slots := 0, locals := 87 }) D (zTy cy) K (zM cy ad) [.ref (ad 0), .int a_1] S_0 ro So := by
  refine z_metI (own := RX12) (lv := [(0, .ref (ad 0)), (1, .int a_1)]) (by decide) rfl rfl (Nat.le_of_ble_eq_true rfl) rfl ?_
  intro p e s m below meth c A Q X hK hE hD hA hret hP hS ls hl
  obtain ⟨hx, hb, hml, hown, hts⟩ := id X
  have k0 := (fun w h => List.mem_cons_of_mem _ (zFX12 w h) : ∀ w ∈ u_ws RX12 TX12 36, w ∈ zws yX12_gain cX12_gain 7 (Option.some .int))
  have k1 := hts _ (List.mem_cons_of_mem _ wt_5_107)
  have k2 := hts _ (List.mem_cons_of_mem _ wt_6_165)
  have k3 := hts _ (List.mem_cons_of_mem _ wt_5_95)
  have k4 := hts _ (List.mem_cons_of_mem _ wt_5_102)
  have k5 := hts _ (List.mem_cons_of_mem _ wt_5_120)
  refine lv_aload_n hx hb dX12_gain_0 rfl (lv_at hl 0 rfl) ?_
  refine va_get (D := D) (ci := 12) (v := .int (S_0.1 0 12)) (C := RX12) (T := TX12) (N := 36) hx hb hts k0 hown hK hP 0 (zM_0 cy ad S_0) rfl 12 (by decide) k1 (fun _ h9 => h9) rfl dX12_gain_1 ?_
  refine lv_topi (fun x_1 ex_1 => ?_)
  have hf := z_nv ex_1 hf
  refine lv_istore_n (lv' := [(2, .int x_1), (0, .ref (ad 0)), (1, .int a_1)]) hx hb dX12_gain_4 rfl hl (by decide) rfl (fun ls hl => ?_)
  refine lv_aload_n hx hb dX12_gain_5 rfl (lv_at hl 1 rfl) ?_
  refine lv_iconst (v := 0) hx hb dX12_gain_6 (by decide) ?_
  refine va_put (D := D) (ci := 12) (v := .int (0 : Int32)) (ty := .int) (C := RX12) (T := TX12) (N := 36) hx hb hts k0 tyX12 tyX12_ok nmX12 hown hK hP (hD S_0) hS 0 (zM_0 cy ad S_0) rfl 12 (by decide) k1 (fun _ h9 => h9) rfl (tyX12_ok 12 (by decide)) rfl rfl (Nat.le_of_ble_eq_true rfl) dX12_gain_7 (fun H locs hP _ hS => ?_)
  obtain ⟨S_2, eS_2, hf⟩ := z_nm hf
  have hP := zW_putI hP eS_2 (by decide) rfl
  refine lv_aload_n hx hb dX12_gain_10 rfl (lv_at hl 1 rfl) ?_
  refine lv_iload_n hx hb dX12_gain_11 rfl (lv_at hl 2 rfl) ?_
  obtain ⟨r_3, S_4, h_5, hf⟩ := z_bd hf
  refine z_cVI (As := [.int a_1]) (rest := []) X hK hE hD hA hP hS (cm_isHouse l D K cy ad S_2 _ _ _ h_5) (cwV 1 hts (z_gV wt_6_90 wt_6_92 wp_63 wt_1_13 wt_6_93) rfl rfl rfl ⟨rfl, yd_yX12_isHouse⟩ ⟨Nat.le_of_ble_eq_true rfl, Nat.le_of_ble_eq_true rfl⟩) (va_recv hK hP (ci := 12) (q0 := 0) rfl (zM_0 cy ad S_2)) hl.1 rfl rfl (Nat.le_of_ble_eq_true rfl) dX12_gain_12 (fun H locs hP hS => ?_)
  obtain ⟨j_28, ej_28, hf⟩ := z_nm hf
  have J_28 : ∀ (S_6 : zSt) (H : Heap) (locs : List Loc) (ls : Array Slot), j_28  S_6 = some (ro, So) → va_P D vwCl (zM cy ad S_6) H → va_S A s.heap H locs → lv_has ls 7 [] → W p l e ({ frames := 4, cells := 0, slots := 0, locals := 87 }) s m ([.ref (ad 0), .int a_1] : List Value).toArray below meth c H locs 0 0 Q (F0 m 28 ls []) := by
    intro  S_6 H locs ls hf hP hS hl
    have hf := z_e1 ej_28 hf
    refine lv_ldcw hx hb hown k2 dX12_gain_28 ?_
    obtain ⟨h1, h2⟩ := z_s2 hf
    subst h1 h2
    exact hret _ _ _ _ hP hS dX12_gain_31
  refine lv_if_eq (tgt := 28) hx hb dX12_gain_15 (by decide) (fun c_34 => ?_) (fun c_34 => ?_)
  · have hf := z_it c_34 hf
    exact J_28  S_4 _ _ _ hf hP hS (lv_sub hl [] rfl)
  · have hf := z_if c_34 hf
    refine lv_iload_n hx hb dX12_gain_18 rfl (lv_at hl 0 rfl) ?_
    refine lv_aload_n hx hb dX12_gain_19 rfl (lv_at hl 1 rfl) ?_
    refine va_get (D := D) (ci := 12) (v := .ref (ad 1)) (C := RX12) (T := TX12) (N := 36) hx hb hts k0 hown hK hP 0 (zM_0 cy ad S_4) rfl 0 (by decide) k3 (fun _ h9 => h9) rfl dX12_gain_20 ?_
    refine lv_iconst (v := 4) hx hb dX12_gain_23 (by decide) ?_
    refine z_iald hx hb hK hP 1 0 (zM_1 cy ad S_4) rfl (vp_in_iff.mpr (by decide)) (k := 4) (by decide) dX12_gain_24 ?_
    refine lv_icmp_eq (tgt := 32) hx hb dX12_gain_25 (by decide) (fun c_33 => ?_) (fun c_33 => ?_)
    · have hf := z_it c_33 hf
      refine lv_iconst (v := 0) hx hb dX12_gain_32 (by decide) ?_
      refine lv_istore_n (lv' := [(3, .int (0 : Int32)), (2, .int x_1), (0, .ref (ad 0)), (1, .int a_1)]) hx hb dX12_gain_33 rfl hl (by decide) rfl (fun ls hl => ?_)
      refine lv_iconst (v := -1) hx hb dX12_gain_34 (by decide) ?_
      refine lv_istore (lv' := [(4, .int (-1 : Int32)), (3, .int (0 : Int32)), (2, .int x_1), (0, .ref (ad 0)), (1, .int a_1)]) hx hb dX12_gain_35 hl (by decide) rfl (fun ls hl => ?_)
      refine lv_iconst (v := 0) hx hb dX12_gain_37 (by decide) ?_
      refine lv_istore (lv' := [(5, .int (0 : Int32)), (4, .int (-1 : Int32)), (3, .int (0 : Int32)), (2, .int x_1), (0, .ref (ad 0)), (1, .int a_1)]) hx hb dX12_gain_38 hl (by decide) rfl (fun ls hl => ?_)
      obtain ⟨j_77, ej_77, hf⟩ := z_nm hf
      have J_77 : ∀ (S_7 : zSt) (H : Heap) (locs : List Loc) (ls : Array Slot), j_77  S_7 = some (ro, So) → va_P D vwCl (zM cy ad S_7) H → va_S A s.heap H locs → lv_has ls 7 [] → W p l e ({ frames := 4, cells := 0, slots := 0, locals := 87 }) s m ([.ref (ad 0), .int a_1] : List Value).toArray below meth c H locs 0 0 Q (F0 m 77 ls []) := by
        intro  S_7 H locs ls hf hP hS hl
        have hf := z_e1 ej_77 hf
        refine lv_ldcw hx hb hown k2 dX12_gain_77 ?_
        obtain ⟨h1, h2⟩ := z_s2 hf
        subst h1 h2
        exact hret _ _ _ _ hP hS dX12_gain_80
      have L_40 : ∀ (n_40 : Nat) (x_8 : Int32) (x_9 : Int32) (x_10 : Int32) (S_11 : zSt) (H : Heap) (locs : List Loc) (ls : Array Slot), fm_gain_L40 a_1 x_1 j_77 n_40 x_8 x_9 x_10 S_11 = some (ro, So) → va_P D vwCl (zM cy ad S_11) H → va_S A s.heap H locs → lv_has ls 7 [(0, .ref (ad 0)), (1, .int a_1), (2, .int x_1), (3, .int x_8), (4, .int x_9), (5, .int x_10)] → W p l e ({ frames := 4, cells := 0, slots := 0, locals := 87 }) s m ([.ref (ad 0), .int a_1] : List Value).toArray below meth c H locs 0 0 Q (F0 m 40 ls []) := by
        intro n_40
        induction n_40 with
        | zero =>
          intro x_8 x_9 x_10 S_11 H locs ls hf hP hS hl
          exact z_no hf
        | succ n_40 ih_40 =>
          intro x_8 x_9 x_10 S_11 H locs ls hf hP hS hl
          rw [fm_gain_L40] at hf
          refine lv_iload hx hb dX12_gain_40 (lv_at hl 5 rfl) ?_
          refine lv_iload_n hx hb dX12_gain_42 rfl (lv_at hl 2 rfl) ?_
          refine lv_icmp_ge (tgt := 118) hx hb dX12_gain_43 (by decide) (fun c_32 => ?_) (fun c_32 => ?_)
          · have hf := z_it c_32 hf
            refine lv_aload_n hx hb dX12_gain_118 rfl (lv_at hl 0 rfl) ?_
            obtain ⟨r_12, S_13, h_14, hf⟩ := z_bd hf
            refine z_cVI (As := []) (rest := []) X hK hE hD hA hP hS (cm_bakes l D K cy ad S_11 _ _ h_14) (cwV 0 hts (z_gV wt_6_174 wt_6_176 wp_75 wt_1_13 wt_6_177) rfl rfl rfl ⟨rfl, yd_yX12_bakes⟩ ⟨Nat.le_of_ble_eq_true rfl, Nat.le_of_ble_eq_true rfl⟩) (va_recv hK hP (ci := 12) (q0 := 0) rfl (zM_0 cy ad S_11)) hl.1 rfl rfl (Nat.le_of_ble_eq_true rfl) dX12_gain_119 (fun H locs hP hS => ?_)
            refine lv_pop hx hb dX12_gain_122 rfl ?_
            refine lv_aload_n hx hb dX12_gain_123 rfl (lv_at hl 0 rfl) ?_
            refine lv_iload hx hb dX12_gain_124 (lv_at hl 4 rfl) ?_
            obtain ⟨r_15, S_16, h_17, hf⟩ := z_bd hf
            refine z_cVI (As := [.int x_9]) (rest := []) X hK hE hD hA hP hS (cm_gainAt l D K cy ad S_13 _ _ _ h_17) (cwV 1 hts (z_gV wt_6_178 wt_6_180 wp_76 wt_1_13 wt_6_181) rfl rfl rfl ⟨rfl, yd_yX12_gainAt⟩ ⟨Nat.le_of_ble_eq_true rfl, Nat.le_of_ble_eq_true rfl⟩) (va_recv hK hP (ci := 12) (q0 := 0) rfl (zM_0 cy ad S_13)) hl.1 rfl rfl (Nat.le_of_ble_eq_true rfl) dX12_gain_126 (fun H locs hP hS => ?_)
            obtain ⟨h1, h2⟩ := z_s2 hf
            subst h1 h2
            exact hret _ _ _ _ hP hS dX12_gain_129
          · have hf := z_if c_32 hf
            refine lv_aload_n hx hb dX12_gain_46 rfl (lv_at hl 0 rfl) ?_
            refine va_get (D := D) (ci := 12) (v := .ref (ad 6)) (C := RX12) (T := TX12) (N := 36) hx hb hts k0 hown hK hP 0 (zM_0 cy ad S_11) rfl 7 (by decide) k4 (fun _ h9 => h9) rfl dX12_gain_47 ?_
            refine lv_iload hx hb dX12_gain_50 (lv_at hl 5 rfl) ?_
            obtain ⟨h_18, hf⟩ := z_ix hf
            refine z_iald hx hb hK hP 6 0 (zM_6 cy ad S_11) rfl h_18 (k := (x_10.toNatClampNeg)) rfl dX12_gain_52 ?_
            refine lv_bipush (v := 48) hx hb dX12_gain_53 (by decide) ?_
            refine lv_isub hx hb dX12_gain_55 ?_
            refine lv_topi (fun x_19 ex_19 => ?_)
            have hf := z_nv ex_19 hf
            refine lv_istore (lv' := [(6, .int x_19), (0, .ref (ad 0)), (1, .int a_1), (2, .int x_1), (3, .int x_8), (4, .int x_9), (5, .int x_10)]) hx hb dX12_gain_56 hl (by decide) rfl (fun ls hl => ?_)
            refine lv_aload_n hx hb dX12_gain_58 rfl (lv_at hl 1 rfl) ?_
            refine lv_iload hx hb dX12_gain_59 (lv_at hl 0 rfl) ?_
            obtain ⟨r_20, S_21, h_22, hf⟩ := z_bd hf
            refine z_cVI (As := [.int x_19]) (rest := []) X hK hE hD hA hP hS (cm_isHouse l D K cy ad S_11 _ _ _ h_22) (cwV 1 hts (z_gV wt_6_90 wt_6_92 wp_63 wt_1_13 wt_6_93) rfl rfl rfl ⟨rfl, yd_yX12_isHouse⟩ ⟨Nat.le_of_ble_eq_true rfl, Nat.le_of_ble_eq_true rfl⟩) (va_recv hK hP (ci := 12) (q0 := 0) rfl (zM_0 cy ad S_11)) hl.1 rfl rfl (Nat.le_of_ble_eq_true rfl) dX12_gain_61 (fun H locs hP hS => ?_)
            refine lv_if_eq (tgt := 77) hx hb dX12_gain_64 (by decide) (fun c_31 => ?_) (fun c_31 => ?_)
            · have hf := z_it c_31 hf
              exact J_77  S_21 _ _ _ hf hP hS (lv_sub hl [] rfl)
            · have hf := z_if c_31 hf
              refine lv_iload_n hx hb dX12_gain_67 rfl (lv_at hl 4 rfl) ?_
              refine lv_iload hx hb dX12_gain_68 (lv_at hl 0 rfl) ?_
              refine lv_ishr hx hb dX12_gain_70 ?_
              refine lv_iconst (v := 1) hx hb dX12_gain_71 (by decide) ?_
              refine lv_iand hx hb dX12_gain_72 ?_
              refine lv_iconst (v := 1) hx hb dX12_gain_73 (by decide) ?_
              refine lv_icmp_ne (tgt := 81) hx hb dX12_gain_74 (by decide) (fun c_30 => ?_) (fun c_30 => ?_)
              · have hf := z_if c_30 hf
                refine lv_iload_n hx hb dX12_gain_81 rfl (lv_at hl 4 rfl) ?_
                refine lv_iconst (v := 1) hx hb dX12_gain_82 (by decide) ?_
                refine lv_iload hx hb dX12_gain_83 (lv_at hl 0 rfl) ?_
                refine lv_ishl hx hb dX12_gain_85 ?_
                refine lv_ior hx hb dX12_gain_86 ?_
                refine lv_topi (fun x_23 ex_23 => ?_)
                have hf := z_nv ex_23 hf
                refine lv_istore_n (lv' := [(3, .int x_23), (6, .int x_19), (0, .ref (ad 0)), (1, .int a_1), (2, .int x_1), (4, .int x_9), (5, .int x_10)]) hx hb dX12_gain_87 rfl hl (by decide) rfl (fun ls hl => ?_)
                refine lv_aload_n hx hb dX12_gain_88 rfl (lv_at hl 2 rfl) ?_
                refine va_get (D := D) (ci := 12) (v := .ref (ad 11)) (C := RX12) (T := TX12) (N := 36) hx hb hts k0 hown hK hP 0 (zM_0 cy ad S_21) rfl 25 (by decide) k5 (fun _ h9 => h9) rfl dX12_gain_89 ?_
                refine lv_iload hx hb dX12_gain_92 (lv_at hl 6 rfl) ?_
                refine lv_iload hx hb dX12_gain_94 (lv_at hl 1 rfl) ?_
                obtain ⟨h_24, hf⟩ := z_ix hf
                refine z_iast hx hb hK hP (hD S_21) hS 11 0 (zM_11 cy ad S_21) rfl h_24 (k := (x_10.toNatClampNeg)) rfl dX12_gain_96 (fun H locs hP hS => ?_)
                obtain ⟨S_25, eS_25, hf⟩ := z_nm hf
                have hP := zW_putI hP eS_25 (by decide) rfl
                refine lv_iload hx hb dX12_gain_97 (lv_at hl 1 rfl) ?_
                refine lv_iload_n hx hb dX12_gain_99 rfl (lv_at hl 3 rfl) ?_
                obtain ⟨j_110, ej_110, hf⟩ := z_nm hf
                have J_110 : ∀ (x_26 : Int32) (S_27 : zSt) (H : Heap) (locs : List Loc) (ls : Array Slot), j_110 x_26 S_27 = some (ro, So) → va_P D vwCl (zM cy ad S_27) H → va_S A s.heap H locs → lv_has ls 7 [(0, .ref (ad 0)), (1, .int a_1), (2, .int x_1), (3, .int x_23), (5, .int x_10)] → W p l e ({ frames := 4, cells := 0, slots := 0, locals := 87 }) s m ([.ref (ad 0), .int a_1] : List Value).toArray below meth c H locs 0 0 Q (F0 m 110 ls [.int x_26]) := by
                  intro x_26 S_27 H locs ls hf hP hS hl
                  have hf := z_e2 ej_110 hf
                  refine lv_istore (lv' := [(4, .int x_26), (0, .ref (ad 0)), (1, .int a_1), (2, .int x_1), (3, .int x_23), (5, .int x_10)]) hx hb dX12_gain_110 hl (by decide) rfl (fun ls hl => ?_)
                  obtain ⟨x_28, ex_28, hf⟩ := z_nm hf
                  refine lv_iinc (v := x_28) (lv' := [(5, .int x_28), (4, .int x_26), (0, .ref (ad 0)), (1, .int a_1), (2, .int x_1), (3, .int x_23)]) hx hb dX12_gain_112 hl (k := 5) rfl (by rw [ex_28]; rfl) (by decide) rfl (fun ls hl => ?_)
                  refine lv_goto (tgt := 40) hx hb dX12_gain_115 (by decide) ?_
                  exact ih_40 x_23 x_26 x_28 S_27 _ _ _ hf hP hS (lv_sub hl [2, 3, 4, 5, 1, 0] rfl)
                refine lv_icmp_ne (tgt := 108) hx hb dX12_gain_100 (by decide) (fun c_29 => ?_) (fun c_29 => ?_)
                · have hf := z_if c_29 hf
                  refine lv_iload hx hb dX12_gain_108 (lv_at hl 5 rfl) ?_
                  exact J_110 x_9 S_25 _ _ _ hf hP hS (lv_sub hl [2, 3, 4, 0, 6] rfl)
                · have hf := z_it c_29 hf
                  refine lv_iload hx hb dX12_gain_103 (lv_at hl 6 rfl) ?_
                  refine lv_goto (tgt := 110) hx hb dX12_gain_105 (by decide) ?_
                  exact J_110 x_10 S_25 _ _ _ hf hP hS (lv_sub hl [2, 3, 4, 0, 6] rfl)
              · have hf := z_it c_30 hf
                exact J_77  S_21 _ _ _ hf hP hS (lv_sub hl [] rfl)
      exact L_40 zFU (0 : Int32) (-1 : Int32) (0 : Int32) S_4 _ _ _ hf hP hS (lv_sub hl [4, 5, 3, 2, 1, 0] rfl)
    · have hf := z_if c_33 hf
      exact J_28  S_4 _ _ _ hf hP hS (lv_sub hl [] rfl)
def fm_exchanges (S_0 : zSt) (a_1 : Int32) : Option (Unit × zSt) :=
  zck (zix a_1 9) <|
  znm (S_0.1 11 (a_1.toNatClampNeg)) fun x_2 =>
  zck (zix (a_1 + (1 : Int32)) 9) <|
  zck (zix a_1 9) <|
  znm (zpI S_0 11 (a_1.toNatClampNeg) (S_0.1 11 ((a_1 + (1 : Int32)).toNatClampNeg))) fun S_5 =>
  zck (zix (a_1 + (1 : Int32)) 9) <|
  znm (zpI S_5 11 ((a_1 + (1 : Int32)).toNatClampNeg) x_2) fun S_7 =>
  some ((), S_7)
set_option maxHeartbeats 4000000 in
set_option maxRecDepth 100000 in
theorem cm_exchanges (l : Launch) (D : va_G) (K : (Nat → Nat) × (Nat → Nat)) (cy : Nat → ClassId) (ad : Nat → Nat) (S_0 : zSt) (a_1 : Int32) (So : zSt) (hf : fm_exchanges S_0 a_1 = some ((), So)) : zMV l yX12_exchanges (zws yX12_exchanges cX12_exchanges 3 none) ({ frames := 0, cells := 0, slots := 0, locals := 0 }) D (zTy cy) K (zM cy ad) [.ref (ad 0), .int a_1] S_0 So := by
  refine z_metV (own := RX12) (lv := [(0, .ref (ad 0)), (1, .int a_1)]) (by decide) rfl rfl (Nat.le_of_ble_eq_true rfl) rfl ?_
  intro p e s m below meth c A Q X hK hE hD hA hret hP hS ls hl
  obtain ⟨hx, hb, hml, hown, hts⟩ := id X
  have k0 := (fun w h => List.mem_cons_of_mem _ (zFX12 w h) : ∀ w ∈ u_ws RX12 TX12 36, w ∈ zws yX12_exchanges cX12_exchanges 3 none)
  have k1 := hts _ (List.mem_cons_of_mem _ wt_5_120)
  refine lv_aload_n hx hb dX12_exchanges_0 rfl (lv_at hl 0 rfl) ?_
  refine va_get (D := D) (ci := 12) (v := .ref (ad 11)) (C := RX12) (T := TX12) (N := 36) hx hb hts k0 hown hK hP 0 (zM_0 cy ad S_0) rfl 25 (by decide) k1 (fun _ h9 => h9) rfl dX12_exchanges_1 ?_
  refine lv_iload_n hx hb dX12_exchanges_4 rfl (lv_at hl 1 rfl) ?_
  obtain ⟨h_1, hf⟩ := z_ix hf
  refine z_iald hx hb hK hP 11 0 (zM_11 cy ad S_0) rfl h_1 (k := (a_1.toNatClampNeg)) rfl dX12_exchanges_5 ?_
  refine lv_topi (fun x_2 ex_2 => ?_)
  have hf := z_nv ex_2 hf
  refine lv_istore_n (lv' := [(2, .int x_2), (0, .ref (ad 0)), (1, .int a_1)]) hx hb dX12_exchanges_6 rfl hl (by decide) rfl (fun ls hl => ?_)
  refine lv_aload_n hx hb dX12_exchanges_7 rfl (lv_at hl 1 rfl) ?_
  refine va_get (D := D) (ci := 12) (v := .ref (ad 11)) (C := RX12) (T := TX12) (N := 36) hx hb hts k0 hown hK hP 0 (zM_0 cy ad S_0) rfl 25 (by decide) k1 (fun _ h9 => h9) rfl dX12_exchanges_8 ?_
  refine lv_iload_n hx hb dX12_exchanges_11 rfl (lv_at hl 2 rfl) ?_
  refine lv_aload_n hx hb dX12_exchanges_12 rfl (lv_at hl 1 rfl) ?_
  refine va_get (D := D) (ci := 12) (v := .ref (ad 11)) (C := RX12) (T := TX12) (N := 36) hx hb hts k0 hown hK hP 0 (zM_0 cy ad S_0) rfl 25 (by decide) k1 (fun _ h9 => h9) rfl dX12_exchanges_13 ?_
  refine lv_iload_n hx hb dX12_exchanges_16 rfl (lv_at hl 2 rfl) ?_
  refine lv_iconst (v := 1) hx hb dX12_exchanges_17 (by decide) ?_
  refine lv_iadd hx hb dX12_exchanges_18 ?_
  obtain ⟨h_3, hf⟩ := z_ix hf
  refine z_iald hx hb hK hP 11 0 (zM_11 cy ad S_0) rfl h_3 (k := ((a_1 + (1 : Int32)).toNatClampNeg)) rfl dX12_exchanges_19 ?_
  obtain ⟨h_4, hf⟩ := z_ix hf
  refine z_iast hx hb hK hP (hD S_0) hS 11 0 (zM_11 cy ad S_0) rfl h_4 (k := (a_1.toNatClampNeg)) rfl dX12_exchanges_20 (fun H locs hP hS => ?_)
  obtain ⟨S_5, eS_5, hf⟩ := z_nm hf
  have hP := zW_putI hP eS_5 (by decide) rfl
  refine lv_aload_n hx hb dX12_exchanges_21 rfl (lv_at hl 1 rfl) ?_
  refine va_get (D := D) (ci := 12) (v := .ref (ad 11)) (C := RX12) (T := TX12) (N := 36) hx hb hts k0 hown hK hP 0 (zM_0 cy ad S_5) rfl 25 (by decide) k1 (fun _ h9 => h9) rfl dX12_exchanges_22 ?_
  refine lv_iload_n hx hb dX12_exchanges_25 rfl (lv_at hl 2 rfl) ?_
  refine lv_iconst (v := 1) hx hb dX12_exchanges_26 (by decide) ?_
  refine lv_iadd hx hb dX12_exchanges_27 ?_
  refine lv_iload_n hx hb dX12_exchanges_28 rfl (lv_at hl 0 rfl) ?_
  obtain ⟨h_6, hf⟩ := z_ix hf
  refine z_iast hx hb hK hP (hD S_5) hS 11 0 (zM_11 cy ad S_5) rfl h_6 (k := ((a_1 + (1 : Int32)).toNatClampNeg)) rfl dX12_exchanges_29 (fun H locs hP hS => ?_)
  obtain ⟨S_7, eS_7, hf⟩ := z_nm hf
  have hP := zW_putI hP eS_7 (by decide) rfl
  obtain ⟨h1, h2⟩ := z_s2 hf
  subst h2
  exact hret _ _ _ _ hP hS dX12_exchanges_30
def fm_wouldChange (S_0 : zSt) (a_1 : Int32) : Option (Int32 × zSt) :=
  zbd (fm_bakes S_0) fun r_1 S_2 =>
  zbd (fm_gainAt S_2 a_1) fun r_4 S_5 =>
  zbd (fm_gainAt S_5 (a_1 + (1 : Int32))) fun r_7 S_8 =>
  zbd (fm_exchanges S_8 a_1) fun _ S_11 =>
  zbd (fm_bakes S_11) fun r_13 S_14 =>
  zbd (fm_gainAt S_14 (a_1 + (1 : Int32))) fun r_16 S_17 =>
  znm (fun (x_19 : Int32) (S_20 : zSt) =>
  zbd (fm_exchanges S_20 a_1) fun _ S_22 =>
  zck (zbo x_19) <|
  some (x_19, S_22)) fun j_54 =>
  znm (fun (S_25 : zSt) =>
  j_54 (0 : Int32) S_25) fun j_53 =>
  if r_16 ≤ r_4 then (
  j_53  S_17) else (
  zbd (fm_gainAt S_17 a_1) fun r_26 S_27 =>
  if r_26 ≤ r_7 then (
  j_53  S_27) else (
  j_54 (1 : Int32) S_27))
set_option maxHeartbeats 4000000 in
set_option maxRecDepth 100000 in
theorem cm_wouldChange (l : Launch) (D : va_G) (K : (Nat → Nat) × (Nat → Nat)) (cy : Nat → ClassId) (ad : Nat → Nat) (S_0 : zSt) (a_1 : Int32) (ro : Int32) (So : zSt) (hf : fm_wouldChange S_0 a_1 = some (ro, So)) : zMI l yX12_wouldChange (zws yX12_wouldChange cX12_wouldChange 5 (Option.some .boolean)) ({ frames := 4, cells := 0, slots := 0, locals := 87 }) D (zTy cy) K (zM cy ad) [.ref (ad 0), .int a_1] S_0 ro So := by
  refine z_metZ (own := RX12) (lv := [(0, .ref (ad 0)), (1, .int a_1)]) (by decide) rfl rfl (Nat.le_of_ble_eq_true rfl) rfl ?_
  intro p e s m below meth c A Q X hK hE hD hA hret hP hS ls hl
  obtain ⟨hx, hb, hml, hown, hts⟩ := id X
  refine lv_aload_n hx hb dX12_wouldChange_0 rfl (lv_at hl 0 rfl) ?_
  obtain ⟨r_1, S_2, h_3, hf⟩ := z_bd hf
  refine z_cVI (As := []) (rest := []) X hK hE hD hA hP hS (cm_bakes l D K cy ad S_0 _ _ h_3) (cwV 0 hts (z_gV wt_6_174 wt_6_176 wp_75 wt_1_13 wt_6_177) rfl rfl rfl ⟨rfl, yd_yX12_bakes⟩ ⟨Nat.le_of_ble_eq_true rfl, Nat.le_of_ble_eq_true rfl⟩) (va_recv hK hP (ci := 12) (q0 := 0) rfl (zM_0 cy ad S_0)) hl.1 rfl rfl (Nat.le_of_ble_eq_true rfl) dX12_wouldChange_1 (fun H locs hP hS => ?_)
  refine lv_pop hx hb dX12_wouldChange_4 rfl ?_
  refine lv_aload_n hx hb dX12_wouldChange_5 rfl (lv_at hl 0 rfl) ?_
  refine lv_iload_n hx hb dX12_wouldChange_6 rfl (lv_at hl 1 rfl) ?_
  obtain ⟨r_4, S_5, h_6, hf⟩ := z_bd hf
  refine z_cVI (As := [.int a_1]) (rest := []) X hK hE hD hA hP hS (cm_gainAt l D K cy ad S_2 _ _ _ h_6) (cwV 1 hts (z_gV wt_6_178 wt_6_180 wp_76 wt_1_13 wt_6_181) rfl rfl rfl ⟨rfl, yd_yX12_gainAt⟩ ⟨Nat.le_of_ble_eq_true rfl, Nat.le_of_ble_eq_true rfl⟩) (va_recv hK hP (ci := 12) (q0 := 0) rfl (zM_0 cy ad S_2)) hl.1 rfl rfl (Nat.le_of_ble_eq_true rfl) dX12_wouldChange_7 (fun H locs hP hS => ?_)
  refine lv_istore_n (lv' := [(2, .int r_4), (0, .ref (ad 0)), (1, .int a_1)]) hx hb dX12_wouldChange_10 rfl hl (by decide) rfl (fun ls hl => ?_)
  refine lv_aload_n hx hb dX12_wouldChange_11 rfl (lv_at hl 1 rfl) ?_
  refine lv_iload_n hx hb dX12_wouldChange_12 rfl (lv_at hl 2 rfl) ?_
  refine lv_iconst (v := 1) hx hb dX12_wouldChange_13 (by decide) ?_
  refine lv_iadd hx hb dX12_wouldChange_14 ?_
  obtain ⟨r_7, S_8, h_9, hf⟩ := z_bd hf
  refine z_cVI (As := [.int (a_1 + (1 : Int32))]) (rest := []) X hK hE hD hA hP hS (cm_gainAt l D K cy ad S_5 _ _ _ h_9) (cwV 1 hts (z_gV wt_6_178 wt_6_180 wp_76 wt_1_13 wt_6_181) rfl rfl rfl ⟨rfl, yd_yX12_gainAt⟩ ⟨Nat.le_of_ble_eq_true rfl, Nat.le_of_ble_eq_true rfl⟩) (va_recv hK hP (ci := 12) (q0 := 0) rfl (zM_0 cy ad S_5)) hl.1 rfl rfl (Nat.le_of_ble_eq_true rfl) dX12_wouldChange_15 (fun H locs hP hS => ?_)
  refine lv_istore_n (lv' := [(3, .int r_7), (2, .int r_4), (0, .ref (ad 0)), (1, .int a_1)]) hx hb dX12_wouldChange_18 rfl hl (by decide) rfl (fun ls hl => ?_)
  refine lv_aload_n hx hb dX12_wouldChange_19 rfl (lv_at hl 2 rfl) ?_
  refine lv_iload_n hx hb dX12_wouldChange_20 rfl (lv_at hl 3 rfl) ?_
  obtain ⟨r_10, S_11, h_12, hf⟩ := z_bd hf
  refine z_cVV (As := [.int a_1]) (rest := []) X hK hE hD hA hP hS (cm_exchanges l D K cy ad S_8 _ _ h_12) (cwV 1 hts (z_gV wt_6_202 wt_6_204 wp_81 wt_1_13 wt_6_205) rfl rfl rfl ⟨rfl, yd_yX12_exchanges⟩ ⟨Nat.le_of_ble_eq_true rfl, Nat.le_of_ble_eq_true rfl⟩) (va_recv hK hP (ci := 12) (q0 := 0) rfl (zM_0 cy ad S_8)) hl.1 rfl rfl (Nat.le_of_ble_eq_true rfl) dX12_wouldChange_21 (fun H locs hP hS => ?_)
  refine lv_aload_n hx hb dX12_wouldChange_24 rfl (lv_at hl 2 rfl) ?_
  obtain ⟨r_13, S_14, h_15, hf⟩ := z_bd hf
  refine z_cVI (As := []) (rest := []) X hK hE hD hA hP hS (cm_bakes l D K cy ad S_11 _ _ h_15) (cwV 0 hts (z_gV wt_6_174 wt_6_176 wp_75 wt_1_13 wt_6_177) rfl rfl rfl ⟨rfl, yd_yX12_bakes⟩ ⟨Nat.le_of_ble_eq_true rfl, Nat.le_of_ble_eq_true rfl⟩) (va_recv hK hP (ci := 12) (q0 := 0) rfl (zM_0 cy ad S_11)) hl.1 rfl rfl (Nat.le_of_ble_eq_true rfl) dX12_wouldChange_25 (fun H locs hP hS => ?_)
  refine lv_pop hx hb dX12_wouldChange_28 rfl ?_
  refine lv_aload_n hx hb dX12_wouldChange_29 rfl (lv_at hl 2 rfl) ?_
  refine lv_iload_n hx hb dX12_wouldChange_30 rfl (lv_at hl 3 rfl) ?_
  refine lv_iconst (v := 1) hx hb dX12_wouldChange_31 (by decide) ?_
  refine lv_iadd hx hb dX12_wouldChange_32 ?_
  obtain ⟨r_16, S_17, h_18, hf⟩ := z_bd hf
  refine z_cVI (As := [.int (a_1 + (1 : Int32))]) (rest := []) X hK hE hD hA hP hS (cm_gainAt l D K cy ad S_14 _ _ _ h_18) (cwV 1 hts (z_gV wt_6_178 wt_6_180 wp_76 wt_1_13 wt_6_181) rfl rfl rfl ⟨rfl, yd_yX12_gainAt⟩ ⟨Nat.le_of_ble_eq_true rfl, Nat.le_of_ble_eq_true rfl⟩) (va_recv hK hP (ci := 12) (q0 := 0) rfl (zM_0 cy ad S_14)) hl.1 rfl rfl (Nat.le_of_ble_eq_true rfl) dX12_wouldChange_33 (fun H locs hP hS => ?_)
  refine lv_iload_n hx hb dX12_wouldChange_36 rfl (lv_at hl 1 rfl) ?_
  obtain ⟨j_54, ej_54, hf⟩ := z_nm hf
  have J_54 : ∀ (x_19 : Int32) (S_20 : zSt) (H : Heap) (locs : List Loc) (ls : Array Slot), j_54 x_19 S_20 = some (ro, So) → va_P D vwCl (zM cy ad S_20) H → va_S A s.heap H locs → lv_has ls 5 [(0, .ref (ad 0)), (1, .int a_1)] → W p l e ({ frames := 4, cells := 0, slots := 0, locals := 87 }) s m ([.ref (ad 0), .int a_1] : List Value).toArray below meth c H locs 0 0 Q (F0 m 54 ls [.int x_19]) := by
    intro x_19 S_20 H locs ls hf hP hS hl
    have hf := z_e2 ej_54 hf
    refine lv_istore (lv' := [(4, .int x_19), (0, .ref (ad 0)), (1, .int a_1)]) hx hb dX12_wouldChange_54 hl (by decide) rfl (fun ls hl => ?_)
    refine lv_aload_n hx hb dX12_wouldChange_56 rfl (lv_at hl 1 rfl) ?_
    refine lv_iload_n hx hb dX12_wouldChange_57 rfl (lv_at hl 2 rfl) ?_
    obtain ⟨r_21, S_22, h_23, hf⟩ := z_bd hf
    refine z_cVV (As := [.int a_1]) (rest := []) X hK hE hD hA hP hS (cm_exchanges l D K cy ad S_20 _ _ h_23) (cwV 1 hts (z_gV wt_6_202 wt_6_204 wp_81 wt_1_13 wt_6_205) rfl rfl rfl ⟨rfl, yd_yX12_exchanges⟩ ⟨Nat.le_of_ble_eq_true rfl, Nat.le_of_ble_eq_true rfl⟩) (va_recv hK hP (ci := 12) (q0 := 0) rfl (zM_0 cy ad S_20)) hl.1 rfl rfl (Nat.le_of_ble_eq_true rfl) dX12_wouldChange_58 (fun H locs hP hS => ?_)
    refine lv_iload hx hb dX12_wouldChange_61 (lv_at hl 0 rfl) ?_
    obtain ⟨h_24, hf⟩ := z_bo hf
    obtain ⟨h1, h2⟩ := z_s2 hf
    subst h1 h2
    exact hret _ _ _ _ h_24 hP hS dX12_wouldChange_63
  obtain ⟨j_53, ej_53, hf⟩ := z_nm hf
  have J_53 : ∀ (S_25 : zSt) (H : Heap) (locs : List Loc) (ls : Array Slot), j_53  S_25 = some (ro, So) → va_P D vwCl (zM cy ad S_25) H → va_S A s.heap H locs → lv_has ls 5 [(0, .ref (ad 0)), (1, .int a_1)] → W p l e ({ frames := 4, cells := 0, slots := 0, locals := 87 }) s m ([.ref (ad 0), .int a_1] : List Value).toArray below meth c H locs 0 0 Q (F0 m 53 ls []) := by
    intro  S_25 H locs ls hf hP hS hl
    have hf := z_e1 ej_53 hf
    refine lv_iconst (v := 0) hx hb dX12_wouldChange_53 (by decide) ?_
    exact J_54 (0 : Int32) S_25 _ _ _ hf hP hS (lv_sub hl [0, 1] rfl)
  refine lv_icmp_le (tgt := 53) hx hb dX12_wouldChange_37 (by decide) (fun c_30 => ?_) (fun c_30 => ?_)
  · have hf := z_it c_30 hf
    exact J_53  S_17 _ _ _ hf hP hS (lv_sub hl [2, 3] rfl)
  · have hf := z_if c_30 hf
    refine lv_aload_n hx hb dX12_wouldChange_40 rfl (lv_at hl 2 rfl) ?_
    refine lv_iload_n hx hb dX12_wouldChange_41 rfl (lv_at hl 3 rfl) ?_
    obtain ⟨r_26, S_27, h_28, hf⟩ := z_bd hf
    refine z_cVI (As := [.int a_1]) (rest := []) X hK hE hD hA hP hS (cm_gainAt l D K cy ad S_17 _ _ _ h_28) (cwV 1 hts (z_gV wt_6_178 wt_6_180 wp_76 wt_1_13 wt_6_181) rfl rfl rfl ⟨rfl, yd_yX12_gainAt⟩ ⟨Nat.le_of_ble_eq_true rfl, Nat.le_of_ble_eq_true rfl⟩) (va_recv hK hP (ci := 12) (q0 := 0) rfl (zM_0 cy ad S_17)) hl.1 rfl rfl (Nat.le_of_ble_eq_true rfl) dX12_wouldChange_42 (fun H locs hP hS => ?_)
    refine lv_iload_n hx hb dX12_wouldChange_45 rfl (lv_at hl 0 rfl) ?_
    refine lv_icmp_le (tgt := 53) hx hb dX12_wouldChange_46 (by decide) (fun c_29 => ?_) (fun c_29 => ?_)
    · have hf := z_it c_29 hf
      exact J_53  S_27 _ _ _ hf hP hS (lv_sub hl [2, 3] rfl)
    · have hf := z_if c_29 hf
      refine lv_iconst (v := 1) hx hb dX12_wouldChange_49 (by decide) ?_
      refine lv_goto (tgt := 54) hx hb dX12_wouldChange_50 (by decide) ?_
      exact J_54 (1 : Int32) S_27 _ _ _ hf hP hS (lv_sub hl [2, 3] rfl)
def fm_firstChange_L2 : Nat → Int32 → zSt → Option (Int32 × zSt)
  | 0, _, _ => none
  | n_2 + 1, x_1, S_2 =>
    if (S_2.1 1 4) ≤ (x_1 + (1 : Int32)) then (
    some ((-1 : Int32), S_2)) else (
    zbd (fm_wouldChange S_2 x_1) fun r_3 S_4 =>
    if r_3 = 0 then (
    znm (x_1 + (1 : Int32)) fun x_6 =>
    fm_firstChange_L2 n_2 x_6 S_4) else (
    some (x_1, S_4)))
def fm_firstChange (S_0 : zSt) : Option (Int32 × zSt) :=
  fm_firstChange_L2 zFU (0 : Int32) S_0
set_option maxHeartbeats 4000000 in
set_option maxRecDepth 100000 in
theorem cm_firstChange (l : Launch) (D : va_G) (K : (Nat → Nat) × (Nat → Nat)) (cy : Nat → ClassId) (ad : Nat → Nat) (S_0 : zSt) (ro : Int32) (So : zSt) (hf : fm_firstChange S_0 = some (ro, So)) : zMI l yX12_firstChange (zws yX12_firstChange cX12_firstChange 2 (Option.some .int)) ({ frames := 5, cells := 0, slots := 0, locals := 111 }) D (zTy cy) K (zM cy ad) [.ref (ad 0)] S_0 ro So := by
  refine z_metI (own := RX12) (lv := [(0, .ref (ad 0))]) (by decide) rfl rfl (Nat.le_of_ble_eq_true rfl) rfl ?_
  intro p e s m below meth c A Q X hK hE hD hA hret hP hS ls hl
  obtain ⟨hx, hb, hml, hown, hts⟩ := id X
  have k0 := (fun w h => List.mem_cons_of_mem _ (zFX12 w h) : ∀ w ∈ u_ws RX12 TX12 36, w ∈ zws yX12_firstChange cX12_firstChange 2 (Option.some .int))
  have k1 := hts _ (List.mem_cons_of_mem _ wt_5_95)
  refine lv_iconst (v := 0) hx hb dX12_firstChange_0 (by decide) ?_
  refine lv_istore_n (lv' := [(1, .int (0 : Int32)), (0, .ref (ad 0))]) hx hb dX12_firstChange_1 rfl hl (by decide) rfl (fun ls hl => ?_)
  have L_2 : ∀ (n_2 : Nat) (x_1 : Int32) (S_2 : zSt) (H : Heap) (locs : List Loc) (ls : Array Slot), fm_firstChange_L2 n_2 x_1 S_2 = some (ro, So) → va_P D vwCl (zM cy ad S_2) H → va_S A s.heap H locs → lv_has ls 2 [(0, .ref (ad 0)), (1, .int x_1)] → W p l e ({ frames := 5, cells := 0, slots := 0, locals := 111 }) s m ([.ref (ad 0)] : List Value).toArray below meth c H locs 0 0 Q (F0 m 2 ls []) := by
    intro n_2
    induction n_2 with
    | zero =>
      intro x_1 S_2 H locs ls hf hP hS hl
      exact z_no hf
    | succ n_2 ih_2 =>
      intro x_1 S_2 H locs ls hf hP hS hl
      rw [fm_firstChange_L2] at hf
      refine lv_iload_n hx hb dX12_firstChange_2 rfl (lv_at hl 1 rfl) ?_
      refine lv_iconst (v := 1) hx hb dX12_firstChange_3 (by decide) ?_
      refine lv_iadd hx hb dX12_firstChange_4 ?_
      refine lv_aload_n hx hb dX12_firstChange_5 rfl (lv_at hl 0 rfl) ?_
      refine va_get (D := D) (ci := 12) (v := .ref (ad 1)) (C := RX12) (T := TX12) (N := 36) hx hb hts k0 hown hK hP 0 (zM_0 cy ad S_2) rfl 0 (by decide) k1 (fun _ h9 => h9) rfl dX12_firstChange_6 ?_
      refine lv_iconst (v := 4) hx hb dX12_firstChange_9 (by decide) ?_
      refine z_iald hx hb hK hP 1 0 (zM_1 cy ad S_2) rfl (vp_in_iff.mpr (by decide)) (k := 4) (by decide) dX12_firstChange_10 ?_
      refine lv_icmp_ge (tgt := 30) hx hb dX12_firstChange_11 (by decide) (fun c_8 => ?_) (fun c_8 => ?_)
      · have hf := z_it c_8 hf
        refine lv_iconst (v := -1) hx hb dX12_firstChange_30 (by decide) ?_
        obtain ⟨h1, h2⟩ := z_s2 hf
        subst h1 h2
        exact hret _ _ _ _ hP hS dX12_firstChange_31
      · have hf := z_if c_8 hf
        refine lv_aload_n hx hb dX12_firstChange_14 rfl (lv_at hl 0 rfl) ?_
        refine lv_iload_n hx hb dX12_firstChange_15 rfl (lv_at hl 1 rfl) ?_
        obtain ⟨r_3, S_4, h_5, hf⟩ := z_bd hf
        refine z_cVI (As := [.int x_1]) (rest := []) X hK hE hD hA hP hS (cm_wouldChange l D K cy ad S_2 _ _ _ h_5) (cwV 1 hts (z_gV wt_6_198 wt_6_200 wp_80 wt_1_13 wt_6_201) rfl rfl rfl ⟨rfl, yd_yX12_wouldChange⟩ ⟨Nat.le_of_ble_eq_true rfl, Nat.le_of_ble_eq_true rfl⟩) (va_recv hK hP (ci := 12) (q0 := 0) rfl (zM_0 cy ad S_2)) hl.1 rfl rfl (Nat.le_of_ble_eq_true rfl) dX12_firstChange_16 (fun H locs hP hS => ?_)
        refine lv_if_eq (tgt := 24) hx hb dX12_firstChange_19 (by decide) (fun c_7 => ?_) (fun c_7 => ?_)
        · have hf := z_it c_7 hf
          obtain ⟨x_6, ex_6, hf⟩ := z_nm hf
          refine lv_iinc (v := x_6) (lv' := [(1, .int x_6), (0, .ref (ad 0))]) hx hb dX12_firstChange_24 hl (k := 1) rfl (by rw [ex_6]; rfl) (by decide) rfl (fun ls hl => ?_)
          refine lv_goto (tgt := 2) hx hb dX12_firstChange_27 (by decide) ?_
          exact ih_2 x_6 S_4 _ _ _ hf hP hS (lv_sub hl [1, 0] rfl)
        · have hf := z_if c_7 hf
          refine lv_iload_n hx hb dX12_firstChange_22 rfl (lv_at hl 1 rfl) ?_
          obtain ⟨h1, h2⟩ := z_s2 hf
          subst h1 h2
          exact hret _ _ _ _ hP hS dX12_firstChange_23
  exact L_2 zFU (0 : Int32) S_0 _ _ _ hf hP hS (lv_sub hl [1, 0] rfl)
def fm_goesThrough_L156 (rec : zSt → Int32 → Int32 → Option (Unit × zSt)) (x_1 : Int32) (j_189 : zSt → Option (Unit × zSt)) : Nat → Int32 → zSt → Option (Unit × zSt)
  | 0, _, _ => none
  | n_156 + 1, x_14, S_15 =>
    if x_1 ≤ x_14 then (
    j_189  S_15) else (
    if (S_15.1 0 29) = 0 then (
    zck (zix x_14 9) <|
    zck (zix x_14 9) <|
    znm (zpI S_15 13 (x_14.toNatClampNeg) (S_15.1 11 (x_14.toNatClampNeg))) fun S_18 =>
    znm (x_14 + (1 : Int32)) fun x_19 =>
    fm_goesThrough_L156 rec x_1 j_189 n_156 x_19 S_18) else (
    j_189  S_15))
def fm_goesThrough_L71 (rec : zSt → Int32 → Int32 → Option (Unit × zSt)) (x_1 : Int32) (r_2 : Int32) (j_114 : zSt → Option (Unit × zSt)) : Nat → Int32 → zSt → Option (Unit × zSt)
  | 0, _, _ => none
  | n_71 + 1, x_26, S_27 =>
    if x_1 ≤ x_26 then (
    j_114  S_27) else (
    znm (fun (S_28 : zSt) =>
    zck (zix x_26 9) <|
    zck (zix x_26 9) <|
    znm (zpI S_28 14 (x_26.toNatClampNeg) (S_28.1 11 (x_26.toNatClampNeg))) fun S_31 =>
    znm (x_26 + (1 : Int32)) fun x_32 =>
    fm_goesThrough_L71 rec x_1 r_2 j_114 n_71 x_32 S_31) fun j_94 =>
    if (S_27.1 0 30) = (-1 : Int32) then (
    j_94  S_27) else (
    if (S_27.1 0 30) ≤ r_2 then (
    j_114  S_27) else (
    j_94  S_27)))
def fm_goesThrough_L15 (rec : zSt → Int32 → Int32 → Option (Unit × zSt)) (a_1 : Int32) (a_2 : Int32) (x_1 : Int32) : Nat → Int32 → zSt → Option (Unit × zSt)
  | 0, _, _ => none
  | n_15 + 1, x_36, S_37 =>
    if x_1 ≤ x_36 then (
    some ((), S_37)) else (
    znm (fun (S_38 : zSt) =>
    znm (x_36 + (1 : Int32)) fun x_39 =>
    fm_goesThrough_L15 rec a_1 a_2 x_1 n_15 x_39 S_38) fun j_55 =>
    if ((a_2 >>> (x_36 &&& 31)) &&& (1 : Int32)) = (1 : Int32) then (
    j_55  S_37) else (
    zck (zix a_1 9) <|
    znm (zpI S_37 11 (a_1.toNatClampNeg) x_36) fun S_41 =>
    zbd (rec S_41 (a_1 + (1 : Int32)) (a_2 ||| ((1 : Int32) <<< (x_36 &&& 31)))) fun _ S_43 =>
    j_55  S_43))
def fm_goesThrough (rec : zSt → Int32 → Int32 → Option (Unit × zSt)) (S_0 : zSt) (a_1 : Int32) (a_2 : Int32) : Option (Unit × zSt) :=
  znm (S_0.1 1 4) fun x_1 =>
  if x_1 ≤ a_1 then (
  zbd (fm_bakes S_0) fun r_2 S_3 =>
  znm (fun (S_5 : zSt) =>
  znm (fun (x_6 : Int32) (S_7 : zSt) =>
  znm (zpI S_7 0 30 x_6) fun S_8 =>
  zbd (fm_firstChange S_8) fun r_9 S_10 =>
  if r_9 = (-1 : Int32) then (
  znm (fun (S_12 : zSt) =>
  znm (zpI S_12 0 29 ((S_12.1 0 29) + (1 : Int32))) fun S_13 =>
  some ((), S_13)) fun j_189 =>
  fm_goesThrough_L156 rec x_1 j_189 zFU (0 : Int32) S_10) else (
  some ((), S_10))) fun j_141 =>
  znm (fun (S_23 : zSt) =>
  j_141 r_2 S_23) fun j_132 =>
  if (S_5.1 0 30) = (-1 : Int32) then (
  j_132  S_5) else (
  if (S_5.1 0 30) ≤ r_2 then (
  j_141 (S_5.1 0 30) S_5) else (
  j_132  S_5))) fun j_114 =>
  fm_goesThrough_L71 rec x_1 r_2 j_114 zFU (0 : Int32) S_3) else (
  fm_goesThrough_L15 rec a_1 a_2 x_1 zFU (0 : Int32) S_0)
set_option maxHeartbeats 4000000 in
set_option maxRecDepth 100000 in
theorem cm_goesThrough (l : Launch) (D : va_G) (K : (Nat → Nat) × (Nat → Nat)) (cy : Nat → ClassId) (ad : Nat → Nat) (rec : zSt → Int32 → Int32 → Option (Unit × zSt)) (rf rl : Nat) (hrec : ∀ (S_r : zSt) (b_0 : Int32) (b_1 : Int32) (S_q : zSt), rec S_r b_0 b_1 = some ((), S_q) → zMV l yX12_goesThrough (zws yX12_goesThrough cX12_goesThrough 6 none) { frames := rf, cells := 0, slots := 0, locals := rl } D (zTy cy) K (zM cy ad) [.ref (ad 0), .int b_0, .int b_1] S_r S_q) (S_0 : zSt) (a_1 : Int32) (a_2 : Int32) (So : zSt) (hf : fm_goesThrough rec S_0 a_1 a_2 = some ((), So)) : zMV l yX12_goesThrough (zws yX12_goesThrough cX12_goesThrough 6 none) ({ frames := rf + 6, cells := 0, slots := 0, locals := rl + 132 }) D (zTy cy) K (zM cy ad) [.ref (ad 0), .int a_1, .int a_2] S_0 So := by
  refine z_metV (own := RX12) (lv := [(0, .ref (ad 0)), (1, .int a_1), (2, .int a_2)]) (by decide) rfl rfl (Nat.le_of_ble_eq_true rfl) rfl ?_
  intro p e s m below meth c A Q X hK hE hD hA hret hP hS ls hl
  obtain ⟨hx, hb, hml, hown, hts⟩ := id X
  have k0 := (fun w h => List.mem_cons_of_mem _ (zFX12 w h) : ∀ w ∈ u_ws RX12 TX12 36, w ∈ zws yX12_goesThrough cX12_goesThrough 6 none)
  have k1 := hts _ (List.mem_cons_of_mem _ wt_5_95)
  have k2 := hts _ (List.mem_cons_of_mem _ wt_5_125)
  have k3 := hts _ (List.mem_cons_of_mem _ wt_5_124)
  have k4 := hts _ (List.mem_cons_of_mem _ wt_5_122)
  have k5 := hts _ (List.mem_cons_of_mem _ wt_5_120)
  have k6 := hts _ (List.mem_cons_of_mem _ wt_5_123)
  refine lv_aload_n hx hb dX12_goesThrough_0 rfl (lv_at hl 0 rfl) ?_
  refine va_get (D := D) (ci := 12) (v := .ref (ad 1)) (C := RX12) (T := TX12) (N := 36) hx hb hts k0 hown hK hP 0 (zM_0 cy ad S_0) rfl 0 (by decide) k1 (fun _ h9 => h9) rfl dX12_goesThrough_1 ?_
  refine lv_iconst (v := 4) hx hb dX12_goesThrough_4 (by decide) ?_
  refine z_iald hx hb hK hP 1 0 (zM_1 cy ad S_0) rfl (vp_in_iff.mpr (by decide)) (k := 4) (by decide) dX12_goesThrough_5 ?_
  refine lv_topi (fun x_1 ex_1 => ?_)
  have hf := z_nv ex_1 hf
  refine lv_istore_n (lv' := [(3, .int x_1), (0, .ref (ad 0)), (1, .int a_1), (2, .int a_2)]) hx hb dX12_goesThrough_6 rfl hl (by decide) rfl (fun ls hl => ?_)
  refine lv_iload_n hx hb dX12_goesThrough_7 rfl (lv_at hl 2 rfl) ?_
  refine lv_iload_n hx hb dX12_goesThrough_8 rfl (lv_at hl 0 rfl) ?_
  refine lv_icmp_ge (tgt := 62) hx hb dX12_goesThrough_9 (by decide) (fun c_47 => ?_) (fun c_47 => ?_)
  · have hf := z_it c_47 hf
    refine lv_aload_n hx hb dX12_goesThrough_62 rfl (lv_at hl 1 rfl) ?_
    obtain ⟨r_2, S_3, h_4, hf⟩ := z_bd hf
    refine z_cVI (As := []) (rest := []) X hK hE hD hA hP hS (cm_bakes l D K cy ad S_0 _ _ h_4) (cwV 0 hts (z_gV wt_6_174 wt_6_176 wp_75 wt_1_13 wt_6_177) rfl rfl rfl ⟨rfl, yd_yX12_bakes⟩ ⟨by first | omega | (dsimp only; omega), by first | omega | (dsimp only; omega)⟩) (va_recv hK hP (ci := 12) (q0 := 0) rfl (zM_0 cy ad S_0)) hl.1 rfl rfl (Nat.le_of_ble_eq_true rfl) dX12_goesThrough_63 (fun H locs hP hS => ?_)
    refine lv_istore (lv' := [(4, .int r_2), (3, .int x_1), (0, .ref (ad 0)), (1, .int a_1), (2, .int a_2)]) hx hb dX12_goesThrough_66 hl (by decide) rfl (fun ls hl => ?_)
    refine lv_iconst (v := 0) hx hb dX12_goesThrough_68 (by decide) ?_
    refine lv_istore (lv' := [(5, .int (0 : Int32)), (4, .int r_2), (3, .int x_1), (0, .ref (ad 0)), (1, .int a_1), (2, .int a_2)]) hx hb dX12_goesThrough_69 hl (by decide) rfl (fun ls hl => ?_)
    obtain ⟨j_114, ej_114, hf⟩ := z_nm hf
    have J_114 : ∀ (S_5 : zSt) (H : Heap) (locs : List Loc) (ls : Array Slot), j_114  S_5 = some ((), So) → va_P D vwCl (zM cy ad S_5) H → va_S A s.heap H locs → lv_has ls 6 [(0, .ref (ad 0)), (3, .int x_1), (4, .int r_2)] → W p l e ({ frames := rf + 6, cells := 0, slots := 0, locals := rl + 132 }) s m ([.ref (ad 0), .int a_1, .int a_2] : List Value).toArray below meth c H locs 0 0 Q (F0 m 114 ls []) := by
      intro  S_5 H locs ls hf hP hS hl
      have hf := z_e1 ej_114 hf
      refine lv_aload_n hx hb dX12_goesThrough_114 rfl (lv_at hl 0 rfl) ?_
      refine lv_aload_n hx hb dX12_goesThrough_115 rfl (lv_at hl 0 rfl) ?_
      refine va_get (D := D) (ci := 12) (v := .int (S_5.1 0 30)) (C := RX12) (T := TX12) (N := 36) hx hb hts k0 hown hK hP 0 (zM_0 cy ad S_5) rfl 30 (by decide) k2 (fun _ h9 => h9) rfl dX12_goesThrough_116 ?_
      refine lv_iconst (v := -1) hx hb dX12_goesThrough_119 (by decide) ?_
      obtain ⟨j_141, ej_141, hf⟩ := z_nm hf
      have J_141 : ∀ (x_6 : Int32) (S_7 : zSt) (H : Heap) (locs : List Loc) (ls : Array Slot), j_141 x_6 S_7 = some ((), So) → va_P D vwCl (zM cy ad S_7) H → va_S A s.heap H locs → lv_has ls 6 [(0, .ref (ad 0)), (3, .int x_1)] → W p l e ({ frames := rf + 6, cells := 0, slots := 0, locals := rl + 132 }) s m ([.ref (ad 0), .int a_1, .int a_2] : List Value).toArray below meth c H locs 0 0 Q (F0 m 141 ls [.int x_6, .ref (ad 0)]) := by
        intro x_6 S_7 H locs ls hf hP hS hl
        have hf := z_e2 ej_141 hf
        refine va_put (D := D) (ci := 12) (v := .int x_6) (ty := .int) (C := RX12) (T := TX12) (N := 36) hx hb hts k0 tyX12 tyX12_ok nmX12 hown hK hP (hD S_7) hS 0 (zM_0 cy ad S_7) rfl 30 (by decide) k2 (fun _ h9 => h9) rfl (tyX12_ok 30 (by decide)) rfl rfl (Nat.le_of_ble_eq_true rfl) dX12_goesThrough_141 (fun H locs hP _ hS => ?_)
        obtain ⟨S_8, eS_8, hf⟩ := z_nm hf
        have hP := zW_putI hP eS_8 (by decide) rfl
        refine lv_aload_n hx hb dX12_goesThrough_144 rfl (lv_at hl 0 rfl) ?_
        obtain ⟨r_9, S_10, h_11, hf⟩ := z_bd hf
        refine z_cVI (As := []) (rest := []) X hK hE hD hA hP hS (cm_firstChange l D K cy ad S_8 _ _ h_11) (cwV 0 hts (z_gV wt_6_194 wt_6_196 wp_79 wt_1_13 wt_6_197) rfl rfl rfl ⟨rfl, yd_yX12_firstChange⟩ ⟨by first | omega | (dsimp only; omega), by first | omega | (dsimp only; omega)⟩) (va_recv hK hP (ci := 12) (q0 := 0) rfl (zM_0 cy ad S_8)) hl.1 rfl rfl (Nat.le_of_ble_eq_true rfl) dX12_goesThrough_145 (fun H locs hP hS => ?_)
        refine lv_iconst (v := -1) hx hb dX12_goesThrough_148 (by decide) ?_
        refine lv_icmp_eq (tgt := 153) hx hb dX12_goesThrough_149 (by decide) (fun c_22 => ?_) (fun c_22 => ?_)
        · have hf := z_it c_22 hf
          refine lv_iconst (v := 0) hx hb dX12_goesThrough_153 (by decide) ?_
          refine lv_istore (lv' := [(5, .int (0 : Int32)), (0, .ref (ad 0)), (3, .int x_1)]) hx hb dX12_goesThrough_154 hl (by decide) rfl (fun ls hl => ?_)
          obtain ⟨j_189, ej_189, hf⟩ := z_nm hf
          have J_189 : ∀ (S_12 : zSt) (H : Heap) (locs : List Loc) (ls : Array Slot), j_189  S_12 = some ((), So) → va_P D vwCl (zM cy ad S_12) H → va_S A s.heap H locs → lv_has ls 6 [(0, .ref (ad 0))] → W p l e ({ frames := rf + 6, cells := 0, slots := 0, locals := rl + 132 }) s m ([.ref (ad 0), .int a_1, .int a_2] : List Value).toArray below meth c H locs 0 0 Q (F0 m 189 ls []) := by
            intro  S_12 H locs ls hf hP hS hl
            have hf := z_e1 ej_189 hf
            refine lv_aload_n hx hb dX12_goesThrough_189 rfl (lv_at hl 0 rfl) ?_
            refine lv_dup hx hb dX12_goesThrough_190 rfl ?_
            refine va_get (D := D) (ci := 12) (v := .int (S_12.1 0 29)) (C := RX12) (T := TX12) (N := 36) hx hb hts k0 hown hK hP 0 (zM_0 cy ad S_12) rfl 29 (by decide) k3 (fun _ h9 => h9) rfl dX12_goesThrough_191 ?_
            refine lv_iconst (v := 1) hx hb dX12_goesThrough_194 (by decide) ?_
            refine lv_iadd hx hb dX12_goesThrough_195 ?_
            refine va_put (D := D) (ci := 12) (v := .int ((S_12.1 0 29) + (1 : Int32))) (ty := .int) (C := RX12) (T := TX12) (N := 36) hx hb hts k0 tyX12 tyX12_ok nmX12 hown hK hP (hD S_12) hS 0 (zM_0 cy ad S_12) rfl 29 (by decide) k3 (fun _ h9 => h9) rfl (tyX12_ok 29 (by decide)) rfl rfl (Nat.le_of_ble_eq_true rfl) dX12_goesThrough_196 (fun H locs hP _ hS => ?_)
            obtain ⟨S_13, eS_13, hf⟩ := z_nm hf
            have hP := zW_putI hP eS_13 (by decide) rfl
            obtain ⟨h1, h2⟩ := z_s2 hf
            subst h2
            exact hret _ _ _ _ hP hS dX12_goesThrough_199
          have L_156 : ∀ (n_156 : Nat) (x_14 : Int32) (S_15 : zSt) (H : Heap) (locs : List Loc) (ls : Array Slot), fm_goesThrough_L156 rec x_1 j_189 n_156 x_14 S_15 = some ((), So) → va_P D vwCl (zM cy ad S_15) H → va_S A s.heap H locs → lv_has ls 6 [(0, .ref (ad 0)), (3, .int x_1), (5, .int x_14)] → W p l e ({ frames := rf + 6, cells := 0, slots := 0, locals := rl + 132 }) s m ([.ref (ad 0), .int a_1, .int a_2] : List Value).toArray below meth c H locs 0 0 Q (F0 m 156 ls []) := by
            intro n_156
            induction n_156 with
            | zero =>
              intro x_14 S_15 H locs ls hf hP hS hl
              exact z_no hf
            | succ n_156 ih_156 =>
              intro x_14 S_15 H locs ls hf hP hS hl
              rw [fm_goesThrough_L156] at hf
              refine lv_iload hx hb dX12_goesThrough_156 (lv_at hl 2 rfl) ?_
              refine lv_iload_n hx hb dX12_goesThrough_158 rfl (lv_at hl 1 rfl) ?_
              refine lv_icmp_ge (tgt := 189) hx hb dX12_goesThrough_159 (by decide) (fun c_21 => ?_) (fun c_21 => ?_)
              · have hf := z_it c_21 hf
                exact J_189  S_15 _ _ _ hf hP hS (lv_sub hl [0] rfl)
              · have hf := z_if c_21 hf
                refine lv_aload_n hx hb dX12_goesThrough_162 rfl (lv_at hl 0 rfl) ?_
                refine va_get (D := D) (ci := 12) (v := .int (S_15.1 0 29)) (C := RX12) (T := TX12) (N := 36) hx hb hts k0 hown hK hP 0 (zM_0 cy ad S_15) rfl 29 (by decide) k3 (fun _ h9 => h9) rfl dX12_goesThrough_163 ?_
                refine lv_if_ne (tgt := 189) hx hb dX12_goesThrough_166 (by decide) (fun c_20 => ?_) (fun c_20 => ?_)
                · have hf := z_if c_20 hf
                  exact J_189  S_15 _ _ _ hf hP hS (lv_sub hl [0] rfl)
                · have hf := z_it c_20 hf
                  refine lv_aload_n hx hb dX12_goesThrough_169 rfl (lv_at hl 0 rfl) ?_
                  refine va_get (D := D) (ci := 12) (v := .ref (ad 13)) (C := RX12) (T := TX12) (N := 36) hx hb hts k0 hown hK hP 0 (zM_0 cy ad S_15) rfl 27 (by decide) k4 (fun _ h9 => h9) rfl dX12_goesThrough_170 ?_
                  refine lv_iload hx hb dX12_goesThrough_173 (lv_at hl 2 rfl) ?_
                  refine lv_aload_n hx hb dX12_goesThrough_175 rfl (lv_at hl 0 rfl) ?_
                  refine va_get (D := D) (ci := 12) (v := .ref (ad 11)) (C := RX12) (T := TX12) (N := 36) hx hb hts k0 hown hK hP 0 (zM_0 cy ad S_15) rfl 25 (by decide) k5 (fun _ h9 => h9) rfl dX12_goesThrough_176 ?_
                  refine lv_iload hx hb dX12_goesThrough_179 (lv_at hl 2 rfl) ?_
                  obtain ⟨h_16, hf⟩ := z_ix hf
                  refine z_iald hx hb hK hP 11 0 (zM_11 cy ad S_15) rfl h_16 (k := (x_14.toNatClampNeg)) rfl dX12_goesThrough_181 ?_
                  obtain ⟨h_17, hf⟩ := z_ix hf
                  refine z_iast hx hb hK hP (hD S_15) hS 13 0 (zM_13 cy ad S_15) rfl h_17 (k := (x_14.toNatClampNeg)) rfl dX12_goesThrough_182 (fun H locs hP hS => ?_)
                  obtain ⟨S_18, eS_18, hf⟩ := z_nm hf
                  have hP := zW_putI hP eS_18 (by decide) rfl
                  obtain ⟨x_19, ex_19, hf⟩ := z_nm hf
                  refine lv_iinc (v := x_19) (lv' := [(5, .int x_19), (0, .ref (ad 0)), (3, .int x_1)]) hx hb dX12_goesThrough_183 hl (k := 2) rfl (by rw [ex_19]; rfl) (by decide) rfl (fun ls hl => ?_)
                  refine lv_goto (tgt := 156) hx hb dX12_goesThrough_186 (by decide) ?_
                  exact ih_156 x_19 S_18 _ _ _ hf hP hS (lv_sub hl [1, 2, 0] rfl)
          exact L_156 zFU (0 : Int32) S_10 _ _ _ hf hP hS (lv_sub hl [1, 2, 0] rfl)
        · have hf := z_if c_22 hf
          obtain ⟨h1, h2⟩ := z_s2 hf
          subst h2
          exact hret _ _ _ _ hP hS dX12_goesThrough_152
      obtain ⟨j_132, ej_132, hf⟩ := z_nm hf
      have J_132 : ∀ (S_23 : zSt) (H : Heap) (locs : List Loc) (ls : Array Slot), j_132  S_23 = some ((), So) → va_P D vwCl (zM cy ad S_23) H → va_S A s.heap H locs → lv_has ls 6 [(0, .ref (ad 0)), (3, .int x_1), (4, .int r_2)] → W p l e ({ frames := rf + 6, cells := 0, slots := 0, locals := rl + 132 }) s m ([.ref (ad 0), .int a_1, .int a_2] : List Value).toArray below meth c H locs 0 0 Q (F0 m 132 ls [.ref (ad 0)]) := by
        intro  S_23 H locs ls hf hP hS hl
        have hf := z_e1 ej_132 hf
        refine lv_iload hx hb dX12_goesThrough_132 (lv_at hl 2 rfl) ?_
        refine lv_goto (tgt := 141) hx hb dX12_goesThrough_134 (by decide) ?_
        exact J_141 r_2 S_23 _ _ _ hf hP hS (lv_sub hl [0, 1] rfl)
      refine lv_icmp_eq (tgt := 132) hx hb dX12_goesThrough_120 (by decide) (fun c_25 => ?_) (fun c_25 => ?_)
      · have hf := z_it c_25 hf
        exact J_132  S_5 _ _ _ hf hP hS (lv_sub hl [0, 1, 2] rfl)
      · have hf := z_if c_25 hf
        refine lv_iload hx hb dX12_goesThrough_123 (lv_at hl 2 rfl) ?_
        refine lv_aload_n hx hb dX12_goesThrough_125 rfl (lv_at hl 0 rfl) ?_
        refine va_get (D := D) (ci := 12) (v := .int (S_5.1 0 30)) (C := RX12) (T := TX12) (N := 36) hx hb hts k0 hown hK hP 0 (zM_0 cy ad S_5) rfl 30 (by decide) k2 (fun _ h9 => h9) rfl dX12_goesThrough_126 ?_
        refine lv_icmp_ge (tgt := 137) hx hb dX12_goesThrough_129 (by decide) (fun c_24 => ?_) (fun c_24 => ?_)
        · have hf := z_it c_24 hf
          refine lv_aload_n hx hb dX12_goesThrough_137 rfl (lv_at hl 0 rfl) ?_
          refine va_get (D := D) (ci := 12) (v := .int (S_5.1 0 30)) (C := RX12) (T := TX12) (N := 36) hx hb hts k0 hown hK hP 0 (zM_0 cy ad S_5) rfl 30 (by decide) k2 (fun _ h9 => h9) rfl dX12_goesThrough_138 ?_
          exact J_141 (S_5.1 0 30) S_5 _ _ _ hf hP hS (lv_sub hl [0, 1] rfl)
        · have hf := z_if c_24 hf
          exact J_132  S_5 _ _ _ hf hP hS (lv_sub hl [0, 1, 2] rfl)
    have L_71 : ∀ (n_71 : Nat) (x_26 : Int32) (S_27 : zSt) (H : Heap) (locs : List Loc) (ls : Array Slot), fm_goesThrough_L71 rec x_1 r_2 j_114 n_71 x_26 S_27 = some ((), So) → va_P D vwCl (zM cy ad S_27) H → va_S A s.heap H locs → lv_has ls 6 [(0, .ref (ad 0)), (3, .int x_1), (4, .int r_2), (5, .int x_26)] → W p l e ({ frames := rf + 6, cells := 0, slots := 0, locals := rl + 132 }) s m ([.ref (ad 0), .int a_1, .int a_2] : List Value).toArray below meth c H locs 0 0 Q (F0 m 71 ls []) := by
      intro n_71
      induction n_71 with
      | zero =>
        intro x_26 S_27 H locs ls hf hP hS hl
        exact z_no hf
      | succ n_71 ih_71 =>
        intro x_26 S_27 H locs ls hf hP hS hl
        rw [fm_goesThrough_L71] at hf
        refine lv_iload hx hb dX12_goesThrough_71 (lv_at hl 3 rfl) ?_
        refine lv_iload_n hx hb dX12_goesThrough_73 rfl (lv_at hl 1 rfl) ?_
        refine lv_icmp_ge (tgt := 114) hx hb dX12_goesThrough_74 (by decide) (fun c_35 => ?_) (fun c_35 => ?_)
        · have hf := z_it c_35 hf
          exact J_114  S_27 _ _ _ hf hP hS (lv_sub hl [0, 1, 2] rfl)
        · have hf := z_if c_35 hf
          refine lv_aload_n hx hb dX12_goesThrough_77 rfl (lv_at hl 0 rfl) ?_
          refine va_get (D := D) (ci := 12) (v := .int (S_27.1 0 30)) (C := RX12) (T := TX12) (N := 36) hx hb hts k0 hown hK hP 0 (zM_0 cy ad S_27) rfl 30 (by decide) k2 (fun _ h9 => h9) rfl dX12_goesThrough_78 ?_
          refine lv_iconst (v := -1) hx hb dX12_goesThrough_81 (by decide) ?_
          obtain ⟨j_94, ej_94, hf⟩ := z_nm hf
          have J_94 : ∀ (S_28 : zSt) (H : Heap) (locs : List Loc) (ls : Array Slot), j_94  S_28 = some ((), So) → va_P D vwCl (zM cy ad S_28) H → va_S A s.heap H locs → lv_has ls 6 [(0, .ref (ad 0)), (3, .int x_1), (4, .int r_2), (5, .int x_26)] → W p l e ({ frames := rf + 6, cells := 0, slots := 0, locals := rl + 132 }) s m ([.ref (ad 0), .int a_1, .int a_2] : List Value).toArray below meth c H locs 0 0 Q (F0 m 94 ls []) := by
            intro  S_28 H locs ls hf hP hS hl
            have hf := z_e1 ej_94 hf
            refine lv_aload_n hx hb dX12_goesThrough_94 rfl (lv_at hl 0 rfl) ?_
            refine va_get (D := D) (ci := 12) (v := .ref (ad 14)) (C := RX12) (T := TX12) (N := 36) hx hb hts k0 hown hK hP 0 (zM_0 cy ad S_28) rfl 28 (by decide) k6 (fun _ h9 => h9) rfl dX12_goesThrough_95 ?_
            refine lv_iload hx hb dX12_goesThrough_98 (lv_at hl 3 rfl) ?_
            refine lv_aload_n hx hb dX12_goesThrough_100 rfl (lv_at hl 0 rfl) ?_
            refine va_get (D := D) (ci := 12) (v := .ref (ad 11)) (C := RX12) (T := TX12) (N := 36) hx hb hts k0 hown hK hP 0 (zM_0 cy ad S_28) rfl 25 (by decide) k5 (fun _ h9 => h9) rfl dX12_goesThrough_101 ?_
            refine lv_iload hx hb dX12_goesThrough_104 (lv_at hl 3 rfl) ?_
            obtain ⟨h_29, hf⟩ := z_ix hf
            refine z_iald hx hb hK hP 11 0 (zM_11 cy ad S_28) rfl h_29 (k := (x_26.toNatClampNeg)) rfl dX12_goesThrough_106 ?_
            obtain ⟨h_30, hf⟩ := z_ix hf
            refine z_iast hx hb hK hP (hD S_28) hS 14 0 (zM_14 cy ad S_28) rfl h_30 (k := (x_26.toNatClampNeg)) rfl dX12_goesThrough_107 (fun H locs hP hS => ?_)
            obtain ⟨S_31, eS_31, hf⟩ := z_nm hf
            have hP := zW_putI hP eS_31 (by decide) rfl
            obtain ⟨x_32, ex_32, hf⟩ := z_nm hf
            refine lv_iinc (v := x_32) (lv' := [(5, .int x_32), (0, .ref (ad 0)), (3, .int x_1), (4, .int r_2)]) hx hb dX12_goesThrough_108 hl (k := 3) rfl (by rw [ex_32]; rfl) (by decide) rfl (fun ls hl => ?_)
            refine lv_goto (tgt := 71) hx hb dX12_goesThrough_111 (by decide) ?_
            exact ih_71 x_32 S_31 _ _ _ hf hP hS (lv_sub hl [1, 2, 3, 0] rfl)
          refine lv_icmp_eq (tgt := 94) hx hb dX12_goesThrough_82 (by decide) (fun c_34 => ?_) (fun c_34 => ?_)
          · have hf := z_it c_34 hf
            exact J_94  S_27 _ _ _ hf hP hS (lv_sub hl [0, 1, 2, 3] rfl)
          · have hf := z_if c_34 hf
            refine lv_iload hx hb dX12_goesThrough_85 (lv_at hl 2 rfl) ?_
            refine lv_aload_n hx hb dX12_goesThrough_87 rfl (lv_at hl 0 rfl) ?_
            refine va_get (D := D) (ci := 12) (v := .int (S_27.1 0 30)) (C := RX12) (T := TX12) (N := 36) hx hb hts k0 hown hK hP 0 (zM_0 cy ad S_27) rfl 30 (by decide) k2 (fun _ h9 => h9) rfl dX12_goesThrough_88 ?_
            refine lv_icmp_ge (tgt := 114) hx hb dX12_goesThrough_91 (by decide) (fun c_33 => ?_) (fun c_33 => ?_)
            · have hf := z_it c_33 hf
              exact J_114  S_27 _ _ _ hf hP hS (lv_sub hl [0, 1, 2] rfl)
            · have hf := z_if c_33 hf
              exact J_94  S_27 _ _ _ hf hP hS (lv_sub hl [0, 1, 2, 3] rfl)
    exact L_71 zFU (0 : Int32) S_3 _ _ _ hf hP hS (lv_sub hl [3, 2, 1, 0] rfl)
  · have hf := z_if c_47 hf
    refine lv_iconst (v := 0) hx hb dX12_goesThrough_12 (by decide) ?_
    refine lv_istore (lv' := [(4, .int (0 : Int32)), (3, .int x_1), (0, .ref (ad 0)), (1, .int a_1), (2, .int a_2)]) hx hb dX12_goesThrough_13 hl (by decide) rfl (fun ls hl => ?_)
    have L_15 : ∀ (n_15 : Nat) (x_36 : Int32) (S_37 : zSt) (H : Heap) (locs : List Loc) (ls : Array Slot), fm_goesThrough_L15 rec a_1 a_2 x_1 n_15 x_36 S_37 = some ((), So) → va_P D vwCl (zM cy ad S_37) H → va_S A s.heap H locs → lv_has ls 6 [(0, .ref (ad 0)), (1, .int a_1), (2, .int a_2), (3, .int x_1), (4, .int x_36)] → W p l e ({ frames := rf + 6, cells := 0, slots := 0, locals := rl + 132 }) s m ([.ref (ad 0), .int a_1, .int a_2] : List Value).toArray below meth c H locs 0 0 Q (F0 m 15 ls []) := by
      intro n_15
      induction n_15 with
      | zero =>
        intro x_36 S_37 H locs ls hf hP hS hl
        exact z_no hf
      | succ n_15 ih_15 =>
        intro x_36 S_37 H locs ls hf hP hS hl
        rw [fm_goesThrough_L15] at hf
        refine lv_iload hx hb dX12_goesThrough_15 (lv_at hl 4 rfl) ?_
        refine lv_iload_n hx hb dX12_goesThrough_17 rfl (lv_at hl 3 rfl) ?_
        refine lv_icmp_ge (tgt := 61) hx hb dX12_goesThrough_18 (by decide) (fun c_46 => ?_) (fun c_46 => ?_)
        · have hf := z_it c_46 hf
          obtain ⟨h1, h2⟩ := z_s2 hf
          subst h2
          exact hret _ _ _ _ hP hS dX12_goesThrough_61
        · have hf := z_if c_46 hf
          refine lv_iload_n hx hb dX12_goesThrough_21 rfl (lv_at hl 2 rfl) ?_
          refine lv_iload hx hb dX12_goesThrough_22 (lv_at hl 4 rfl) ?_
          refine lv_ishr hx hb dX12_goesThrough_24 ?_
          refine lv_iconst (v := 1) hx hb dX12_goesThrough_25 (by decide) ?_
          refine lv_iand hx hb dX12_goesThrough_26 ?_
          refine lv_iconst (v := 1) hx hb dX12_goesThrough_27 (by decide) ?_
          obtain ⟨j_55, ej_55, hf⟩ := z_nm hf
          have J_55 : ∀ (S_38 : zSt) (H : Heap) (locs : List Loc) (ls : Array Slot), j_55  S_38 = some ((), So) → va_P D vwCl (zM cy ad S_38) H → va_S A s.heap H locs → lv_has ls 6 [(0, .ref (ad 0)), (1, .int a_1), (2, .int a_2), (3, .int x_1), (4, .int x_36)] → W p l e ({ frames := rf + 6, cells := 0, slots := 0, locals := rl + 132 }) s m ([.ref (ad 0), .int a_1, .int a_2] : List Value).toArray below meth c H locs 0 0 Q (F0 m 55 ls []) := by
            intro  S_38 H locs ls hf hP hS hl
            have hf := z_e1 ej_55 hf
            obtain ⟨x_39, ex_39, hf⟩ := z_nm hf
            refine lv_iinc (v := x_39) (lv' := [(4, .int x_39), (0, .ref (ad 0)), (1, .int a_1), (2, .int a_2), (3, .int x_1)]) hx hb dX12_goesThrough_55 hl (k := 4) rfl (by rw [ex_39]; rfl) (by decide) rfl (fun ls hl => ?_)
            refine lv_goto (tgt := 15) hx hb dX12_goesThrough_58 (by decide) ?_
            exact ih_15 x_39 S_38 _ _ _ hf hP hS (lv_sub hl [1, 2, 3, 4, 0] rfl)
          refine lv_icmp_ne (tgt := 34) hx hb dX12_goesThrough_28 (by decide) (fun c_45 => ?_) (fun c_45 => ?_)
          · have hf := z_if c_45 hf
            refine lv_aload_n hx hb dX12_goesThrough_34 rfl (lv_at hl 0 rfl) ?_
            refine va_get (D := D) (ci := 12) (v := .ref (ad 11)) (C := RX12) (T := TX12) (N := 36) hx hb hts k0 hown hK hP 0 (zM_0 cy ad S_37) rfl 25 (by decide) k5 (fun _ h9 => h9) rfl dX12_goesThrough_35 ?_
            refine lv_iload_n hx hb dX12_goesThrough_38 rfl (lv_at hl 1 rfl) ?_
            refine lv_iload hx hb dX12_goesThrough_39 (lv_at hl 4 rfl) ?_
            obtain ⟨h_40, hf⟩ := z_ix hf
            refine z_iast hx hb hK hP (hD S_37) hS 11 0 (zM_11 cy ad S_37) rfl h_40 (k := (a_1.toNatClampNeg)) rfl dX12_goesThrough_41 (fun H locs hP hS => ?_)
            obtain ⟨S_41, eS_41, hf⟩ := z_nm hf
            have hP := zW_putI hP eS_41 (by decide) rfl
            refine lv_aload_n hx hb dX12_goesThrough_42 rfl (lv_at hl 0 rfl) ?_
            refine lv_iload_n hx hb dX12_goesThrough_43 rfl (lv_at hl 1 rfl) ?_
            refine lv_iconst (v := 1) hx hb dX12_goesThrough_44 (by decide) ?_
            refine lv_iadd hx hb dX12_goesThrough_45 ?_
            refine lv_iload_n hx hb dX12_goesThrough_46 rfl (lv_at hl 2 rfl) ?_
            refine lv_iconst (v := 1) hx hb dX12_goesThrough_47 (by decide) ?_
            refine lv_iload hx hb dX12_goesThrough_48 (lv_at hl 4 rfl) ?_
            refine lv_ishl hx hb dX12_goesThrough_50 ?_
            refine lv_ior hx hb dX12_goesThrough_51 ?_
            obtain ⟨r_42, S_43, h_44, hf⟩ := z_bd hf
            refine z_cVV (As := [.int (a_1 + (1 : Int32)), .int (a_2 ||| ((1 : Int32) <<< (x_36 &&& 31)))]) (rest := []) X hK hE hD hA hP hS (hrec S_41 _ _ _ h_44) (cwV 2 hts (z_gV wt_6_190 wt_6_192 wp_78 wt_1_13 wt_6_193) rfl rfl rfl ⟨rfl, yd_yX12_goesThrough⟩ ⟨by first | omega | (dsimp only; omega), by first | omega | (dsimp only; omega)⟩) (va_recv hK hP (ci := 12) (q0 := 0) rfl (zM_0 cy ad S_41)) hl.1 rfl rfl (Nat.le_of_ble_eq_true rfl) dX12_goesThrough_52 (fun H locs hP hS => ?_)
            exact J_55  S_43 _ _ _ hf hP hS (lv_sub hl [0, 1, 2, 3, 4] rfl)
          · have hf := z_it c_45 hf
            refine lv_goto (tgt := 55) hx hb dX12_goesThrough_31 (by decide) ?_
            exact J_55  S_37 _ _ _ hf hP hS (lv_sub hl [0, 1, 2, 3, 4] rfl)
    exact L_15 zFU (0 : Int32) S_0 _ _ _ hf hP hS (lv_sub hl [2, 3, 4, 1, 0] rfl)
def fm_goesThrough_c : Nat → zSt → Int32 → Int32 → Option (Unit × zSt)
  | 0, _, _, _ => none
  | d + 1, S, b_0, b_1 => fm_goesThrough (fm_goesThrough_c d) S b_0 b_1
theorem cm_goesThrough_c (l : Launch) (D : va_G) (K : (Nat → Nat) × (Nat → Nat)) (cy : Nat → ClassId) (ad : Nat → Nat) : ∀ (d : Nat) (S_0 : zSt) (b_0 : Int32) (b_1 : Int32) (So : zSt), fm_goesThrough_c d S_0 b_0 b_1 = some ((), So) → zMV l yX12_goesThrough (zws yX12_goesThrough cX12_goesThrough 6 none) { frames := 6 * d, cells := 0, slots := 0, locals := 132 * d } D (zTy cy) K (zM cy ad) [.ref (ad 0), .int b_0, .int b_1] S_0 So := by
  intro d
  induction d with
  | zero =>
    intro S_0 b_0 b_1 So hf
    exact z_no hf
  | succ d ih =>
    intro S_0 b_0 b_1 So hf
    exact cm_goesThrough l D K cy ad (fm_goesThrough_c d) (6 * d) (132 * d) ih S_0 b_0 b_1 So hf
def fm_isTold (S_0 : zSt) (a_1 : Int32) : Option (Int32 × zSt) :=
  znm (fun (S_1 : zSt) =>
  some ((0 : Int32), S_1)) fun j_33 =>
  if (7 : Int32) < (S_0.1 1 4) then (
  j_33  S_0) else (
  znm (fun (S_2 : zSt) =>
  znm (zpI S_2 0 29 (0 : Int32)) fun S_3 =>
  znm (zpI S_3 0 30 (-1 : Int32)) fun S_4 =>
  zbd (fm_goesThrough_c 16 S_4 (0 : Int32) (0 : Int32)) fun _ S_6 =>
  some ((1 : Int32), S_6)) fun j_35 =>
  if a_1 = 0 then (
  j_35  S_0) else (
  zbd (fm_isIn S_0 a_1 (10 : Int32) ((9 : Int32) + (S_0.1 1 4))) fun r_8 S_9 =>
  if r_8 = 0 then (
  j_33  S_9) else (
  j_35  S_9)))
set_option maxHeartbeats 4000000 in
set_option maxRecDepth 100000 in
theorem cm_isTold (l : Launch) (D : va_G) (K : (Nat → Nat) × (Nat → Nat)) (cy : Nat → ClassId) (ad : Nat → Nat) (S_0 : zSt) (a_1 : Int32) (ro : Int32) (So : zSt) (hf : fm_isTold S_0 a_1 = some (ro, So)) : zMI l yX12_isTold (zws yX12_isTold cX12_isTold 2 (Option.some .boolean)) ({ frames := 97, cells := 0, slots := 0, locals := 2137 }) D (zTy cy) K (zM cy ad) [.ref (ad 0), .int a_1] S_0 ro So := by
  refine z_metZ (own := RX12) (lv := [(0, .ref (ad 0)), (1, .int a_1)]) (by decide) rfl rfl (Nat.le_of_ble_eq_true rfl) rfl ?_
  intro p e s m below meth c A Q X hK hE hD hA hret hP hS ls hl
  obtain ⟨hx, hb, hml, hown, hts⟩ := id X
  have k0 := (fun w h => List.mem_cons_of_mem _ (zFX12 w h) : ∀ w ∈ u_ws RX12 TX12 36, w ∈ zws yX12_isTold cX12_isTold 2 (Option.some .boolean))
  have k1 := hts _ (List.mem_cons_of_mem _ wt_5_95)
  have k2 := hts _ (List.mem_cons_of_mem _ wt_5_124)
  have k3 := hts _ (List.mem_cons_of_mem _ wt_5_125)
  refine lv_aload_n hx hb dX12_isTold_0 rfl (lv_at hl 0 rfl) ?_
  refine va_get (D := D) (ci := 12) (v := .ref (ad 1)) (C := RX12) (T := TX12) (N := 36) hx hb hts k0 hown hK hP 0 (zM_0 cy ad S_0) rfl 0 (by decide) k1 (fun _ h9 => h9) rfl dX12_isTold_1 ?_
  refine lv_iconst (v := 4) hx hb dX12_isTold_4 (by decide) ?_
  refine z_iald hx hb hK hP 1 0 (zM_1 cy ad S_0) rfl (vp_in_iff.mpr (by decide)) (k := 4) (by decide) dX12_isTold_5 ?_
  refine lv_bipush (v := 7) hx hb dX12_isTold_6 (by decide) ?_
  obtain ⟨j_33, ej_33, hf⟩ := z_nm hf
  have J_33 : ∀ (S_1 : zSt) (H : Heap) (locs : List Loc) (ls : Array Slot), j_33  S_1 = some (ro, So) → va_P D vwCl (zM cy ad S_1) H → va_S A s.heap H locs → lv_has ls 2 [] → W p l e ({ frames := 97, cells := 0, slots := 0, locals := 2137 }) s m ([.ref (ad 0), .int a_1] : List Value).toArray below meth c H locs 0 0 Q (F0 m 33 ls []) := by
    intro  S_1 H locs ls hf hP hS hl
    have hf := z_e1 ej_33 hf
    refine lv_iconst (v := 0) hx hb dX12_isTold_33 (by decide) ?_
    obtain ⟨h1, h2⟩ := z_s2 hf
    subst h1 h2
    exact hret _ _ _ _ rfl hP hS dX12_isTold_34
  refine lv_icmp_gt (tgt := 33) hx hb dX12_isTold_8 (by decide) (fun c_13 => ?_) (fun c_13 => ?_)
  · have hf := z_it c_13 hf
    exact J_33  S_0 _ _ _ hf hP hS (lv_sub hl [] rfl)
  · have hf := z_if c_13 hf
    refine lv_iload_n hx hb dX12_isTold_11 rfl (lv_at hl 1 rfl) ?_
    obtain ⟨j_35, ej_35, hf⟩ := z_nm hf
    have J_35 : ∀ (S_2 : zSt) (H : Heap) (locs : List Loc) (ls : Array Slot), j_35  S_2 = some (ro, So) → va_P D vwCl (zM cy ad S_2) H → va_S A s.heap H locs → lv_has ls 2 [(0, .ref (ad 0))] → W p l e ({ frames := 97, cells := 0, slots := 0, locals := 2137 }) s m ([.ref (ad 0), .int a_1] : List Value).toArray below meth c H locs 0 0 Q (F0 m 35 ls []) := by
      intro  S_2 H locs ls hf hP hS hl
      have hf := z_e1 ej_35 hf
      refine lv_aload_n hx hb dX12_isTold_35 rfl (lv_at hl 0 rfl) ?_
      refine lv_iconst (v := 0) hx hb dX12_isTold_36 (by decide) ?_
      refine va_put (D := D) (ci := 12) (v := .int (0 : Int32)) (ty := .int) (C := RX12) (T := TX12) (N := 36) hx hb hts k0 tyX12 tyX12_ok nmX12 hown hK hP (hD S_2) hS 0 (zM_0 cy ad S_2) rfl 29 (by decide) k2 (fun _ h9 => h9) rfl (tyX12_ok 29 (by decide)) rfl rfl (Nat.le_of_ble_eq_true rfl) dX12_isTold_37 (fun H locs hP _ hS => ?_)
      obtain ⟨S_3, eS_3, hf⟩ := z_nm hf
      have hP := zW_putI hP eS_3 (by decide) rfl
      refine lv_aload_n hx hb dX12_isTold_40 rfl (lv_at hl 0 rfl) ?_
      refine lv_iconst (v := -1) hx hb dX12_isTold_41 (by decide) ?_
      refine va_put (D := D) (ci := 12) (v := .int (-1 : Int32)) (ty := .int) (C := RX12) (T := TX12) (N := 36) hx hb hts k0 tyX12 tyX12_ok nmX12 hown hK hP (hD S_3) hS 0 (zM_0 cy ad S_3) rfl 30 (by decide) k3 (fun _ h9 => h9) rfl (tyX12_ok 30 (by decide)) rfl rfl (Nat.le_of_ble_eq_true rfl) dX12_isTold_42 (fun H locs hP _ hS => ?_)
      obtain ⟨S_4, eS_4, hf⟩ := z_nm hf
      have hP := zW_putI hP eS_4 (by decide) rfl
      refine lv_aload_n hx hb dX12_isTold_45 rfl (lv_at hl 0 rfl) ?_
      refine lv_iconst (v := 0) hx hb dX12_isTold_46 (by decide) ?_
      refine lv_iconst (v := 0) hx hb dX12_isTold_47 (by decide) ?_
      obtain ⟨r_5, S_6, h_7, hf⟩ := z_bd hf
      refine z_cVV (As := [.int (0 : Int32), .int (0 : Int32)]) (rest := []) X hK hE hD hA hP hS (cm_goesThrough_c l D K cy ad 16 S_4 _ _ _ h_7) (cwV 2 hts (z_gV wt_6_190 wt_6_192 wp_78 wt_1_13 wt_6_193) rfl rfl rfl ⟨rfl, yd_yX12_goesThrough⟩ ⟨Nat.le_of_ble_eq_true rfl, Nat.le_of_ble_eq_true rfl⟩) (va_recv hK hP (ci := 12) (q0 := 0) rfl (zM_0 cy ad S_4)) hl.1 rfl rfl (Nat.le_of_ble_eq_true rfl) dX12_isTold_48 (fun H locs hP hS => ?_)
      refine lv_iconst (v := 1) hx hb dX12_isTold_51 (by decide) ?_
      obtain ⟨h1, h2⟩ := z_s2 hf
      subst h1 h2
      exact hret _ _ _ _ rfl hP hS dX12_isTold_52
    refine lv_if_eq (tgt := 35) hx hb dX12_isTold_12 (by decide) (fun c_12 => ?_) (fun c_12 => ?_)
    · have hf := z_it c_12 hf
      exact J_35  S_0 _ _ _ hf hP hS (lv_sub hl [0] rfl)
    · have hf := z_if c_12 hf
      refine lv_iload_n hx hb dX12_isTold_15 rfl (lv_at hl 1 rfl) ?_
      refine lv_bipush (v := 10) hx hb dX12_isTold_16 (by decide) ?_
      refine lv_bipush (v := 9) hx hb dX12_isTold_18 (by decide) ?_
      refine lv_aload_n hx hb dX12_isTold_20 rfl (lv_at hl 0 rfl) ?_
      refine va_get (D := D) (ci := 12) (v := .ref (ad 1)) (C := RX12) (T := TX12) (N := 36) hx hb hts k0 hown hK hP 0 (zM_0 cy ad S_0) rfl 0 (by decide) k1 (fun _ h9 => h9) rfl dX12_isTold_21 ?_
      refine lv_iconst (v := 4) hx hb dX12_isTold_24 (by decide) ?_
      refine z_iald hx hb hK hP 1 0 (zM_1 cy ad S_0) rfl (vp_in_iff.mpr (by decide)) (k := 4) (by decide) dX12_isTold_25 ?_
      refine lv_iadd hx hb dX12_isTold_26 ?_
      obtain ⟨r_8, S_9, h_10, hf⟩ := z_bd hf
      refine z_cSI (As := [.int a_1, .int (10 : Int32), .int ((9 : Int32) + (S_0.1 1 4))]) (rest := []) X hK hE hD hA hP hS (cm_isIn l D K cy ad S_0 _ _ _ _ _ h_10) (va_cwS 3 hts (z_gS wt_5_216 wt_5_217 wt_1_13 wt_5_218) rfl rfl rfl yd_yX12_isIn ⟨Nat.le_of_ble_eq_true rfl, Nat.le_of_ble_eq_true rfl⟩) hl.1 rfl rfl (Nat.le_of_ble_eq_true rfl) dX12_isTold_27 (fun H locs hP hS => ?_)
      refine lv_if_ne (tgt := 35) hx hb dX12_isTold_30 (by decide) (fun c_11 => ?_) (fun c_11 => ?_)
      · have hf := z_if c_11 hf
        exact J_35  S_9 _ _ _ hf hP hS (lv_sub hl [0] rfl)
      · have hf := z_it c_11 hf
        exact J_33  S_9 _ _ _ hf hP hS (lv_sub hl [] rfl)
def fm_orders (S_0 : zSt) (a_1 : Int32) : Option (Int32 × zSt) :=
  zbd (fm_isTold S_0 a_1) fun r_1 S_2 =>
  znm (fun (x_4 : Int32) (S_5 : zSt) =>
  some (x_4, S_5)) fun j_43 =>
  if r_1 = 0 then (
  j_43 (-1 : Int32) S_2) else (
  if a_1 = 0 then (
  j_43 (S_2.1 0 29) S_2) else (
  if (S_2.1 0 29) = 0 then (
  j_43 (-1 : Int32) S_2) else (
  zck (zix (a_1 - (10 : Int32)) 9) <|
  j_43 (S_2.1 13 ((a_1 - (10 : Int32)).toNatClampNeg)) S_2)))
set_option maxHeartbeats 4000000 in
set_option maxRecDepth 100000 in
theorem cm_orders (l : Launch) (D : va_G) (K : (Nat → Nat) × (Nat → Nat)) (cy : Nat → ClassId) (ad : Nat → Nat) (S_0 : zSt) (a_1 : Int32) (ro : Int32) (So : zSt) (hf : fm_orders S_0 a_1 = some (ro, So)) : zMI l yX12_orders (zws yX12_orders cX12_orders 2 (Option.some .int)) ({ frames := 98, cells := 0, slots := 0, locals := 2158 }) D (zTy cy) K (zM cy ad) [.ref (ad 0), .int a_1] S_0 ro So := by
  refine z_metI (own := RX12) (lv := [(0, .ref (ad 0)), (1, .int a_1)]) (by decide) rfl rfl (Nat.le_of_ble_eq_true rfl) rfl ?_
  intro p e s m below meth c A Q X hK hE hD hA hret hP hS ls hl
  obtain ⟨hx, hb, hml, hown, hts⟩ := id X
  have k0 := (fun w h => List.mem_cons_of_mem _ (zFX12 w h) : ∀ w ∈ u_ws RX12 TX12 36, w ∈ zws yX12_orders cX12_orders 2 (Option.some .int))
  have k1 := hts _ (List.mem_cons_of_mem _ wt_5_124)
  have k2 := hts _ (List.mem_cons_of_mem _ wt_5_122)
  refine lv_aload_n hx hb dX12_orders_0 rfl (lv_at hl 0 rfl) ?_
  refine lv_iload_n hx hb dX12_orders_1 rfl (lv_at hl 1 rfl) ?_
  obtain ⟨r_1, S_2, h_3, hf⟩ := z_bd hf
  refine z_cVI (As := [.int a_1]) (rest := []) X hK hE hD hA hP hS (cm_isTold l D K cy ad S_0 _ _ _ h_3) (cwV 1 hts (z_gV wt_6_186 wt_6_188 wp_77 wt_1_13 wt_6_189) rfl rfl rfl ⟨rfl, yd_yX12_isTold⟩ ⟨Nat.le_of_ble_eq_true rfl, Nat.le_of_ble_eq_true rfl⟩) (va_recv hK hP (ci := 12) (q0 := 0) rfl (zM_0 cy ad S_0)) hl.1 rfl rfl (Nat.le_of_ble_eq_true rfl) dX12_orders_2 (fun H locs hP hS => ?_)
  obtain ⟨j_43, ej_43, hf⟩ := z_nm hf
  have J_43 : ∀ (x_4 : Int32) (S_5 : zSt) (H : Heap) (locs : List Loc) (ls : Array Slot), j_43 x_4 S_5 = some (ro, So) → va_P D vwCl (zM cy ad S_5) H → va_S A s.heap H locs → lv_has ls 2 [] → W p l e ({ frames := 98, cells := 0, slots := 0, locals := 2158 }) s m ([.ref (ad 0), .int a_1] : List Value).toArray below meth c H locs 0 0 Q (F0 m 43 ls [.int x_4]) := by
    intro x_4 S_5 H locs ls hf hP hS hl
    have hf := z_e2 ej_43 hf
    obtain ⟨h1, h2⟩ := z_s2 hf
    subst h1 h2
    exact hret _ _ _ _ hP hS dX12_orders_43
  refine lv_if_ne (tgt := 12) hx hb dX12_orders_5 (by decide) (fun c_9 => ?_) (fun c_9 => ?_)
  · have hf := z_if c_9 hf
    refine lv_iload_n hx hb dX12_orders_12 rfl (lv_at hl 1 rfl) ?_
    refine lv_if_ne (tgt := 23) hx hb dX12_orders_13 (by decide) (fun c_8 => ?_) (fun c_8 => ?_)
    · have hf := z_if c_8 hf
      refine lv_aload_n hx hb dX12_orders_23 rfl (lv_at hl 0 rfl) ?_
      refine va_get (D := D) (ci := 12) (v := .int (S_2.1 0 29)) (C := RX12) (T := TX12) (N := 36) hx hb hts k0 hown hK hP 0 (zM_0 cy ad S_2) rfl 29 (by decide) k1 (fun _ h9 => h9) rfl dX12_orders_24 ?_
      refine lv_if_ne (tgt := 34) hx hb dX12_orders_27 (by decide) (fun c_7 => ?_) (fun c_7 => ?_)
      · have hf := z_if c_7 hf
        refine lv_aload_n hx hb dX12_orders_34 rfl (lv_at hl 0 rfl) ?_
        refine va_get (D := D) (ci := 12) (v := .ref (ad 13)) (C := RX12) (T := TX12) (N := 36) hx hb hts k0 hown hK hP 0 (zM_0 cy ad S_2) rfl 27 (by decide) k2 (fun _ h9 => h9) rfl dX12_orders_35 ?_
        refine lv_iload_n hx hb dX12_orders_38 rfl (lv_at hl 1 rfl) ?_
        refine lv_bipush (v := 10) hx hb dX12_orders_39 (by decide) ?_
        refine lv_isub hx hb dX12_orders_41 ?_
        obtain ⟨h_6, hf⟩ := z_ix hf
        refine z_iald hx hb hK hP 13 0 (zM_13 cy ad S_2) rfl h_6 (k := ((a_1 - (10 : Int32)).toNatClampNeg)) rfl dX12_orders_42 ?_
        exact J_43 (S_2.1 13 ((a_1 - (10 : Int32)).toNatClampNeg)) S_2 _ _ _ hf hP hS (lv_sub hl [] rfl)
      · have hf := z_it c_7 hf
        refine lv_iconst (v := -1) hx hb dX12_orders_30 (by decide) ?_
        refine lv_goto (tgt := 43) hx hb dX12_orders_31 (by decide) ?_
        exact J_43 (-1 : Int32) S_2 _ _ _ hf hP hS (lv_sub hl [] rfl)
    · have hf := z_it c_8 hf
      refine lv_aload_n hx hb dX12_orders_16 rfl (lv_at hl 0 rfl) ?_
      refine va_get (D := D) (ci := 12) (v := .int (S_2.1 0 29)) (C := RX12) (T := TX12) (N := 36) hx hb hts k0 hown hK hP 0 (zM_0 cy ad S_2) rfl 29 (by decide) k1 (fun _ h9 => h9) rfl dX12_orders_17 ?_
      refine lv_goto (tgt := 43) hx hb dX12_orders_20 (by decide) ?_
      exact J_43 (S_2.1 0 29) S_2 _ _ _ hf hP hS (lv_sub hl [] rfl)
  · have hf := z_it c_9 hf
    refine lv_iconst (v := -1) hx hb dX12_orders_8 (by decide) ?_
    refine lv_goto (tgt := 43) hx hb dX12_orders_9 (by decide) ?_
    exact J_43 (-1 : Int32) S_2 _ _ _ hf hP hS (lv_sub hl [] rfl)
