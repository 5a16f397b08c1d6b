def fx_Lineup_standByRule_L47 (x_1 : Int32) (j_93 : Int32 → zSt → Option (Unit × zSt)) : Nat → Int32 → zSt → Option (Unit × zSt)
  | 0, _, _ => none
  | n_47 + 1, x_16, S_17 =>
    if x_16 ≤ 0 then (
    j_93 x_16 S_17) else (
    zck (zix (x_16 - (1 : Int32)) 9) <|
    zck (zix (S_17.1 129 ((x_16 - (1 : Int32)).toNatClampNeg)) 9) <|
    zck (zix x_1 9) <|
    if (S_17.1 131 (x_1.toNatClampNeg)) ≤ (S_17.1 131 ((S_17.1 129 ((x_16 - (1 : Int32)).toNatClampNeg)).toNatClampNeg)) then (
    j_93 x_16 S_17) else (
    zck (zix (x_16 - (1 : Int32)) 9) <|
    zck (zix x_16 9) <|
    znm (zpI S_17 129 (x_16.toNatClampNeg) (S_17.1 129 ((x_16 - (1 : Int32)).toNatClampNeg))) fun S_23 =>
    znm (x_16 + (-1 : Int32)) fun x_24 =>
    fx_Lineup_standByRule_L47 x_1 j_93 n_47 x_24 S_23))
def fx_Lineup_standByRule_L2 : Nat → Int32 → zSt → Option (Unit × zSt)
  | 0, _, _ => none
  | n_2 + 1, x_1, S_2 =>
    if (S_2.1 4 0) ≤ x_1 then (
    some ((), S_2)) else (
    zbd (fx_Lineup_gatherFacts S_2 x_1) fun _ S_4 =>
    zbd (fx_Rule_worth S_4) fun r_6 S_7 =>
    zck (zix x_1 9) <|
    znm (zpI S_7 131 (x_1.toNatClampNeg) r_6) fun S_10 =>
    znm (fun (x_11 : Int32) (S_12 : zSt) =>
    zck (zix x_11 9) <|
    znm (zpI S_12 129 (x_11.toNatClampNeg) x_1) fun S_14 =>
    znm (x_1 + (1 : Int32)) fun x_15 =>
    fx_Lineup_standByRule_L2 n_2 x_15 S_14) fun j_93 =>
    fx_Lineup_standByRule_L47 x_1 j_93 zFU x_1 S_10)
def fx_Lineup_standByRule (S_0 : zSt) : Option (Unit × zSt) :=
  fx_Lineup_standByRule_L2 zFU (0 : Int32) S_0
set_option maxHeartbeats 4000000 in
set_option maxRecDepth 100000 in
theorem cx_Lineup_standByRule (l : Launch) (D : va_G) (K : (Nat → Nat) × (Nat → Nat)) (cy : Nat → ClassId) (ad : Nat → Nat) (S_0 : zSt) (So : zSt) (hf : fx_Lineup_standByRule S_0 = some ((), So)) : zMV l yX4_standByRule (zws yX4_standByRule cX4_standByRule 3 none) ({ frames := 2, cells := 0, slots := 0, locals := 47 }) D (zTy cy) K (zX cy ad) [.ref (ad 128)] S_0 So := by
  refine z_metV (own := RX4) (lv := [(0, .ref (ad 128))]) (by decide) rfl rfl (Nat.le_of_ble_eq_true rfl) rfl ?_
  intro p e s m below meth c A Q X hK hE hD hA hret hP hS ls hl
  obtain ⟨hx, hb, hml, hown, hts⟩ := id X
  have k0 := (fun w h => List.mem_cons_of_mem _ (zFX4 w h) : ∀ w ∈ u_ws RX4 TX4 14, w ∈ zws yX4_standByRule cX4_standByRule 3 none)
  have k1 := hts _ (List.mem_cons_of_mem _ wt_2_108)
  have k2 := (fun w h => List.mem_cons_of_mem _ (zFX0 w h) : ∀ w ∈ u_ws RX0 TX0 6, w ∈ zws yX4_standByRule cX4_standByRule 3 none)
  have k3 := hts _ (List.mem_cons_of_mem _ wt_1_234)
  have k4 := (fun w h => List.mem_cons_of_mem _ (zFX2 w h) : ∀ w ∈ u_ws RX2 TX2 7, w ∈ zws yX4_standByRule cX4_standByRule 3 none)
  have k5 := hts _ (List.mem_cons_of_mem _ wt_1_66)
  have k6 := hts _ (List.mem_cons_of_mem _ wt_2_121)
  have k7 := hts _ (List.mem_cons_of_mem _ wt_2_3)
  have k8 := hts _ (List.mem_cons_of_mem _ wt_2_122)
  have k9 := hts _ (List.mem_cons_of_mem _ wt_2_123)
  have k10 := hts _ (List.mem_cons_of_mem _ wt_2_109)
  refine lv_iconst (v := 0) hx hb dX4_standByRule_0 (by decide) ?_
  refine lv_istore_n (lv' := [(1, .int (0 : Int32)), (0, .ref (ad 128))]) hx hb dX4_standByRule_1 rfl hl (by decide) rfl (fun ls hl => ?_)
  have L_2 : ∀ (n_2 : Nat) (x_1 : Int32) (S_2 : zSt) (H : Heap) (locs : List Loc) (ls : Array Slot), fx_Lineup_standByRule_L2 n_2 x_1 S_2 = some ((), So) → va_P D vwCl (zX cy ad S_2) H → va_S A s.heap H locs → lv_has ls 3 [(0, .ref (ad 128)), (1, .int x_1)] → W p l e ({ frames := 2, cells := 0, slots := 0, locals := 47 }) s m ([.ref (ad 128)] : List Value).toArray below meth c H locs 0 0 Q (F0 m 2 ls []) := by
    intro n_2
    induction n_2 with
    | zero =>
      intro x_1 S_2 H locs ls hf hP hS hl
      exact z_no hf
    | succ n_2 ih_2 =>
      intro x_1 S_2 H locs ls hf hP hS hl
      rw [fx_Lineup_standByRule_L2] at hf
      refine lv_iload_n hx hb dX4_standByRule_2 rfl (lv_at hl 1 rfl) ?_
      refine lv_aload_n hx hb dX4_standByRule_3 rfl (lv_at hl 0 rfl) ?_
      refine va_get (D := D) (ci := 4) (v := .ref (ad 3)) (C := RX4) (T := TX4) (N := 14) hx hb hts k0 hown hK hP 128 (zX_128 cy ad S_2) rfl 0 (by decide) k1 (fun _ h9 => h9) rfl dX4_standByRule_4 ?_
      refine va_get (D := D) (ci := 0) (v := .ref (ad 4)) (C := RX0) (T := TX0) (N := 6) hx hb hts k2 hown hK hP 3 (zX_3 cy ad S_2) rfl 0 (by decide) k3 (fun _ h9 => h9) rfl dX4_standByRule_7 ?_
      refine va_get (D := D) (ci := 2) (v := .int (S_2.1 4 0)) (C := RX2) (T := TX2) (N := 7) hx hb hts k4 hown hK hP 4 (zX_4 cy ad S_2) rfl 0 (by decide) k5 (fun _ h9 => h9) rfl dX4_standByRule_10 ?_
      refine lv_icmp_ge (tgt := 106) hx hb dX4_standByRule_13 (by decide) (fun c_27 => ?_) (fun c_27 => ?_)
      · have hf := z_it c_27 hf
        obtain ⟨h1, h2⟩ := z_s2 hf
        subst h2
        exact hret _ _ _ _ hP hS dX4_standByRule_106
      · have hf := z_if c_27 hf
        refine lv_aload_n hx hb dX4_standByRule_16 rfl (lv_at hl 0 rfl) ?_
        refine lv_iload_n hx hb dX4_standByRule_17 rfl (lv_at hl 1 rfl) ?_
        obtain ⟨r_3, S_4, h_5, hf⟩ := z_bd hf
        refine z_cVV (As := [.int x_1]) (rest := []) X hK hE hD hA hP hS (cx_Lineup_gatherFacts l D K cy ad S_2 _ _ h_5) (cwV 1 hts (z_gV wt_4_9 wt_4_11 wp_23 wt_1_11 wt_4_12) rfl rfl rfl ⟨rfl, yd_yX4_gatherFacts⟩ ⟨Nat.le_of_ble_eq_true rfl, Nat.le_of_ble_eq_true rfl⟩) (va_recv hK hP (ci := 4) (q0 := 128) rfl (zX_128 cy ad S_2)) hl.1 rfl rfl (Nat.le_of_ble_eq_true rfl) dX4_standByRule_18 (fun H locs hP hS => ?_)
        refine lv_aload_n hx hb dX4_standByRule_21 rfl (lv_at hl 0 rfl) ?_
        refine va_get (D := D) (ci := 4) (v := .ref (ad 131)) (C := RX4) (T := TX4) (N := 14) hx hb hts k0 hown hK hP 128 (zX_128 cy ad S_4) rfl 7 (by decide) k6 (fun _ h9 => h9) rfl dX4_standByRule_22 ?_
        refine lv_iload_n hx hb dX4_standByRule_25 rfl (lv_at hl 1 rfl) ?_
        refine lv_aload_n hx hb dX4_standByRule_26 rfl (lv_at hl 0 rfl) ?_
        refine va_get (D := D) (ci := 4) (v := .ref (ad 3)) (C := RX4) (T := TX4) (N := 14) hx hb hts k0 hown hK hP 128 (zX_128 cy ad S_4) rfl 0 (by decide) k1 (fun _ h9 => h9) rfl dX4_standByRule_27 ?_
        refine va_get (D := D) (ci := 0) (v := .ref (ad 20)) (C := RX0) (T := TX0) (N := 6) hx hb hts k2 hown hK hP 3 (zX_3 cy ad S_4) rfl 3 (by decide) k7 (fun _ h9 => h9) rfl dX4_standByRule_30 ?_
        refine lv_aload_n hx hb dX4_standByRule_33 rfl (lv_at hl 0 rfl) ?_
        refine va_get (D := D) (ci := 4) (v := .ref (ad 132)) (C := RX4) (T := TX4) (N := 14) hx hb hts k0 hown hK hP 128 (zX_128 cy ad S_4) rfl 8 (by decide) k8 (fun _ h9 => h9) rfl dX4_standByRule_34 ?_
        refine lv_aload_n hx hb dX4_standByRule_37 rfl (lv_at hl 0 rfl) ?_
        refine va_get (D := D) (ci := 4) (v := .ref (ad 133)) (C := RX4) (T := TX4) (N := 14) hx hb hts k0 hown hK hP 128 (zX_128 cy ad S_4) rfl 9 (by decide) k9 (fun _ h9 => h9) rfl dX4_standByRule_38 ?_
        obtain ⟨r_6, S_7, h_8, hf⟩ := z_bd hf
        refine z_cVI (As := [.ref (ad 132), .ref (ad 133)]) (rest := [.int x_1, .ref (ad 131)]) X hK hE hD hA hP hS (cx_Rule_worth l D K cy ad S_4 _ _ h_8) (cwV 2 hts (z_gV wt_4_13 wt_4_14 wt_4_15 wt_1_6 wt_4_16) rfl rfl rfl ⟨rfl, yd_yX6_worth⟩ ⟨Nat.le_of_ble_eq_true rfl, Nat.le_of_ble_eq_true rfl⟩) (va_recv hK hP (ci := 6) (q0 := 20) rfl (zX_20 cy ad S_4)) hl.1 rfl rfl (Nat.le_of_ble_eq_true rfl) dX4_standByRule_41 (fun H locs hP hS => ?_)
        obtain ⟨h_9, hf⟩ := z_ix hf
        refine z_iast hx hb hK hP (hD S_7) hS 131 0 (zX_131 cy ad S_7) rfl h_9 (k := (x_1.toNatClampNeg)) rfl dX4_standByRule_44 (fun H locs hP hS => ?_)
        obtain ⟨S_10, eS_10, hf⟩ := z_nm hf
        have hP := zW_putI hP eS_10 (by decide) rfl
        refine lv_iload_n hx hb dX4_standByRule_45 rfl (lv_at hl 1 rfl) ?_
        refine lv_istore_n (lv' := [(2, .int x_1), (0, .ref (ad 128)), (1, .int x_1)]) hx hb dX4_standByRule_46 rfl hl (by decide) rfl (fun ls hl => ?_)
        obtain ⟨j_93, ej_93, hf⟩ := z_nm hf
        have J_93 : ∀ (x_11 : Int32) (S_12 : zSt) (H : Heap) (locs : List Loc) (ls : Array Slot), j_93 x_11 S_12 = some ((), So) → va_P D vwCl (zX cy ad S_12) H → va_S A s.heap H locs → lv_has ls 3 [(0, .ref (ad 128)), (1, .int x_1), (2, .int x_11)] → W p l e ({ frames := 2, cells := 0, slots := 0, locals := 47 }) s m ([.ref (ad 128)] : List Value).toArray below meth c H locs 0 0 Q (F0 m 93 ls []) := by
          intro x_11 S_12 H locs ls hf hP hS hl
          have hf := z_e2 ej_93 hf
          refine lv_aload_n hx hb dX4_standByRule_93 rfl (lv_at hl 0 rfl) ?_
          refine va_get (D := D) (ci := 4) (v := .ref (ad 129)) (C := RX4) (T := TX4) (N := 14) hx hb hts k0 hown hK hP 128 (zX_128 cy ad S_12) rfl 1 (by decide) k10 (fun _ h9 => h9) rfl dX4_standByRule_94 ?_
          refine lv_iload_n hx hb dX4_standByRule_97 rfl (lv_at hl 2 rfl) ?_
          refine lv_iload_n hx hb dX4_standByRule_98 rfl (lv_at hl 1 rfl) ?_
          obtain ⟨h_13, hf⟩ := z_ix hf
          refine z_iast hx hb hK hP (hD S_12) hS 129 0 (zX_129 cy ad S_12) rfl h_13 (k := (x_11.toNatClampNeg)) rfl dX4_standByRule_99 (fun H locs hP hS => ?_)
          obtain ⟨S_14, eS_14, hf⟩ := z_nm hf
          have hP := zW_putI hP eS_14 (by decide) rfl
          obtain ⟨x_15, ex_15, hf⟩ := z_nm hf
          refine lv_iinc (v := x_15) (lv' := [(1, .int x_15), (0, .ref (ad 128)), (2, .int x_11)]) hx hb dX4_standByRule_100 hl (k := 1) rfl (by rw [ex_15]; rfl) (by decide) rfl (fun ls hl => ?_)
          refine lv_goto (tgt := 2) hx hb dX4_standByRule_103 (by decide) ?_
          exact ih_2 x_15 S_14 _ _ _ hf hP hS (lv_sub hl [1, 0] rfl)
        have L_47 : ∀ (n_47 : Nat) (x_16 : Int32) (S_17 : zSt) (H : Heap) (locs : List Loc) (ls : Array Slot), fx_Lineup_standByRule_L47 x_1 j_93 n_47 x_16 S_17 = some ((), So) → va_P D vwCl (zX cy ad S_17) H → va_S A s.heap H locs → lv_has ls 3 [(0, .ref (ad 128)), (1, .int x_1), (2, .int x_16)] → W p l e ({ frames := 2, cells := 0, slots := 0, locals := 47 }) s m ([.ref (ad 128)] : List Value).toArray below meth c H locs 0 0 Q (F0 m 47 ls []) := by
          intro n_47
          induction n_47 with
          | zero =>
            intro x_16 S_17 H locs ls hf hP hS hl
            exact z_no hf
          | succ n_47 ih_47 =>
            intro x_16 S_17 H locs ls hf hP hS hl
            rw [fx_Lineup_standByRule_L47] at hf
            refine lv_iload_n hx hb dX4_standByRule_47 rfl (lv_at hl 2 rfl) ?_
            refine lv_if_le (tgt := 93) hx hb dX4_standByRule_48 (by decide) (fun c_26 => ?_) (fun c_26 => ?_)
            · have hf := z_it c_26 hf
              exact J_93 x_16 S_17 _ _ _ hf hP hS (lv_sub hl [0, 1, 2] rfl)
            · have hf := z_if c_26 hf
              refine lv_aload_n hx hb dX4_standByRule_51 rfl (lv_at hl 0 rfl) ?_
              refine va_get (D := D) (ci := 4) (v := .ref (ad 131)) (C := RX4) (T := TX4) (N := 14) hx hb hts k0 hown hK hP 128 (zX_128 cy ad S_17) rfl 7 (by decide) k6 (fun _ h9 => h9) rfl dX4_standByRule_52 ?_
              refine lv_aload_n hx hb dX4_standByRule_55 rfl (lv_at hl 0 rfl) ?_
              refine va_get (D := D) (ci := 4) (v := .ref (ad 129)) (C := RX4) (T := TX4) (N := 14) hx hb hts k0 hown hK hP 128 (zX_128 cy ad S_17) rfl 1 (by decide) k10 (fun _ h9 => h9) rfl dX4_standByRule_56 ?_
              refine lv_iload_n hx hb dX4_standByRule_59 rfl (lv_at hl 2 rfl) ?_
              refine lv_iconst (v := 1) hx hb dX4_standByRule_60 (by decide) ?_
              refine lv_isub hx hb dX4_standByRule_61 ?_
              obtain ⟨h_18, hf⟩ := z_ix hf
              refine z_iald hx hb hK hP 129 0 (zX_129 cy ad S_17) rfl h_18 (k := ((x_16 - (1 : Int32)).toNatClampNeg)) rfl dX4_standByRule_62 ?_
              obtain ⟨h_19, hf⟩ := z_ix hf
              refine z_iald hx hb hK hP 131 0 (zX_131 cy ad S_17) rfl h_19 (k := ((S_17.1 129 ((x_16 - (1 : Int32)).toNatClampNeg)).toNatClampNeg)) rfl dX4_standByRule_63 ?_
              refine lv_aload_n hx hb dX4_standByRule_64 rfl (lv_at hl 0 rfl) ?_
              refine va_get (D := D) (ci := 4) (v := .ref (ad 131)) (C := RX4) (T := TX4) (N := 14) hx hb hts k0 hown hK hP 128 (zX_128 cy ad S_17) rfl 7 (by decide) k6 (fun _ h9 => h9) rfl dX4_standByRule_65 ?_
              refine lv_iload_n hx hb dX4_standByRule_68 rfl (lv_at hl 1 rfl) ?_
              obtain ⟨h_20, hf⟩ := z_ix hf
              refine z_iald hx hb hK hP 131 0 (zX_131 cy ad S_17) rfl h_20 (k := (x_1.toNatClampNeg)) rfl dX4_standByRule_69 ?_
              refine lv_icmp_ge (tgt := 93) hx hb dX4_standByRule_70 (by decide) (fun c_25 => ?_) (fun c_25 => ?_)
              · have hf := z_it c_25 hf
                exact J_93 x_16 S_17 _ _ _ hf hP hS (lv_sub hl [0, 1, 2] rfl)
              · have hf := z_if c_25 hf
                refine lv_aload_n hx hb dX4_standByRule_73 rfl (lv_at hl 0 rfl) ?_
                refine va_get (D := D) (ci := 4) (v := .ref (ad 129)) (C := RX4) (T := TX4) (N := 14) hx hb hts k0 hown hK hP 128 (zX_128 cy ad S_17) rfl 1 (by decide) k10 (fun _ h9 => h9) rfl dX4_standByRule_74 ?_
                refine lv_iload_n hx hb dX4_standByRule_77 rfl (lv_at hl 2 rfl) ?_
                refine lv_aload_n hx hb dX4_standByRule_78 rfl (lv_at hl 0 rfl) ?_
                refine va_get (D := D) (ci := 4) (v := .ref (ad 129)) (C := RX4) (T := TX4) (N := 14) hx hb hts k0 hown hK hP 128 (zX_128 cy ad S_17) rfl 1 (by decide) k10 (fun _ h9 => h9) rfl dX4_standByRule_79 ?_
                refine lv_iload_n hx hb dX4_standByRule_82 rfl (lv_at hl 2 rfl) ?_
                refine lv_iconst (v := 1) hx hb dX4_standByRule_83 (by decide) ?_
                refine lv_isub hx hb dX4_standByRule_84 ?_
                obtain ⟨h_21, hf⟩ := z_ix hf
                refine z_iald hx hb hK hP 129 0 (zX_129 cy ad S_17) rfl h_21 (k := ((x_16 - (1 : Int32)).toNatClampNeg)) rfl dX4_standByRule_85 ?_
                obtain ⟨h_22, hf⟩ := z_ix hf
                refine z_iast hx hb hK hP (hD S_17) hS 129 0 (zX_129 cy ad S_17) rfl h_22 (k := (x_16.toNatClampNeg)) rfl dX4_standByRule_86 (fun H locs hP hS => ?_)
                obtain ⟨S_23, eS_23, hf⟩ := z_nm hf
                have hP := zW_putI hP eS_23 (by decide) rfl
                obtain ⟨x_24, ex_24, hf⟩ := z_nm hf
                refine lv_iinc (v := x_24) (lv' := [(2, .int x_24), (0, .ref (ad 128)), (1, .int x_1)]) hx hb dX4_standByRule_87 hl (k := 2) rfl (by rw [ex_24]; rfl) (by decide) rfl (fun ls hl => ?_)
                refine lv_goto (tgt := 47) hx hb dX4_standByRule_90 (by decide) ?_
                exact ih_47 x_24 S_23 _ _ _ hf hP hS (lv_sub hl [1, 2, 0] rfl)
        exact L_47 zFU x_1 S_10 _ _ _ hf hP hS (lv_sub hl [1, 2, 0] rfl)
  exact L_2 zFU (0 : Int32) S_0 _ _ _ hf hP hS (lv_sub hl [1, 0] rfl)
def fx_Lineup_standForToday (S_0 : zSt) : Option (Unit × zSt) :=
  zbd (fx_Lineup_standByRule S_0) fun _ S_2 =>
  zbd (fx_Times_isMonday S_2) fun r_4 S_5 =>
  znm (fun (S_7 : zSt) =>
  some ((), S_7)) fun j_25 =>
  if r_4 = 0 then (
  j_25  S_5) else (
  zbd (fx_Lineup_fewestMondays S_5) fun r_8 S_9 =>
  zbd (fx_Lineup_putFirst S_9 r_8) fun _ S_12 =>
  j_25  S_12)
set_option maxHeartbeats 4000000 in
set_option maxRecDepth 100000 in
theorem cx_Lineup_standForToday (l : Launch) (D : va_G) (K : (Nat → Nat) × (Nat → Nat)) (cy : Nat → ClassId) (ad : Nat → Nat) (S_0 : zSt) (So : zSt) (hf : fx_Lineup_standForToday S_0 = some ((), So)) : zMV l yX4_standForToday (zws yX4_standForToday cX4_standForToday 1 none) ({ frames := 3, cells := 0, slots := 0, locals := 69 }) D (zTy cy) K (zX cy ad) [.ref (ad 128)] S_0 So := by
  refine z_metV (own := RX4) (lv := [(0, .ref (ad 128))]) (by decide) rfl rfl (Nat.le_of_ble_eq_true rfl) rfl ?_
  intro p e s m below meth c A Q X hK hE hD hA hret hP hS ls hl
  obtain ⟨hx, hb, hml, hown, hts⟩ := id X
  have k0 := (fun w h => List.mem_cons_of_mem _ (zFX4 w h) : ∀ w ∈ u_ws RX4 TX4 14, w ∈ zws yX4_standForToday cX4_standForToday 1 none)
  have k1 := hts _ (List.mem_cons_of_mem _ wt_2_108)
  have k2 := (fun w h => List.mem_cons_of_mem _ (zFX0 w h) : ∀ w ∈ u_ws RX0 TX0 6, w ∈ zws yX4_standForToday cX4_standForToday 1 none)
  have k3 := hts _ (List.mem_cons_of_mem _ wt_1_238)
  refine lv_aload_n hx hb dX4_standForToday_0 rfl (lv_at hl 0 rfl) ?_
  obtain ⟨r_1, S_2, h_3, hf⟩ := z_bd hf
  refine z_cVV (As := []) (rest := []) X hK hE hD hA hP hS (cx_Lineup_standByRule l D K cy ad S_0 _ h_3) (cwV 0 hts (z_gV wt_4_5 wt_4_7 wp_22 wt_1_11 wt_4_8) rfl rfl rfl ⟨rfl, yd_yX4_standByRule⟩ ⟨Nat.le_of_ble_eq_true rfl, Nat.le_of_ble_eq_true rfl⟩) (va_recv hK hP (ci := 4) (q0 := 128) rfl (zX_128 cy ad S_0)) hl.1 rfl rfl (Nat.le_of_ble_eq_true rfl) dX4_standForToday_1 (fun H locs hP hS => ?_)
  refine lv_aload_n hx hb dX4_standForToday_4 rfl (lv_at hl 0 rfl) ?_
  refine va_get (D := D) (ci := 4) (v := .ref (ad 3)) (C := RX4) (T := TX4) (N := 14) hx hb hts k0 hown hK hP 128 (zX_128 cy ad S_2) rfl 0 (by decide) k1 (fun _ h9 => h9) rfl dX4_standForToday_5 ?_
  refine va_get (D := D) (ci := 0) (v := .ref (ad 11)) (C := RX0) (T := TX0) (N := 6) hx hb hts k2 hown hK hP 3 (zX_3 cy ad S_2) rfl 1 (by decide) k3 (fun _ h9 => h9) rfl dX4_standForToday_8 ?_
  obtain ⟨r_4, S_5, h_6, hf⟩ := z_bd hf
  refine z_cVI (As := []) (rest := []) X hK hE hD hA hP hS (cx_Times_isMonday l D K cy ad S_2 _ _ h_6) (cwV 0 hts (z_gV wt_4_23 wt_4_24 wt_4_25 wt_1_5 wt_4_26) rfl rfl rfl ⟨rfl, yd_yX10_isMonday⟩ ⟨Nat.le_of_ble_eq_true rfl, Nat.le_of_ble_eq_true rfl⟩) (va_recv hK hP (ci := 10) (q0 := 11) rfl (zX_11 cy ad S_2)) hl.1 rfl rfl (Nat.le_of_ble_eq_true rfl) dX4_standForToday_11 (fun H locs hP hS => ?_)
  obtain ⟨j_25, ej_25, hf⟩ := z_nm hf
  have J_25 : ∀ (S_7 : zSt) (H : Heap) (locs : List Loc) (ls : Array Slot), j_25  S_7 = some ((), So) → va_P D vwCl (zX cy ad S_7) H → va_S A s.heap H locs → lv_has ls 1 [] → W p l e ({ frames := 3, cells := 0, slots := 0, locals := 69 }) s m ([.ref (ad 128)] : List Value).toArray below meth c H locs 0 0 Q (F0 m 25 ls []) := by
    intro  S_7 H locs ls hf hP hS hl
    have hf := z_e1 ej_25 hf
    obtain ⟨h1, h2⟩ := z_s2 hf
    subst h2
    exact hret _ _ _ _ hP hS dX4_standForToday_25
  refine lv_if_eq (tgt := 25) hx hb dX4_standForToday_14 (by decide) (fun c_14 => ?_) (fun c_14 => ?_)
  · have hf := z_it c_14 hf
    exact J_25  S_5 _ _ _ hf hP hS (lv_sub hl [] rfl)
  · have hf := z_if c_14 hf
    refine lv_aload_n hx hb dX4_standForToday_17 rfl (lv_at hl 0 rfl) ?_
    refine lv_aload_n hx hb dX4_standForToday_18 rfl (lv_at hl 0 rfl) ?_
    obtain ⟨r_8, S_9, h_10, hf⟩ := z_bd hf
    refine z_cVI (As := []) (rest := [.ref (ad 128)]) X hK hE hD hA hP hS (cx_Lineup_fewestMondays l D K cy ad S_5 _ _ h_10) (cwV 0 hts (z_gV wt_4_27 wt_4_29 wp_24 wt_1_11 wt_4_30) rfl rfl rfl ⟨rfl, yd_yX4_fewestMondays⟩ ⟨Nat.le_of_ble_eq_true rfl, Nat.le_of_ble_eq_true rfl⟩) (va_recv hK hP (ci := 4) (q0 := 128) rfl (zX_128 cy ad S_5)) hl.1 rfl rfl (Nat.le_of_ble_eq_true rfl) dX4_standForToday_19 (fun H locs hP hS => ?_)
    obtain ⟨r_11, S_12, h_13, hf⟩ := z_bd hf
    refine z_cVV (As := [.int r_8]) (rest := []) X hK hE hD hA hP hS (cx_Lineup_putFirst l D K cy ad S_9 _ _ h_13) (cwV 1 hts (z_gV wt_4_31 wt_4_33 wp_25 wt_1_11 wt_4_34) rfl rfl rfl ⟨rfl, yd_yX4_putFirst⟩ ⟨Nat.le_of_ble_eq_true rfl, Nat.le_of_ble_eq_true rfl⟩) (va_recv hK hP (ci := 4) (q0 := 128) rfl (zX_128 cy ad S_9)) hl.1 rfl rfl (Nat.le_of_ble_eq_true rfl) dX4_standForToday_22 (fun H locs hP hS => ?_)
    exact J_25  S_12 _ _ _ hf hP hS (lv_sub hl [] rfl)
def fx_Lineup_clearPlaced_L2 : Nat → Int32 → zSt → Option (Unit × zSt)
  | 0, _, _ => none
  | n_2 + 1, x_1, S_2 =>
    if (9 : Int32) ≤ x_1 then (
    some ((), S_2)) else (
    zck (zix x_1 9) <|
    znm (zpI S_2 136 (x_1.toNatClampNeg) (0 : Int32)) fun S_4 =>
    znm (x_1 + (1 : Int32)) fun x_5 =>
    fx_Lineup_clearPlaced_L2 n_2 x_5 S_4)
def fx_Lineup_clearPlaced (S_0 : zSt) : Option (Unit × zSt) :=
  fx_Lineup_clearPlaced_L2 zFU (0 : Int32) S_0
set_option maxHeartbeats 4000000 in
set_option maxRecDepth 100000 in
theorem cx_Lineup_clearPlaced (l : Launch) (D : va_G) (K : (Nat → Nat) × (Nat → Nat)) (cy : Nat → ClassId) (ad : Nat → Nat) (S_0 : zSt) (So : zSt) (hf : fx_Lineup_clearPlaced S_0 = some ((), So)) : zMV l yX4_clearPlaced (zws yX4_clearPlaced cX4_clearPlaced 2 none) ({ frames := 0, cells := 0, slots := 0, locals := 0 }) D (zTy cy) K (zX cy ad) [.ref (ad 128)] S_0 So := by
  refine z_metV (own := RX4) (lv := [(0, .ref (ad 128))]) (by decide) rfl rfl (Nat.le_of_ble_eq_true rfl) rfl ?_
  intro p e s m below meth c A Q X hK hE hD hA hret hP hS ls hl
  obtain ⟨hx, hb, hml, hown, hts⟩ := id X
  have k0 := (fun w h => List.mem_cons_of_mem _ (zFX4 w h) : ∀ w ∈ u_ws RX4 TX4 14, w ∈ zws yX4_clearPlaced cX4_clearPlaced 2 none)
  have k1 := hts _ (List.mem_cons_of_mem _ wt_2_126)
  refine lv_iconst (v := 0) hx hb dX4_clearPlaced_0 (by decide) ?_
  refine lv_istore_n (lv' := [(1, .int (0 : Int32)), (0, .ref (ad 128))]) hx hb dX4_clearPlaced_1 rfl hl (by decide) rfl (fun ls hl => ?_)
  have L_2 : ∀ (n_2 : Nat) (x_1 : Int32) (S_2 : zSt) (H : Heap) (locs : List Loc) (ls : Array Slot), fx_Lineup_clearPlaced_L2 n_2 x_1 S_2 = some ((), So) → va_P D vwCl (zX cy ad S_2) H → va_S A s.heap H locs → lv_has ls 2 [(0, .ref (ad 128)), (1, .int x_1)] → W p l e ({ frames := 0, cells := 0, slots := 0, locals := 0 }) s m ([.ref (ad 128)] : List Value).toArray below meth c H locs 0 0 Q (F0 m 2 ls []) := by
    intro n_2
    induction n_2 with
    | zero =>
      intro x_1 S_2 H locs ls hf hP hS hl
      exact z_no hf
    | succ n_2 ih_2 =>
      intro x_1 S_2 H locs ls hf hP hS hl
      rw [fx_Lineup_clearPlaced_L2] at hf
      refine lv_iload_n hx hb dX4_clearPlaced_2 rfl (lv_at hl 1 rfl) ?_
      refine lv_bipush (v := 9) hx hb dX4_clearPlaced_3 (by decide) ?_
      refine lv_icmp_ge (tgt := 21) hx hb dX4_clearPlaced_5 (by decide) (fun c_6 => ?_) (fun c_6 => ?_)
      · have hf := z_it c_6 hf
        obtain ⟨h1, h2⟩ := z_s2 hf
        subst h2
        exact hret _ _ _ _ hP hS dX4_clearPlaced_21
      · have hf := z_if c_6 hf
        refine lv_aload_n hx hb dX4_clearPlaced_8 rfl (lv_at hl 0 rfl) ?_
        refine va_get (D := D) (ci := 4) (v := .ref (ad 136)) (C := RX4) (T := TX4) (N := 14) hx hb hts k0 hown hK hP 128 (zX_128 cy ad S_2) rfl 12 (by decide) k1 (fun _ h9 => h9) rfl dX4_clearPlaced_9 ?_
        refine lv_iload_n hx hb dX4_clearPlaced_12 rfl (lv_at hl 1 rfl) ?_
        refine lv_iconst (v := 0) hx hb dX4_clearPlaced_13 (by decide) ?_
        obtain ⟨h_3, hf⟩ := z_ix hf
        refine z_zast hx hb hK hP (hD S_2) hS 136 2 (zX_136 cy ad S_2) rfl h_3 (k := (x_1.toNatClampNeg)) rfl rfl dX4_clearPlaced_14 (fun H locs hP hS => ?_)
        obtain ⟨S_4, eS_4, hf⟩ := z_nm hf
        have hP := zW_putI hP eS_4 (by decide) rfl
        obtain ⟨x_5, ex_5, hf⟩ := z_nm hf
        refine lv_iinc (v := x_5) (lv' := [(1, .int x_5), (0, .ref (ad 128))]) hx hb dX4_clearPlaced_15 hl (k := 1) rfl (by rw [ex_5]; rfl) (by decide) rfl (fun ls hl => ?_)
        refine lv_goto (tgt := 2) hx hb dX4_clearPlaced_18 (by decide) ?_
        exact ih_2 x_5 S_4 _ _ _ hf hP hS (lv_sub hl [1, 0] rfl)
  exact L_2 zFU (0 : Int32) S_0 _ _ _ hf hP hS (lv_sub hl [1, 0] rfl)
def fx_Lineup_standAsTold_L25 (j_66 : zSt → Option (Int32 × zSt)) : Nat → Int32 → zSt → Option (Int32 × zSt)
  | 0, _, _ => none
  | n_25 + 1, x_5, S_6 =>
    if (S_6.1 1 1) ≤ x_5 then (
    some ((1 : Int32), S_6)) else (
    zck (zix x_5 400) <|
    znm ((S_6.1 2 (x_5.toNatClampNeg)) - (48 : Int32)) fun x_8 =>
    zbd (fx_Houses_has S_6 x_8) fun r_9 S_10 =>
    if r_9 = 0 then (
    j_66  S_10) else (
    zck (zix x_8 9) <|
    if (S_10.1 136 (x_8.toNatClampNeg)) = 0 then (
    zck (zix x_8 9) <|
    znm (zpI S_10 136 (x_8.toNatClampNeg) (1 : Int32)) fun S_14 =>
    zck (zix x_5 9) <|
    znm (zpI S_14 129 (x_5.toNatClampNeg) x_8) fun S_16 =>
    znm (x_5 + (1 : Int32)) fun x_17 =>
    fx_Lineup_standAsTold_L25 j_66 n_25 x_17 S_16) else (
    j_66  S_10)))
def fx_Lineup_standAsTold (S_0 : zSt) : Option (Int32 × zSt) :=
  if (S_0.1 1 1) = (S_0.1 4 0) then (
  zbd (fx_Lineup_clearPlaced S_0) fun _ S_2 =>
  znm (fun (S_4 : zSt) =>
  some ((0 : Int32), S_4)) fun j_66 =>
  fx_Lineup_standAsTold_L25 j_66 zFU (0 : Int32) S_2) else (
  some ((0 : Int32), S_0))
set_option maxHeartbeats 4000000 in
set_option maxRecDepth 100000 in
theorem cx_Lineup_standAsTold (l : Launch) (D : va_G) (K : (Nat → Nat) × (Nat → Nat)) (cy : Nat → ClassId) (ad : Nat → Nat) (S_0 : zSt) (ro : Int32) (So : zSt) (hf : fx_Lineup_standAsTold S_0 = some (ro, So)) : zMI l yX4_standAsTold (zws yX4_standAsTold cX4_standAsTold 4 (Option.some .boolean)) ({ frames := 1, cells := 0, slots := 0, locals := 21 }) D (zTy cy) K (zX cy ad) [.ref (ad 128), .ref (ad 1)] S_0 ro So := by
  refine z_metZ (own := RX4) (lv := [(0, .ref (ad 128)), (1, .ref (ad 1))]) (by decide) rfl rfl (Nat.le_of_ble_eq_true rfl) rfl ?_
  intro p e s m below meth c A Q X hK hE hD hA hret hP hS ls hl
  obtain ⟨hx, hb, hml, hown, hts⟩ := id X
  have k0 := (fun w h => List.mem_cons_of_mem _ (zFX9 w h) : ∀ w ∈ u_ws RX9 TX9 2, w ∈ zws yX4_standAsTold cX4_standAsTold 4 (Option.some .boolean))
  have k1 := hts _ (List.mem_cons_of_mem _ wt_1_43)
  have k2 := (fun w h => List.mem_cons_of_mem _ (zFX4 w h) : ∀ w ∈ u_ws RX4 TX4 14, w ∈ zws yX4_standAsTold cX4_standAsTold 4 (Option.some .boolean))
  have k3 := hts _ (List.mem_cons_of_mem _ wt_2_108)
  have k4 := (fun w h => List.mem_cons_of_mem _ (zFX0 w h) : ∀ w ∈ u_ws RX0 TX0 6, w ∈ zws yX4_standAsTold cX4_standAsTold 4 (Option.some .boolean))
  have k5 := hts _ (List.mem_cons_of_mem _ wt_1_234)
  have k6 := (fun w h => List.mem_cons_of_mem _ (zFX2 w h) : ∀ w ∈ u_ws RX2 TX2 7, w ∈ zws yX4_standAsTold cX4_standAsTold 4 (Option.some .boolean))
  have k7 := hts _ (List.mem_cons_of_mem _ wt_1_66)
  have k8 := hts _ (List.mem_cons_of_mem _ wt_1_38)
  have k9 := hts _ (List.mem_cons_of_mem _ wt_2_126)
  have k10 := hts _ (List.mem_cons_of_mem _ wt_2_109)
  refine lv_aload_n hx hb dX4_standAsTold_0 rfl (lv_at hl 1 rfl) ?_
  refine va_get (D := D) (ci := 9) (v := .int (S_0.1 1 1)) (C := RX9) (T := TX9) (N := 2) hx hb hts k0 hown hK hP 1 (zX_1 cy ad S_0) rfl 1 (by decide) k1 (fun _ h9 => h9) rfl dX4_standAsTold_1 ?_
  refine lv_aload_n hx hb dX4_standAsTold_4 rfl (lv_at hl 0 rfl) ?_
  refine va_get (D := D) (ci := 4) (v := .ref (ad 3)) (C := RX4) (T := TX4) (N := 14) hx hb hts k2 hown hK hP 128 (zX_128 cy ad S_0) rfl 0 (by decide) k3 (fun _ h9 => h9) rfl dX4_standAsTold_5 ?_
  refine va_get (D := D) (ci := 0) (v := .ref (ad 4)) (C := RX0) (T := TX0) (N := 6) hx hb hts k4 hown hK hP 3 (zX_3 cy ad S_0) rfl 0 (by decide) k5 (fun _ h9 => h9) rfl dX4_standAsTold_8 ?_
  refine va_get (D := D) (ci := 2) (v := .int (S_0.1 4 0)) (C := RX2) (T := TX2) (N := 7) hx hb hts k6 hown hK hP 4 (zX_4 cy ad S_0) rfl 0 (by decide) k7 (fun _ h9 => h9) rfl dX4_standAsTold_11 ?_
  refine lv_icmp_eq (tgt := 19) hx hb dX4_standAsTold_14 (by decide) (fun c_21 => ?_) (fun c_21 => ?_)
  · have hf := z_it c_21 hf
    refine lv_aload_n hx hb dX4_standAsTold_19 rfl (lv_at hl 0 rfl) ?_
    obtain ⟨r_1, S_2, h_3, hf⟩ := z_bd hf
    refine z_cVV (As := []) (rest := []) X hK hE hD hA hP hS (cx_Lineup_clearPlaced l D K cy ad S_0 _ h_3) (cwV 0 hts (z_gV wt_4_103 wt_4_105 wp_31 wt_1_11 wt_4_106) rfl rfl rfl ⟨rfl, yd_yX4_clearPlaced⟩ ⟨Nat.le_of_ble_eq_true rfl, Nat.le_of_ble_eq_true rfl⟩) (va_recv hK hP (ci := 4) (q0 := 128) rfl (zX_128 cy ad S_0)) hl.1 rfl rfl (Nat.le_of_ble_eq_true rfl) dX4_standAsTold_20 (fun H locs hP hS => ?_)
    refine lv_iconst (v := 0) hx hb dX4_standAsTold_23 (by decide) ?_
    refine lv_istore_n (lv' := [(2, .int (0 : Int32)), (0, .ref (ad 128)), (1, .ref (ad 1))]) hx hb dX4_standAsTold_24 rfl hl (by decide) rfl (fun ls hl => ?_)
    obtain ⟨j_66, ej_66, hf⟩ := z_nm hf
    have J_66 : ∀ (S_4 : zSt) (H : Heap) (locs : List Loc) (ls : Array Slot), j_66  S_4 = some (ro, So) → va_P D vwCl (zX cy ad S_4) H → va_S A s.heap H locs → lv_has ls 4 [] → W p l e ({ frames := 1, cells := 0, slots := 0, locals := 21 }) s m ([.ref (ad 128), .ref (ad 1)] : List Value).toArray below meth c H locs 0 0 Q (F0 m 66 ls []) := by
      intro  S_4 H locs ls hf hP hS hl
      have hf := z_e1 ej_66 hf
      refine lv_iconst (v := 0) hx hb dX4_standAsTold_66 (by decide) ?_
      obtain ⟨h1, h2⟩ := z_s2 hf
      subst h1 h2
      exact hret _ _ _ _ rfl hP hS dX4_standAsTold_67
    have L_25 : ∀ (n_25 : Nat) (x_5 : Int32) (S_6 : zSt) (H : Heap) (locs : List Loc) (ls : Array Slot), fx_Lineup_standAsTold_L25 j_66 n_25 x_5 S_6 = some (ro, So) → va_P D vwCl (zX cy ad S_6) H → va_S A s.heap H locs → lv_has ls 4 [(0, .ref (ad 128)), (1, .ref (ad 1)), (2, .int x_5)] → W p l e ({ frames := 1, cells := 0, slots := 0, locals := 21 }) s m ([.ref (ad 128), .ref (ad 1)] : List Value).toArray below meth c H locs 0 0 Q (F0 m 25 ls []) := by
      intro n_25
      induction n_25 with
      | zero =>
        intro x_5 S_6 H locs ls hf hP hS hl
        exact z_no hf
      | succ n_25 ih_25 =>
        intro x_5 S_6 H locs ls hf hP hS hl
        rw [fx_Lineup_standAsTold_L25] at hf
        refine lv_iload_n hx hb dX4_standAsTold_25 rfl (lv_at hl 2 rfl) ?_
        refine lv_aload_n hx hb dX4_standAsTold_26 rfl (lv_at hl 1 rfl) ?_
        refine va_get (D := D) (ci := 9) (v := .int (S_6.1 1 1)) (C := RX9) (T := TX9) (N := 2) hx hb hts k0 hown hK hP 1 (zX_1 cy ad S_6) rfl 1 (by decide) k1 (fun _ h9 => h9) rfl dX4_standAsTold_27 ?_
        refine lv_icmp_ge (tgt := 88) hx hb dX4_standAsTold_30 (by decide) (fun c_20 => ?_) (fun c_20 => ?_)
        · have hf := z_it c_20 hf
          refine lv_iconst (v := 1) hx hb dX4_standAsTold_88 (by decide) ?_
          obtain ⟨h1, h2⟩ := z_s2 hf
          subst h1 h2
          exact hret _ _ _ _ rfl hP hS dX4_standAsTold_89
        · have hf := z_if c_20 hf
          refine lv_aload_n hx hb dX4_standAsTold_33 rfl (lv_at hl 1 rfl) ?_
          refine va_get (D := D) (ci := 9) (v := .ref (ad 2)) (C := RX9) (T := TX9) (N := 2) hx hb hts k0 hown hK hP 1 (zX_1 cy ad S_6) rfl 0 (by decide) k8 (fun _ h9 => h9) rfl dX4_standAsTold_34 ?_
          refine lv_iload_n hx hb dX4_standAsTold_37 rfl (lv_at hl 2 rfl) ?_
          obtain ⟨h_7, hf⟩ := z_ix hf
          refine z_iald hx hb hK hP 2 0 (zX_2 cy ad S_6) rfl h_7 (k := (x_5.toNatClampNeg)) rfl dX4_standAsTold_38 ?_
          refine lv_bipush (v := 48) hx hb dX4_standAsTold_39 (by decide) ?_
          refine lv_isub hx hb dX4_standAsTold_41 ?_
          refine lv_topi (fun x_8 ex_8 => ?_)
          have hf := z_nv ex_8 hf
          refine lv_istore_n (lv' := [(3, .int x_8), (0, .ref (ad 128)), (1, .ref (ad 1)), (2, .int x_5)]) hx hb dX4_standAsTold_42 rfl hl (by decide) rfl (fun ls hl => ?_)
          refine lv_aload_n hx hb dX4_standAsTold_43 rfl (lv_at hl 1 rfl) ?_
          refine va_get (D := D) (ci := 4) (v := .ref (ad 3)) (C := RX4) (T := TX4) (N := 14) hx hb hts k2 hown hK hP 128 (zX_128 cy ad S_6) rfl 0 (by decide) k3 (fun _ h9 => h9) rfl dX4_standAsTold_44 ?_
          refine va_get (D := D) (ci := 0) (v := .ref (ad 4)) (C := RX0) (T := TX0) (N := 6) hx hb hts k4 hown hK hP 3 (zX_3 cy ad S_6) rfl 0 (by decide) k5 (fun _ h9 => h9) rfl dX4_standAsTold_47 ?_
          refine lv_iload_n hx hb dX4_standAsTold_50 rfl (lv_at hl 0 rfl) ?_
          obtain ⟨r_9, S_10, h_11, hf⟩ := z_bd hf
          refine z_cVI (As := [.int x_8]) (rest := []) X hK hE hD hA hP hS (cx_Houses_has l D K cy ad S_6 _ _ _ h_11) (cwV 1 hts (z_gV wt_4_107 wt_3_4 wt_3_5 wt_1_4 wt_3_6) rfl rfl rfl ⟨rfl, yd_yX2_has⟩ ⟨Nat.le_of_ble_eq_true rfl, Nat.le_of_ble_eq_true rfl⟩) (va_recv hK hP (ci := 2) (q0 := 4) rfl (zX_4 cy ad S_6)) hl.1 rfl rfl (Nat.le_of_ble_eq_true rfl) dX4_standAsTold_51 (fun H locs hP hS => ?_)
          refine lv_if_eq (tgt := 66) hx hb dX4_standAsTold_54 (by decide) (fun c_19 => ?_) (fun c_19 => ?_)
          · have hf := z_it c_19 hf
            exact J_66  S_10 _ _ _ hf hP hS (lv_sub hl [] rfl)
          · have hf := z_if c_19 hf
            refine lv_aload_n hx hb dX4_standAsTold_57 rfl (lv_at hl 1 rfl) ?_
            refine va_get (D := D) (ci := 4) (v := .ref (ad 136)) (C := RX4) (T := TX4) (N := 14) hx hb hts k2 hown hK hP 128 (zX_128 cy ad S_10) rfl 12 (by decide) k9 (fun _ h9 => h9) rfl dX4_standAsTold_58 ?_
            refine lv_iload_n hx hb dX4_standAsTold_61 rfl (lv_at hl 0 rfl) ?_
            obtain ⟨h_12, hf⟩ := z_ix hf
            refine z_zald hx hb hK hP 136 2 (zX_136 cy ad S_10) rfl h_12 (k := (x_8.toNatClampNeg)) rfl dX4_standAsTold_62 ?_
            refine lv_if_eq (tgt := 68) hx hb dX4_standAsTold_63 (by decide) (fun c_18 => ?_) (fun c_18 => ?_)
            · have hf := z_it c_18 hf
              refine lv_aload_n hx hb dX4_standAsTold_68 rfl (lv_at hl 1 rfl) ?_
              refine va_get (D := D) (ci := 4) (v := .ref (ad 136)) (C := RX4) (T := TX4) (N := 14) hx hb hts k2 hown hK hP 128 (zX_128 cy ad S_10) rfl 12 (by decide) k9 (fun _ h9 => h9) rfl dX4_standAsTold_69 ?_
              refine lv_iload_n hx hb dX4_standAsTold_72 rfl (lv_at hl 0 rfl) ?_
              refine lv_iconst (v := 1) hx hb dX4_standAsTold_73 (by decide) ?_
              obtain ⟨h_13, hf⟩ := z_ix hf
              refine z_zast hx hb hK hP (hD S_10) hS 136 2 (zX_136 cy ad S_10) rfl h_13 (k := (x_8.toNatClampNeg)) rfl rfl dX4_standAsTold_74 (fun H locs hP hS => ?_)
              obtain ⟨S_14, eS_14, hf⟩ := z_nm hf
              have hP := zW_putI hP eS_14 (by decide) rfl
              refine lv_aload_n hx hb dX4_standAsTold_75 rfl (lv_at hl 1 rfl) ?_
              refine va_get (D := D) (ci := 4) (v := .ref (ad 129)) (C := RX4) (T := TX4) (N := 14) hx hb hts k2 hown hK hP 128 (zX_128 cy ad S_14) rfl 1 (by decide) k10 (fun _ h9 => h9) rfl dX4_standAsTold_76 ?_
              refine lv_iload_n hx hb dX4_standAsTold_79 rfl (lv_at hl 3 rfl) ?_
              refine lv_iload_n hx hb dX4_standAsTold_80 rfl (lv_at hl 0 rfl) ?_
              obtain ⟨h_15, hf⟩ := z_ix hf
              refine z_iast hx hb hK hP (hD S_14) hS 129 0 (zX_129 cy ad S_14) rfl h_15 (k := (x_5.toNatClampNeg)) rfl dX4_standAsTold_81 (fun H locs hP hS => ?_)
              obtain ⟨S_16, eS_16, hf⟩ := z_nm hf
              have hP := zW_putI hP eS_16 (by decide) rfl
              obtain ⟨x_17, ex_17, hf⟩ := z_nm hf
              refine lv_iinc (v := x_17) (lv' := [(2, .int x_17), (3, .int x_8), (0, .ref (ad 128)), (1, .ref (ad 1))]) hx hb dX4_standAsTold_82 hl (k := 3) rfl (by rw [ex_17]; rfl) (by decide) rfl (fun ls hl => ?_)
              refine lv_goto (tgt := 25) hx hb dX4_standAsTold_85 (by decide) ?_
              exact ih_25 x_17 S_16 _ _ _ hf hP hS (lv_sub hl [2, 3, 0] rfl)
            · have hf := z_if c_18 hf
              exact J_66  S_10 _ _ _ hf hP hS (lv_sub hl [] rfl)
    exact L_25 zFU (0 : Int32) S_2 _ _ _ hf hP hS (lv_sub hl [1, 2, 0] rfl)
  · have hf := z_if c_21 hf
    refine lv_iconst (v := 0) hx hb dX4_standAsTold_17 (by decide) ?_
    obtain ⟨h1, h2⟩ := z_s2 hf
    subst h1 h2
    exact hret _ _ _ _ rfl hP hS dX4_standAsTold_18
def fx_Lineup_woodOf (S_0 : zSt) (a_1 : Int32) (a_2 : Int32) : Option (Int32 × zSt) :=
  zck (zix a_1 9) <|
  znm ((S_0.1 6 (a_1.toNatClampNeg)) - a_2) fun x_2 =>
  znm (S_0.1 19 0) fun x_3 =>
  zck (zix a_1 9) <|
  znm (fun (x_5 : Int32) (S_6 : zSt) =>
  some (x_5, S_6)) fun j_57 =>
  znm (fun (S_7 : zSt) =>
  j_57 (0 : Int32) S_7) fun j_44 =>
  if (S_0.1 134 (a_1.toNatClampNeg)) = 0 then (
  j_44  S_0) else (
  if x_2 ≤ 0 then (
  j_44  S_0) else (
  if 0 < x_3 then (
  zck (znz x_3) <|
  j_57 (((x_2 + x_3) - (1 : Int32)) / x_3) S_0) else (
  j_44  S_0)))
set_option maxHeartbeats 4000000 in
set_option maxRecDepth 100000 in
theorem cx_Lineup_woodOf (l : Launch) (D : va_G) (K : (Nat → Nat) × (Nat → Nat)) (cy : Nat → ClassId) (ad : Nat → Nat) (S_0 : zSt) (a_1 : Int32) (a_2 : Int32) (ro : Int32) (So : zSt) (hf : fx_Lineup_woodOf S_0 a_1 a_2 = some (ro, So)) : zMI l yX4_woodOf (zws yX4_woodOf cX4_woodOf 5 (Option.some .int)) ({ frames := 0, cells := 0, slots := 0, locals := 0 }) D (zTy cy) K (zX cy ad) [.ref (ad 128), .int a_1, .int a_2] S_0 ro So := by
  refine z_metI (own := RX4) (lv := [(0, .ref (ad 128)), (1, .int a_1), (2, .int a_2)]) (by decide) rfl rfl (Nat.le_of_ble_eq_true rfl) rfl ?_
  intro p e s m below meth c A Q X hK hE hD hA hret hP hS ls hl
  obtain ⟨hx, hb, hml, hown, hts⟩ := id X
  have k0 := (fun w h => List.mem_cons_of_mem _ (zFX4 w h) : ∀ w ∈ u_ws RX4 TX4 14, w ∈ zws yX4_woodOf cX4_woodOf 5 (Option.some .int))
  have k1 := hts _ (List.mem_cons_of_mem _ wt_2_108)
  have k2 := (fun w h => List.mem_cons_of_mem _ (zFX0 w h) : ∀ w ∈ u_ws RX0 TX0 6, w ∈ zws yX4_woodOf cX4_woodOf 5 (Option.some .int))
  have k3 := hts _ (List.mem_cons_of_mem _ wt_1_234)
  have k4 := (fun w h => List.mem_cons_of_mem _ (zFX2 w h) : ∀ w ∈ u_ws RX2 TX2 7, w ∈ zws yX4_woodOf cX4_woodOf 5 (Option.some .int))
  have k5 := hts _ (List.mem_cons_of_mem _ wt_1_73)
  have k6 := hts _ (List.mem_cons_of_mem _ wt_2_1)
  have k7 := hts _ (List.mem_cons_of_mem _ wt_2_124)
  refine lv_aload_n hx hb dX4_woodOf_0 rfl (lv_at hl 0 rfl) ?_
  refine va_get (D := D) (ci := 4) (v := .ref (ad 3)) (C := RX4) (T := TX4) (N := 14) hx hb hts k0 hown hK hP 128 (zX_128 cy ad S_0) rfl 0 (by decide) k1 (fun _ h9 => h9) rfl dX4_woodOf_1 ?_
  refine va_get (D := D) (ci := 0) (v := .ref (ad 4)) (C := RX0) (T := TX0) (N := 6) hx hb hts k2 hown hK hP 3 (zX_3 cy ad S_0) rfl 0 (by decide) k3 (fun _ h9 => h9) rfl dX4_woodOf_4 ?_
  refine va_get (D := D) (ci := 2) (v := .ref (ad 6)) (C := RX2) (T := TX2) (N := 7) hx hb hts k4 hown hK hP 4 (zX_4 cy ad S_0) rfl 2 (by decide) k5 (fun _ h9 => h9) rfl dX4_woodOf_7 ?_
  refine lv_iload_n hx hb dX4_woodOf_10 rfl (lv_at hl 1 rfl) ?_
  obtain ⟨h_1, hf⟩ := z_ix hf
  refine z_iald hx hb hK hP 6 0 (zX_6 cy ad S_0) rfl h_1 (k := (a_1.toNatClampNeg)) rfl dX4_woodOf_11 ?_
  refine lv_iload_n hx hb dX4_woodOf_12 rfl (lv_at hl 2 rfl) ?_
  refine lv_isub hx hb dX4_woodOf_13 ?_
  refine lv_topi (fun x_2 ex_2 => ?_)
  have hf := z_nv ex_2 hf
  refine lv_istore_n (lv' := [(3, .int x_2), (0, .ref (ad 128)), (1, .int a_1), (2, .int a_2)]) hx hb dX4_woodOf_14 rfl hl (by decide) rfl (fun ls hl => ?_)
  refine lv_aload_n hx hb dX4_woodOf_15 rfl (lv_at hl 1 rfl) ?_
  refine va_get (D := D) (ci := 4) (v := .ref (ad 3)) (C := RX4) (T := TX4) (N := 14) hx hb hts k0 hown hK hP 128 (zX_128 cy ad S_0) rfl 0 (by decide) k1 (fun _ h9 => h9) rfl dX4_woodOf_16 ?_
  refine va_get (D := D) (ci := 0) (v := .ref (ad 19)) (C := RX0) (T := TX0) (N := 6) hx hb hts k2 hown hK hP 3 (zX_3 cy ad S_0) rfl 2 (by decide) k6 (fun _ h9 => h9) rfl dX4_woodOf_19 ?_
  refine lv_iconst (v := 0) hx hb dX4_woodOf_22 (by decide) ?_
  refine z_iald hx hb hK hP 19 0 (zX_19 cy ad S_0) rfl (vp_in_iff.mpr (by decide)) (k := 0) (by decide) dX4_woodOf_23 ?_
  refine lv_topi (fun x_3 ex_3 => ?_)
  have hf := z_nv ex_3 hf
  refine lv_istore (lv' := [(4, .int x_3), (3, .int x_2), (0, .ref (ad 128)), (1, .int a_1), (2, .int a_2)]) hx hb dX4_woodOf_24 hl (by decide) rfl (fun ls hl => ?_)
  refine lv_aload_n hx hb dX4_woodOf_26 rfl (lv_at hl 2 rfl) ?_
  refine va_get (D := D) (ci := 4) (v := .ref (ad 134)) (C := RX4) (T := TX4) (N := 14) hx hb hts k0 hown hK hP 128 (zX_128 cy ad S_0) rfl 10 (by decide) k7 (fun _ h9 => h9) rfl dX4_woodOf_27 ?_
  refine lv_iload_n hx hb dX4_woodOf_30 rfl (lv_at hl 3 rfl) ?_
  obtain ⟨h_4, hf⟩ := z_ix hf
  refine z_iald hx hb hK hP 134 0 (zX_134 cy ad S_0) rfl h_4 (k := (a_1.toNatClampNeg)) rfl dX4_woodOf_31 ?_
  obtain ⟨j_57, ej_57, hf⟩ := z_nm hf
  have J_57 : ∀ (x_5 : Int32) (S_6 : zSt) (H : Heap) (locs : List Loc) (ls : Array Slot), j_57 x_5 S_6 = some (ro, So) → va_P D vwCl (zX cy ad S_6) H → va_S A s.heap H locs → lv_has ls 5 [] → W p l e ({ frames := 0, cells := 0, slots := 0, locals := 0 }) s m ([.ref (ad 128), .int a_1, .int a_2] : List Value).toArray below meth c H locs 0 0 Q (F0 m 57 ls [.int x_5]) := by
    intro x_5 S_6 H locs ls hf hP hS hl
    have hf := z_e2 ej_57 hf
    obtain ⟨h1, h2⟩ := z_s2 hf
    subst h1 h2
    exact hret _ _ _ _ hP hS dX4_woodOf_57
  obtain ⟨j_44, ej_44, hf⟩ := z_nm hf
  have J_44 : ∀ (S_7 : zSt) (H : Heap) (locs : List Loc) (ls : Array Slot), j_44  S_7 = some (ro, So) → va_P D vwCl (zX cy ad S_7) H → va_S A s.heap H locs → lv_has ls 5 [] → W p l e ({ frames := 0, cells := 0, slots := 0, locals := 0 }) s m ([.ref (ad 128), .int a_1, .int a_2] : List Value).toArray below meth c H locs 0 0 Q (F0 m 44 ls []) := by
    intro  S_7 H locs ls hf hP hS hl
    have hf := z_e1 ej_44 hf
    refine lv_iconst (v := 0) hx hb dX4_woodOf_44 (by decide) ?_
    refine lv_goto (tgt := 57) hx hb dX4_woodOf_45 (by decide) ?_
    exact J_57 (0 : Int32) S_7 _ _ _ hf hP hS (lv_sub hl [] rfl)
  refine lv_if_eq (tgt := 44) hx hb dX4_woodOf_32 (by decide) (fun c_11 => ?_) (fun c_11 => ?_)
  · have hf := z_it c_11 hf
    exact J_44  S_0 _ _ _ hf hP hS (lv_sub hl [] rfl)
  · have hf := z_if c_11 hf
    refine lv_iload_n hx hb dX4_woodOf_35 rfl (lv_at hl 1 rfl) ?_
    refine lv_if_le (tgt := 44) hx hb dX4_woodOf_36 (by decide) (fun c_10 => ?_) (fun c_10 => ?_)
    · have hf := z_it c_10 hf
      exact J_44  S_0 _ _ _ hf hP hS (lv_sub hl [] rfl)
    · have hf := z_if c_10 hf
      refine lv_iload hx hb dX4_woodOf_39 (lv_at hl 0 rfl) ?_
      refine lv_if_gt (tgt := 48) hx hb dX4_woodOf_41 (by decide) (fun c_9 => ?_) (fun c_9 => ?_)
      · have hf := z_it c_9 hf
        refine lv_iload_n hx hb dX4_woodOf_48 rfl (lv_at hl 1 rfl) ?_
        refine lv_iload hx hb dX4_woodOf_49 (lv_at hl 0 rfl) ?_
        refine lv_iadd hx hb dX4_woodOf_51 ?_
        refine lv_iconst (v := 1) hx hb dX4_woodOf_52 (by decide) ?_
        refine lv_isub hx hb dX4_woodOf_53 ?_
        refine lv_iload hx hb dX4_woodOf_54 (lv_at hl 0 rfl) ?_
        obtain ⟨h_8, hf⟩ := z_nz hf
        refine lv_idiv hx hb dX4_woodOf_56 h_8 ?_
        exact J_57 (((x_2 + x_3) - (1 : Int32)) / x_3) S_0 _ _ _ hf hP hS (lv_sub hl [] rfl)
      · have hf := z_if c_9 hf
        exact J_44  S_0 _ _ _ hf hP hS (lv_sub hl [] rfl)
def fx_Lineup_heatAfter (S_0 : zSt) (a_1 : Int32) (a_2 : Int32) : Option (Int32 × zSt) :=
  zck (zix a_1 9) <|
  if (S_0.1 134 (a_1.toNatClampNeg)) = 0 then (
  some (a_2, S_0)) else (
  zbd (fx_Lineup_woodOf S_0 a_1 a_2) fun r_2 S_3 =>
  znm (a_2 + (r_2 * (S_3.1 19 0))) fun x_5 =>
  zck (zix a_1 9) <|
  some (if (0 : Int32) < (x_5 - ((S_3.1 19 1) * (S_3.1 7 (a_1.toNatClampNeg)))) then (x_5 - ((S_3.1 19 1) * (S_3.1 7 (a_1.toNatClampNeg)))) else (0 : Int32), S_3))
set_option maxHeartbeats 4000000 in
set_option maxRecDepth 100000 in
theorem cx_Lineup_heatAfter (l : Launch) (D : va_G) (K : (Nat → Nat) × (Nat → Nat)) (cy : Nat → ClassId) (ad : Nat → Nat) (S_0 : zSt) (a_1 : Int32) (a_2 : Int32) (ro : Int32) (So : zSt) (hf : fx_Lineup_heatAfter S_0 a_1 a_2 = some (ro, So)) : zMI l yX4_heatAfter (zws yX4_heatAfter cX4_heatAfter 4 (Option.some .int)) ({ frames := 1, cells := 0, slots := 0, locals := 200 }) D (zTy cy) K (zX cy ad) [.ref (ad 128), .int a_1, .int a_2] S_0 ro So := by
  refine z_metI (own := RX4) (lv := [(0, .ref (ad 128)), (1, .int a_1), (2, .int a_2)]) (by decide) rfl rfl (Nat.le_of_ble_eq_true rfl) rfl ?_
  intro p e s m below meth c A Q X hK hE hD hA hret hP hS ls hl
  obtain ⟨hx, hb, hml, hown, hts⟩ := id X
  have k0 := (fun w h => List.mem_cons_of_mem _ (zFX4 w h) : ∀ w ∈ u_ws RX4 TX4 14, w ∈ zws yX4_heatAfter cX4_heatAfter 4 (Option.some .int))
  have k1 := hts _ (List.mem_cons_of_mem _ wt_2_124)
  have k2 := hts _ (List.mem_cons_of_mem _ wt_2_108)
  have k3 := (fun w h => List.mem_cons_of_mem _ (zFX0 w h) : ∀ w ∈ u_ws RX0 TX0 6, w ∈ zws yX4_heatAfter cX4_heatAfter 4 (Option.some .int))
  have k4 := hts _ (List.mem_cons_of_mem _ wt_2_1)
  have k5 := hts _ (List.mem_cons_of_mem _ wt_1_234)
  have k6 := (fun w h => List.mem_cons_of_mem _ (zFX2 w h) : ∀ w ∈ u_ws RX2 TX2 7, w ∈ zws yX4_heatAfter cX4_heatAfter 4 (Option.some .int))
  have k7 := hts _ (List.mem_cons_of_mem _ wt_1_77)
  have k8 := hts _ (List.mem_cons_of_mem _ wt_4_80)
  have k9 := hts _ (List.mem_cons_of_mem _ wt_3_122)
  have k10 := hts _ (List.mem_cons_of_mem _ wt_1_18)
  have k11 := hts _ (List.mem_cons_of_mem _ wt_3_123)
  refine lv_aload_n hx hb dX4_heatAfter_0 rfl (lv_at hl 0 rfl) ?_
  refine va_get (D := D) (ci := 4) (v := .ref (ad 134)) (C := RX4) (T := TX4) (N := 14) hx hb hts k0 hown hK hP 128 (zX_128 cy ad S_0) rfl 10 (by decide) k1 (fun _ h9 => h9) rfl dX4_heatAfter_1 ?_
  refine lv_iload_n hx hb dX4_heatAfter_4 rfl (lv_at hl 1 rfl) ?_
  obtain ⟨h_1, hf⟩ := z_ix hf
  refine z_iald hx hb hK hP 134 0 (zX_134 cy ad S_0) rfl h_1 (k := (a_1.toNatClampNeg)) rfl dX4_heatAfter_5 ?_
  refine lv_if_ne (tgt := 11) hx hb dX4_heatAfter_6 (by decide) (fun c_7 => ?_) (fun c_7 => ?_)
  · have hf := z_if c_7 hf
    refine lv_iload_n hx hb dX4_heatAfter_11 rfl (lv_at hl 2 rfl) ?_
    refine lv_aload_n hx hb dX4_heatAfter_12 rfl (lv_at hl 0 rfl) ?_
    refine lv_iload_n hx hb dX4_heatAfter_13 rfl (lv_at hl 1 rfl) ?_
    refine lv_iload_n hx hb dX4_heatAfter_14 rfl (lv_at hl 2 rfl) ?_
    obtain ⟨r_2, S_3, h_4, hf⟩ := z_bd hf
    refine z_cVI (As := [.int a_1, .int a_2]) (rest := [.int a_2]) X hK hE hD hA hP hS (cx_Lineup_woodOf l D K cy ad S_0 _ _ _ _ h_4) (cwV 2 hts (z_gV wt_4_72 wt_4_74 wp_29 wt_1_11 wt_4_75) rfl rfl rfl ⟨rfl, yd_yX4_woodOf⟩ ⟨Nat.le_of_ble_eq_true rfl, Nat.le_of_ble_eq_true rfl⟩) (va_recv hK hP (ci := 4) (q0 := 128) rfl (zX_128 cy ad S_0)) hl.1 rfl rfl (Nat.le_of_ble_eq_true rfl) dX4_heatAfter_15 (fun H locs hP hS => ?_)
    refine lv_aload_n hx hb dX4_heatAfter_18 rfl (lv_at hl 0 rfl) ?_
    refine va_get (D := D) (ci := 4) (v := .ref (ad 3)) (C := RX4) (T := TX4) (N := 14) hx hb hts k0 hown hK hP 128 (zX_128 cy ad S_3) rfl 0 (by decide) k2 (fun _ h9 => h9) rfl dX4_heatAfter_19 ?_
    refine va_get (D := D) (ci := 0) (v := .ref (ad 19)) (C := RX0) (T := TX0) (N := 6) hx hb hts k3 hown hK hP 3 (zX_3 cy ad S_3) rfl 2 (by decide) k4 (fun _ h9 => h9) rfl dX4_heatAfter_22 ?_
    refine lv_iconst (v := 0) hx hb dX4_heatAfter_25 (by decide) ?_
    refine z_iald hx hb hK hP 19 0 (zX_19 cy ad S_3) rfl (vp_in_iff.mpr (by decide)) (k := 0) (by decide) dX4_heatAfter_26 ?_
    refine lv_imul hx hb dX4_heatAfter_27 ?_
    refine lv_iadd hx hb dX4_heatAfter_28 ?_
    refine lv_topi (fun x_5 ex_5 => ?_)
    have hf := z_nv ex_5 hf
    refine lv_istore_n (lv' := [(3, .int x_5), (0, .ref (ad 128)), (1, .int a_1), (2, .int a_2)]) hx hb dX4_heatAfter_29 rfl hl (by decide) rfl (fun ls hl => ?_)
    refine lv_iconst (v := 0) hx hb dX4_heatAfter_30 (by decide) ?_
    refine lv_iload_n hx hb dX4_heatAfter_31 rfl (lv_at hl 0 rfl) ?_
    refine lv_aload_n hx hb dX4_heatAfter_32 rfl (lv_at hl 1 rfl) ?_
    refine va_get (D := D) (ci := 4) (v := .ref (ad 3)) (C := RX4) (T := TX4) (N := 14) hx hb hts k0 hown hK hP 128 (zX_128 cy ad S_3) rfl 0 (by decide) k2 (fun _ h9 => h9) rfl dX4_heatAfter_33 ?_
    refine va_get (D := D) (ci := 0) (v := .ref (ad 19)) (C := RX0) (T := TX0) (N := 6) hx hb hts k3 hown hK hP 3 (zX_3 cy ad S_3) rfl 2 (by decide) k4 (fun _ h9 => h9) rfl dX4_heatAfter_36 ?_
    refine lv_iconst (v := 1) hx hb dX4_heatAfter_39 (by decide) ?_
    refine z_iald hx hb hK hP 19 0 (zX_19 cy ad S_3) rfl (vp_in_iff.mpr (by decide)) (k := 1) (by decide) dX4_heatAfter_40 ?_
    refine lv_aload_n hx hb dX4_heatAfter_41 rfl (lv_at hl 1 rfl) ?_
    refine va_get (D := D) (ci := 4) (v := .ref (ad 3)) (C := RX4) (T := TX4) (N := 14) hx hb hts k0 hown hK hP 128 (zX_128 cy ad S_3) rfl 0 (by decide) k2 (fun _ h9 => h9) rfl dX4_heatAfter_42 ?_
    refine va_get (D := D) (ci := 0) (v := .ref (ad 4)) (C := RX0) (T := TX0) (N := 6) hx hb hts k3 hown hK hP 3 (zX_3 cy ad S_3) rfl 0 (by decide) k5 (fun _ h9 => h9) rfl dX4_heatAfter_45 ?_
    refine va_get (D := D) (ci := 2) (v := .ref (ad 7)) (C := RX2) (T := TX2) (N := 7) hx hb hts k6 hown hK hP 4 (zX_4 cy ad S_3) rfl 3 (by decide) k7 (fun _ h9 => h9) rfl dX4_heatAfter_48 ?_
    refine lv_iload_n hx hb dX4_heatAfter_51 rfl (lv_at hl 2 rfl) ?_
    obtain ⟨h_6, hf⟩ := z_ix hf
    refine z_iald hx hb hK hP 7 0 (zX_7 cy ad S_3) rfl h_6 (k := (a_1.toNatClampNeg)) rfl dX4_heatAfter_52 ?_
    refine lv_imul hx hb dX4_heatAfter_53 ?_
    refine lv_isub hx hb dX4_heatAfter_54 ?_
    refine va_mmax hx hb (by rw [hml]; exact hl.1.symm) hown k8 k9 k10 k11 (Nat.le_of_ble_eq_true rfl) (Nat.le_of_ble_eq_true rfl) (Nat.zero_le _) (Nat.zero_le _) dX4_heatAfter_55 ?_
    obtain ⟨h1, h2⟩ := z_s2 hf
    subst h1 h2
    exact hret _ _ _ _ hP hS dX4_heatAfter_58
  · have hf := z_it c_7 hf
    refine lv_iload_n hx hb dX4_heatAfter_9 rfl (lv_at hl 2 rfl) ?_
    obtain ⟨h1, h2⟩ := z_s2 hf
    subst h1 h2
    exact hret _ _ _ _ hP hS dX4_heatAfter_10
def fx_Lineup_bake (S_0 : zSt) (a_1 : Int32) (a_2 : Int32) : Option (Unit × zSt) :=
  zck (zix a_1 9) <|
  znm (S_0.1 129 (a_1.toNatClampNeg)) fun x_2 =>
  zck (zix x_2 9) <|
  zck (zix a_1 10) <|
  zbd (fx_Lineup_woodOf S_0 x_2 (S_0.1 135 (a_1.toNatClampNeg))) fun r_5 S_6 =>
  zck (zix x_2 9) <|
  znm (zpI S_6 14 (x_2.toNatClampNeg) ((S_0.1 14 (x_2.toNatClampNeg)) + r_5)) fun S_9 =>
  zck (zix a_1 10) <|
  zbd (fx_Lineup_heatAfter S_9 x_2 (S_9.1 135 (a_1.toNatClampNeg))) fun r_11 S_12 =>
  zck (zix (a_1 + (1 : Int32)) 10) <|
  znm (zpI S_12 135 ((a_1 + (1 : Int32)).toNatClampNeg) r_11) fun S_15 =>
  zck (zix x_2 9) <|
  zck (zix x_2 9) <|
  zck (zix x_2 9) <|
  znm (zpI S_15 12 (x_2.toNatClampNeg) ((S_15.1 12 (x_2.toNatClampNeg)) - (S_15.1 134 (x_2.toNatClampNeg)))) fun S_19 =>
  zck (zix x_2 9) <|
  znm (fun (x_21 : Int32) (S_22 : zSt) =>
  zck (zix x_2 9) <|
  znm (zpI S_22 17 (x_2.toNatClampNeg) x_21) fun S_24 =>
  if a_2 = 0 then (
  znm (fun (x_25 : Int32) (S_26 : zSt) =>
  zck (zix x_2 9) <|
  zck (zix x_2 9) <|
  zck (zix x_2 9) <|
  znm (zpI S_26 13 (x_2.toNatClampNeg) ((S_26.1 13 (x_2.toNatClampNeg)) + ((S_26.1 134 (x_2.toNatClampNeg)) - x_25))) fun S_30 =>
  znm (fun (S_31 : zSt) =>
  some ((), S_31)) fun j_188 =>
  if a_1 ≤ 0 then (
  j_188  S_30) else (
  zck (zix (a_1 - (1 : Int32)) 9) <|
  zck (zix (S_30.1 129 ((a_1 - (1 : Int32)).toNatClampNeg)) 9) <|
  zck (zix (S_30.1 129 ((a_1 - (1 : Int32)).toNatClampNeg)) 9) <|
  znm (zpI S_30 13 ((S_30.1 129 ((a_1 - (1 : Int32)).toNatClampNeg)).toNatClampNeg) ((S_30.1 13 ((S_30.1 129 ((a_1 - (1 : Int32)).toNatClampNeg)).toNatClampNeg)) + x_25)) fun S_35 =>
  j_188  S_35)) fun j_144 =>
  if a_1 ≤ 0 then (
  j_144 (0 : Int32) S_24) else (
  zck (zix x_2 9) <|
  j_144 ((S_24.1 134 (x_2.toNatClampNeg)) / (9 : Int32)) S_24)) else (
  zck (zix x_2 9) <|
  znm (zpI S_24 11 2 ((S_24.1 11 2) + (S_24.1 134 (x_2.toNatClampNeg)))) fun S_40 =>
  some ((), S_40))) fun j_104 =>
  if (S_19.1 134 (x_2.toNatClampNeg)) = 0 then (
  zck (zix x_2 9) <|
  j_104 ((S_19.1 17 (x_2.toNatClampNeg)) + (1 : Int32)) S_19) else (
  j_104 (0 : Int32) S_19)
set_option maxHeartbeats 4000000 in
set_option maxRecDepth 100000 in
theorem cx_Lineup_bake (l : Launch) (D : va_G) (K : (Nat → Nat) × (Nat → Nat)) (cy : Nat → ClassId) (ad : Nat → Nat) (S_0 : zSt) (a_1 : Int32) (a_2 : Int32) (So : zSt) (hf : fx_Lineup_bake S_0 a_1 a_2 = some ((), So)) : zMV l yX4_bake (zws yX4_bake cX4_bake 6 none) ({ frames := 2, cells := 0, slots := 0, locals := 223 }) D (zTy cy) K (zX cy ad) [.ref (ad 128), .int a_1, .int a_2] S_0 So := by
  refine z_metV (own := RX4) (lv := [(0, .ref (ad 128)), (1, .int a_1), (2, .int a_2)]) (by decide) rfl rfl (Nat.le_of_ble_eq_true rfl) rfl ?_
  intro p e s m below meth c A Q X hK hE hD hA hret hP hS ls hl
  obtain ⟨hx, hb, hml, hown, hts⟩ := id X
  have k0 := (fun w h => List.mem_cons_of_mem _ (zFX4 w h) : ∀ w ∈ u_ws RX4 TX4 14, w ∈ zws yX4_bake cX4_bake 6 none)
  have k1 := hts _ (List.mem_cons_of_mem _ wt_2_108)
  have k2 := (fun w h => List.mem_cons_of_mem _ (zFX0 w h) : ∀ w ∈ u_ws RX0 TX0 6, w ∈ zws yX4_bake cX4_bake 6 none)
  have k3 := hts _ (List.mem_cons_of_mem _ wt_1_238)
  have k4 := hts _ (List.mem_cons_of_mem _ wt_2_109)
  have k5 := (fun w h => List.mem_cons_of_mem _ (zFX10 w h) : ∀ w ∈ u_ws RX10 TX10 12, w ∈ zws yX4_bake cX4_bake 6 none)
  have k6 := hts _ (List.mem_cons_of_mem _ wt_1_122)
  have k7 := hts _ (List.mem_cons_of_mem _ wt_2_125)
  have k8 := hts _ (List.mem_cons_of_mem _ wt_1_116)
  have k9 := hts _ (List.mem_cons_of_mem _ wt_2_124)
  have k10 := hts _ (List.mem_cons_of_mem _ wt_1_131)
  have k11 := hts _ (List.mem_cons_of_mem _ wt_1_119)
  have k12 := hts _ (List.mem_cons_of_mem _ wt_1_113)
  refine lv_aload_n hx hb dX4_bake_0 rfl (lv_at hl 0 rfl) ?_
  refine va_get (D := D) (ci := 4) (v := .ref (ad 3)) (C := RX4) (T := TX4) (N := 14) hx hb hts k0 hown hK hP 128 (zX_128 cy ad S_0) rfl 0 (by decide) k1 (fun _ h9 => h9) rfl dX4_bake_1 ?_
  refine va_get (D := D) (ci := 0) (v := .ref (ad 11)) (C := RX0) (T := TX0) (N := 6) hx hb hts k2 hown hK hP 3 (zX_3 cy ad S_0) rfl 1 (by decide) k3 (fun _ h9 => h9) rfl dX4_bake_4 ?_
  refine lv_astore_n (lv' := [(3, .ref (ad 11)), (0, .ref (ad 128)), (1, .int a_1), (2, .int a_2)]) hx hb dX4_bake_7 rfl hl (by decide) rfl (fun ls hl => ?_)
  refine lv_aload_n hx hb dX4_bake_8 rfl (lv_at hl 1 rfl) ?_
  refine va_get (D := D) (ci := 4) (v := .ref (ad 129)) (C := RX4) (T := TX4) (N := 14) hx hb hts k0 hown hK hP 128 (zX_128 cy ad S_0) rfl 1 (by decide) k4 (fun _ h9 => h9) rfl dX4_bake_9 ?_
  refine lv_iload_n hx hb dX4_bake_12 rfl (lv_at hl 2 rfl) ?_
  obtain ⟨h_1, hf⟩ := z_ix hf
  refine z_iald hx hb hK hP 129 0 (zX_129 cy ad S_0) rfl h_1 (k := (a_1.toNatClampNeg)) rfl dX4_bake_13 ?_
  refine lv_topi (fun x_2 ex_2 => ?_)
  have hf := z_nv ex_2 hf
  refine lv_istore (lv' := [(4, .int x_2), (3, .ref (ad 11)), (0, .ref (ad 128)), (1, .int a_1), (2, .int a_2)]) hx hb dX4_bake_14 hl (by decide) rfl (fun ls hl => ?_)
  refine lv_aload_n hx hb dX4_bake_16 rfl (lv_at hl 1 rfl) ?_
  refine va_get (D := D) (ci := 10) (v := .ref (ad 14)) (C := RX10) (T := TX10) (N := 12) hx hb hts k5 hown hK hP 11 (zX_11 cy ad S_0) rfl 5 (by decide) k6 (fun _ h9 => h9) rfl dX4_bake_17 ?_
  refine lv_iload hx hb dX4_bake_20 (lv_at hl 0 rfl) ?_
  refine lv_dup2_11 hx hb dX4_bake_22 rfl rfl ?_
  obtain ⟨h_3, hf⟩ := z_ix hf
  refine z_iald hx hb hK hP 14 0 (zX_14 cy ad S_0) rfl h_3 (k := (x_2.toNatClampNeg)) rfl dX4_bake_23 ?_
  refine lv_aload_n hx hb dX4_bake_24 rfl (lv_at hl 2 rfl) ?_
  refine lv_iload hx hb dX4_bake_25 (lv_at hl 0 rfl) ?_
  refine lv_aload_n hx hb dX4_bake_27 rfl (lv_at hl 2 rfl) ?_
  refine va_get (D := D) (ci := 4) (v := .ref (ad 135)) (C := RX4) (T := TX4) (N := 14) hx hb hts k0 hown hK hP 128 (zX_128 cy ad S_0) rfl 11 (by decide) k7 (fun _ h9 => h9) rfl dX4_bake_28 ?_
  refine lv_iload_n hx hb dX4_bake_31 rfl (lv_at hl 3 rfl) ?_
  obtain ⟨h_4, hf⟩ := z_ix hf
  refine z_iald hx hb hK hP 135 0 (zX_135 cy ad S_0) rfl h_4 (k := (a_1.toNatClampNeg)) rfl dX4_bake_32 ?_
  obtain ⟨r_5, S_6, h_7, hf⟩ := z_bd hf
  refine z_cVI (As := [.int x_2, .int (S_0.1 135 (a_1.toNatClampNeg))]) (rest := [.int (S_0.1 14 (x_2.toNatClampNeg)), .int x_2, .ref (ad 14)]) X hK hE hD hA hP hS (cx_Lineup_woodOf l D K cy ad S_0 _ _ _ _ h_7) (cwV 2 hts (z_gV wt_4_72 wt_4_74 wp_29 wt_1_11 wt_4_75) rfl rfl rfl ⟨rfl, yd_yX4_woodOf⟩ ⟨Nat.le_of_ble_eq_true rfl, Nat.le_of_ble_eq_true rfl⟩) (va_recv hK hP (ci := 4) (q0 := 128) rfl (zX_128 cy ad S_0)) hl.1 rfl rfl (Nat.le_of_ble_eq_true rfl) dX4_bake_33 (fun H locs hP hS => ?_)
  refine lv_iadd hx hb dX4_bake_36 ?_
  obtain ⟨h_8, hf⟩ := z_ix hf
  refine z_iast hx hb hK hP (hD S_6) hS 14 0 (zX_14 cy ad S_6) rfl h_8 (k := (x_2.toNatClampNeg)) rfl dX4_bake_37 (fun H locs hP hS => ?_)
  obtain ⟨S_9, eS_9, hf⟩ := z_nm hf
  have hP := zW_putI hP eS_9 (by decide) rfl
  refine lv_aload_n hx hb dX4_bake_38 rfl (lv_at hl 2 rfl) ?_
  refine va_get (D := D) (ci := 4) (v := .ref (ad 135)) (C := RX4) (T := TX4) (N := 14) hx hb hts k0 hown hK hP 128 (zX_128 cy ad S_9) rfl 11 (by decide) k7 (fun _ h9 => h9) rfl dX4_bake_39 ?_
  refine lv_iload_n hx hb dX4_bake_42 rfl (lv_at hl 3 rfl) ?_
  refine lv_iconst (v := 1) hx hb dX4_bake_43 (by decide) ?_
  refine lv_iadd hx hb dX4_bake_44 ?_
  refine lv_aload_n hx hb dX4_bake_45 rfl (lv_at hl 2 rfl) ?_
  refine lv_iload hx hb dX4_bake_46 (lv_at hl 0 rfl) ?_
  refine lv_aload_n hx hb dX4_bake_48 rfl (lv_at hl 2 rfl) ?_
  refine va_get (D := D) (ci := 4) (v := .ref (ad 135)) (C := RX4) (T := TX4) (N := 14) hx hb hts k0 hown hK hP 128 (zX_128 cy ad S_9) rfl 11 (by decide) k7 (fun _ h9 => h9) rfl dX4_bake_49 ?_
  refine lv_iload_n hx hb dX4_bake_52 rfl (lv_at hl 3 rfl) ?_
  obtain ⟨h_10, hf⟩ := z_ix hf
  refine z_iald hx hb hK hP 135 0 (zX_135 cy ad S_9) rfl h_10 (k := (a_1.toNatClampNeg)) rfl dX4_bake_53 ?_
  obtain ⟨r_11, S_12, h_13, hf⟩ := z_bd hf
  refine z_cVI (As := [.int x_2, .int (S_9.1 135 (a_1.toNatClampNeg))]) (rest := [.int (a_1 + (1 : Int32)), .ref (ad 135)]) X hK hE hD hA hP hS (cx_Lineup_heatAfter l D K cy ad S_9 _ _ _ _ h_13) (cwV 2 hts (z_gV wt_4_76 wt_4_78 wp_30 wt_1_11 wt_4_79) rfl rfl rfl ⟨rfl, yd_yX4_heatAfter⟩ ⟨Nat.le_of_ble_eq_true rfl, Nat.le_of_ble_eq_true rfl⟩) (va_recv hK hP (ci := 4) (q0 := 128) rfl (zX_128 cy ad S_9)) hl.1 rfl rfl (Nat.le_of_ble_eq_true rfl) dX4_bake_54 (fun H locs hP hS => ?_)
  obtain ⟨h_14, hf⟩ := z_ix hf
  refine z_iast hx hb hK hP (hD S_12) hS 135 0 (zX_135 cy ad S_12) rfl h_14 (k := ((a_1 + (1 : Int32)).toNatClampNeg)) rfl dX4_bake_57 (fun H locs hP hS => ?_)
  obtain ⟨S_15, eS_15, hf⟩ := z_nm hf
  have hP := zW_putI hP eS_15 (by decide) rfl
  refine lv_aload_n hx hb dX4_bake_58 rfl (lv_at hl 1 rfl) ?_
  refine va_get (D := D) (ci := 10) (v := .ref (ad 12)) (C := RX10) (T := TX10) (N := 12) hx hb hts k5 hown hK hP 11 (zX_11 cy ad S_15) rfl 3 (by decide) k8 (fun _ h9 => h9) rfl dX4_bake_59 ?_
  refine lv_iload hx hb dX4_bake_62 (lv_at hl 0 rfl) ?_
  refine lv_dup2_11 hx hb dX4_bake_64 rfl rfl ?_
  obtain ⟨h_16, hf⟩ := z_ix hf
  refine z_iald hx hb hK hP 12 0 (zX_12 cy ad S_15) rfl h_16 (k := (x_2.toNatClampNeg)) rfl dX4_bake_65 ?_
  refine lv_aload_n hx hb dX4_bake_66 rfl (lv_at hl 2 rfl) ?_
  refine va_get (D := D) (ci := 4) (v := .ref (ad 134)) (C := RX4) (T := TX4) (N := 14) hx hb hts k0 hown hK hP 128 (zX_128 cy ad S_15) rfl 10 (by decide) k9 (fun _ h9 => h9) rfl dX4_bake_67 ?_
  refine lv_iload hx hb dX4_bake_70 (lv_at hl 0 rfl) ?_
  obtain ⟨h_17, hf⟩ := z_ix hf
  refine z_iald hx hb hK hP 134 0 (zX_134 cy ad S_15) rfl h_17 (k := (x_2.toNatClampNeg)) rfl dX4_bake_72 ?_
  refine lv_isub hx hb dX4_bake_73 ?_
  obtain ⟨h_18, hf⟩ := z_ix hf
  refine z_iast hx hb hK hP (hD S_15) hS 12 0 (zX_12 cy ad S_15) rfl h_18 (k := (x_2.toNatClampNeg)) rfl dX4_bake_74 (fun H locs hP hS => ?_)
  obtain ⟨S_19, eS_19, hf⟩ := z_nm hf
  have hP := zW_putI hP eS_19 (by decide) rfl
  refine lv_aload_n hx hb dX4_bake_75 rfl (lv_at hl 1 rfl) ?_
  refine va_get (D := D) (ci := 10) (v := .ref (ad 17)) (C := RX10) (T := TX10) (N := 12) hx hb hts k5 hown hK hP 11 (zX_11 cy ad S_19) rfl 8 (by decide) k10 (fun _ h9 => h9) rfl dX4_bake_76 ?_
  refine lv_iload hx hb dX4_bake_79 (lv_at hl 0 rfl) ?_
  refine lv_aload_n hx hb dX4_bake_81 rfl (lv_at hl 2 rfl) ?_
  refine va_get (D := D) (ci := 4) (v := .ref (ad 134)) (C := RX4) (T := TX4) (N := 14) hx hb hts k0 hown hK hP 128 (zX_128 cy ad S_19) rfl 10 (by decide) k9 (fun _ h9 => h9) rfl dX4_bake_82 ?_
  refine lv_iload hx hb dX4_bake_85 (lv_at hl 0 rfl) ?_
  obtain ⟨h_20, hf⟩ := z_ix hf
  refine z_iald hx hb hK hP 134 0 (zX_134 cy ad S_19) rfl h_20 (k := (x_2.toNatClampNeg)) rfl dX4_bake_87 ?_
  obtain ⟨j_104, ej_104, hf⟩ := z_nm hf
  have J_104 : ∀ (x_21 : Int32) (S_22 : zSt) (H : Heap) (locs : List Loc) (ls : Array Slot), j_104 x_21 S_22 = some ((), So) → va_P D vwCl (zX cy ad S_22) H → va_S A s.heap H locs → lv_has ls 6 [(0, .ref (ad 128)), (1, .int a_1), (2, .int a_2), (3, .ref (ad 11)), (4, .int x_2)] → W p l e ({ frames := 2, cells := 0, slots := 0, locals := 223 }) s m ([.ref (ad 128), .int a_1, .int a_2] : List Value).toArray below meth c H locs 0 0 Q (F0 m 104 ls [.int x_21, .int x_2, .ref (ad 17)]) := by
    intro x_21 S_22 H locs ls hf hP hS hl
    have hf := z_e2 ej_104 hf
    obtain ⟨h_23, hf⟩ := z_ix hf
    refine z_iast hx hb hK hP (hD S_22) hS 17 0 (zX_17 cy ad S_22) rfl h_23 (k := (x_2.toNatClampNeg)) rfl dX4_bake_104 (fun H locs hP hS => ?_)
    obtain ⟨S_24, eS_24, hf⟩ := z_nm hf
    have hP := zW_putI hP eS_24 (by decide) rfl
    refine lv_iload_n hx hb dX4_bake_105 rfl (lv_at hl 2 rfl) ?_
    refine lv_if_eq (tgt := 126) hx hb dX4_bake_106 (by decide) (fun c_41 => ?_) (fun c_41 => ?_)
    · have hf := z_it c_41 hf
      refine lv_iload_n hx hb dX4_bake_126 rfl (lv_at hl 1 rfl) ?_
      obtain ⟨j_144, ej_144, hf⟩ := z_nm hf
      have J_144 : ∀ (x_25 : Int32) (S_26 : zSt) (H : Heap) (locs : List Loc) (ls : Array Slot), j_144 x_25 S_26 = some ((), So) → va_P D vwCl (zX cy ad S_26) H → va_S A s.heap H locs → lv_has ls 6 [(0, .ref (ad 128)), (1, .int a_1), (3, .ref (ad 11)), (4, .int x_2)] → W p l e ({ frames := 2, cells := 0, slots := 0, locals := 223 }) s m ([.ref (ad 128), .int a_1, .int a_2] : List Value).toArray below meth c H locs 0 0 Q (F0 m 144 ls [.int x_25]) := by
        intro x_25 S_26 H locs ls hf hP hS hl
        have hf := z_e2 ej_144 hf
        refine lv_istore (lv' := [(5, .int x_25), (0, .ref (ad 128)), (1, .int a_1), (3, .ref (ad 11)), (4, .int x_2)]) hx hb dX4_bake_144 hl (by decide) rfl (fun ls hl => ?_)
        refine lv_aload_n hx hb dX4_bake_146 rfl (lv_at hl 3 rfl) ?_
        refine va_get (D := D) (ci := 10) (v := .ref (ad 13)) (C := RX10) (T := TX10) (N := 12) hx hb hts k5 hown hK hP 11 (zX_11 cy ad S_26) rfl 4 (by decide) k11 (fun _ h9 => h9) rfl dX4_bake_147 ?_
        refine lv_iload hx hb dX4_bake_150 (lv_at hl 4 rfl) ?_
        refine lv_dup2_11 hx hb dX4_bake_152 rfl rfl ?_
        obtain ⟨h_27, hf⟩ := z_ix hf
        refine z_iald hx hb hK hP 13 0 (zX_13 cy ad S_26) rfl h_27 (k := (x_2.toNatClampNeg)) rfl dX4_bake_153 ?_
        refine lv_aload_n hx hb dX4_bake_154 rfl (lv_at hl 1 rfl) ?_
        refine va_get (D := D) (ci := 4) (v := .ref (ad 134)) (C := RX4) (T := TX4) (N := 14) hx hb hts k0 hown hK hP 128 (zX_128 cy ad S_26) rfl 10 (by decide) k9 (fun _ h9 => h9) rfl dX4_bake_155 ?_
        refine lv_iload hx hb dX4_bake_158 (lv_at hl 4 rfl) ?_
        obtain ⟨h_28, hf⟩ := z_ix hf
        refine z_iald hx hb hK hP 134 0 (zX_134 cy ad S_26) rfl h_28 (k := (x_2.toNatClampNeg)) rfl dX4_bake_160 ?_
        refine lv_iload hx hb dX4_bake_161 (lv_at hl 0 rfl) ?_
        refine lv_isub hx hb dX4_bake_163 ?_
        refine lv_iadd hx hb dX4_bake_164 ?_
        obtain ⟨h_29, hf⟩ := z_ix hf
        refine z_iast hx hb hK hP (hD S_26) hS 13 0 (zX_13 cy ad S_26) rfl h_29 (k := (x_2.toNatClampNeg)) rfl dX4_bake_165 (fun H locs hP hS => ?_)
        obtain ⟨S_30, eS_30, hf⟩ := z_nm hf
        have hP := zW_putI hP eS_30 (by decide) rfl
        refine lv_iload_n hx hb dX4_bake_166 rfl (lv_at hl 2 rfl) ?_
        obtain ⟨j_188, ej_188, hf⟩ := z_nm hf
        have J_188 : ∀ (S_31 : zSt) (H : Heap) (locs : List Loc) (ls : Array Slot), j_188  S_31 = some ((), So) → va_P D vwCl (zX cy ad S_31) H → va_S A s.heap H locs → lv_has ls 6 [] → W p l e ({ frames := 2, cells := 0, slots := 0, locals := 223 }) s m ([.ref (ad 128), .int a_1, .int a_2] : List Value).toArray below meth c H locs 0 0 Q (F0 m 188 ls []) := by
          intro  S_31 H locs ls hf hP hS hl
          have hf := z_e1 ej_188 hf
          obtain ⟨h1, h2⟩ := z_s2 hf
          subst h2
          exact hret _ _ _ _ hP hS dX4_bake_188
        refine lv_if_le (tgt := 188) hx hb dX4_bake_167 (by decide) (fun c_36 => ?_) (fun c_36 => ?_)
        · have hf := z_it c_36 hf
          exact J_188  S_30 _ _ _ hf hP hS (lv_sub hl [] rfl)
        · have hf := z_if c_36 hf
          refine lv_aload_n hx hb dX4_bake_170 rfl (lv_at hl 3 rfl) ?_
          refine va_get (D := D) (ci := 10) (v := .ref (ad 13)) (C := RX10) (T := TX10) (N := 12) hx hb hts k5 hown hK hP 11 (zX_11 cy ad S_30) rfl 4 (by decide) k11 (fun _ h9 => h9) rfl dX4_bake_171 ?_
          refine lv_aload_n hx hb dX4_bake_174 rfl (lv_at hl 1 rfl) ?_
          refine va_get (D := D) (ci := 4) (v := .ref (ad 129)) (C := RX4) (T := TX4) (N := 14) hx hb hts k0 hown hK hP 128 (zX_128 cy ad S_30) rfl 1 (by decide) k4 (fun _ h9 => h9) rfl dX4_bake_175 ?_
          refine lv_iload_n hx hb dX4_bake_178 rfl (lv_at hl 2 rfl) ?_
          refine lv_iconst (v := 1) hx hb dX4_bake_179 (by decide) ?_
          refine lv_isub hx hb dX4_bake_180 ?_
          obtain ⟨h_32, hf⟩ := z_ix hf
          refine z_iald hx hb hK hP 129 0 (zX_129 cy ad S_30) rfl h_32 (k := ((a_1 - (1 : Int32)).toNatClampNeg)) rfl dX4_bake_181 ?_
          refine lv_dup2_11 hx hb dX4_bake_182 rfl rfl ?_
          obtain ⟨h_33, hf⟩ := z_ix hf
          refine z_iald hx hb hK hP 13 0 (zX_13 cy ad S_30) rfl h_33 (k := ((S_30.1 129 ((a_1 - (1 : Int32)).toNatClampNeg)).toNatClampNeg)) rfl dX4_bake_183 ?_
          refine lv_iload hx hb dX4_bake_184 (lv_at hl 0 rfl) ?_
          refine lv_iadd hx hb dX4_bake_186 ?_
          obtain ⟨h_34, hf⟩ := z_ix hf
          refine z_iast hx hb hK hP (hD S_30) hS 13 0 (zX_13 cy ad S_30) rfl h_34 (k := ((S_30.1 129 ((a_1 - (1 : Int32)).toNatClampNeg)).toNatClampNeg)) rfl dX4_bake_187 (fun H locs hP hS => ?_)
          obtain ⟨S_35, eS_35, hf⟩ := z_nm hf
          have hP := zW_putI hP eS_35 (by decide) rfl
          exact J_188  S_35 _ _ _ hf hP hS (lv_sub hl [] rfl)
      refine lv_if_le (tgt := 143) hx hb dX4_bake_127 (by decide) (fun c_38 => ?_) (fun c_38 => ?_)
      · have hf := z_it c_38 hf
        refine lv_iconst (v := 0) hx hb dX4_bake_143 (by decide) ?_
        exact J_144 (0 : Int32) S_24 _ _ _ hf hP hS (lv_sub hl [0, 1, 3, 4] rfl)
      · have hf := z_if c_38 hf
        refine lv_aload_n hx hb dX4_bake_130 rfl (lv_at hl 0 rfl) ?_
        refine va_get (D := D) (ci := 4) (v := .ref (ad 134)) (C := RX4) (T := TX4) (N := 14) hx hb hts k0 hown hK hP 128 (zX_128 cy ad S_24) rfl 10 (by decide) k9 (fun _ h9 => h9) rfl dX4_bake_131 ?_
        refine lv_iload hx hb dX4_bake_134 (lv_at hl 4 rfl) ?_
        obtain ⟨h_37, hf⟩ := z_ix hf
        refine z_iald hx hb hK hP 134 0 (zX_134 cy ad S_24) rfl h_37 (k := (x_2.toNatClampNeg)) rfl dX4_bake_136 ?_
        refine lv_bipush (v := 9) hx hb dX4_bake_137 (by decide) ?_
        refine lv_idiv hx hb dX4_bake_139 (by decide) ?_
        refine lv_goto (tgt := 144) hx hb dX4_bake_140 (by decide) ?_
        exact J_144 ((S_24.1 134 (x_2.toNatClampNeg)) / (9 : Int32)) S_24 _ _ _ hf hP hS (lv_sub hl [0, 1, 3, 4] rfl)
    · have hf := z_if c_41 hf
      refine lv_aload_n hx hb dX4_bake_109 rfl (lv_at hl 3 rfl) ?_
      refine lv_dup hx hb dX4_bake_110 rfl ?_
      refine va_get (D := D) (ci := 10) (v := .int (S_24.1 11 2)) (C := RX10) (T := TX10) (N := 12) hx hb hts k5 hown hK hP 11 (zX_11 cy ad S_24) rfl 2 (by decide) k12 (fun _ h9 => h9) rfl dX4_bake_111 ?_
      refine lv_aload_n hx hb dX4_bake_114 rfl (lv_at hl 0 rfl) ?_
      refine va_get (D := D) (ci := 4) (v := .ref (ad 134)) (C := RX4) (T := TX4) (N := 14) hx hb hts k0 hown hK hP 128 (zX_128 cy ad S_24) rfl 10 (by decide) k9 (fun _ h9 => h9) rfl dX4_bake_115 ?_
      refine lv_iload hx hb dX4_bake_118 (lv_at hl 4 rfl) ?_
      obtain ⟨h_39, hf⟩ := z_ix hf
      refine z_iald hx hb hK hP 134 0 (zX_134 cy ad S_24) rfl h_39 (k := (x_2.toNatClampNeg)) rfl dX4_bake_120 ?_
      refine lv_iadd hx hb dX4_bake_121 ?_
      refine va_put (D := D) (ci := 10) (v := .int ((S_24.1 11 2) + (S_24.1 134 (x_2.toNatClampNeg)))) (ty := .int) (C := RX10) (T := TX10) (N := 12) hx hb hts k5 tyX10 tyX10_ok nmX10 hown hK hP (hD S_24) hS 11 (zX_11 cy ad S_24) rfl 2 (by decide) k12 (fun _ h9 => h9) rfl (tyX10_ok 2 (by decide)) rfl rfl (Nat.le_of_ble_eq_true rfl) dX4_bake_122 (fun H locs hP _ hS => ?_)
      obtain ⟨S_40, eS_40, hf⟩ := z_nm hf
      have hP := zW_putI hP eS_40 (by decide) rfl
      obtain ⟨h1, h2⟩ := z_s2 hf
      subst h2
      exact hret _ _ _ _ hP hS dX4_bake_125
  refine lv_if_ne (tgt := 103) hx hb dX4_bake_88 (by decide) (fun c_43 => ?_) (fun c_43 => ?_)
  · have hf := z_if c_43 hf
    refine lv_iconst (v := 0) hx hb dX4_bake_103 (by decide) ?_
    exact J_104 (0 : Int32) S_19 _ _ _ hf hP hS (lv_sub hl [2, 3, 4, 1, 0] rfl)
  · have hf := z_it c_43 hf
    refine lv_aload_n hx hb dX4_bake_91 rfl (lv_at hl 1 rfl) ?_
    refine va_get (D := D) (ci := 10) (v := .ref (ad 17)) (C := RX10) (T := TX10) (N := 12) hx hb hts k5 hown hK hP 11 (zX_11 cy ad S_19) rfl 8 (by decide) k10 (fun _ h9 => h9) rfl dX4_bake_92 ?_
    refine lv_iload hx hb dX4_bake_95 (lv_at hl 0 rfl) ?_
    obtain ⟨h_42, hf⟩ := z_ix hf
    refine z_iald hx hb hK hP 17 0 (zX_17 cy ad S_19) rfl h_42 (k := (x_2.toNatClampNeg)) rfl dX4_bake_97 ?_
    refine lv_iconst (v := 1) hx hb dX4_bake_98 (by decide) ?_
    refine lv_iadd hx hb dX4_bake_99 ?_
    refine lv_goto (tgt := 104) hx hb dX4_bake_100 (by decide) ?_
    exact J_104 ((S_19.1 17 (x_2.toNatClampNeg)) + (1 : Int32)) S_19 _ _ _ hf hP hS (lv_sub hl [2, 3, 4, 1, 0] rfl)
def fx_Times_draw (S_0 : zSt) (a_1 : Int32) : Option (Int32 × zSt) :=
  znm (zpI S_0 11 0 (((1664525 : Int32) * (S_0.1 11 0)) + (1013904223 : Int32))) fun S_1 =>
  znm (fun (x_2 : Int32) (S_3 : zSt) =>
  some (x_2, S_3)) fun j_31 =>
  if a_1 ≤ 0 then (
  j_31 (0 : Int32) S_1) else (
  zck (znz a_1) <|
  j_31 ((((S_1.1 11 0).toUInt32 >>> ((8 : Int32).toUInt32 &&& Int32.toUInt32 31)).toInt32) - (((S_1.1 11 0).toUInt32 >>> ((8 : Int32).toUInt32 &&& Int32.toUInt32 31)).toInt32) / a_1 * a_1) S_1)
set_option maxHeartbeats 4000000 in
set_option maxRecDepth 100000 in
theorem cx_Times_draw (l : Launch) (D : va_G) (K : (Nat → Nat) × (Nat → Nat)) (cy : Nat → ClassId) (ad : Nat → Nat) (S_0 : zSt) (a_1 : Int32) (ro : Int32) (So : zSt) (hf : fx_Times_draw S_0 a_1 = some (ro, So)) : zMI l yX10_draw (zws yX10_draw cX10_draw 2 (Option.some .int)) ({ frames := 0, cells := 0, slots := 0, locals := 0 }) D (zTy cy) K (zX cy ad) [.ref (ad 11), .int a_1] S_0 ro So := by
  refine z_metI (own := RX10) (lv := [(0, .ref (ad 11)), (1, .int a_1)]) (by decide) rfl rfl (Nat.le_of_ble_eq_true rfl) rfl ?_
  intro p e s m below meth c A Q X hK hE hD hA hret hP hS ls hl
  obtain ⟨hx, hb, hml, hown, hts⟩ := id X
  have k0 := hts _ (List.mem_cons_of_mem _ wt_4_66)
  have k1 := (fun w h => List.mem_cons_of_mem _ (zFX10 w h) : ∀ w ∈ u_ws RX10 TX10 12, w ∈ zws yX10_draw cX10_draw 2 (Option.some .int))
  have k2 := hts _ (List.mem_cons_of_mem _ wt_1_107)
  have k3 := hts _ (List.mem_cons_of_mem _ wt_4_67)
  refine lv_aload_n hx hb dX10_draw_0 rfl (lv_at hl 0 rfl) ?_
  refine lv_ldc hx hb hown k0 dX10_draw_1 ?_
  refine lv_aload_n hx hb dX10_draw_3 rfl (lv_at hl 0 rfl) ?_
  refine va_get (D := D) (ci := 10) (v := .int (S_0.1 11 0)) (C := RX10) (T := TX10) (N := 12) hx hb hts k1 hown hK hP 11 (zX_11 cy ad S_0) rfl 0 (by decide) k2 (fun _ h9 => h9) rfl dX10_draw_4 ?_
  refine lv_imul hx hb dX10_draw_7 ?_
  refine lv_ldc hx hb hown k3 dX10_draw_8 ?_
  refine lv_iadd hx hb dX10_draw_10 ?_
  refine va_put (D := D) (ci := 10) (v := .int (((1664525 : Int32) * (S_0.1 11 0)) + (1013904223 : Int32))) (ty := .int) (C := RX10) (T := TX10) (N := 12) hx hb hts k1 tyX10 tyX10_ok nmX10 hown hK hP (hD S_0) hS 11 (zX_11 cy ad S_0) rfl 0 (by decide) k2 (fun _ h9 => h9) rfl (tyX10_ok 0 (by decide)) rfl rfl (Nat.le_of_ble_eq_true rfl) dX10_draw_11 (fun H locs hP _ hS => ?_)
  obtain ⟨S_1, eS_1, hf⟩ := z_nm hf
  have hP := zW_putI hP eS_1 (by decide) rfl
  refine lv_iload_n hx hb dX10_draw_14 rfl (lv_at hl 1 rfl) ?_
  obtain ⟨j_31, ej_31, hf⟩ := z_nm hf
  have J_31 : ∀ (x_2 : Int32) (S_3 : zSt) (H : Heap) (locs : List Loc) (ls : Array Slot), j_31 x_2 S_3 = some (ro, So) → va_P D vwCl (zX cy ad S_3) H → va_S A s.heap H locs → lv_has ls 2 [] → W p l e ({ frames := 0, cells := 0, slots := 0, locals := 0 }) s m ([.ref (ad 11), .int a_1] : List Value).toArray below meth c H locs 0 0 Q (F0 m 31 ls [.int x_2]) := by
    intro x_2 S_3 H locs ls hf hP hS hl
    have hf := z_e2 ej_31 hf
    obtain ⟨h1, h2⟩ := z_s2 hf
    subst h1 h2
    exact hret _ _ _ _ hP hS dX10_draw_31
  refine lv_if_le (tgt := 30) hx hb dX10_draw_15 (by decide) (fun c_5 => ?_) (fun c_5 => ?_)
  · have hf := z_it c_5 hf
    refine lv_iconst (v := 0) hx hb dX10_draw_30 (by decide) ?_
    exact J_31 (0 : Int32) S_1 _ _ _ hf hP hS (lv_sub hl [] rfl)
  · have hf := z_if c_5 hf
    refine lv_aload_n hx hb dX10_draw_18 rfl (lv_at hl 0 rfl) ?_
    refine va_get (D := D) (ci := 10) (v := .int (S_1.1 11 0)) (C := RX10) (T := TX10) (N := 12) hx hb hts k1 hown hK hP 11 (zX_11 cy ad S_1) rfl 0 (by decide) k2 (fun _ h9 => h9) rfl dX10_draw_19 ?_
    refine lv_bipush (v := 8) hx hb dX10_draw_22 (by decide) ?_
    refine lv_iushr hx hb dX10_draw_24 rfl ?_
    refine lv_iload_n hx hb dX10_draw_25 rfl (lv_at hl 1 rfl) ?_
    obtain ⟨h_4, hf⟩ := z_nz hf
    refine lv_irem hx hb dX10_draw_26 h_4 ?_
    refine lv_goto (tgt := 31) hx hb dX10_draw_27 (by decide) ?_
    exact J_31 ((((S_1.1 11 0).toUInt32 >>> ((8 : Int32).toUInt32 &&& Int32.toUInt32 31)).toInt32) - (((S_1.1 11 0).toUInt32 >>> ((8 : Int32).toUInt32 &&& Int32.toUInt32 31)).toInt32) / a_1 * a_1) S_1 _ _ _ hf hP hS (lv_sub hl [] rfl)
def fx_Lineup_drawBurntPlace (S_0 : zSt) : Option (Int32 × zSt) :=
  znm (S_0.1 19 3) fun x_1 =>
  znm (fun (S_2 : zSt) =>
  some ((-1 : Int32), S_2)) fun j_43 =>
  if x_1 ≤ 0 then (
  j_43  S_0) else (
  if (S_0.1 4 0) ≤ 0 then (
  j_43  S_0) else (
  zbd (fx_Times_draw S_0 (100 : Int32)) fun r_3 S_4 =>
  if r_3 < x_1 then (
  zbd (fx_Times_draw S_4 (S_4.1 4 0)) fun r_6 S_7 =>
  some (r_6, S_7)) else (
  j_43  S_4)))
set_option maxHeartbeats 4000000 in
set_option maxRecDepth 100000 in
theorem cx_Lineup_drawBurntPlace (l : Launch) (D : va_G) (K : (Nat → Nat) × (Nat → Nat)) (cy : Nat → ClassId) (ad : Nat → Nat) (S_0 : zSt) (ro : Int32) (So : zSt) (hf : fx_Lineup_drawBurntPlace S_0 = some (ro, So)) : zMI l yX4_drawBurntPlace (zws yX4_drawBurntPlace cX4_drawBurntPlace 2 (Option.some .int)) ({ frames := 1, cells := 0, slots := 0, locals := 21 }) D (zTy cy) K (zX cy ad) [.ref (ad 128)] S_0 ro So := by
  refine z_metI (own := RX4) (lv := [(0, .ref (ad 128))]) (by decide) rfl rfl (Nat.le_of_ble_eq_true rfl) rfl ?_
  intro p e s m below meth c A Q X hK hE hD hA hret hP hS ls hl
  obtain ⟨hx, hb, hml, hown, hts⟩ := id X
  have k0 := (fun w h => List.mem_cons_of_mem _ (zFX4 w h) : ∀ w ∈ u_ws RX4 TX4 14, w ∈ zws yX4_drawBurntPlace cX4_drawBurntPlace 2 (Option.some .int))
  have k1 := hts _ (List.mem_cons_of_mem _ wt_2_108)
  have k2 := (fun w h => List.mem_cons_of_mem _ (zFX0 w h) : ∀ w ∈ u_ws RX0 TX0 6, w ∈ zws yX4_drawBurntPlace cX4_drawBurntPlace 2 (Option.some .int))
  have k3 := hts _ (List.mem_cons_of_mem _ wt_2_1)
  have k4 := hts _ (List.mem_cons_of_mem _ wt_1_234)
  have k5 := (fun w h => List.mem_cons_of_mem _ (zFX2 w h) : ∀ w ∈ u_ws RX2 TX2 7, w ∈ zws yX4_drawBurntPlace cX4_drawBurntPlace 2 (Option.some .int))
  have k6 := hts _ (List.mem_cons_of_mem _ wt_1_66)
  have k7 := hts _ (List.mem_cons_of_mem _ wt_1_238)
  refine lv_aload_n hx hb dX4_drawBurntPlace_0 rfl (lv_at hl 0 rfl) ?_
  refine va_get (D := D) (ci := 4) (v := .ref (ad 3)) (C := RX4) (T := TX4) (N := 14) hx hb hts k0 hown hK hP 128 (zX_128 cy ad S_0) rfl 0 (by decide) k1 (fun _ h9 => h9) rfl dX4_drawBurntPlace_1 ?_
  refine va_get (D := D) (ci := 0) (v := .ref (ad 19)) (C := RX0) (T := TX0) (N := 6) hx hb hts k2 hown hK hP 3 (zX_3 cy ad S_0) rfl 2 (by decide) k3 (fun _ h9 => h9) rfl dX4_drawBurntPlace_4 ?_
  refine lv_iconst (v := 3) hx hb dX4_drawBurntPlace_7 (by decide) ?_
  refine z_iald hx hb hK hP 19 0 (zX_19 cy ad S_0) rfl (vp_in_iff.mpr (by decide)) (k := 3) (by decide) dX4_drawBurntPlace_8 ?_
  refine lv_topi (fun x_1 ex_1 => ?_)
  have hf := z_nv ex_1 hf
  refine lv_istore_n (lv' := [(1, .int x_1), (0, .ref (ad 128))]) hx hb dX4_drawBurntPlace_9 rfl hl (by decide) rfl (fun ls hl => ?_)
  refine lv_iload_n hx hb dX4_drawBurntPlace_10 rfl (lv_at hl 0 rfl) ?_
  obtain ⟨j_43, ej_43, hf⟩ := z_nm hf
  have J_43 : ∀ (S_2 : zSt) (H : Heap) (locs : List Loc) (ls : Array Slot), j_43  S_2 = some (ro, So) → va_P D vwCl (zX cy ad S_2) H → va_S A s.heap H locs → lv_has ls 2 [] → W p l e ({ frames := 1, cells := 0, slots := 0, locals := 21 }) s m ([.ref (ad 128)] : List Value).toArray below meth c H locs 0 0 Q (F0 m 43 ls []) := by
    intro  S_2 H locs ls hf hP hS hl
    have hf := z_e1 ej_43 hf
    refine lv_iconst (v := -1) hx hb dX4_drawBurntPlace_43 (by decide) ?_
    obtain ⟨h1, h2⟩ := z_s2 hf
    subst h1 h2
    exact hret _ _ _ _ hP hS dX4_drawBurntPlace_44
  refine lv_if_le (tgt := 43) hx hb dX4_drawBurntPlace_11 (by decide) (fun c_11 => ?_) (fun c_11 => ?_)
  · have hf := z_it c_11 hf
    exact J_43  S_0 _ _ _ hf hP hS (lv_sub hl [] rfl)
  · have hf := z_if c_11 hf
    refine lv_aload_n hx hb dX4_drawBurntPlace_14 rfl (lv_at hl 1 rfl) ?_
    refine va_get (D := D) (ci := 4) (v := .ref (ad 3)) (C := RX4) (T := TX4) (N := 14) hx hb hts k0 hown hK hP 128 (zX_128 cy ad S_0) rfl 0 (by decide) k1 (fun _ h9 => h9) rfl dX4_drawBurntPlace_15 ?_
    refine va_get (D := D) (ci := 0) (v := .ref (ad 4)) (C := RX0) (T := TX0) (N := 6) hx hb hts k2 hown hK hP 3 (zX_3 cy ad S_0) rfl 0 (by decide) k4 (fun _ h9 => h9) rfl dX4_drawBurntPlace_18 ?_
    refine va_get (D := D) (ci := 2) (v := .int (S_0.1 4 0)) (C := RX2) (T := TX2) (N := 7) hx hb hts k5 hown hK hP 4 (zX_4 cy ad S_0) rfl 0 (by decide) k6 (fun _ h9 => h9) rfl dX4_drawBurntPlace_21 ?_
    refine lv_if_le (tgt := 43) hx hb dX4_drawBurntPlace_24 (by decide) (fun c_10 => ?_) (fun c_10 => ?_)
    · have hf := z_it c_10 hf
      exact J_43  S_0 _ _ _ hf hP hS (lv_sub hl [] rfl)
    · have hf := z_if c_10 hf
      refine lv_aload_n hx hb dX4_drawBurntPlace_27 rfl (lv_at hl 1 rfl) ?_
      refine va_get (D := D) (ci := 4) (v := .ref (ad 3)) (C := RX4) (T := TX4) (N := 14) hx hb hts k0 hown hK hP 128 (zX_128 cy ad S_0) rfl 0 (by decide) k1 (fun _ h9 => h9) rfl dX4_drawBurntPlace_28 ?_
      refine va_get (D := D) (ci := 0) (v := .ref (ad 11)) (C := RX0) (T := TX0) (N := 6) hx hb hts k2 hown hK hP 3 (zX_3 cy ad S_0) rfl 1 (by decide) k7 (fun _ h9 => h9) rfl dX4_drawBurntPlace_31 ?_
      refine lv_bipush (v := 100) hx hb dX4_drawBurntPlace_34 (by decide) ?_
      obtain ⟨r_3, S_4, h_5, hf⟩ := z_bd hf
      refine z_cVI (As := [.int (100 : Int32)]) (rest := []) X hK hE hD hA hP hS (cx_Times_draw l D K cy ad S_0 _ _ _ h_5) (cwV 1 hts (z_gV wt_4_62 wt_4_63 wt_4_64 wt_1_5 wt_4_65) rfl rfl rfl ⟨rfl, yd_yX10_draw⟩ ⟨Nat.le_of_ble_eq_true rfl, Nat.le_of_ble_eq_true rfl⟩) (va_recv hK hP (ci := 10) (q0 := 11) rfl (zX_11 cy ad S_0)) hl.1 rfl rfl (Nat.le_of_ble_eq_true rfl) dX4_drawBurntPlace_36 (fun H locs hP hS => ?_)
      refine lv_iload_n hx hb dX4_drawBurntPlace_39 rfl (lv_at hl 0 rfl) ?_
      refine lv_icmp_lt (tgt := 45) hx hb dX4_drawBurntPlace_40 (by decide) (fun c_9 => ?_) (fun c_9 => ?_)
      · have hf := z_it c_9 hf
        refine lv_aload_n hx hb dX4_drawBurntPlace_45 rfl (lv_at hl 1 rfl) ?_
        refine va_get (D := D) (ci := 4) (v := .ref (ad 3)) (C := RX4) (T := TX4) (N := 14) hx hb hts k0 hown hK hP 128 (zX_128 cy ad S_4) rfl 0 (by decide) k1 (fun _ h9 => h9) rfl dX4_drawBurntPlace_46 ?_
        refine va_get (D := D) (ci := 0) (v := .ref (ad 11)) (C := RX0) (T := TX0) (N := 6) hx hb hts k2 hown hK hP 3 (zX_3 cy ad S_4) rfl 1 (by decide) k7 (fun _ h9 => h9) rfl dX4_drawBurntPlace_49 ?_
        refine lv_aload_n hx hb dX4_drawBurntPlace_52 rfl (lv_at hl 1 rfl) ?_
        refine va_get (D := D) (ci := 4) (v := .ref (ad 3)) (C := RX4) (T := TX4) (N := 14) hx hb hts k0 hown hK hP 128 (zX_128 cy ad S_4) rfl 0 (by decide) k1 (fun _ h9 => h9) rfl dX4_drawBurntPlace_53 ?_
        refine va_get (D := D) (ci := 0) (v := .ref (ad 4)) (C := RX0) (T := TX0) (N := 6) hx hb hts k2 hown hK hP 3 (zX_3 cy ad S_4) rfl 0 (by decide) k4 (fun _ h9 => h9) rfl dX4_drawBurntPlace_56 ?_
        refine va_get (D := D) (ci := 2) (v := .int (S_4.1 4 0)) (C := RX2) (T := TX2) (N := 7) hx hb hts k5 hown hK hP 4 (zX_4 cy ad S_4) rfl 0 (by decide) k6 (fun _ h9 => h9) rfl dX4_drawBurntPlace_59 ?_
        obtain ⟨r_6, S_7, h_8, hf⟩ := z_bd hf
        refine z_cVI (As := [.int (S_4.1 4 0)]) (rest := []) X hK hE hD hA hP hS (cx_Times_draw l D K cy ad S_4 _ _ _ h_8) (cwV 1 hts (z_gV wt_4_62 wt_4_63 wt_4_64 wt_1_5 wt_4_65) rfl rfl rfl ⟨rfl, yd_yX10_draw⟩ ⟨Nat.le_of_ble_eq_true rfl, Nat.le_of_ble_eq_true rfl⟩) (va_recv hK hP (ci := 10) (q0 := 11) rfl (zX_11 cy ad S_4)) hl.1 rfl rfl (Nat.le_of_ble_eq_true rfl) dX4_drawBurntPlace_62 (fun H locs hP hS => ?_)
        obtain ⟨h1, h2⟩ := z_s2 hf
        subst h1 h2
        exact hret _ _ _ _ hP hS dX4_drawBurntPlace_65
      · have hf := z_if c_9 hf
        exact J_43  S_4 _ _ _ hf hP hS (lv_sub hl [] rfl)
def fx_Lineup_weighLoaves_L2 : Nat → Int32 → zSt → Option (Unit × zSt)
  | 0, _, _ => none
  | n_2 + 1, x_1, S_2 =>
    if (S_2.1 4 0) ≤ x_1 then (
    some ((), S_2)) else (
    zck (zix x_1 9) <|
    zck (zix x_1 9) <|
    zck (zix x_1 9) <|
    znm (zpI S_2 134 (x_1.toNatClampNeg) (if (S_2.1 12 (x_1.toNatClampNeg)) < (S_2.1 5 (x_1.toNatClampNeg)) then (S_2.1 12 (x_1.toNatClampNeg)) else (S_2.1 5 (x_1.toNatClampNeg)))) fun S_6 =>
    znm (x_1 + (1 : Int32)) fun x_7 =>
    fx_Lineup_weighLoaves_L2 n_2 x_7 S_6)
def fx_Lineup_weighLoaves (S_0 : zSt) : Option (Unit × zSt) :=
  fx_Lineup_weighLoaves_L2 zFU (0 : Int32) S_0
set_option maxHeartbeats 4000000 in
set_option maxRecDepth 100000 in
theorem cx_Lineup_weighLoaves (l : Launch) (D : va_G) (K : (Nat → Nat) × (Nat → Nat)) (cy : Nat → ClassId) (ad : Nat → Nat) (S_0 : zSt) (So : zSt) (hf : fx_Lineup_weighLoaves S_0 = some ((), So)) : zMV l yX4_weighLoaves (zws yX4_weighLoaves cX4_weighLoaves 2 none) ({ frames := 1, cells := 0, slots := 0, locals := 200 }) D (zTy cy) K (zX cy ad) [.ref (ad 128)] S_0 So := by
  refine z_metV (own := RX4) (lv := [(0, .ref (ad 128))]) (by decide) rfl rfl (Nat.le_of_ble_eq_true rfl) rfl ?_
  intro p e s m below meth c A Q X hK hE hD hA hret hP hS ls hl
  obtain ⟨hx, hb, hml, hown, hts⟩ := id X
  have k0 := (fun w h => List.mem_cons_of_mem _ (zFX4 w h) : ∀ w ∈ u_ws RX4 TX4 14, w ∈ zws yX4_weighLoaves cX4_weighLoaves 2 none)
  have k1 := hts _ (List.mem_cons_of_mem _ wt_2_108)
  have k2 := (fun w h => List.mem_cons_of_mem _ (zFX0 w h) : ∀ w ∈ u_ws RX0 TX0 6, w ∈ zws yX4_weighLoaves cX4_weighLoaves 2 none)
  have k3 := hts _ (List.mem_cons_of_mem _ wt_1_234)
  have k4 := (fun w h => List.mem_cons_of_mem _ (zFX2 w h) : ∀ w ∈ u_ws RX2 TX2 7, w ∈ zws yX4_weighLoaves cX4_weighLoaves 2 none)
  have k5 := hts _ (List.mem_cons_of_mem _ wt_1_66)
  have k6 := hts _ (List.mem_cons_of_mem _ wt_2_124)
  have k7 := hts _ (List.mem_cons_of_mem _ wt_1_70)
  have k8 := hts _ (List.mem_cons_of_mem _ wt_1_238)
  have k9 := (fun w h => List.mem_cons_of_mem _ (zFX10 w h) : ∀ w ∈ u_ws RX10 TX10 12, w ∈ zws yX4_weighLoaves cX4_weighLoaves 2 none)
  have k10 := hts _ (List.mem_cons_of_mem _ wt_1_116)
  have k11 := hts _ (List.mem_cons_of_mem _ wt_4_57)
  have k12 := hts _ (List.mem_cons_of_mem _ wt_3_125)
  have k13 := hts _ (List.mem_cons_of_mem _ wt_1_18)
  have k14 := hts _ (List.mem_cons_of_mem _ wt_3_126)
  refine lv_iconst (v := 0) hx hb dX4_weighLoaves_0 (by decide) ?_
  refine lv_istore_n (lv' := [(1, .int (0 : Int32)), (0, .ref (ad 128))]) hx hb dX4_weighLoaves_1 rfl hl (by decide) rfl (fun ls hl => ?_)
  have L_2 : ∀ (n_2 : Nat) (x_1 : Int32) (S_2 : zSt) (H : Heap) (locs : List Loc) (ls : Array Slot), fx_Lineup_weighLoaves_L2 n_2 x_1 S_2 = some ((), So) → va_P D vwCl (zX cy ad S_2) H → va_S A s.heap H locs → lv_has ls 2 [(0, .ref (ad 128)), (1, .int x_1)] → W p l e ({ frames := 1, cells := 0, slots := 0, locals := 200 }) s m ([.ref (ad 128)] : List Value).toArray below meth c H locs 0 0 Q (F0 m 2 ls []) := by
    intro n_2
    induction n_2 with
    | zero =>
      intro x_1 S_2 H locs ls hf hP hS hl
      exact z_no hf
    | succ n_2 ih_2 =>
      intro x_1 S_2 H locs ls hf hP hS hl
      rw [fx_Lineup_weighLoaves_L2] at hf
      refine lv_iload_n hx hb dX4_weighLoaves_2 rfl (lv_at hl 1 rfl) ?_
      refine lv_aload_n hx hb dX4_weighLoaves_3 rfl (lv_at hl 0 rfl) ?_
      refine va_get (D := D) (ci := 4) (v := .ref (ad 3)) (C := RX4) (T := TX4) (N := 14) hx hb hts k0 hown hK hP 128 (zX_128 cy ad S_2) rfl 0 (by decide) k1 (fun _ h9 => h9) rfl dX4_weighLoaves_4 ?_
      refine va_get (D := D) (ci := 0) (v := .ref (ad 4)) (C := RX0) (T := TX0) (N := 6) hx hb hts k2 hown hK hP 3 (zX_3 cy ad S_2) rfl 0 (by decide) k3 (fun _ h9 => h9) rfl dX4_weighLoaves_7 ?_
      refine va_get (D := D) (ci := 2) (v := .int (S_2.1 4 0)) (C := RX2) (T := TX2) (N := 7) hx hb hts k4 hown hK hP 4 (zX_4 cy ad S_2) rfl 0 (by decide) k5 (fun _ h9 => h9) rfl dX4_weighLoaves_10 ?_
      refine lv_icmp_ge (tgt := 55) hx hb dX4_weighLoaves_13 (by decide) (fun c_8 => ?_) (fun c_8 => ?_)
      · have hf := z_it c_8 hf
        obtain ⟨h1, h2⟩ := z_s2 hf
        subst h2
        exact hret _ _ _ _ hP hS dX4_weighLoaves_55
      · have hf := z_if c_8 hf
        refine lv_aload_n hx hb dX4_weighLoaves_16 rfl (lv_at hl 0 rfl) ?_
        refine va_get (D := D) (ci := 4) (v := .ref (ad 134)) (C := RX4) (T := TX4) (N := 14) hx hb hts k0 hown hK hP 128 (zX_128 cy ad S_2) rfl 10 (by decide) k6 (fun _ h9 => h9) rfl dX4_weighLoaves_17 ?_
        refine lv_iload_n hx hb dX4_weighLoaves_20 rfl (lv_at hl 1 rfl) ?_
        refine lv_aload_n hx hb dX4_weighLoaves_21 rfl (lv_at hl 0 rfl) ?_
        refine va_get (D := D) (ci := 4) (v := .ref (ad 3)) (C := RX4) (T := TX4) (N := 14) hx hb hts k0 hown hK hP 128 (zX_128 cy ad S_2) rfl 0 (by decide) k1 (fun _ h9 => h9) rfl dX4_weighLoaves_22 ?_
        refine va_get (D := D) (ci := 0) (v := .ref (ad 4)) (C := RX0) (T := TX0) (N := 6) hx hb hts k2 hown hK hP 3 (zX_3 cy ad S_2) rfl 0 (by decide) k3 (fun _ h9 => h9) rfl dX4_weighLoaves_25 ?_
        refine va_get (D := D) (ci := 2) (v := .ref (ad 5)) (C := RX2) (T := TX2) (N := 7) hx hb hts k4 hown hK hP 4 (zX_4 cy ad S_2) rfl 1 (by decide) k7 (fun _ h9 => h9) rfl dX4_weighLoaves_28 ?_
        refine lv_iload_n hx hb dX4_weighLoaves_31 rfl (lv_at hl 1 rfl) ?_
        obtain ⟨h_3, hf⟩ := z_ix hf
        refine z_iald hx hb hK hP 5 0 (zX_5 cy ad S_2) rfl h_3 (k := (x_1.toNatClampNeg)) rfl dX4_weighLoaves_32 ?_
        refine lv_aload_n hx hb dX4_weighLoaves_33 rfl (lv_at hl 0 rfl) ?_
        refine va_get (D := D) (ci := 4) (v := .ref (ad 3)) (C := RX4) (T := TX4) (N := 14) hx hb hts k0 hown hK hP 128 (zX_128 cy ad S_2) rfl 0 (by decide) k1 (fun _ h9 => h9) rfl dX4_weighLoaves_34 ?_
        refine va_get (D := D) (ci := 0) (v := .ref (ad 11)) (C := RX0) (T := TX0) (N := 6) hx hb hts k2 hown hK hP 3 (zX_3 cy ad S_2) rfl 1 (by decide) k8 (fun _ h9 => h9) rfl dX4_weighLoaves_37 ?_
        refine va_get (D := D) (ci := 10) (v := .ref (ad 12)) (C := RX10) (T := TX10) (N := 12) hx hb hts k9 hown hK hP 11 (zX_11 cy ad S_2) rfl 3 (by decide) k10 (fun _ h9 => h9) rfl dX4_weighLoaves_40 ?_
        refine lv_iload_n hx hb dX4_weighLoaves_43 rfl (lv_at hl 1 rfl) ?_
        obtain ⟨h_4, hf⟩ := z_ix hf
        refine z_iald hx hb hK hP 12 0 (zX_12 cy ad S_2) rfl h_4 (k := (x_1.toNatClampNeg)) rfl dX4_weighLoaves_44 ?_
        refine va_mmin hx hb (by rw [hml]; exact hl.1.symm) hown k11 k12 k13 k14 (Nat.le_of_ble_eq_true rfl) (Nat.le_of_ble_eq_true rfl) (Nat.zero_le _) (Nat.zero_le _) dX4_weighLoaves_45 ?_
        obtain ⟨h_5, hf⟩ := z_ix hf
        refine z_iast hx hb hK hP (hD S_2) hS 134 0 (zX_134 cy ad S_2) rfl h_5 (k := (x_1.toNatClampNeg)) rfl dX4_weighLoaves_48 (fun H locs hP hS => ?_)
        obtain ⟨S_6, eS_6, hf⟩ := z_nm hf
        have hP := zW_putI hP eS_6 (by decide) rfl
        obtain ⟨x_7, ex_7, hf⟩ := z_nm hf
        refine lv_iinc (v := x_7) (lv' := [(1, .int x_7), (0, .ref (ad 128))]) hx hb dX4_weighLoaves_49 hl (k := 1) rfl (by rw [ex_7]; rfl) (by decide) rfl (fun ls hl => ?_)
        refine lv_goto (tgt := 2) hx hb dX4_weighLoaves_52 (by decide) ?_
        exact ih_2 x_7 S_6 _ _ _ hf hP hS (lv_sub hl [1, 0] rfl)
  exact L_2 zFU (0 : Int32) S_0 _ _ _ hf hP hS (lv_sub hl [1, 0] rfl)
def fx_Lineup_passDay_L42 (x_1 : Int32) (r_8 : Int32) (j_71 : zSt → Option (Int32 × zSt)) : Nat → Int32 → zSt → Option (Int32 × zSt)
  | 0, _, _ => none
  | n_42 + 1, x_39, S_40 =>
    if x_1 ≤ x_39 then (
    j_71  S_40) else (
    znm (fun (x_41 : Int32) (S_42 : zSt) =>
    zbd (fx_Lineup_bake S_42 x_39 x_41) fun _ S_44 =>
    znm (x_39 + (1 : Int32)) fun x_46 =>
    fx_Lineup_passDay_L42 x_1 r_8 j_71 n_42 x_46 S_44) fun j_62 =>
    if x_39 = r_8 then (
    j_62 (1 : Int32) S_40) else (
    j_62 (0 : Int32) S_40))
def fx_Lineup_passDay (S_0 : zSt) : Option (Int32 × zSt) :=
  znm (S_0.1 4 0) fun x_1 =>
  zbd (fx_Lineup_standForToday S_0) fun _ S_3 =>
  zbd (fx_Lineup_weighLoaves S_3) fun _ S_6 =>
  zbd (fx_Lineup_drawBurntPlace S_6) fun r_8 S_9 =>
  znm (zpI S_9 135 0 (0 : Int32)) fun S_11 =>
  znm (fun (S_12 : zSt) =>
  znm (fun (S_13 : zSt) =>
  znm (fun (S_14 : zSt) =>
  znm (zcI S_14 18 (va_cpy (S_14.1 129) (S_14.1 18) 0 0 9)) fun S_15 =>
  znm (zpI S_15 11 10 x_1) fun S_16 =>
  znm (fun (x_17 : Int32) (S_18 : zSt) =>
  znm (zpI S_18 11 11 x_17) fun S_19 =>
  znm (zpI S_19 11 1 ((S_19.1 11 1) + (1 : Int32))) fun S_20 =>
  znm (fun (x_21 : Int32) (S_22 : zSt) =>
  zck (zbo x_21) <|
  some (x_21, S_22)) fun j_175 =>
  if r_8 = (-1 : Int32) then (
  j_175 (0 : Int32) S_20) else (
  j_175 (1 : Int32) S_20)) fun j_152 =>
  if r_8 = (-1 : Int32) then (
  j_152 (-1 : Int32) S_16) else (
  zck (zix r_8 9) <|
  j_152 (S_16.1 129 (r_8.toNatClampNeg)) S_16)) fun j_116 =>
  if x_1 ≤ 0 then (
  j_116  S_13) else (
  zbd (fx_Times_isMonday S_13) fun r_27 S_28 =>
  if r_27 = 0 then (
  j_116  S_28) else (
  zck (zix (S_28.1 129 0) 9) <|
  zck (zix (S_28.1 129 0) 9) <|
  znm (zpI S_28 16 ((S_28.1 129 0).toNatClampNeg) ((S_28.1 16 ((S_28.1 129 0).toNatClampNeg)) + (1 : Int32))) fun S_32 =>
  j_116  S_32))) fun j_90 =>
  if x_1 ≤ 0 then (
  j_90  S_12) else (
  zck (zix (S_12.1 129 0) 9) <|
  zck (zix (S_12.1 129 0) 9) <|
  znm (zpI S_12 15 ((S_12.1 129 0).toNatClampNeg) ((S_12.1 15 ((S_12.1 129 0).toNatClampNeg)) + (1 : Int32))) fun S_37 =>
  j_90  S_37)) fun j_71 =>
  fx_Lineup_passDay_L42 x_1 r_8 j_71 zFU (0 : Int32) S_11
set_option maxHeartbeats 4000000 in
set_option maxRecDepth 100000 in
theorem cx_Lineup_passDay (l : Launch) (D : va_G) (K : (Nat → Nat) × (Nat → Nat)) (cy : Nat → ClassId) (ad : Nat → Nat) (S_0 : zSt) (ro : Int32) (So : zSt) (hf : fx_Lineup_passDay S_0 = some (ro, So)) : zMI l yX4_passDay (zws yX4_passDay cX4_passDay 5 (Option.some .boolean)) ({ frames := 4, cells := 0, slots := 0, locals := 248 }) D (zTy cy) K (zX cy ad) [.ref (ad 128)] S_0 ro So := by
  refine z_metZ (own := RX4) (lv := [(0, .ref (ad 128))]) (by decide) rfl rfl (Nat.le_of_ble_eq_true rfl) rfl ?_
  intro p e s m below meth c A Q X hK hE hD hA hret hP hS ls hl
  obtain ⟨hx, hb, hml, hown, hts⟩ := id X
  have k0 := (fun w h => List.mem_cons_of_mem _ (zFX4 w h) : ∀ w ∈ u_ws RX4 TX4 14, w ∈ zws yX4_passDay cX4_passDay 5 (Option.some .boolean))
  have k1 := hts _ (List.mem_cons_of_mem _ wt_2_108)
  have k2 := (fun w h => List.mem_cons_of_mem _ (zFX0 w h) : ∀ w ∈ u_ws RX0 TX0 6, w ∈ zws yX4_passDay cX4_passDay 5 (Option.some .boolean))
  have k3 := hts _ (List.mem_cons_of_mem _ wt_1_238)
  have k4 := hts _ (List.mem_cons_of_mem _ wt_1_234)
  have k5 := (fun w h => List.mem_cons_of_mem _ (zFX2 w h) : ∀ w ∈ u_ws RX2 TX2 7, w ∈ zws yX4_passDay cX4_passDay 5 (Option.some .boolean))
  have k6 := hts _ (List.mem_cons_of_mem _ wt_1_66)
  have k7 := hts _ (List.mem_cons_of_mem _ wt_2_125)
  have k8 := hts _ (List.mem_cons_of_mem _ wt_2_109)
  have k9 := (fun w h => List.mem_cons_of_mem _ (zFX10 w h) : ∀ w ∈ u_ws RX10 TX10 12, w ∈ zws yX4_passDay cX4_passDay 5 (Option.some .boolean))
  have k10 := hts _ (List.mem_cons_of_mem _ wt_1_134)
  have k11 := hts _ (List.mem_cons_of_mem _ wt_4_81)
  have k12 := hts _ (List.mem_cons_of_mem _ wt_3_231)
  have k13 := hts _ (List.mem_cons_of_mem _ wt_3_230)
  have k14 := hts _ (List.mem_cons_of_mem _ wt_1_20)
  have k15 := hts _ (List.mem_cons_of_mem _ wt_1_137)
  have k16 := hts _ (List.mem_cons_of_mem _ wt_1_140)
  have k17 := hts _ (List.mem_cons_of_mem _ wt_1_110)
  have k18 := hts _ (List.mem_cons_of_mem _ wt_1_128)
  have k19 := hts _ (List.mem_cons_of_mem _ wt_1_125)
  refine lv_aload_n hx hb dX4_passDay_0 rfl (lv_at hl 0 rfl) ?_
  refine va_get (D := D) (ci := 4) (v := .ref (ad 3)) (C := RX4) (T := TX4) (N := 14) hx hb hts k0 hown hK hP 128 (zX_128 cy ad S_0) rfl 0 (by decide) k1 (fun _ h9 => h9) rfl dX4_passDay_1 ?_
  refine va_get (D := D) (ci := 0) (v := .ref (ad 11)) (C := RX0) (T := TX0) (N := 6) hx hb hts k2 hown hK hP 3 (zX_3 cy ad S_0) rfl 1 (by decide) k3 (fun _ h9 => h9) rfl dX4_passDay_4 ?_
  refine lv_astore_n (lv' := [(1, .ref (ad 11)), (0, .ref (ad 128))]) hx hb dX4_passDay_7 rfl hl (by decide) rfl (fun ls hl => ?_)
  refine lv_aload_n hx hb dX4_passDay_8 rfl (lv_at hl 1 rfl) ?_
  refine va_get (D := D) (ci := 4) (v := .ref (ad 3)) (C := RX4) (T := TX4) (N := 14) hx hb hts k0 hown hK hP 128 (zX_128 cy ad S_0) rfl 0 (by decide) k1 (fun _ h9 => h9) rfl dX4_passDay_9 ?_
  refine va_get (D := D) (ci := 0) (v := .ref (ad 4)) (C := RX0) (T := TX0) (N := 6) hx hb hts k2 hown hK hP 3 (zX_3 cy ad S_0) rfl 0 (by decide) k4 (fun _ h9 => h9) rfl dX4_passDay_12 ?_
  refine va_get (D := D) (ci := 2) (v := .int (S_0.1 4 0)) (C := RX2) (T := TX2) (N := 7) hx hb hts k5 hown hK hP 4 (zX_4 cy ad S_0) rfl 0 (by decide) k6 (fun _ h9 => h9) rfl dX4_passDay_15 ?_
  refine lv_topi (fun x_1 ex_1 => ?_)
  have hf := z_nv ex_1 hf
  refine lv_istore_n (lv' := [(2, .int x_1), (1, .ref (ad 11)), (0, .ref (ad 128))]) hx hb dX4_passDay_18 rfl hl (by decide) rfl (fun ls hl => ?_)
  refine lv_aload_n hx hb dX4_passDay_19 rfl (lv_at hl 2 rfl) ?_
  obtain ⟨r_2, S_3, h_4, hf⟩ := z_bd hf
  refine z_cVV (As := []) (rest := []) X hK hE hD hA hP hS (cx_Lineup_standForToday l D K cy ad S_0 _ h_4) (cwV 0 hts (z_gV wt_4_52 wt_4_2 wt_4_3 wt_1_11 wt_4_4) rfl rfl rfl ⟨rfl, yd_yX4_standForToday⟩ ⟨Nat.le_of_ble_eq_true rfl, Nat.le_of_ble_eq_true rfl⟩) (va_recv hK hP (ci := 4) (q0 := 128) rfl (zX_128 cy ad S_0)) hl.1 rfl rfl (Nat.le_of_ble_eq_true rfl) dX4_passDay_20 (fun H locs hP hS => ?_)
  refine lv_aload_n hx hb dX4_passDay_23 rfl (lv_at hl 2 rfl) ?_
  obtain ⟨r_5, S_6, h_7, hf⟩ := z_bd hf
  refine z_cVV (As := []) (rest := []) X hK hE hD hA hP hS (cx_Lineup_weighLoaves l D K cy ad S_3 _ h_7) (cwV 0 hts (z_gV wt_4_53 wt_4_55 wp_26 wt_1_11 wt_4_56) rfl rfl rfl ⟨rfl, yd_yX4_weighLoaves⟩ ⟨Nat.le_of_ble_eq_true rfl, Nat.le_of_ble_eq_true rfl⟩) (va_recv hK hP (ci := 4) (q0 := 128) rfl (zX_128 cy ad S_3)) hl.1 rfl rfl (Nat.le_of_ble_eq_true rfl) dX4_passDay_24 (fun H locs hP hS => ?_)
  refine lv_aload_n hx hb dX4_passDay_27 rfl (lv_at hl 2 rfl) ?_
  obtain ⟨r_8, S_9, h_10, hf⟩ := z_bd hf
  refine z_cVI (As := []) (rest := []) X hK hE hD hA hP hS (cx_Lineup_drawBurntPlace l D K cy ad S_6 _ _ h_10) (cwV 0 hts (z_gV wt_4_58 wt_4_60 wp_27 wt_1_11 wt_4_61) rfl rfl rfl ⟨rfl, yd_yX4_drawBurntPlace⟩ ⟨Nat.le_of_ble_eq_true rfl, Nat.le_of_ble_eq_true rfl⟩) (va_recv hK hP (ci := 4) (q0 := 128) rfl (zX_128 cy ad S_6)) hl.1 rfl rfl (Nat.le_of_ble_eq_true rfl) dX4_passDay_28 (fun H locs hP hS => ?_)
  refine lv_istore_n (lv' := [(3, .int r_8), (2, .int x_1), (1, .ref (ad 11)), (0, .ref (ad 128))]) hx hb dX4_passDay_31 rfl hl (by decide) rfl (fun ls hl => ?_)
  refine lv_aload_n hx hb dX4_passDay_32 rfl (lv_at hl 3 rfl) ?_
  refine va_get (D := D) (ci := 4) (v := .ref (ad 135)) (C := RX4) (T := TX4) (N := 14) hx hb hts k0 hown hK hP 128 (zX_128 cy ad S_9) rfl 11 (by decide) k7 (fun _ h9 => h9) rfl dX4_passDay_33 ?_
  refine lv_iconst (v := 0) hx hb dX4_passDay_36 (by decide) ?_
  refine lv_iconst (v := 0) hx hb dX4_passDay_37 (by decide) ?_
  refine z_iast hx hb hK hP (hD S_9) hS 135 0 (zX_135 cy ad S_9) rfl (vp_in_iff.mpr (by decide)) (k := 0) (by decide) dX4_passDay_38 (fun H locs hP hS => ?_)
  obtain ⟨S_11, eS_11, hf⟩ := z_nm hf
  have hP := zW_putI hP eS_11 (by decide) rfl
  refine lv_iconst (v := 0) hx hb dX4_passDay_39 (by decide) ?_
  refine lv_istore (lv' := [(4, .int (0 : Int32)), (3, .int r_8), (2, .int x_1), (1, .ref (ad 11)), (0, .ref (ad 128))]) hx hb dX4_passDay_40 hl (by decide) rfl (fun ls hl => ?_)
  obtain ⟨j_71, ej_71, hf⟩ := z_nm hf
  have J_71 : ∀ (S_12 : zSt) (H : Heap) (locs : List Loc) (ls : Array Slot), j_71  S_12 = some (ro, So) → va_P D vwCl (zX cy ad S_12) H → va_S A s.heap H locs → lv_has ls 5 [(0, .ref (ad 128)), (1, .ref (ad 11)), (2, .int x_1), (3, .int r_8)] → W p l e ({ frames := 4, cells := 0, slots := 0, locals := 248 }) s m ([.ref (ad 128)] : List Value).toArray below meth c H locs 0 0 Q (F0 m 71 ls []) := by
    intro  S_12 H locs ls hf hP hS hl
    have hf := z_e1 ej_71 hf
    refine lv_iload_n hx hb dX4_passDay_71 rfl (lv_at hl 2 rfl) ?_
    obtain ⟨j_90, ej_90, hf⟩ := z_nm hf
    have J_90 : ∀ (S_13 : zSt) (H : Heap) (locs : List Loc) (ls : Array Slot), j_90  S_13 = some (ro, So) → va_P D vwCl (zX cy ad S_13) H → va_S A s.heap H locs → lv_has ls 5 [(0, .ref (ad 128)), (1, .ref (ad 11)), (2, .int x_1), (3, .int r_8)] → W p l e ({ frames := 4, cells := 0, slots := 0, locals := 248 }) s m ([.ref (ad 128)] : List Value).toArray below meth c H locs 0 0 Q (F0 m 90 ls []) := by
      intro  S_13 H locs ls hf hP hS hl
      have hf := z_e1 ej_90 hf
      refine lv_iload_n hx hb dX4_passDay_90 rfl (lv_at hl 2 rfl) ?_
      obtain ⟨j_116, ej_116, hf⟩ := z_nm hf
      have J_116 : ∀ (S_14 : zSt) (H : Heap) (locs : List Loc) (ls : Array Slot), j_116  S_14 = some (ro, So) → va_P D vwCl (zX cy ad S_14) H → va_S A s.heap H locs → lv_has ls 5 [(0, .ref (ad 128)), (1, .ref (ad 11)), (2, .int x_1), (3, .int r_8)] → W p l e ({ frames := 4, cells := 0, slots := 0, locals := 248 }) s m ([.ref (ad 128)] : List Value).toArray below meth c H locs 0 0 Q (F0 m 116 ls []) := by
        intro  S_14 H locs ls hf hP hS hl
        have hf := z_e1 ej_116 hf
        refine lv_aload_n hx hb dX4_passDay_116 rfl (lv_at hl 0 rfl) ?_
        refine va_get (D := D) (ci := 4) (v := .ref (ad 129)) (C := RX4) (T := TX4) (N := 14) hx hb hts k0 hown hK hP 128 (zX_128 cy ad S_14) rfl 1 (by decide) k8 (fun _ h9 => h9) rfl dX4_passDay_117 ?_
        refine lv_iconst (v := 0) hx hb dX4_passDay_120 (by decide) ?_
        refine lv_aload_n hx hb dX4_passDay_121 rfl (lv_at hl 1 rfl) ?_
        refine va_get (D := D) (ci := 10) (v := .ref (ad 18)) (C := RX10) (T := TX10) (N := 12) hx hb hts k9 hown hK hP 11 (zX_11 cy ad S_14) rfl 9 (by decide) k10 (fun _ h9 => h9) rfl dX4_passDay_122 ?_
        refine lv_iconst (v := 0) hx hb dX4_passDay_125 (by decide) ?_
        refine lv_bipush (v := 9) hx hb dX4_passDay_126 (by decide) ?_
        refine z_copyi hx hb (by rw [hml]; exact hl.1.symm) hown k11 k12 k13 k14 hK hP (hD S_14) hS 129 18 0 (zX_129 cy ad S_14) (zX_18 cy ad S_14) rfl (by decide) (k := 9) (by decide) (by decide) (by decide) (Nat.le_of_ble_eq_true rfl) (Nat.le_of_ble_eq_true rfl) dX4_passDay_128 (fun H locs hP hS => ?_)
        obtain ⟨S_15, eS_15, hf⟩ := z_nm hf
        have hP := zW_cpyI hP eS_15 (by decide) rfl
        refine lv_aload_n hx hb dX4_passDay_131 rfl (lv_at hl 1 rfl) ?_
        refine lv_iload_n hx hb dX4_passDay_132 rfl (lv_at hl 2 rfl) ?_
        refine va_put (D := D) (ci := 10) (v := .int x_1) (ty := .int) (C := RX10) (T := TX10) (N := 12) hx hb hts k9 tyX10 tyX10_ok nmX10 hown hK hP (hD S_15) hS 11 (zX_11 cy ad S_15) rfl 10 (by decide) k15 (fun _ h9 => h9) rfl (tyX10_ok 10 (by decide)) rfl rfl (Nat.le_of_ble_eq_true rfl) dX4_passDay_133 (fun H locs hP _ hS => ?_)
        obtain ⟨S_16, eS_16, hf⟩ := z_nm hf
        have hP := zW_putI hP eS_16 (by decide) rfl
        refine lv_aload_n hx hb dX4_passDay_136 rfl (lv_at hl 1 rfl) ?_
        refine lv_iload_n hx hb dX4_passDay_137 rfl (lv_at hl 3 rfl) ?_
        refine lv_iconst (v := -1) hx hb dX4_passDay_138 (by decide) ?_
        obtain ⟨j_152, ej_152, hf⟩ := z_nm hf
        have J_152 : ∀ (x_17 : Int32) (S_18 : zSt) (H : Heap) (locs : List Loc) (ls : Array Slot), j_152 x_17 S_18 = some (ro, So) → va_P D vwCl (zX cy ad S_18) H → va_S A s.heap H locs → lv_has ls 5 [(1, .ref (ad 11)), (3, .int r_8)] → W p l e ({ frames := 4, cells := 0, slots := 0, locals := 248 }) s m ([.ref (ad 128)] : List Value).toArray below meth c H locs 0 0 Q (F0 m 152 ls [.int x_17, .ref (ad 11)]) := by
          intro x_17 S_18 H locs ls hf hP hS hl
          have hf := z_e2 ej_152 hf
          refine va_put (D := D) (ci := 10) (v := .int x_17) (ty := .int) (C := RX10) (T := TX10) (N := 12) hx hb hts k9 tyX10 tyX10_ok nmX10 hown hK hP (hD S_18) hS 11 (zX_11 cy ad S_18) rfl 11 (by decide) k16 (fun _ h9 => h9) rfl (tyX10_ok 11 (by decide)) rfl rfl (Nat.le_of_ble_eq_true rfl) dX4_passDay_152 (fun H locs hP _ hS => ?_)
          obtain ⟨S_19, eS_19, hf⟩ := z_nm hf
          have hP := zW_putI hP eS_19 (by decide) rfl
          refine lv_aload_n hx hb dX4_passDay_155 rfl (lv_at hl 0 rfl) ?_
          refine lv_dup hx hb dX4_passDay_156 rfl ?_
          refine va_get (D := D) (ci := 10) (v := .int (S_19.1 11 1)) (C := RX10) (T := TX10) (N := 12) hx hb hts k9 hown hK hP 11 (zX_11 cy ad S_19) rfl 1 (by decide) k17 (fun _ h9 => h9) rfl dX4_passDay_157 ?_
          refine lv_iconst (v := 1) hx hb dX4_passDay_160 (by decide) ?_
          refine lv_iadd hx hb dX4_passDay_161 ?_
          refine va_put (D := D) (ci := 10) (v := .int ((S_19.1 11 1) + (1 : Int32))) (ty := .int) (C := RX10) (T := TX10) (N := 12) hx hb hts k9 tyX10 tyX10_ok nmX10 hown hK hP (hD S_19) hS 11 (zX_11 cy ad S_19) rfl 1 (by decide) k17 (fun _ h9 => h9) rfl (tyX10_ok 1 (by decide)) rfl rfl (Nat.le_of_ble_eq_true rfl) dX4_passDay_162 (fun H locs hP _ hS => ?_)
          obtain ⟨S_20, eS_20, hf⟩ := z_nm hf
          have hP := zW_putI hP eS_20 (by decide) rfl
          refine lv_iload_n hx hb dX4_passDay_165 rfl (lv_at hl 1 rfl) ?_
          refine lv_iconst (v := -1) hx hb dX4_passDay_166 (by decide) ?_
          obtain ⟨j_175, ej_175, hf⟩ := z_nm hf
          have J_175 : ∀ (x_21 : Int32) (S_22 : zSt) (H : Heap) (locs : List Loc) (ls : Array Slot), j_175 x_21 S_22 = some (ro, So) → va_P D vwCl (zX cy ad S_22) H → va_S A s.heap H locs → lv_has ls 5 [] → W p l e ({ frames := 4, cells := 0, slots := 0, locals := 248 }) s m ([.ref (ad 128)] : List Value).toArray below meth c H locs 0 0 Q (F0 m 175 ls [.int x_21]) := by
            intro x_21 S_22 H locs ls hf hP hS hl
            have hf := z_e2 ej_175 hf
            obtain ⟨h_23, hf⟩ := z_bo hf
            obtain ⟨h1, h2⟩ := z_s2 hf
            subst h1 h2
            exact hret _ _ _ _ h_23 hP hS dX4_passDay_175
          refine lv_icmp_eq (tgt := 174) hx hb dX4_passDay_167 (by decide) (fun c_24 => ?_) (fun c_24 => ?_)
          · have hf := z_it c_24 hf
            refine lv_iconst (v := 0) hx hb dX4_passDay_174 (by decide) ?_
            exact J_175 (0 : Int32) S_20 _ _ _ hf hP hS (lv_sub hl [] rfl)
          · have hf := z_if c_24 hf
            refine lv_iconst (v := 1) hx hb dX4_passDay_170 (by decide) ?_
            refine lv_goto (tgt := 175) hx hb dX4_passDay_171 (by decide) ?_
            exact J_175 (1 : Int32) S_20 _ _ _ hf hP hS (lv_sub hl [] rfl)
        refine lv_icmp_ne (tgt := 146) hx hb dX4_passDay_139 (by decide) (fun c_26 => ?_) (fun c_26 => ?_)
        · have hf := z_if c_26 hf
          refine lv_aload_n hx hb dX4_passDay_146 rfl (lv_at hl 0 rfl) ?_
          refine va_get (D := D) (ci := 4) (v := .ref (ad 129)) (C := RX4) (T := TX4) (N := 14) hx hb hts k0 hown hK hP 128 (zX_128 cy ad S_16) rfl 1 (by decide) k8 (fun _ h9 => h9) rfl dX4_passDay_147 ?_
          refine lv_iload_n hx hb dX4_passDay_150 rfl (lv_at hl 3 rfl) ?_
          obtain ⟨h_25, hf⟩ := z_ix hf
          refine z_iald hx hb hK hP 129 0 (zX_129 cy ad S_16) rfl h_25 (k := (r_8.toNatClampNeg)) rfl dX4_passDay_151 ?_
          exact J_152 (S_16.1 129 (r_8.toNatClampNeg)) S_16 _ _ _ hf hP hS (lv_sub hl [1, 3] rfl)
        · have hf := z_it c_26 hf
          refine lv_iconst (v := -1) hx hb dX4_passDay_142 (by decide) ?_
          refine lv_goto (tgt := 152) hx hb dX4_passDay_143 (by decide) ?_
          exact J_152 (-1 : Int32) S_16 _ _ _ hf hP hS (lv_sub hl [1, 3] rfl)
      refine lv_if_le (tgt := 116) hx hb dX4_passDay_91 (by decide) (fun c_34 => ?_) (fun c_34 => ?_)
      · have hf := z_it c_34 hf
        exact J_116  S_13 _ _ _ hf hP hS (lv_sub hl [0, 1, 2, 3] rfl)
      · have hf := z_if c_34 hf
        refine lv_aload_n hx hb dX4_passDay_94 rfl (lv_at hl 1 rfl) ?_
        obtain ⟨r_27, S_28, h_29, hf⟩ := z_bd hf
        refine z_cVI (As := []) (rest := []) X hK hE hD hA hP hS (cx_Times_isMonday l D K cy ad S_13 _ _ h_29) (cwV 0 hts (z_gV wt_4_23 wt_4_24 wt_4_25 wt_1_5 wt_4_26) rfl rfl rfl ⟨rfl, yd_yX10_isMonday⟩ ⟨Nat.le_of_ble_eq_true rfl, Nat.le_of_ble_eq_true rfl⟩) (va_recv hK hP (ci := 10) (q0 := 11) rfl (zX_11 cy ad S_13)) hl.1 rfl rfl (Nat.le_of_ble_eq_true rfl) dX4_passDay_95 (fun H locs hP hS => ?_)
        refine lv_if_eq (tgt := 116) hx hb dX4_passDay_98 (by decide) (fun c_33 => ?_) (fun c_33 => ?_)
        · have hf := z_it c_33 hf
          exact J_116  S_28 _ _ _ hf hP hS (lv_sub hl [0, 1, 2, 3] rfl)
        · have hf := z_if c_33 hf
          refine lv_aload_n hx hb dX4_passDay_101 rfl (lv_at hl 1 rfl) ?_
          refine va_get (D := D) (ci := 10) (v := .ref (ad 16)) (C := RX10) (T := TX10) (N := 12) hx hb hts k9 hown hK hP 11 (zX_11 cy ad S_28) rfl 7 (by decide) k18 (fun _ h9 => h9) rfl dX4_passDay_102 ?_
          refine lv_aload_n hx hb dX4_passDay_105 rfl (lv_at hl 0 rfl) ?_
          refine va_get (D := D) (ci := 4) (v := .ref (ad 129)) (C := RX4) (T := TX4) (N := 14) hx hb hts k0 hown hK hP 128 (zX_128 cy ad S_28) rfl 1 (by decide) k8 (fun _ h9 => h9) rfl dX4_passDay_106 ?_
          refine lv_iconst (v := 0) hx hb dX4_passDay_109 (by decide) ?_
          refine z_iald hx hb hK hP 129 0 (zX_129 cy ad S_28) rfl (vp_in_iff.mpr (by decide)) (k := 0) (by decide) dX4_passDay_110 ?_
          refine lv_dup2_11 hx hb dX4_passDay_111 rfl rfl ?_
          obtain ⟨h_30, hf⟩ := z_ix hf
          refine z_iald hx hb hK hP 16 0 (zX_16 cy ad S_28) rfl h_30 (k := ((S_28.1 129 0).toNatClampNeg)) rfl dX4_passDay_112 ?_
          refine lv_iconst (v := 1) hx hb dX4_passDay_113 (by decide) ?_
          refine lv_iadd hx hb dX4_passDay_114 ?_
          obtain ⟨h_31, hf⟩ := z_ix hf
          refine z_iast hx hb hK hP (hD S_28) hS 16 0 (zX_16 cy ad S_28) rfl h_31 (k := ((S_28.1 129 0).toNatClampNeg)) rfl dX4_passDay_115 (fun H locs hP hS => ?_)
          obtain ⟨S_32, eS_32, hf⟩ := z_nm hf
          have hP := zW_putI hP eS_32 (by decide) rfl
          exact J_116  S_32 _ _ _ hf hP hS (lv_sub hl [0, 1, 2, 3] rfl)
    refine lv_if_le (tgt := 90) hx hb dX4_passDay_72 (by decide) (fun c_38 => ?_) (fun c_38 => ?_)
    · have hf := z_it c_38 hf
      exact J_90  S_12 _ _ _ hf hP hS (lv_sub hl [0, 1, 2, 3] rfl)
    · have hf := z_if c_38 hf
      refine lv_aload_n hx hb dX4_passDay_75 rfl (lv_at hl 1 rfl) ?_
      refine va_get (D := D) (ci := 10) (v := .ref (ad 15)) (C := RX10) (T := TX10) (N := 12) hx hb hts k9 hown hK hP 11 (zX_11 cy ad S_12) rfl 6 (by decide) k19 (fun _ h9 => h9) rfl dX4_passDay_76 ?_
      refine lv_aload_n hx hb dX4_passDay_79 rfl (lv_at hl 0 rfl) ?_
      refine va_get (D := D) (ci := 4) (v := .ref (ad 129)) (C := RX4) (T := TX4) (N := 14) hx hb hts k0 hown hK hP 128 (zX_128 cy ad S_12) rfl 1 (by decide) k8 (fun _ h9 => h9) rfl dX4_passDay_80 ?_
      refine lv_iconst (v := 0) hx hb dX4_passDay_83 (by decide) ?_
      refine z_iald hx hb hK hP 129 0 (zX_129 cy ad S_12) rfl (vp_in_iff.mpr (by decide)) (k := 0) (by decide) dX4_passDay_84 ?_
      refine lv_dup2_11 hx hb dX4_passDay_85 rfl rfl ?_
      obtain ⟨h_35, hf⟩ := z_ix hf
      refine z_iald hx hb hK hP 15 0 (zX_15 cy ad S_12) rfl h_35 (k := ((S_12.1 129 0).toNatClampNeg)) rfl dX4_passDay_86 ?_
      refine lv_iconst (v := 1) hx hb dX4_passDay_87 (by decide) ?_
      refine lv_iadd hx hb dX4_passDay_88 ?_
      obtain ⟨h_36, hf⟩ := z_ix hf
      refine z_iast hx hb hK hP (hD S_12) hS 15 0 (zX_15 cy ad S_12) rfl h_36 (k := ((S_12.1 129 0).toNatClampNeg)) rfl dX4_passDay_89 (fun H locs hP hS => ?_)
      obtain ⟨S_37, eS_37, hf⟩ := z_nm hf
      have hP := zW_putI hP eS_37 (by decide) rfl
      exact J_90  S_37 _ _ _ hf hP hS (lv_sub hl [0, 1, 2, 3] rfl)
  have L_42 : ∀ (n_42 : Nat) (x_39 : Int32) (S_40 : zSt) (H : Heap) (locs : List Loc) (ls : Array Slot), fx_Lineup_passDay_L42 x_1 r_8 j_71 n_42 x_39 S_40 = some (ro, So) → va_P D vwCl (zX cy ad S_40) H → va_S A s.heap H locs → lv_has ls 5 [(0, .ref (ad 128)), (1, .ref (ad 11)), (2, .int x_1), (3, .int r_8), (4, .int x_39)] → W p l e ({ frames := 4, cells := 0, slots := 0, locals := 248 }) s m ([.ref (ad 128)] : List Value).toArray below meth c H locs 0 0 Q (F0 m 42 ls []) := by
    intro n_42
    induction n_42 with
    | zero =>
      intro x_39 S_40 H locs ls hf hP hS hl
      exact z_no hf
    | succ n_42 ih_42 =>
      intro x_39 S_40 H locs ls hf hP hS hl
      rw [fx_Lineup_passDay_L42] at hf
      refine lv_iload hx hb dX4_passDay_42 (lv_at hl 4 rfl) ?_
      refine lv_iload_n hx hb dX4_passDay_44 rfl (lv_at hl 2 rfl) ?_
      refine lv_icmp_ge (tgt := 71) hx hb dX4_passDay_45 (by decide) (fun c_48 => ?_) (fun c_48 => ?_)
      · have hf := z_it c_48 hf
        exact J_71  S_40 _ _ _ hf hP hS (lv_sub hl [0, 1, 2, 3] rfl)
      · have hf := z_if c_48 hf
        refine lv_aload_n hx hb dX4_passDay_48 rfl (lv_at hl 0 rfl) ?_
        refine lv_iload hx hb dX4_passDay_49 (lv_at hl 4 rfl) ?_
        refine lv_iload hx hb dX4_passDay_51 (lv_at hl 4 rfl) ?_
        refine lv_iload_n hx hb dX4_passDay_53 rfl (lv_at hl 3 rfl) ?_
        obtain ⟨j_62, ej_62, hf⟩ := z_nm hf
        have J_62 : ∀ (x_41 : Int32) (S_42 : zSt) (H : Heap) (locs : List Loc) (ls : Array Slot), j_62 x_41 S_42 = some (ro, So) → va_P D vwCl (zX cy ad S_42) H → va_S A s.heap H locs → lv_has ls 5 [(0, .ref (ad 128)), (1, .ref (ad 11)), (2, .int x_1), (3, .int r_8), (4, .int x_39)] → W p l e ({ frames := 4, cells := 0, slots := 0, locals := 248 }) s m ([.ref (ad 128)] : List Value).toArray below meth c H locs 0 0 Q (F0 m 62 ls [.int x_41, .int x_39, .ref (ad 128)]) := by
          intro x_41 S_42 H locs ls hf hP hS hl
          have hf := z_e2 ej_62 hf
          obtain ⟨r_43, S_44, h_45, hf⟩ := z_bd hf
          refine z_cVV (As := [.int x_39, .int x_41]) (rest := []) X hK hE hD hA hP hS (cx_Lineup_bake l D K cy ad S_42 _ _ _ h_45) (cwV 2 hts (z_gV wt_4_68 wt_4_70 wp_28 wt_1_11 wt_4_71) rfl rfl rfl ⟨rfl, yd_yX4_bake⟩ ⟨Nat.le_of_ble_eq_true rfl, Nat.le_of_ble_eq_true rfl⟩) (va_recv hK hP (ci := 4) (q0 := 128) rfl (zX_128 cy ad S_42)) hl.1 rfl rfl (Nat.le_of_ble_eq_true rfl) dX4_passDay_62 (fun H locs hP hS => ?_)
          obtain ⟨x_46, ex_46, hf⟩ := z_nm hf
          refine lv_iinc (v := x_46) (lv' := [(4, .int x_46), (0, .ref (ad 128)), (1, .ref (ad 11)), (2, .int x_1), (3, .int r_8)]) hx hb dX4_passDay_65 hl (k := 4) rfl (by rw [ex_46]; rfl) (by decide) rfl (fun ls hl => ?_)
          refine lv_goto (tgt := 42) hx hb dX4_passDay_68 (by decide) ?_
          exact ih_42 x_46 S_44 _ _ _ hf hP hS (lv_sub hl [1, 2, 3, 4, 0] rfl)
        refine lv_icmp_ne (tgt := 61) hx hb dX4_passDay_54 (by decide) (fun c_47 => ?_) (fun c_47 => ?_)
        · have hf := z_if c_47 hf
          refine lv_iconst (v := 0) hx hb dX4_passDay_61 (by decide) ?_
          exact J_62 (0 : Int32) S_40 _ _ _ hf hP hS (lv_sub hl [0, 1, 2, 3, 4] rfl)
        · have hf := z_it c_47 hf
          refine lv_iconst (v := 1) hx hb dX4_passDay_57 (by decide) ?_
          refine lv_goto (tgt := 62) hx hb dX4_passDay_58 (by decide) ?_
          exact J_62 (1 : Int32) S_40 _ _ _ hf hP hS (lv_sub hl [0, 1, 2, 3, 4] rfl)
  exact L_42 zFU (0 : Int32) S_11 _ _ _ hf hP hS (lv_sub hl [4, 3, 2, 1, 0] rfl)
def fx_Lineup_gainAt (S_0 : zSt) (a_1 : Int32) (a_2 : Int32) (a_3 : Int32) (a_4 : Int32) : Option (Int32 × zSt) :=
  znm (fun (x_1 : Int32) (S_2 : zSt) =>
  znm (fun (x_3 : Int32) (S_4 : zSt) =>
  zbd (fx_Lineup_woodOf S_4 a_2 a_3) fun r_5 S_6 =>
  some ((x_3 - x_1) - ((S_4.1 19 2) * r_5), S_6)) fun j_39 =>
  if a_4 = (-1 : Int32) then (
  j_39 (0 : Int32) S_2) else (
  zck (zix a_4 9) <|
  j_39 ((S_2.1 134 (a_4.toNatClampNeg)) / (9 : Int32)) S_2)) fun j_17 =>
  if a_1 ≤ 0 then (
  j_17 (0 : Int32) S_0) else (
  zck (zix a_2 9) <|
  j_17 ((S_0.1 134 (a_2.toNatClampNeg)) / (9 : Int32)) S_0)
set_option maxHeartbeats 4000000 in
set_option maxRecDepth 100000 in
theorem cx_Lineup_gainAt (l : Launch) (D : va_G) (K : (Nat → Nat) × (Nat → Nat)) (cy : Nat → ClassId) (ad : Nat → Nat) (S_0 : zSt) (a_1 : Int32) (a_2 : Int32) (a_3 : Int32) (a_4 : Int32) (ro : Int32) (So : zSt) (hf : fx_Lineup_gainAt S_0 a_1 a_2 a_3 a_4 = some (ro, So)) : zMI l yX4_gainAt (zws yX4_gainAt cX4_gainAt 7 (Option.some .int)) ({ frames := 1, cells := 0, slots := 0, locals := 24 }) D (zTy cy) K (zX cy ad) [.ref (ad 128), .int a_1, .int a_2, .int a_3, .int a_4] S_0 ro So := by
  refine z_metI (own := RX4) (lv := [(0, .ref (ad 128)), (1, .int a_1), (2, .int a_2), (3, .int a_3), (4, .int a_4)]) (by decide) rfl rfl (Nat.le_of_ble_eq_true rfl) rfl ?_
  intro p e s m below meth c A Q X hK hE hD hA hret hP hS ls hl
  obtain ⟨hx, hb, hml, hown, hts⟩ := id X
  have k0 := (fun w h => List.mem_cons_of_mem _ (zFX4 w h) : ∀ w ∈ u_ws RX4 TX4 14, w ∈ zws yX4_gainAt cX4_gainAt 7 (Option.some .int))
  have k1 := hts _ (List.mem_cons_of_mem _ wt_2_108)
  have k2 := (fun w h => List.mem_cons_of_mem _ (zFX0 w h) : ∀ w ∈ u_ws RX0 TX0 6, w ∈ zws yX4_gainAt cX4_gainAt 7 (Option.some .int))
  have k3 := hts _ (List.mem_cons_of_mem _ wt_2_1)
  have k4 := hts _ (List.mem_cons_of_mem _ wt_2_124)
  refine lv_iload_n hx hb dX4_gainAt_0 rfl (lv_at hl 1 rfl) ?_
  obtain ⟨j_17, ej_17, hf⟩ := z_nm hf
  have J_17 : ∀ (x_1 : Int32) (S_2 : zSt) (H : Heap) (locs : List Loc) (ls : Array Slot), j_17 x_1 S_2 = some (ro, So) → va_P D vwCl (zX cy ad S_2) H → va_S A s.heap H locs → lv_has ls 7 [(0, .ref (ad 128)), (2, .int a_2), (3, .int a_3), (4, .int a_4)] → W p l e ({ frames := 1, cells := 0, slots := 0, locals := 24 }) s m ([.ref (ad 128), .int a_1, .int a_2, .int a_3, .int a_4] : List Value).toArray below meth c H locs 0 0 Q (F0 m 17 ls [.int x_1]) := by
    intro x_1 S_2 H locs ls hf hP hS hl
    have hf := z_e2 ej_17 hf
    refine lv_istore (lv' := [(5, .int x_1), (0, .ref (ad 128)), (2, .int a_2), (3, .int a_3), (4, .int a_4)]) hx hb dX4_gainAt_17 hl (by decide) rfl (fun ls hl => ?_)
    refine lv_iload hx hb dX4_gainAt_19 (lv_at hl 4 rfl) ?_
    refine lv_iconst (v := -1) hx hb dX4_gainAt_21 (by decide) ?_
    obtain ⟨j_39, ej_39, hf⟩ := z_nm hf
    have J_39 : ∀ (x_3 : Int32) (S_4 : zSt) (H : Heap) (locs : List Loc) (ls : Array Slot), j_39 x_3 S_4 = some (ro, So) → va_P D vwCl (zX cy ad S_4) H → va_S A s.heap H locs → lv_has ls 7 [(0, .ref (ad 128)), (2, .int a_2), (3, .int a_3), (5, .int x_1)] → W p l e ({ frames := 1, cells := 0, slots := 0, locals := 24 }) s m ([.ref (ad 128), .int a_1, .int a_2, .int a_3, .int a_4] : List Value).toArray below meth c H locs 0 0 Q (F0 m 39 ls [.int x_3]) := by
      intro x_3 S_4 H locs ls hf hP hS hl
      have hf := z_e2 ej_39 hf
      refine lv_istore (lv' := [(6, .int x_3), (0, .ref (ad 128)), (2, .int a_2), (3, .int a_3), (5, .int x_1)]) hx hb dX4_gainAt_39 hl (by decide) rfl (fun ls hl => ?_)
      refine lv_iload hx hb dX4_gainAt_41 (lv_at hl 0 rfl) ?_
      refine lv_iload hx hb dX4_gainAt_43 (lv_at hl 4 rfl) ?_
      refine lv_isub hx hb dX4_gainAt_45 ?_
      refine lv_aload_n hx hb dX4_gainAt_46 rfl (lv_at hl 1 rfl) ?_
      refine va_get (D := D) (ci := 4) (v := .ref (ad 3)) (C := RX4) (T := TX4) (N := 14) hx hb hts k0 hown hK hP 128 (zX_128 cy ad S_4) rfl 0 (by decide) k1 (fun _ h9 => h9) rfl dX4_gainAt_47 ?_
      refine va_get (D := D) (ci := 0) (v := .ref (ad 19)) (C := RX0) (T := TX0) (N := 6) hx hb hts k2 hown hK hP 3 (zX_3 cy ad S_4) rfl 2 (by decide) k3 (fun _ h9 => h9) rfl dX4_gainAt_50 ?_
      refine lv_iconst (v := 2) hx hb dX4_gainAt_53 (by decide) ?_
      refine z_iald hx hb hK hP 19 0 (zX_19 cy ad S_4) rfl (vp_in_iff.mpr (by decide)) (k := 2) (by decide) dX4_gainAt_54 ?_
      refine lv_aload_n hx hb dX4_gainAt_55 rfl (lv_at hl 1 rfl) ?_
      refine lv_iload_n hx hb dX4_gainAt_56 rfl (lv_at hl 2 rfl) ?_
      refine lv_iload_n hx hb dX4_gainAt_57 rfl (lv_at hl 3 rfl) ?_
      obtain ⟨r_5, S_6, h_7, hf⟩ := z_bd hf
      refine z_cVI (As := [.int a_2, .int a_3]) (rest := [.int (S_4.1 19 2), .int (x_3 - x_1)]) X hK hE hD hA hP hS (cx_Lineup_woodOf l D K cy ad S_4 _ _ _ _ h_7) (cwV 2 hts (z_gV wt_4_72 wt_4_74 wp_29 wt_1_11 wt_4_75) rfl rfl rfl ⟨rfl, yd_yX4_woodOf⟩ ⟨Nat.le_of_ble_eq_true rfl, Nat.le_of_ble_eq_true rfl⟩) (va_recv hK hP (ci := 4) (q0 := 128) rfl (zX_128 cy ad S_4)) hl.1 rfl rfl (Nat.le_of_ble_eq_true rfl) dX4_gainAt_58 (fun H locs hP hS => ?_)
      refine lv_imul hx hb dX4_gainAt_61 ?_
      refine lv_isub hx hb dX4_gainAt_62 ?_
      obtain ⟨h1, h2⟩ := z_s2 hf
      subst h1 h2
      exact hret _ _ _ _ hP hS dX4_gainAt_63
    refine lv_icmp_ne (tgt := 29) hx hb dX4_gainAt_22 (by decide) (fun c_9 => ?_) (fun c_9 => ?_)
    · have hf := z_if c_9 hf
      refine lv_aload_n hx hb dX4_gainAt_29 rfl (lv_at hl 1 rfl) ?_
      refine va_get (D := D) (ci := 4) (v := .ref (ad 134)) (C := RX4) (T := TX4) (N := 14) hx hb hts k0 hown hK hP 128 (zX_128 cy ad S_2) rfl 10 (by decide) k4 (fun _ h9 => h9) rfl dX4_gainAt_30 ?_
      refine lv_iload hx hb dX4_gainAt_33 (lv_at hl 4 rfl) ?_
      obtain ⟨h_8, hf⟩ := z_ix hf
      refine z_iald hx hb hK hP 134 0 (zX_134 cy ad S_2) rfl h_8 (k := (a_4.toNatClampNeg)) rfl dX4_gainAt_35 ?_
      refine lv_bipush (v := 9) hx hb dX4_gainAt_36 (by decide) ?_
      refine lv_idiv hx hb dX4_gainAt_38 (by decide) ?_
      exact J_39 ((S_2.1 134 (a_4.toNatClampNeg)) / (9 : Int32)) S_2 _ _ _ hf hP hS (lv_sub hl [1, 2, 3, 0] rfl)
    · have hf := z_it c_9 hf
      refine lv_iconst (v := 0) hx hb dX4_gainAt_25 (by decide) ?_
      refine lv_goto (tgt := 39) hx hb dX4_gainAt_26 (by decide) ?_
      exact J_39 (0 : Int32) S_2 _ _ _ hf hP hS (lv_sub hl [1, 2, 3, 0] rfl)
  refine lv_if_le (tgt := 16) hx hb dX4_gainAt_1 (by decide) (fun c_11 => ?_) (fun c_11 => ?_)
  · have hf := z_it c_11 hf
    refine lv_iconst (v := 0) hx hb dX4_gainAt_16 (by decide) ?_
    exact J_17 (0 : Int32) S_0 _ _ _ hf hP hS (lv_sub hl [0, 2, 3, 4] rfl)
  · have hf := z_if c_11 hf
    refine lv_aload_n hx hb dX4_gainAt_4 rfl (lv_at hl 0 rfl) ?_
    refine va_get (D := D) (ci := 4) (v := .ref (ad 134)) (C := RX4) (T := TX4) (N := 14) hx hb hts k0 hown hK hP 128 (zX_128 cy ad S_0) rfl 10 (by decide) k4 (fun _ h9 => h9) rfl dX4_gainAt_5 ?_
    refine lv_iload_n hx hb dX4_gainAt_8 rfl (lv_at hl 2 rfl) ?_
    obtain ⟨h_10, hf⟩ := z_ix hf
    refine z_iald hx hb hK hP 134 0 (zX_134 cy ad S_0) rfl h_10 (k := (a_2.toNatClampNeg)) rfl dX4_gainAt_9 ?_
    refine lv_bipush (v := 9) hx hb dX4_gainAt_10 (by decide) ?_
    refine lv_idiv hx hb dX4_gainAt_12 (by decide) ?_
    refine lv_goto (tgt := 17) hx hb dX4_gainAt_13 (by decide) ?_
    exact J_17 ((S_0.1 134 (a_2.toNatClampNeg)) / (9 : Int32)) S_0 _ _ _ hf hP hS (lv_sub hl [0, 2, 3, 4] rfl)
