theorem yd_yX11_of : (yX11_of).cls ≠ "java/lang/invoke/MethodHandle" ∧ (yX11_of).cls ≠ "java/lang/invoke/VarHandle" ∧ (parseMethodDescriptor (yX11_of).desc).map (fun d => d.parameters.length) = some 2 := by decide +kernel
def fx_of (S_0 : zSt) (a_1 : Int32) (a_2 : Int32) : Option (Int32 × zSt) :=
  zbd (fx_Houses_has S_0 a_1) fun r_1 S_2 =>
  if r_1 = 0 then (
  some ((-1000000000 : Int32), S_2)) else (
  if a_2 = (0 : Int32) then (
  zck (zix a_1 9) <|
  some (S_2.1 5 (a_1.toNatClampNeg), S_2)) else (
  if a_2 = (1 : Int32) then (
  zck (zix a_1 9) <|
  some (S_2.1 6 (a_1.toNatClampNeg), S_2)) else (
  if a_2 = (2 : Int32) then (
  zck (zix a_1 9) <|
  some (S_2.1 7 (a_1.toNatClampNeg), S_2)) else (
  if a_2 = (3 : Int32) then (
  zck (zix a_1 9) <|
  some (S_2.1 12 (a_1.toNatClampNeg), S_2)) else (
  if a_2 = (4 : Int32) then (
  zck (zix a_1 9) <|
  some (S_2.1 13 (a_1.toNatClampNeg), S_2)) else (
  if a_2 = (5 : Int32) then (
  zck (zix a_1 9) <|
  some (S_2.1 14 (a_1.toNatClampNeg), S_2)) else (
  if a_2 = (6 : Int32) then (
  zck (zix a_1 9) <|
  some (S_2.1 15 (a_1.toNatClampNeg), S_2)) else (
  if a_2 = (7 : Int32) then (
  zck (zix a_1 9) <|
  some (S_2.1 16 (a_1.toNatClampNeg), S_2)) else (
  if a_2 = (8 : Int32) then (
  zck (zix a_1 9) <|
  some (S_2.1 17 (a_1.toNatClampNeg), S_2)) else (
  if a_2 = (9 : Int32) then (
  zck (zix a_1 9) <|
  some (S_2.1 10 (a_1.toNatClampNeg), S_2)) else (
  znm (a_2 - (10 : Int32)) fun x_34 =>
  znm (fun (x_35 : Int32) (S_36 : zSt) =>
  some (x_35, S_36)) fun j_244 =>
  znm (fun (S_37 : zSt) =>
  j_244 (-1000000000 : Int32) S_37) fun j_242 =>
  if x_34 < 0 then (
  j_242  S_2) else (
  zck (zix a_1 9) <|
  if (S_2.1 9 (a_1.toNatClampNeg)) ≤ x_34 then (
  j_242  S_2) else (
  zbd (fx_Houses_letterOf S_2 a_1 x_34) fun r_39 S_40 =>
  j_244 r_39 S_40)))))))))))))
set_option maxHeartbeats 4000000 in
set_option maxRecDepth 100000 in
theorem cx_of (l : Launch) (D : va_G) (K : (Nat → Nat) × (Nat → Nat)) (cy : Nat → ClassId) (ad : Nat → Nat) (S_0 : zSt) (a_1 : Int32) (a_2 : Int32) (ro : Int32) (So : zSt) (hf : fx_of S_0 a_1 a_2 = some (ro, So)) : zMI l yX11_of (zws yX11_of cX11_of 4 (Option.some .int)) ({ frames := 1, cells := 0, slots := 0, locals := 22 }) D (zTy cy) K (zX cy ad) [.ref (ad 0), .int a_1, .int a_2] S_0 ro So := by
  refine z_metI (own := RX11) (lv := [(0, .ref (ad 0)), (1, .int a_1), (2, .int a_2)]) (by decide) rfl rfl (Nat.le_of_ble_eq_true rfl) rfl ?_
  intro p e s m below meth c A Q X hK hE hD hA hret hP hS ls hl
  obtain ⟨hx, hb, hml, hown, hts⟩ := id X
  have k0 := (fun w h => List.mem_cons_of_mem _ (zFX11 w h) : ∀ w ∈ u_ws RX11 TX11 8, w ∈ zws yX11_of cX11_of 4 (Option.some .int))
  have k1 := hts _ (List.mem_cons_of_mem _ wt_2_175)
  have k2 := (fun w h => List.mem_cons_of_mem _ (zFX0 w h) : ∀ w ∈ u_ws RX0 TX0 6, w ∈ zws yX11_of cX11_of 4 (Option.some .int))
  have k3 := hts _ (List.mem_cons_of_mem _ wt_1_235)
  have k4 := (fun w h => List.mem_cons_of_mem _ (zFX2 w h) : ∀ w ∈ u_ws RX2 TX2 7, w ∈ zws yX11_of cX11_of 4 (Option.some .int))
  have k5 := hts _ (List.mem_cons_of_mem _ wt_1_71)
  have k6 := hts _ (List.mem_cons_of_mem _ wt_1_74)
  have k7 := hts _ (List.mem_cons_of_mem _ wt_1_76)
  have k8 := hts _ (List.mem_cons_of_mem _ wt_1_237)
  have k9 := (fun w h => List.mem_cons_of_mem _ (zFX10 w h) : ∀ w ∈ u_ws RX10 TX10 12, w ∈ zws yX11_of cX11_of 4 (Option.some .int))
  have k10 := hts _ (List.mem_cons_of_mem _ wt_1_117)
  have k11 := hts _ (List.mem_cons_of_mem _ wt_1_120)
  have k12 := hts _ (List.mem_cons_of_mem _ wt_1_123)
  have k13 := hts _ (List.mem_cons_of_mem _ wt_1_126)
  have k14 := hts _ (List.mem_cons_of_mem _ wt_1_129)
  have k15 := hts _ (List.mem_cons_of_mem _ wt_1_132)
  have k16 := hts _ (List.mem_cons_of_mem _ wt_1_85)
  have k17 := hts _ (List.mem_cons_of_mem _ wt_4_86)
  have k18 := hts _ (List.mem_cons_of_mem _ wt_1_81)
  refine lv_aload_n hx hb dX11_of_0 rfl (lv_at hl 0 rfl) ?_
  refine va_get (D := D) (ci := 11) (v := .ref (ad 3)) (C := RX11) (T := TX11) (N := 8) hx hb hts k0 hown hK hP 0 (zX_0 cy ad S_0) rfl 1 (by decide) k1 (fun _ h9 => h9) rfl dX11_of_1 ?_
  refine va_get (D := D) (ci := 0) (v := .ref (ad 4)) (C := RX0) (T := TX0) (N := 6) hx hb hts k2 hown hK hP 3 (zX_3 cy ad S_0) rfl 0 (by decide) k3 (fun _ h9 => h9) rfl dX11_of_4 ?_
  refine lv_iload_n hx hb dX11_of_7 rfl (lv_at hl 1 rfl) ?_
  obtain ⟨r_1, S_2, h_3, hf⟩ := z_bd hf
  refine z_cVI (As := [.int a_1]) (rest := []) X hK hE hD hA hP hS (cx_Houses_has l D K cy ad S_0 _ _ _ h_3) (cwV 1 hts (z_gV wt_3_3 wt_3_4 wt_3_5 wt_1_4 wt_3_6) rfl rfl rfl ⟨rfl, yd_yX2_has⟩ ⟨Nat.le_of_ble_eq_true rfl, Nat.le_of_ble_eq_true rfl⟩) (va_recv hK hP (ci := 2) (q0 := 4) rfl (zX_4 cy ad S_0)) hl.1 rfl rfl (Nat.le_of_ble_eq_true rfl) dX11_of_8 (fun H locs hP hS => ?_)
  refine lv_if_ne (tgt := 17) hx hb dX11_of_11 (by decide) (fun c_44 => ?_) (fun c_44 => ?_)
  · have hf := z_if c_44 hf
    refine lv_iload_n hx hb dX11_of_17 rfl (lv_at hl 2 rfl) ?_
    by_cases c_5 : a_2 = (0 : Int32)
    · have hf := z_it c_5 hf
      refine lv_tableIn (off := 54) (tgt := 72) hx hb dX11_of_18 (by rw [c_5]; decide) (by rw [c_5]; decide) (by rw [c_5]; rfl) (by decide) ?_
      refine lv_aload_n hx hb dX11_of_72 rfl (lv_at hl 0 rfl) ?_
      refine va_get (D := D) (ci := 11) (v := .ref (ad 3)) (C := RX11) (T := TX11) (N := 8) hx hb hts k0 hown hK hP 0 (zX_0 cy ad S_2) rfl 1 (by decide) k1 (fun _ h9 => h9) rfl dX11_of_73 ?_
      refine va_get (D := D) (ci := 0) (v := .ref (ad 4)) (C := RX0) (T := TX0) (N := 6) hx hb hts k2 hown hK hP 3 (zX_3 cy ad S_2) rfl 0 (by decide) k3 (fun _ h9 => h9) rfl dX11_of_76 ?_
      refine va_get (D := D) (ci := 2) (v := .ref (ad 5)) (C := RX2) (T := TX2) (N := 7) hx hb hts k4 hown hK hP 4 (zX_4 cy ad S_2) rfl 1 (by decide) k5 (fun _ h9 => h9) rfl dX11_of_79 ?_
      refine lv_iload_n hx hb dX11_of_82 rfl (lv_at hl 1 rfl) ?_
      obtain ⟨h_4, hf⟩ := z_ix hf
      refine z_iald hx hb hK hP 5 0 (zX_5 cy ad S_2) rfl h_4 (k := (a_1.toNatClampNeg)) rfl dX11_of_83 ?_
      obtain ⟨h1, h2⟩ := z_s2 hf
      subst h1 h2
      exact hret _ _ _ _ hP hS dX11_of_84
    have hf := z_if c_5 hf
    have n_6 : a_2.toInt ≠ 0 := z_ne c_5 (by decide)
    by_cases c_8 : a_2 = (1 : Int32)
    · have hf := z_it c_8 hf
      refine lv_tableIn (off := 67) (tgt := 85) hx hb dX11_of_18 (by rw [c_8]; decide) (by rw [c_8]; decide) (by rw [c_8]; rfl) (by decide) ?_
      refine lv_aload_n hx hb dX11_of_85 rfl (lv_at hl 0 rfl) ?_
      refine va_get (D := D) (ci := 11) (v := .ref (ad 3)) (C := RX11) (T := TX11) (N := 8) hx hb hts k0 hown hK hP 0 (zX_0 cy ad S_2) rfl 1 (by decide) k1 (fun _ h9 => h9) rfl dX11_of_86 ?_
      refine va_get (D := D) (ci := 0) (v := .ref (ad 4)) (C := RX0) (T := TX0) (N := 6) hx hb hts k2 hown hK hP 3 (zX_3 cy ad S_2) rfl 0 (by decide) k3 (fun _ h9 => h9) rfl dX11_of_89 ?_
      refine va_get (D := D) (ci := 2) (v := .ref (ad 6)) (C := RX2) (T := TX2) (N := 7) hx hb hts k4 hown hK hP 4 (zX_4 cy ad S_2) rfl 2 (by decide) k6 (fun _ h9 => h9) rfl dX11_of_92 ?_
      refine lv_iload_n hx hb dX11_of_95 rfl (lv_at hl 1 rfl) ?_
      obtain ⟨h_7, hf⟩ := z_ix hf
      refine z_iald hx hb hK hP 6 0 (zX_6 cy ad S_2) rfl h_7 (k := (a_1.toNatClampNeg)) rfl dX11_of_96 ?_
      obtain ⟨h1, h2⟩ := z_s2 hf
      subst h1 h2
      exact hret _ _ _ _ hP hS dX11_of_97
    have hf := z_if c_8 hf
    have n_9 : a_2.toInt ≠ 1 := z_ne c_8 (by decide)
    by_cases c_11 : a_2 = (2 : Int32)
    · have hf := z_it c_11 hf
      refine lv_tableIn (off := 80) (tgt := 98) hx hb dX11_of_18 (by rw [c_11]; decide) (by rw [c_11]; decide) (by rw [c_11]; rfl) (by decide) ?_
      refine lv_aload_n hx hb dX11_of_98 rfl (lv_at hl 0 rfl) ?_
      refine va_get (D := D) (ci := 11) (v := .ref (ad 3)) (C := RX11) (T := TX11) (N := 8) hx hb hts k0 hown hK hP 0 (zX_0 cy ad S_2) rfl 1 (by decide) k1 (fun _ h9 => h9) rfl dX11_of_99 ?_
      refine va_get (D := D) (ci := 0) (v := .ref (ad 4)) (C := RX0) (T := TX0) (N := 6) hx hb hts k2 hown hK hP 3 (zX_3 cy ad S_2) rfl 0 (by decide) k3 (fun _ h9 => h9) rfl dX11_of_102 ?_
      refine va_get (D := D) (ci := 2) (v := .ref (ad 7)) (C := RX2) (T := TX2) (N := 7) hx hb hts k4 hown hK hP 4 (zX_4 cy ad S_2) rfl 3 (by decide) k7 (fun _ h9 => h9) rfl dX11_of_105 ?_
      refine lv_iload_n hx hb dX11_of_108 rfl (lv_at hl 1 rfl) ?_
      obtain ⟨h_10, hf⟩ := z_ix hf
      refine z_iald hx hb hK hP 7 0 (zX_7 cy ad S_2) rfl h_10 (k := (a_1.toNatClampNeg)) rfl dX11_of_109 ?_
      obtain ⟨h1, h2⟩ := z_s2 hf
      subst h1 h2
      exact hret _ _ _ _ hP hS dX11_of_110
    have hf := z_if c_11 hf
    have n_12 : a_2.toInt ≠ 2 := z_ne c_11 (by decide)
    by_cases c_14 : a_2 = (3 : Int32)
    · have hf := z_it c_14 hf
      refine lv_tableIn (off := 93) (tgt := 111) hx hb dX11_of_18 (by rw [c_14]; decide) (by rw [c_14]; decide) (by rw [c_14]; rfl) (by decide) ?_
      refine lv_aload_n hx hb dX11_of_111 rfl (lv_at hl 0 rfl) ?_
      refine va_get (D := D) (ci := 11) (v := .ref (ad 3)) (C := RX11) (T := TX11) (N := 8) hx hb hts k0 hown hK hP 0 (zX_0 cy ad S_2) rfl 1 (by decide) k1 (fun _ h9 => h9) rfl dX11_of_112 ?_
      refine va_get (D := D) (ci := 0) (v := .ref (ad 11)) (C := RX0) (T := TX0) (N := 6) hx hb hts k2 hown hK hP 3 (zX_3 cy ad S_2) rfl 1 (by decide) k8 (fun _ h9 => h9) rfl dX11_of_115 ?_
      refine va_get (D := D) (ci := 10) (v := .ref (ad 12)) (C := RX10) (T := TX10) (N := 12) hx hb hts k9 hown hK hP 11 (zX_11 cy ad S_2) rfl 3 (by decide) k10 (fun _ h9 => h9) rfl dX11_of_118 ?_
      refine lv_iload_n hx hb dX11_of_121 rfl (lv_at hl 1 rfl) ?_
      obtain ⟨h_13, hf⟩ := z_ix hf
      refine z_iald hx hb hK hP 12 0 (zX_12 cy ad S_2) rfl h_13 (k := (a_1.toNatClampNeg)) rfl dX11_of_122 ?_
      obtain ⟨h1, h2⟩ := z_s2 hf
      subst h1 h2
      exact hret _ _ _ _ hP hS dX11_of_123
    have hf := z_if c_14 hf
    have n_15 : a_2.toInt ≠ 3 := z_ne c_14 (by decide)
    by_cases c_17 : a_2 = (4 : Int32)
    · have hf := z_it c_17 hf
      refine lv_tableIn (off := 106) (tgt := 124) hx hb dX11_of_18 (by rw [c_17]; decide) (by rw [c_17]; decide) (by rw [c_17]; rfl) (by decide) ?_
      refine lv_aload_n hx hb dX11_of_124 rfl (lv_at hl 0 rfl) ?_
      refine va_get (D := D) (ci := 11) (v := .ref (ad 3)) (C := RX11) (T := TX11) (N := 8) hx hb hts k0 hown hK hP 0 (zX_0 cy ad S_2) rfl 1 (by decide) k1 (fun _ h9 => h9) rfl dX11_of_125 ?_
      refine va_get (D := D) (ci := 0) (v := .ref (ad 11)) (C := RX0) (T := TX0) (N := 6) hx hb hts k2 hown hK hP 3 (zX_3 cy ad S_2) rfl 1 (by decide) k8 (fun _ h9 => h9) rfl dX11_of_128 ?_
      refine va_get (D := D) (ci := 10) (v := .ref (ad 13)) (C := RX10) (T := TX10) (N := 12) hx hb hts k9 hown hK hP 11 (zX_11 cy ad S_2) rfl 4 (by decide) k11 (fun _ h9 => h9) rfl dX11_of_131 ?_
      refine lv_iload_n hx hb dX11_of_134 rfl (lv_at hl 1 rfl) ?_
      obtain ⟨h_16, hf⟩ := z_ix hf
      refine z_iald hx hb hK hP 13 0 (zX_13 cy ad S_2) rfl h_16 (k := (a_1.toNatClampNeg)) rfl dX11_of_135 ?_
      obtain ⟨h1, h2⟩ := z_s2 hf
      subst h1 h2
      exact hret _ _ _ _ hP hS dX11_of_136
    have hf := z_if c_17 hf
    have n_18 : a_2.toInt ≠ 4 := z_ne c_17 (by decide)
    by_cases c_20 : a_2 = (5 : Int32)
    · have hf := z_it c_20 hf
      refine lv_tableIn (off := 119) (tgt := 137) hx hb dX11_of_18 (by rw [c_20]; decide) (by rw [c_20]; decide) (by rw [c_20]; rfl) (by decide) ?_
      refine lv_aload_n hx hb dX11_of_137 rfl (lv_at hl 0 rfl) ?_
      refine va_get (D := D) (ci := 11) (v := .ref (ad 3)) (C := RX11) (T := TX11) (N := 8) hx hb hts k0 hown hK hP 0 (zX_0 cy ad S_2) rfl 1 (by decide) k1 (fun _ h9 => h9) rfl dX11_of_138 ?_
      refine va_get (D := D) (ci := 0) (v := .ref (ad 11)) (C := RX0) (T := TX0) (N := 6) hx hb hts k2 hown hK hP 3 (zX_3 cy ad S_2) rfl 1 (by decide) k8 (fun _ h9 => h9) rfl dX11_of_141 ?_
      refine va_get (D := D) (ci := 10) (v := .ref (ad 14)) (C := RX10) (T := TX10) (N := 12) hx hb hts k9 hown hK hP 11 (zX_11 cy ad S_2) rfl 5 (by decide) k12 (fun _ h9 => h9) rfl dX11_of_144 ?_
      refine lv_iload_n hx hb dX11_of_147 rfl (lv_at hl 1 rfl) ?_
      obtain ⟨h_19, hf⟩ := z_ix hf
      refine z_iald hx hb hK hP 14 0 (zX_14 cy ad S_2) rfl h_19 (k := (a_1.toNatClampNeg)) rfl dX11_of_148 ?_
      obtain ⟨h1, h2⟩ := z_s2 hf
      subst h1 h2
      exact hret _ _ _ _ hP hS dX11_of_149
    have hf := z_if c_20 hf
    have n_21 : a_2.toInt ≠ 5 := z_ne c_20 (by decide)
    by_cases c_23 : a_2 = (6 : Int32)
    · have hf := z_it c_23 hf
      refine lv_tableIn (off := 132) (tgt := 150) hx hb dX11_of_18 (by rw [c_23]; decide) (by rw [c_23]; decide) (by rw [c_23]; rfl) (by decide) ?_
      refine lv_aload_n hx hb dX11_of_150 rfl (lv_at hl 0 rfl) ?_
      refine va_get (D := D) (ci := 11) (v := .ref (ad 3)) (C := RX11) (T := TX11) (N := 8) hx hb hts k0 hown hK hP 0 (zX_0 cy ad S_2) rfl 1 (by decide) k1 (fun _ h9 => h9) rfl dX11_of_151 ?_
      refine va_get (D := D) (ci := 0) (v := .ref (ad 11)) (C := RX0) (T := TX0) (N := 6) hx hb hts k2 hown hK hP 3 (zX_3 cy ad S_2) rfl 1 (by decide) k8 (fun _ h9 => h9) rfl dX11_of_154 ?_
      refine va_get (D := D) (ci := 10) (v := .ref (ad 15)) (C := RX10) (T := TX10) (N := 12) hx hb hts k9 hown hK hP 11 (zX_11 cy ad S_2) rfl 6 (by decide) k13 (fun _ h9 => h9) rfl dX11_of_157 ?_
      refine lv_iload_n hx hb dX11_of_160 rfl (lv_at hl 1 rfl) ?_
      obtain ⟨h_22, hf⟩ := z_ix hf
      refine z_iald hx hb hK hP 15 0 (zX_15 cy ad S_2) rfl h_22 (k := (a_1.toNatClampNeg)) rfl dX11_of_161 ?_
      obtain ⟨h1, h2⟩ := z_s2 hf
      subst h1 h2
      exact hret _ _ _ _ hP hS dX11_of_162
    have hf := z_if c_23 hf
    have n_24 : a_2.toInt ≠ 6 := z_ne c_23 (by decide)
    by_cases c_26 : a_2 = (7 : Int32)
    · have hf := z_it c_26 hf
      refine lv_tableIn (off := 145) (tgt := 163) hx hb dX11_of_18 (by rw [c_26]; decide) (by rw [c_26]; decide) (by rw [c_26]; rfl) (by decide) ?_
      refine lv_aload_n hx hb dX11_of_163 rfl (lv_at hl 0 rfl) ?_
      refine va_get (D := D) (ci := 11) (v := .ref (ad 3)) (C := RX11) (T := TX11) (N := 8) hx hb hts k0 hown hK hP 0 (zX_0 cy ad S_2) rfl 1 (by decide) k1 (fun _ h9 => h9) rfl dX11_of_164 ?_
      refine va_get (D := D) (ci := 0) (v := .ref (ad 11)) (C := RX0) (T := TX0) (N := 6) hx hb hts k2 hown hK hP 3 (zX_3 cy ad S_2) rfl 1 (by decide) k8 (fun _ h9 => h9) rfl dX11_of_167 ?_
      refine va_get (D := D) (ci := 10) (v := .ref (ad 16)) (C := RX10) (T := TX10) (N := 12) hx hb hts k9 hown hK hP 11 (zX_11 cy ad S_2) rfl 7 (by decide) k14 (fun _ h9 => h9) rfl dX11_of_170 ?_
      refine lv_iload_n hx hb dX11_of_173 rfl (lv_at hl 1 rfl) ?_
      obtain ⟨h_25, hf⟩ := z_ix hf
      refine z_iald hx hb hK hP 16 0 (zX_16 cy ad S_2) rfl h_25 (k := (a_1.toNatClampNeg)) rfl dX11_of_174 ?_
      obtain ⟨h1, h2⟩ := z_s2 hf
      subst h1 h2
      exact hret _ _ _ _ hP hS dX11_of_175
    have hf := z_if c_26 hf
    have n_27 : a_2.toInt ≠ 7 := z_ne c_26 (by decide)
    by_cases c_29 : a_2 = (8 : Int32)
    · have hf := z_it c_29 hf
      refine lv_tableIn (off := 158) (tgt := 176) hx hb dX11_of_18 (by rw [c_29]; decide) (by rw [c_29]; decide) (by rw [c_29]; rfl) (by decide) ?_
      refine lv_aload_n hx hb dX11_of_176 rfl (lv_at hl 0 rfl) ?_
      refine va_get (D := D) (ci := 11) (v := .ref (ad 3)) (C := RX11) (T := TX11) (N := 8) hx hb hts k0 hown hK hP 0 (zX_0 cy ad S_2) rfl 1 (by decide) k1 (fun _ h9 => h9) rfl dX11_of_177 ?_
      refine va_get (D := D) (ci := 0) (v := .ref (ad 11)) (C := RX0) (T := TX0) (N := 6) hx hb hts k2 hown hK hP 3 (zX_3 cy ad S_2) rfl 1 (by decide) k8 (fun _ h9 => h9) rfl dX11_of_180 ?_
      refine va_get (D := D) (ci := 10) (v := .ref (ad 17)) (C := RX10) (T := TX10) (N := 12) hx hb hts k9 hown hK hP 11 (zX_11 cy ad S_2) rfl 8 (by decide) k15 (fun _ h9 => h9) rfl dX11_of_183 ?_
      refine lv_iload_n hx hb dX11_of_186 rfl (lv_at hl 1 rfl) ?_
      obtain ⟨h_28, hf⟩ := z_ix hf
      refine z_iald hx hb hK hP 17 0 (zX_17 cy ad S_2) rfl h_28 (k := (a_1.toNatClampNeg)) rfl dX11_of_187 ?_
      obtain ⟨h1, h2⟩ := z_s2 hf
      subst h1 h2
      exact hret _ _ _ _ hP hS dX11_of_188
    have hf := z_if c_29 hf
    have n_30 : a_2.toInt ≠ 8 := z_ne c_29 (by decide)
    by_cases c_32 : a_2 = (9 : Int32)
    · have hf := z_it c_32 hf
      refine lv_tableIn (off := 171) (tgt := 189) hx hb dX11_of_18 (by rw [c_32]; decide) (by rw [c_32]; decide) (by rw [c_32]; rfl) (by decide) ?_
      refine lv_aload_n hx hb dX11_of_189 rfl (lv_at hl 0 rfl) ?_
      refine va_get (D := D) (ci := 11) (v := .ref (ad 3)) (C := RX11) (T := TX11) (N := 8) hx hb hts k0 hown hK hP 0 (zX_0 cy ad S_2) rfl 1 (by decide) k1 (fun _ h9 => h9) rfl dX11_of_190 ?_
      refine va_get (D := D) (ci := 0) (v := .ref (ad 4)) (C := RX0) (T := TX0) (N := 6) hx hb hts k2 hown hK hP 3 (zX_3 cy ad S_2) rfl 0 (by decide) k3 (fun _ h9 => h9) rfl dX11_of_193 ?_
      refine va_get (D := D) (ci := 2) (v := .ref (ad 10)) (C := RX2) (T := TX2) (N := 7) hx hb hts k4 hown hK hP 4 (zX_4 cy ad S_2) rfl 6 (by decide) k16 (fun _ h9 => h9) rfl dX11_of_196 ?_
      refine lv_iload_n hx hb dX11_of_199 rfl (lv_at hl 1 rfl) ?_
      obtain ⟨h_31, hf⟩ := z_ix hf
      refine z_iald hx hb hK hP 10 0 (zX_10 cy ad S_2) rfl h_31 (k := (a_1.toNatClampNeg)) rfl dX11_of_200 ?_
      obtain ⟨h1, h2⟩ := z_s2 hf
      subst h1 h2
      exact hret _ _ _ _ hP hS dX11_of_201
    have hf := z_if c_32 hf
    have n_33 : a_2.toInt ≠ 9 := z_ne c_32 (by decide)
    refine lv_tableOut (tgt := 202) hx hb dX11_of_18 (by omega) (by decide) ?_
    refine lv_iload_n hx hb dX11_of_202 rfl (lv_at hl 2 rfl) ?_
    refine lv_bipush (v := 10) hx hb dX11_of_203 (by decide) ?_
    refine lv_isub hx hb dX11_of_205 ?_
    refine lv_topi (fun x_34 ex_34 => ?_)
    have hf := z_nv ex_34 hf
    refine lv_istore_n (lv' := [(3, .int x_34), (0, .ref (ad 0)), (1, .int a_1), (2, .int a_2)]) hx hb dX11_of_206 rfl hl (by decide) rfl (fun ls hl => ?_)
    refine lv_iload_n hx hb dX11_of_207 rfl (lv_at hl 0 rfl) ?_
    obtain ⟨j_244, ej_244, hf⟩ := z_nm hf
    have J_244 : ∀ (x_35 : Int32) (S_36 : zSt) (H : Heap) (locs : List Loc) (ls : Array Slot), j_244 x_35 S_36 = some (ro, So) → va_P D vwCl (zX cy ad S_36) H → va_S A s.heap H locs → lv_has ls 4 [] → W p l e ({ frames := 1, cells := 0, slots := 0, locals := 22 }) s m ([.ref (ad 0), .int a_1, .int a_2] : List Value).toArray below meth c H locs 0 0 Q (F0 m 244 ls [.int x_35]) := by
      intro x_35 S_36 H locs ls hf hP hS hl
      have hf := z_e2 ej_244 hf
      obtain ⟨h1, h2⟩ := z_s2 hf
      subst h1 h2
      exact hret _ _ _ _ hP hS dX11_of_244
    obtain ⟨j_242, ej_242, hf⟩ := z_nm hf
    have J_242 : ∀ (S_37 : zSt) (H : Heap) (locs : List Loc) (ls : Array Slot), j_242  S_37 = some (ro, So) → va_P D vwCl (zX cy ad S_37) H → va_S A s.heap H locs → lv_has ls 4 [] → W p l e ({ frames := 1, cells := 0, slots := 0, locals := 22 }) s m ([.ref (ad 0), .int a_1, .int a_2] : List Value).toArray below meth c H locs 0 0 Q (F0 m 242 ls []) := by
      intro  S_37 H locs ls hf hP hS hl
      have hf := z_e1 ej_242 hf
      refine lv_ldc hx hb hown k17 dX11_of_242 ?_
      exact J_244 (-1000000000 : Int32) S_37 _ _ _ hf hP hS (lv_sub hl [] rfl)
    refine lv_if_lt (tgt := 242) hx hb dX11_of_208 (by decide) (fun c_43 => ?_) (fun c_43 => ?_)
    · have hf := z_it c_43 hf
      exact J_242  S_2 _ _ _ hf hP hS (lv_sub hl [] rfl)
    · have hf := z_if c_43 hf
      refine lv_iload_n hx hb dX11_of_211 rfl (lv_at hl 0 rfl) ?_
      refine lv_aload_n hx hb dX11_of_212 rfl (lv_at hl 1 rfl) ?_
      refine va_get (D := D) (ci := 11) (v := .ref (ad 3)) (C := RX11) (T := TX11) (N := 8) hx hb hts k0 hown hK hP 0 (zX_0 cy ad S_2) rfl 1 (by decide) k1 (fun _ h9 => h9) rfl dX11_of_213 ?_
      refine va_get (D := D) (ci := 0) (v := .ref (ad 4)) (C := RX0) (T := TX0) (N := 6) hx hb hts k2 hown hK hP 3 (zX_3 cy ad S_2) rfl 0 (by decide) k3 (fun _ h9 => h9) rfl dX11_of_216 ?_
      refine va_get (D := D) (ci := 2) (v := .ref (ad 9)) (C := RX2) (T := TX2) (N := 7) hx hb hts k4 hown hK hP 4 (zX_4 cy ad S_2) rfl 5 (by decide) k18 (fun _ h9 => h9) rfl dX11_of_219 ?_
      refine lv_iload_n hx hb dX11_of_222 rfl (lv_at hl 2 rfl) ?_
      obtain ⟨h_38, hf⟩ := z_ix hf
      refine z_iald hx hb hK hP 9 0 (zX_9 cy ad S_2) rfl h_38 (k := (a_1.toNatClampNeg)) rfl dX11_of_223 ?_
      refine lv_icmp_ge (tgt := 242) hx hb dX11_of_224 (by decide) (fun c_42 => ?_) (fun c_42 => ?_)
      · have hf := z_it c_42 hf
        exact J_242  S_2 _ _ _ hf hP hS (lv_sub hl [] rfl)
      · have hf := z_if c_42 hf
        refine lv_aload_n hx hb dX11_of_227 rfl (lv_at hl 1 rfl) ?_
        refine va_get (D := D) (ci := 11) (v := .ref (ad 3)) (C := RX11) (T := TX11) (N := 8) hx hb hts k0 hown hK hP 0 (zX_0 cy ad S_2) rfl 1 (by decide) k1 (fun _ h9 => h9) rfl dX11_of_228 ?_
        refine va_get (D := D) (ci := 0) (v := .ref (ad 4)) (C := RX0) (T := TX0) (N := 6) hx hb hts k2 hown hK hP 3 (zX_3 cy ad S_2) rfl 0 (by decide) k3 (fun _ h9 => h9) rfl dX11_of_231 ?_
        refine lv_iload_n hx hb dX11_of_234 rfl (lv_at hl 2 rfl) ?_
        refine lv_iload_n hx hb dX11_of_235 rfl (lv_at hl 0 rfl) ?_
        obtain ⟨r_39, S_40, h_41, hf⟩ := z_bd hf
        refine z_cVI (As := [.int a_1, .int x_34]) (rest := []) X hK hE hD hA hP hS (cx_Houses_letterOf l D K cy ad S_2 _ _ _ _ h_41) (cwV 2 hts (z_gV wt_4_87 wt_4_88 wt_4_89 wt_1_4 wt_4_90) rfl rfl rfl ⟨rfl, yd_yX2_letterOf⟩ ⟨Nat.le_of_ble_eq_true rfl, Nat.le_of_ble_eq_true rfl⟩) (va_recv hK hP (ci := 2) (q0 := 4) rfl (zX_4 cy ad S_2)) hl.1 rfl rfl (Nat.le_of_ble_eq_true rfl) dX11_of_236 (fun H locs hP hS => ?_)
        refine lv_goto (tgt := 244) hx hb dX11_of_239 (by decide) ?_
        exact J_244 r_39 S_40 _ _ _ hf hP hS (lv_sub hl [] rfl)
  · have hf := z_it c_44 hf
    refine lv_ldc hx hb hown k17 dX11_of_14 ?_
    obtain ⟨h1, h2⟩ := z_s2 hf
    subst h1 h2
    exact hret _ _ _ _ hP hS dX11_of_16
theorem yd_yX11_book : (yX11_book).cls ≠ "java/lang/invoke/MethodHandle" ∧ (yX11_book).cls ≠ "java/lang/invoke/VarHandle" ∧ (parseMethodDescriptor (yX11_book).desc).map (fun d => d.parameters.length) = some 1 := by decide +kernel
def fx_book (S_0 : zSt) (a_1 : Int32) : Option (Int32 × zSt) :=
  if a_1 = (100 : Int32) then (
  some (S_0.1 11 11, S_0)) else (
  znm (fun (x_1 : Int32) (S_2 : zSt) =>
  some (x_1, S_2)) fun j_51 =>
  znm (fun (S_3 : zSt) =>
  j_51 (-1 : Int32) S_3) fun j_50 =>
  if a_1 < 0 then (
  j_50  S_0) else (
  if (S_0.1 11 10) ≤ a_1 then (
  j_50  S_0) else (
  zck (zix a_1 9) <|
  j_51 (S_0.1 18 (a_1.toNatClampNeg)) S_0)))
set_option maxHeartbeats 4000000 in
set_option maxRecDepth 100000 in
theorem cx_book (l : Launch) (D : va_G) (K : (Nat → Nat) × (Nat → Nat)) (cy : Nat → ClassId) (ad : Nat → Nat) (S_0 : zSt) (a_1 : Int32) (ro : Int32) (So : zSt) (hf : fx_book S_0 a_1 = some (ro, So)) : zMI l yX11_book (zws yX11_book cX11_book 2 (Option.some .int)) ({ frames := 0, cells := 0, slots := 0, locals := 0 }) D (zTy cy) K (zX cy ad) [.ref (ad 0), .int a_1] S_0 ro So := by
  refine z_metI (own := RX11) (lv := [(0, .ref (ad 0)), (1, .int a_1)]) (by decide) rfl rfl (Nat.le_of_ble_eq_true rfl) rfl ?_
  intro p e s m below meth c A Q X hK hE hD hA hret hP hS ls hl
  obtain ⟨hx, hb, hml, hown, hts⟩ := id X
  have k0 := (fun w h => List.mem_cons_of_mem _ (zFX11 w h) : ∀ w ∈ u_ws RX11 TX11 8, w ∈ zws yX11_book cX11_book 2 (Option.some .int))
  have k1 := hts _ (List.mem_cons_of_mem _ wt_2_175)
  have k2 := (fun w h => List.mem_cons_of_mem _ (zFX0 w h) : ∀ w ∈ u_ws RX0 TX0 6, w ∈ zws yX11_book cX11_book 2 (Option.some .int))
  have k3 := hts _ (List.mem_cons_of_mem _ wt_1_237)
  have k4 := (fun w h => List.mem_cons_of_mem _ (zFX10 w h) : ∀ w ∈ u_ws RX10 TX10 12, w ∈ zws yX11_book cX11_book 2 (Option.some .int))
  have k5 := hts _ (List.mem_cons_of_mem _ wt_1_138)
  have k6 := hts _ (List.mem_cons_of_mem _ wt_1_135)
  have k7 := hts _ (List.mem_cons_of_mem _ wt_1_141)
  refine lv_iload_n hx hb dX11_book_0 rfl (lv_at hl 1 rfl) ?_
  refine lv_bipush (v := 100) hx hb dX11_book_1 (by decide) ?_
  refine lv_icmp_ne (tgt := 17) hx hb dX11_book_3 (by decide) (fun c_7 => ?_) (fun c_7 => ?_)
  · have hf := z_if c_7 hf
    refine lv_iload_n hx hb dX11_book_17 rfl (lv_at hl 1 rfl) ?_
    obtain ⟨j_51, ej_51, hf⟩ := z_nm hf
    have J_51 : ∀ (x_1 : Int32) (S_2 : zSt) (H : Heap) (locs : List Loc) (ls : Array Slot), j_51 x_1 S_2 = some (ro, So) → va_P D vwCl (zX cy ad S_2) H → va_S A s.heap H locs → lv_has ls 2 [] → W p l e ({ frames := 0, cells := 0, slots := 0, locals := 0 }) s m ([.ref (ad 0), .int a_1] : List Value).toArray below meth c H locs 0 0 Q (F0 m 51 ls [.int x_1]) := by
      intro x_1 S_2 H locs ls hf hP hS hl
      have hf := z_e2 ej_51 hf
      obtain ⟨h1, h2⟩ := z_s2 hf
      subst h1 h2
      exact hret _ _ _ _ hP hS dX11_book_51
    obtain ⟨j_50, ej_50, hf⟩ := z_nm hf
    have J_50 : ∀ (S_3 : zSt) (H : Heap) (locs : List Loc) (ls : Array Slot), j_50  S_3 = some (ro, So) → va_P D vwCl (zX cy ad S_3) H → va_S A s.heap H locs → lv_has ls 2 [] → W p l e ({ frames := 0, cells := 0, slots := 0, locals := 0 }) s m ([.ref (ad 0), .int a_1] : List Value).toArray below meth c H locs 0 0 Q (F0 m 50 ls []) := by
      intro  S_3 H locs ls hf hP hS hl
      have hf := z_e1 ej_50 hf
      refine lv_iconst (v := -1) hx hb dX11_book_50 (by decide) ?_
      exact J_51 (-1 : Int32) S_3 _ _ _ hf hP hS (lv_sub hl [] rfl)
    refine lv_if_lt (tgt := 50) hx hb dX11_book_18 (by decide) (fun c_6 => ?_) (fun c_6 => ?_)
    · have hf := z_it c_6 hf
      exact J_50  S_0 _ _ _ hf hP hS (lv_sub hl [] rfl)
    · have hf := z_if c_6 hf
      refine lv_iload_n hx hb dX11_book_21 rfl (lv_at hl 1 rfl) ?_
      refine lv_aload_n hx hb dX11_book_22 rfl (lv_at hl 0 rfl) ?_
      refine va_get (D := D) (ci := 11) (v := .ref (ad 3)) (C := RX11) (T := TX11) (N := 8) hx hb hts k0 hown hK hP 0 (zX_0 cy ad S_0) rfl 1 (by decide) k1 (fun _ h9 => h9) rfl dX11_book_23 ?_
      refine va_get (D := D) (ci := 0) (v := .ref (ad 11)) (C := RX0) (T := TX0) (N := 6) hx hb hts k2 hown hK hP 3 (zX_3 cy ad S_0) rfl 1 (by decide) k3 (fun _ h9 => h9) rfl dX11_book_26 ?_
      refine va_get (D := D) (ci := 10) (v := .int (S_0.1 11 10)) (C := RX10) (T := TX10) (N := 12) hx hb hts k4 hown hK hP 11 (zX_11 cy ad S_0) rfl 10 (by decide) k5 (fun _ h9 => h9) rfl dX11_book_29 ?_
      refine lv_icmp_ge (tgt := 50) hx hb dX11_book_32 (by decide) (fun c_5 => ?_) (fun c_5 => ?_)
      · have hf := z_it c_5 hf
        exact J_50  S_0 _ _ _ hf hP hS (lv_sub hl [] rfl)
      · have hf := z_if c_5 hf
        refine lv_aload_n hx hb dX11_book_35 rfl (lv_at hl 0 rfl) ?_
        refine va_get (D := D) (ci := 11) (v := .ref (ad 3)) (C := RX11) (T := TX11) (N := 8) hx hb hts k0 hown hK hP 0 (zX_0 cy ad S_0) rfl 1 (by decide) k1 (fun _ h9 => h9) rfl dX11_book_36 ?_
        refine va_get (D := D) (ci := 0) (v := .ref (ad 11)) (C := RX0) (T := TX0) (N := 6) hx hb hts k2 hown hK hP 3 (zX_3 cy ad S_0) rfl 1 (by decide) k3 (fun _ h9 => h9) rfl dX11_book_39 ?_
        refine va_get (D := D) (ci := 10) (v := .ref (ad 18)) (C := RX10) (T := TX10) (N := 12) hx hb hts k4 hown hK hP 11 (zX_11 cy ad S_0) rfl 9 (by decide) k6 (fun _ h9 => h9) rfl dX11_book_42 ?_
        refine lv_iload_n hx hb dX11_book_45 rfl (lv_at hl 1 rfl) ?_
        obtain ⟨h_4, hf⟩ := z_ix hf
        refine z_iald hx hb hK hP 18 0 (zX_18 cy ad S_0) rfl h_4 (k := (a_1.toNatClampNeg)) rfl dX11_book_46 ?_
        refine lv_goto (tgt := 51) hx hb dX11_book_47 (by decide) ?_
        exact J_51 (S_0.1 18 (a_1.toNatClampNeg)) S_0 _ _ _ hf hP hS (lv_sub hl [] rfl)
  · have hf := z_it c_7 hf
    refine lv_aload_n hx hb dX11_book_6 rfl (lv_at hl 0 rfl) ?_
    refine va_get (D := D) (ci := 11) (v := .ref (ad 3)) (C := RX11) (T := TX11) (N := 8) hx hb hts k0 hown hK hP 0 (zX_0 cy ad S_0) rfl 1 (by decide) k1 (fun _ h9 => h9) rfl dX11_book_7 ?_
    refine va_get (D := D) (ci := 0) (v := .ref (ad 11)) (C := RX0) (T := TX0) (N := 6) hx hb hts k2 hown hK hP 3 (zX_3 cy ad S_0) rfl 1 (by decide) k3 (fun _ h9 => h9) rfl dX11_book_10 ?_
    refine va_get (D := D) (ci := 10) (v := .int (S_0.1 11 11)) (C := RX10) (T := TX10) (N := 12) hx hb hts k4 hown hK hP 11 (zX_11 cy ad S_0) rfl 11 (by decide) k7 (fun _ h9 => h9) rfl dX11_book_13 ?_
    obtain ⟨h1, h2⟩ := z_s2 hf
    subst h1 h2
    exact hret _ _ _ _ hP hS dX11_book_16
theorem yd_yX11_gain : (yX11_gain).cls ≠ "java/lang/invoke/MethodHandle" ∧ (yX11_gain).cls ≠ "java/lang/invoke/VarHandle" ∧ (parseMethodDescriptor (yX11_gain).desc).map (fun d => d.parameters.length) = some 1 := by decide +kernel
def fx_gain (S_0 : zSt) (a_1 : Int32) : Option (Int32 × zSt) :=
  zbd (fx_Lineup_standAsTold S_0) fun r_1 S_2 =>
  znm (zpI S_2 1 1 (0 : Int32)) fun S_4 =>
  znm (fun (x_5 : Int32) (S_6 : zSt) =>
  some (x_5, S_6)) fun j_51 =>
  znm (fun (S_7 : zSt) =>
  j_51 (-1000000000 : Int32) S_7) fun j_49 =>
  if r_1 = 0 then (
  j_49  S_4) else (
  zbd (fx_Houses_has S_4 a_1) fun r_8 S_9 =>
  if r_8 = 0 then (
  j_49  S_9) else (
  zbd (fx_Lineup_gainOf S_9 a_1) fun r_11 S_12 =>
  j_51 r_11 S_12))
set_option maxHeartbeats 4000000 in
set_option maxRecDepth 100000 in
theorem cx_gain (l : Launch) (D : va_G) (K : (Nat → Nat) × (Nat → Nat)) (cy : Nat → ClassId) (ad : Nat → Nat) (S_0 : zSt) (a_1 : Int32) (ro : Int32) (So : zSt) (hf : fx_gain S_0 a_1 = some (ro, So)) : zMI l yX11_gain (zws yX11_gain cX11_gain 3 (Option.some .int)) ({ frames := 3, cells := 0, slots := 0, locals := 246 }) D (zTy cy) K (zX cy ad) [.ref (ad 0), .int a_1] S_0 ro So := by
  refine z_metI (own := RX11) (lv := [(0, .ref (ad 0)), (1, .int a_1)]) (by decide) rfl rfl (Nat.le_of_ble_eq_true rfl) rfl ?_
  intro p e s m below meth c A Q X hK hE hD hA hret hP hS ls hl
  obtain ⟨hx, hb, hml, hown, hts⟩ := id X
  have k0 := (fun w h => List.mem_cons_of_mem _ (zFX11 w h) : ∀ w ∈ u_ws RX11 TX11 8, w ∈ zws yX11_gain cX11_gain 3 (Option.some .int))
  have k1 := hts _ (List.mem_cons_of_mem _ wt_2_180)
  have k2 := hts _ (List.mem_cons_of_mem _ wt_2_174)
  have k3 := (fun w h => List.mem_cons_of_mem _ (zFX9 w h) : ∀ w ∈ u_ws RX9 TX9 2, w ∈ zws yX11_gain cX11_gain 3 (Option.some .int))
  have k4 := hts _ (List.mem_cons_of_mem _ wt_1_44)
  have k5 := hts _ (List.mem_cons_of_mem _ wt_4_86)
  have k6 := hts _ (List.mem_cons_of_mem _ wt_2_175)
  have k7 := (fun w h => List.mem_cons_of_mem _ (zFX0 w h) : ∀ w ∈ u_ws RX0 TX0 6, w ∈ zws yX11_gain cX11_gain 3 (Option.some .int))
  have k8 := hts _ (List.mem_cons_of_mem _ wt_1_235)
  refine lv_aload_n hx hb dX11_gain_0 rfl (lv_at hl 0 rfl) ?_
  refine va_get (D := D) (ci := 11) (v := .ref (ad 128)) (C := RX11) (T := TX11) (N := 8) hx hb hts k0 hown hK hP 0 (zX_0 cy ad S_0) rfl 6 (by decide) k1 (fun _ h9 => h9) rfl dX11_gain_1 ?_
  refine lv_aload_n hx hb dX11_gain_4 rfl (lv_at hl 0 rfl) ?_
  refine va_get (D := D) (ci := 11) (v := .ref (ad 1)) (C := RX11) (T := TX11) (N := 8) hx hb hts k0 hown hK hP 0 (zX_0 cy ad S_0) rfl 0 (by decide) k2 (fun _ h9 => h9) rfl dX11_gain_5 ?_
  obtain ⟨r_1, S_2, h_3, hf⟩ := z_bd hf
  refine z_cVI (As := [.ref (ad 1)]) (rest := []) X hK hE hD hA hP hS (cx_Lineup_standAsTold l D K cy ad S_0 _ _ h_3) (cwV 1 hts (z_gV wt_4_99 wt_4_100 wt_4_101 wt_1_11 wt_4_102) rfl rfl rfl ⟨rfl, yd_yX4_standAsTold⟩ ⟨Nat.le_of_ble_eq_true rfl, Nat.le_of_ble_eq_true rfl⟩) (va_recv hK hP (ci := 4) (q0 := 128) rfl (zX_128 cy ad S_0)) hl.1 rfl rfl (Nat.le_of_ble_eq_true rfl) dX11_gain_8 (fun H locs hP hS => ?_)
  refine lv_istore_n (lv' := [(2, .int r_1), (0, .ref (ad 0)), (1, .int a_1)]) hx hb dX11_gain_11 rfl hl (by decide) rfl (fun ls hl => ?_)
  refine lv_aload_n hx hb dX11_gain_12 rfl (lv_at hl 1 rfl) ?_
  refine va_get (D := D) (ci := 11) (v := .ref (ad 1)) (C := RX11) (T := TX11) (N := 8) hx hb hts k0 hown hK hP 0 (zX_0 cy ad S_2) rfl 0 (by decide) k2 (fun _ h9 => h9) rfl dX11_gain_13 ?_
  refine lv_iconst (v := 0) hx hb dX11_gain_16 (by decide) ?_
  refine va_put (D := D) (ci := 9) (v := .int (0 : Int32)) (ty := .int) (C := RX9) (T := TX9) (N := 2) hx hb hts k3 tyX9 tyX9_ok nmX9 hown hK hP (hD S_2) hS 1 (zX_1 cy ad S_2) rfl 1 (by decide) k4 (fun _ h9 => h9) rfl (tyX9_ok 1 (by decide)) rfl rfl (Nat.le_of_ble_eq_true rfl) dX11_gain_17 (fun H locs hP _ hS => ?_)
  obtain ⟨S_4, eS_4, hf⟩ := z_nm hf
  have hP := zW_putI hP eS_4 (by decide) rfl
  refine lv_iload_n hx hb dX11_gain_20 rfl (lv_at hl 0 rfl) ?_
  obtain ⟨j_51, ej_51, hf⟩ := z_nm hf
  have J_51 : ∀ (x_5 : Int32) (S_6 : zSt) (H : Heap) (locs : List Loc) (ls : Array Slot), j_51 x_5 S_6 = some (ro, So) → va_P D vwCl (zX cy ad S_6) H → va_S A s.heap H locs → lv_has ls 3 [] → W p l e ({ frames := 3, cells := 0, slots := 0, locals := 246 }) s m ([.ref (ad 0), .int a_1] : List Value).toArray below meth c H locs 0 0 Q (F0 m 51 ls [.int x_5]) := by
    intro x_5 S_6 H locs ls hf hP hS hl
    have hf := z_e2 ej_51 hf
    obtain ⟨h1, h2⟩ := z_s2 hf
    subst h1 h2
    exact hret _ _ _ _ hP hS dX11_gain_51
  obtain ⟨j_49, ej_49, hf⟩ := z_nm hf
  have J_49 : ∀ (S_7 : zSt) (H : Heap) (locs : List Loc) (ls : Array Slot), j_49  S_7 = some (ro, So) → va_P D vwCl (zX cy ad S_7) H → va_S A s.heap H locs → lv_has ls 3 [] → W p l e ({ frames := 3, cells := 0, slots := 0, locals := 246 }) s m ([.ref (ad 0), .int a_1] : List Value).toArray below meth c H locs 0 0 Q (F0 m 49 ls []) := by
    intro  S_7 H locs ls hf hP hS hl
    have hf := z_e1 ej_49 hf
    refine lv_ldc hx hb hown k5 dX11_gain_49 ?_
    exact J_51 (-1000000000 : Int32) S_7 _ _ _ hf hP hS (lv_sub hl [] rfl)
  refine lv_if_eq (tgt := 49) hx hb dX11_gain_21 (by decide) (fun c_15 => ?_) (fun c_15 => ?_)
  · have hf := z_it c_15 hf
    exact J_49  S_4 _ _ _ hf hP hS (lv_sub hl [] rfl)
  · have hf := z_if c_15 hf
    refine lv_aload_n hx hb dX11_gain_24 rfl (lv_at hl 1 rfl) ?_
    refine va_get (D := D) (ci := 11) (v := .ref (ad 3)) (C := RX11) (T := TX11) (N := 8) hx hb hts k0 hown hK hP 0 (zX_0 cy ad S_4) rfl 1 (by decide) k6 (fun _ h9 => h9) rfl dX11_gain_25 ?_
    refine va_get (D := D) (ci := 0) (v := .ref (ad 4)) (C := RX0) (T := TX0) (N := 6) hx hb hts k7 hown hK hP 3 (zX_3 cy ad S_4) rfl 0 (by decide) k8 (fun _ h9 => h9) rfl dX11_gain_28 ?_
    refine lv_iload_n hx hb dX11_gain_31 rfl (lv_at hl 2 rfl) ?_
    obtain ⟨r_8, S_9, h_10, hf⟩ := z_bd hf
    refine z_cVI (As := [.int a_1]) (rest := []) X hK hE hD hA hP hS (cx_Houses_has l D K cy ad S_4 _ _ _ h_10) (cwV 1 hts (z_gV wt_3_3 wt_3_4 wt_3_5 wt_1_4 wt_3_6) rfl rfl rfl ⟨rfl, yd_yX2_has⟩ ⟨Nat.le_of_ble_eq_true rfl, Nat.le_of_ble_eq_true rfl⟩) (va_recv hK hP (ci := 2) (q0 := 4) rfl (zX_4 cy ad S_4)) hl.1 rfl rfl (Nat.le_of_ble_eq_true rfl) dX11_gain_32 (fun H locs hP hS => ?_)
    refine lv_if_eq (tgt := 49) hx hb dX11_gain_35 (by decide) (fun c_14 => ?_) (fun c_14 => ?_)
    · have hf := z_it c_14 hf
      exact J_49  S_9 _ _ _ hf hP hS (lv_sub hl [] rfl)
    · have hf := z_if c_14 hf
      refine lv_aload_n hx hb dX11_gain_38 rfl (lv_at hl 1 rfl) ?_
      refine va_get (D := D) (ci := 11) (v := .ref (ad 128)) (C := RX11) (T := TX11) (N := 8) hx hb hts k0 hown hK hP 0 (zX_0 cy ad S_9) rfl 6 (by decide) k1 (fun _ h9 => h9) rfl dX11_gain_39 ?_
      refine lv_iload_n hx hb dX11_gain_42 rfl (lv_at hl 2 rfl) ?_
      obtain ⟨r_11, S_12, h_13, hf⟩ := z_bd hf
      refine z_cVI (As := [.int a_1]) (rest := []) X hK hE hD hA hP hS (cx_Lineup_gainOf l D K cy ad S_9 _ _ _ h_13) (cwV 1 hts (z_gV wt_4_108 wt_4_109 wt_4_110 wt_1_11 wt_4_111) rfl rfl rfl ⟨rfl, yd_yX4_gainOf⟩ ⟨Nat.le_of_ble_eq_true rfl, Nat.le_of_ble_eq_true rfl⟩) (va_recv hK hP (ci := 4) (q0 := 128) rfl (zX_128 cy ad S_9)) hl.1 rfl rfl (Nat.le_of_ble_eq_true rfl) dX11_gain_43 (fun H locs hP hS => ?_)
      refine lv_goto (tgt := 51) hx hb dX11_gain_46 (by decide) ?_
      exact J_51 r_11 S_12 _ _ _ hf hP hS (lv_sub hl [] rfl)
theorem yd_yX11_canSearch : (yX11_canSearch).cls ≠ "java/lang/invoke/MethodHandle" ∧ (yX11_canSearch).cls ≠ "java/lang/invoke/VarHandle" ∧ (parseMethodDescriptor (yX11_canSearch).desc).map (fun d => d.parameters.length) = some 1 := by decide +kernel
def fx_canSearch (S_0 : zSt) (a_1 : Int32) : Option (Int32 × zSt) :=
  znm (fun (x_1 : Int32) (S_2 : zSt) =>
  zck (zbo x_1) <|
  some (x_1, S_2)) fun j_41 =>
  znm (fun (S_4 : zSt) =>
  j_41 (0 : Int32) S_4) fun j_40 =>
  if (7 : Int32) < (S_0.1 4 0) then (
  j_40  S_0) else (
  znm (fun (S_5 : zSt) =>
  j_41 (1 : Int32) S_5) fun j_36 =>
  if a_1 = 0 then (
  j_36  S_0) else (
  zbd (fx_Houses_has S_0 (a_1 - (10 : Int32))) fun r_6 S_7 =>
  if r_6 = 0 then (
  j_40  S_7) else (
  j_36  S_7)))
set_option maxHeartbeats 4000000 in
set_option maxRecDepth 100000 in
theorem cx_canSearch (l : Launch) (D : va_G) (K : (Nat → Nat) × (Nat → Nat)) (cy : Nat → ClassId) (ad : Nat → Nat) (S_0 : zSt) (a_1 : Int32) (ro : Int32) (So : zSt) (hf : fx_canSearch S_0 a_1 = some (ro, So)) : zMI l yX11_canSearch (zws yX11_canSearch cX11_canSearch 2 (Option.some .boolean)) ({ frames := 1, cells := 0, slots := 0, locals := 21 }) D (zTy cy) K (zX cy ad) [.ref (ad 0), .int a_1] S_0 ro So := by
  refine z_metZ (own := RX11) (lv := [(0, .ref (ad 0)), (1, .int a_1)]) (by decide) rfl rfl (Nat.le_of_ble_eq_true rfl) rfl ?_
  intro p e s m below meth c A Q X hK hE hD hA hret hP hS ls hl
  obtain ⟨hx, hb, hml, hown, hts⟩ := id X
  have k0 := (fun w h => List.mem_cons_of_mem _ (zFX11 w h) : ∀ w ∈ u_ws RX11 TX11 8, w ∈ zws yX11_canSearch cX11_canSearch 2 (Option.some .boolean))
  have k1 := hts _ (List.mem_cons_of_mem _ wt_2_175)
  have k2 := (fun w h => List.mem_cons_of_mem _ (zFX0 w h) : ∀ w ∈ u_ws RX0 TX0 6, w ∈ zws yX11_canSearch cX11_canSearch 2 (Option.some .boolean))
  have k3 := hts _ (List.mem_cons_of_mem _ wt_1_235)
  have k4 := (fun w h => List.mem_cons_of_mem _ (zFX2 w h) : ∀ w ∈ u_ws RX2 TX2 7, w ∈ zws yX11_canSearch cX11_canSearch 2 (Option.some .boolean))
  have k5 := hts _ (List.mem_cons_of_mem _ wt_1_68)
  refine lv_aload_n hx hb dX11_canSearch_0 rfl (lv_at hl 0 rfl) ?_
  refine va_get (D := D) (ci := 11) (v := .ref (ad 3)) (C := RX11) (T := TX11) (N := 8) hx hb hts k0 hown hK hP 0 (zX_0 cy ad S_0) rfl 1 (by decide) k1 (fun _ h9 => h9) rfl dX11_canSearch_1 ?_
  refine va_get (D := D) (ci := 0) (v := .ref (ad 4)) (C := RX0) (T := TX0) (N := 6) hx hb hts k2 hown hK hP 3 (zX_3 cy ad S_0) rfl 0 (by decide) k3 (fun _ h9 => h9) rfl dX11_canSearch_4 ?_
  refine va_get (D := D) (ci := 2) (v := .int (S_0.1 4 0)) (C := RX2) (T := TX2) (N := 7) hx hb hts k4 hown hK hP 4 (zX_4 cy ad S_0) rfl 0 (by decide) k5 (fun _ h9 => h9) rfl dX11_canSearch_7 ?_
  refine lv_bipush (v := 7) hx hb dX11_canSearch_10 (by decide) ?_
  obtain ⟨j_41, ej_41, hf⟩ := z_nm hf
  have J_41 : ∀ (x_1 : Int32) (S_2 : zSt) (H : Heap) (locs : List Loc) (ls : Array Slot), j_41 x_1 S_2 = some (ro, So) → va_P D vwCl (zX cy ad S_2) H → va_S A s.heap H locs → lv_has ls 2 [] → W p l e ({ frames := 1, cells := 0, slots := 0, locals := 21 }) s m ([.ref (ad 0), .int a_1] : List Value).toArray below meth c H locs 0 0 Q (F0 m 41 ls [.int x_1]) := by
    intro x_1 S_2 H locs ls hf hP hS hl
    have hf := z_e2 ej_41 hf
    obtain ⟨h_3, hf⟩ := z_bo hf
    obtain ⟨h1, h2⟩ := z_s2 hf
    subst h1 h2
    exact hret _ _ _ _ h_3 hP hS dX11_canSearch_41
  obtain ⟨j_40, ej_40, hf⟩ := z_nm hf
  have J_40 : ∀ (S_4 : zSt) (H : Heap) (locs : List Loc) (ls : Array Slot), j_40  S_4 = some (ro, So) → va_P D vwCl (zX cy ad S_4) H → va_S A s.heap H locs → lv_has ls 2 [] → W p l e ({ frames := 1, cells := 0, slots := 0, locals := 21 }) s m ([.ref (ad 0), .int a_1] : List Value).toArray below meth c H locs 0 0 Q (F0 m 40 ls []) := by
    intro  S_4 H locs ls hf hP hS hl
    have hf := z_e1 ej_40 hf
    refine lv_iconst (v := 0) hx hb dX11_canSearch_40 (by decide) ?_
    exact J_41 (0 : Int32) S_4 _ _ _ hf hP hS (lv_sub hl [] rfl)
  refine lv_icmp_gt (tgt := 40) hx hb dX11_canSearch_12 (by decide) (fun c_11 => ?_) (fun c_11 => ?_)
  · have hf := z_it c_11 hf
    exact J_40  S_0 _ _ _ hf hP hS (lv_sub hl [] rfl)
  · have hf := z_if c_11 hf
    refine lv_iload_n hx hb dX11_canSearch_15 rfl (lv_at hl 1 rfl) ?_
    obtain ⟨j_36, ej_36, hf⟩ := z_nm hf
    have J_36 : ∀ (S_5 : zSt) (H : Heap) (locs : List Loc) (ls : Array Slot), j_36  S_5 = some (ro, So) → va_P D vwCl (zX cy ad S_5) H → va_S A s.heap H locs → lv_has ls 2 [] → W p l e ({ frames := 1, cells := 0, slots := 0, locals := 21 }) s m ([.ref (ad 0), .int a_1] : List Value).toArray below meth c H locs 0 0 Q (F0 m 36 ls []) := by
      intro  S_5 H locs ls hf hP hS hl
      have hf := z_e1 ej_36 hf
      refine lv_iconst (v := 1) hx hb dX11_canSearch_36 (by decide) ?_
      refine lv_goto (tgt := 41) hx hb dX11_canSearch_37 (by decide) ?_
      exact J_41 (1 : Int32) S_5 _ _ _ hf hP hS (lv_sub hl [] rfl)
    refine lv_if_eq (tgt := 36) hx hb dX11_canSearch_16 (by decide) (fun c_10 => ?_) (fun c_10 => ?_)
    · have hf := z_it c_10 hf
      exact J_36  S_0 _ _ _ hf hP hS (lv_sub hl [] rfl)
    · have hf := z_if c_10 hf
      refine lv_aload_n hx hb dX11_canSearch_19 rfl (lv_at hl 0 rfl) ?_
      refine va_get (D := D) (ci := 11) (v := .ref (ad 3)) (C := RX11) (T := TX11) (N := 8) hx hb hts k0 hown hK hP 0 (zX_0 cy ad S_0) rfl 1 (by decide) k1 (fun _ h9 => h9) rfl dX11_canSearch_20 ?_
      refine va_get (D := D) (ci := 0) (v := .ref (ad 4)) (C := RX0) (T := TX0) (N := 6) hx hb hts k2 hown hK hP 3 (zX_3 cy ad S_0) rfl 0 (by decide) k3 (fun _ h9 => h9) rfl dX11_canSearch_23 ?_
      refine lv_iload_n hx hb dX11_canSearch_26 rfl (lv_at hl 1 rfl) ?_
      refine lv_bipush (v := 10) hx hb dX11_canSearch_27 (by decide) ?_
      refine lv_isub hx hb dX11_canSearch_29 ?_
      obtain ⟨r_6, S_7, h_8, hf⟩ := z_bd hf
      refine z_cVI (As := [.int (a_1 - (10 : Int32))]) (rest := []) X hK hE hD hA hP hS (cx_Houses_has l D K cy ad S_0 _ _ _ h_8) (cwV 1 hts (z_gV wt_3_3 wt_3_4 wt_3_5 wt_1_4 wt_3_6) rfl rfl rfl ⟨rfl, yd_yX2_has⟩ ⟨Nat.le_of_ble_eq_true rfl, Nat.le_of_ble_eq_true rfl⟩) (va_recv hK hP (ci := 2) (q0 := 4) rfl (zX_4 cy ad S_0)) hl.1 rfl rfl (Nat.le_of_ble_eq_true rfl) dX11_canSearch_30 (fun H locs hP hS => ?_)
      refine lv_if_eq (tgt := 40) hx hb dX11_canSearch_33 (by decide) (fun c_9 => ?_) (fun c_9 => ?_)
      · have hf := z_it c_9 hf
        exact J_40  S_7 _ _ _ hf hP hS (lv_sub hl [] rfl)
      · have hf := z_if c_9 hf
        exact J_36  S_7 _ _ _ hf hP hS (lv_sub hl [] rfl)
theorem yd_yX11_round : (yX11_round).cls ≠ "java/lang/invoke/MethodHandle" ∧ (yX11_round).cls ≠ "java/lang/invoke/VarHandle" ∧ (parseMethodDescriptor (yX11_round).desc).map (fun d => d.parameters.length) = some 1 := by decide +kernel
def fx_round (S_0 : zSt) (a_1 : Int32) : Option (Int32 × zSt) :=
  znm (fun (S_1 : zSt) =>
  zbd (fx_Lineup_goRound S_1) fun _ S_3 =>
  znm (fun (x_5 : Int32) (S_6 : zSt) =>
  some (x_5, S_6)) fun j_39 =>
  if a_1 = 0 then (
  j_39 (S_3.1 128 5) S_3) else (
  j_39 (S_3.1 128 6) S_3)) fun j_11 =>
  if a_1 = 0 then (
  j_11  S_0) else (
  if a_1 = (1 : Int32) then (
  j_11  S_0) else (
  some ((-1 : Int32), S_0)))
set_option maxHeartbeats 4000000 in
set_option maxRecDepth 100000 in
theorem cx_round (l : Launch) (D : va_G) (K : (Nat → Nat) × (Nat → Nat)) (cy : Nat → ClassId) (ad : Nat → Nat) (S_0 : zSt) (a_1 : Int32) (ro : Int32) (So : zSt) (hf : fx_round S_0 a_1 = some (ro, So)) : zMI l yX11_round (zws yX11_round cX11_round 2 (Option.some .int)) ({ frames := 5, cells := 0, slots := 0, locals := 292 }) D (zTy cy) K (zX cy ad) [.ref (ad 0), .int a_1] S_0 ro So := by
  refine z_metI (own := RX11) (lv := [(0, .ref (ad 0)), (1, .int a_1)]) (by decide) rfl rfl (Nat.le_of_ble_eq_true rfl) rfl ?_
  intro p e s m below meth c A Q X hK hE hD hA hret hP hS ls hl
  obtain ⟨hx, hb, hml, hown, hts⟩ := id X
  have k0 := (fun w h => List.mem_cons_of_mem _ (zFX11 w h) : ∀ w ∈ u_ws RX11 TX11 8, w ∈ zws yX11_round cX11_round 2 (Option.some .int))
  have k1 := hts _ (List.mem_cons_of_mem _ wt_2_180)
  have k2 := (fun w h => List.mem_cons_of_mem _ (zFX4 w h) : ∀ w ∈ u_ws RX4 TX4 14, w ∈ zws yX11_round cX11_round 2 (Option.some .int))
  have k3 := hts _ (List.mem_cons_of_mem _ wt_2_119)
  have k4 := hts _ (List.mem_cons_of_mem _ wt_2_117)
  refine lv_iload_n hx hb dX11_round_0 rfl (lv_at hl 1 rfl) ?_
  obtain ⟨j_11, ej_11, hf⟩ := z_nm hf
  have J_11 : ∀ (S_1 : zSt) (H : Heap) (locs : List Loc) (ls : Array Slot), j_11  S_1 = some (ro, So) → va_P D vwCl (zX cy ad S_1) H → va_S A s.heap H locs → lv_has ls 2 [(0, .ref (ad 0)), (1, .int a_1)] → W p l e ({ frames := 5, cells := 0, slots := 0, locals := 292 }) s m ([.ref (ad 0), .int a_1] : List Value).toArray below meth c H locs 0 0 Q (F0 m 11 ls []) := by
    intro  S_1 H locs ls hf hP hS hl
    have hf := z_e1 ej_11 hf
    refine lv_aload_n hx hb dX11_round_11 rfl (lv_at hl 0 rfl) ?_
    refine va_get (D := D) (ci := 11) (v := .ref (ad 128)) (C := RX11) (T := TX11) (N := 8) hx hb hts k0 hown hK hP 0 (zX_0 cy ad S_1) rfl 6 (by decide) k1 (fun _ h9 => h9) rfl dX11_round_12 ?_
    obtain ⟨r_2, S_3, h_4, hf⟩ := z_bd hf
    refine z_cVV (As := []) (rest := []) X hK hE hD hA hP hS (cx_Lineup_goRound l D K cy ad S_1 _ h_4) (cwV 0 hts (z_gV wt_4_153 wt_4_154 wt_4_155 wt_1_11 wt_4_156) rfl rfl rfl ⟨rfl, yd_yX4_goRound⟩ ⟨Nat.le_of_ble_eq_true rfl, Nat.le_of_ble_eq_true rfl⟩) (va_recv hK hP (ci := 4) (q0 := 128) rfl (zX_128 cy ad S_1)) hl.1 rfl rfl (Nat.le_of_ble_eq_true rfl) dX11_round_15 (fun H locs hP hS => ?_)
    refine lv_iload_n hx hb dX11_round_18 rfl (lv_at hl 1 rfl) ?_
    obtain ⟨j_39, ej_39, hf⟩ := z_nm hf
    have J_39 : ∀ (x_5 : Int32) (S_6 : zSt) (H : Heap) (locs : List Loc) (ls : Array Slot), j_39 x_5 S_6 = some (ro, So) → va_P D vwCl (zX cy ad S_6) H → va_S A s.heap H locs → lv_has ls 2 [] → W p l e ({ frames := 5, cells := 0, slots := 0, locals := 292 }) s m ([.ref (ad 0), .int a_1] : List Value).toArray below meth c H locs 0 0 Q (F0 m 39 ls [.int x_5]) := by
      intro x_5 S_6 H locs ls hf hP hS hl
      have hf := z_e2 ej_39 hf
      obtain ⟨h1, h2⟩ := z_s2 hf
      subst h1 h2
      exact hret _ _ _ _ hP hS dX11_round_39
    refine lv_if_ne (tgt := 32) hx hb dX11_round_19 (by decide) (fun c_7 => ?_) (fun c_7 => ?_)
    · have hf := z_if c_7 hf
      refine lv_aload_n hx hb dX11_round_32 rfl (lv_at hl 0 rfl) ?_
      refine va_get (D := D) (ci := 11) (v := .ref (ad 128)) (C := RX11) (T := TX11) (N := 8) hx hb hts k0 hown hK hP 0 (zX_0 cy ad S_3) rfl 6 (by decide) k1 (fun _ h9 => h9) rfl dX11_round_33 ?_
      refine va_get (D := D) (ci := 4) (v := .int (S_3.1 128 6)) (C := RX4) (T := TX4) (N := 14) hx hb hts k2 hown hK hP 128 (zX_128 cy ad S_3) rfl 6 (by decide) k3 (fun _ h9 => h9) rfl dX11_round_36 ?_
      exact J_39 (S_3.1 128 6) S_3 _ _ _ hf hP hS (lv_sub hl [] rfl)
    · have hf := z_it c_7 hf
      refine lv_aload_n hx hb dX11_round_22 rfl (lv_at hl 0 rfl) ?_
      refine va_get (D := D) (ci := 11) (v := .ref (ad 128)) (C := RX11) (T := TX11) (N := 8) hx hb hts k0 hown hK hP 0 (zX_0 cy ad S_3) rfl 6 (by decide) k1 (fun _ h9 => h9) rfl dX11_round_23 ?_
      refine va_get (D := D) (ci := 4) (v := .int (S_3.1 128 5)) (C := RX4) (T := TX4) (N := 14) hx hb hts k2 hown hK hP 128 (zX_128 cy ad S_3) rfl 5 (by decide) k4 (fun _ h9 => h9) rfl dX11_round_26 ?_
      refine lv_goto (tgt := 39) hx hb dX11_round_29 (by decide) ?_
      exact J_39 (S_3.1 128 5) S_3 _ _ _ hf hP hS (lv_sub hl [] rfl)
  refine lv_if_eq (tgt := 11) hx hb dX11_round_1 (by decide) (fun c_9 => ?_) (fun c_9 => ?_)
  · have hf := z_it c_9 hf
    exact J_11  S_0 _ _ _ hf hP hS (lv_sub hl [0, 1] rfl)
  · have hf := z_if c_9 hf
    refine lv_iload_n hx hb dX11_round_4 rfl (lv_at hl 1 rfl) ?_
    refine lv_iconst (v := 1) hx hb dX11_round_5 (by decide) ?_
    refine lv_icmp_eq (tgt := 11) hx hb dX11_round_6 (by decide) (fun c_8 => ?_) (fun c_8 => ?_)
    · have hf := z_it c_8 hf
      exact J_11  S_0 _ _ _ hf hP hS (lv_sub hl [0, 1] rfl)
    · have hf := z_if c_8 hf
      refine lv_iconst (v := -1) hx hb dX11_round_9 (by decide) ?_
      obtain ⟨h1, h2⟩ := z_s2 hf
      subst h1 h2
      exact hret _ _ _ _ hP hS dX11_round_10
theorem yd_yX11_leaven : (yX11_leaven).cls ≠ "java/lang/invoke/MethodHandle" ∧ (yX11_leaven).cls ≠ "java/lang/invoke/VarHandle" ∧ (parseMethodDescriptor (yX11_leaven).desc).map (fun d => d.parameters.length) = some 2 := by decide +kernel
def fx_leaven (S_0 : zSt) (a_1 : Int32) (a_2 : Int32) : Option (Int32 × zSt) :=
  if a_2 = (-1 : Int32) then (
  zbd (fx_Houses_has S_0 a_1) fun r_15 S_16 =>
  znm (fun (x_18 : Int32) (S_19 : zSt) =>
  some (x_18, S_19)) fun j_34 =>
  if r_15 = 0 then (
  j_34 (-1 : Int32) S_16) else (
  zbd (fx_Leavens_addNew S_16 a_1) fun r_20 S_21 =>
  j_34 r_20 S_21)) else (
  zbd (fx_Leavens_has S_0 a_1) fun r_1 S_2 =>
  znm (fun (x_4 : Int32) (S_5 : zSt) =>
  some (x_4, S_5)) fun j_79 =>
  znm (fun (S_6 : zSt) =>
  j_79 (-1 : Int32) S_6) fun j_78 =>
  if r_1 = 0 then (
  j_78  S_2) else (
  zbd (fx_Leavens_has S_2 a_2) fun r_7 S_8 =>
  if r_7 = 0 then (
  j_78  S_8) else (
  zbd (fx_Leavens_addMixed S_8 a_1 a_2) fun r_10 S_11 =>
  j_79 r_10 S_11)))
set_option maxHeartbeats 4000000 in
set_option maxRecDepth 100000 in
theorem cx_leaven (l : Launch) (D : va_G) (K : (Nat → Nat) × (Nat → Nat)) (cy : Nat → ClassId) (ad : Nat → Nat) (S_0 : zSt) (a_1 : Int32) (a_2 : Int32) (ro : Int32) (So : zSt) (hf : fx_leaven S_0 a_1 a_2 = some (ro, So)) : zMI l yX11_leaven (zws yX11_leaven cX11_leaven 3 (Option.some .int)) ({ frames := 2, cells := 0, slots := 0, locals := 223 }) D (zTy cy) K (zX cy ad) [.ref (ad 0), .int a_1, .int a_2] S_0 ro So := by
  refine z_metI (own := RX11) (lv := [(0, .ref (ad 0)), (1, .int a_1), (2, .int a_2)]) (by decide) rfl rfl (Nat.le_of_ble_eq_true rfl) rfl ?_
  intro p e s m below meth c A Q X hK hE hD hA hret hP hS ls hl
  obtain ⟨hx, hb, hml, hown, hts⟩ := id X
  have k0 := (fun w h => List.mem_cons_of_mem _ (zFX11 w h) : ∀ w ∈ u_ws RX11 TX11 8, w ∈ zws yX11_leaven cX11_leaven 3 (Option.some .int))
  have k1 := hts _ (List.mem_cons_of_mem _ wt_2_175)
  have k2 := (fun w h => List.mem_cons_of_mem _ (zFX0 w h) : ∀ w ∈ u_ws RX0 TX0 6, w ∈ zws yX11_leaven cX11_leaven 3 (Option.some .int))
  have k3 := hts _ (List.mem_cons_of_mem _ wt_2_6)
  have k4 := hts _ (List.mem_cons_of_mem _ wt_1_235)
  refine lv_iload_n hx hb dX11_leaven_0 rfl (lv_at hl 2 rfl) ?_
  refine lv_iconst (v := -1) hx hb dX11_leaven_1 (by decide) ?_
  refine lv_icmp_ne (tgt := 35) hx hb dX11_leaven_2 (by decide) (fun c_24 => ?_) (fun c_24 => ?_)
  · have hf := z_if c_24 hf
    refine lv_aload_n hx hb dX11_leaven_35 rfl (lv_at hl 0 rfl) ?_
    refine va_get (D := D) (ci := 11) (v := .ref (ad 3)) (C := RX11) (T := TX11) (N := 8) hx hb hts k0 hown hK hP 0 (zX_0 cy ad S_0) rfl 1 (by decide) k1 (fun _ h9 => h9) rfl dX11_leaven_36 ?_
    refine va_get (D := D) (ci := 0) (v := .ref (ad 22)) (C := RX0) (T := TX0) (N := 6) hx hb hts k2 hown hK hP 3 (zX_3 cy ad S_0) rfl 4 (by decide) k3 (fun _ h9 => h9) rfl dX11_leaven_39 ?_
    refine lv_iload_n hx hb dX11_leaven_42 rfl (lv_at hl 1 rfl) ?_
    obtain ⟨r_1, S_2, h_3, hf⟩ := z_bd hf
    refine z_cVI (As := [.int a_1]) (rest := []) X hK hE hD hA hP hS (cx_Leavens_has l D K cy ad S_0 _ _ _ h_3) (cwV 1 hts (z_gV wt_4_195 wt_4_196 wt_4_197 wt_1_7 wt_4_198) rfl rfl rfl ⟨rfl, yd_yX3_has⟩ ⟨Nat.le_of_ble_eq_true rfl, Nat.le_of_ble_eq_true rfl⟩) (va_recv hK hP (ci := 3) (q0 := 22) rfl (zX_22 cy ad S_0)) hl.1 rfl rfl (Nat.le_of_ble_eq_true rfl) dX11_leaven_43 (fun H locs hP hS => ?_)
    obtain ⟨j_79, ej_79, hf⟩ := z_nm hf
    have J_79 : ∀ (x_4 : Int32) (S_5 : zSt) (H : Heap) (locs : List Loc) (ls : Array Slot), j_79 x_4 S_5 = some (ro, So) → va_P D vwCl (zX cy ad S_5) H → va_S A s.heap H locs → lv_has ls 3 [] → W p l e ({ frames := 2, cells := 0, slots := 0, locals := 223 }) s m ([.ref (ad 0), .int a_1, .int a_2] : List Value).toArray below meth c H locs 0 0 Q (F0 m 79 ls [.int x_4]) := by
      intro x_4 S_5 H locs ls hf hP hS hl
      have hf := z_e2 ej_79 hf
      obtain ⟨h1, h2⟩ := z_s2 hf
      subst h1 h2
      exact hret _ _ _ _ hP hS dX11_leaven_79
    obtain ⟨j_78, ej_78, hf⟩ := z_nm hf
    have J_78 : ∀ (S_6 : zSt) (H : Heap) (locs : List Loc) (ls : Array Slot), j_78  S_6 = some (ro, So) → va_P D vwCl (zX cy ad S_6) H → va_S A s.heap H locs → lv_has ls 3 [] → W p l e ({ frames := 2, cells := 0, slots := 0, locals := 223 }) s m ([.ref (ad 0), .int a_1, .int a_2] : List Value).toArray below meth c H locs 0 0 Q (F0 m 78 ls []) := by
      intro  S_6 H locs ls hf hP hS hl
      have hf := z_e1 ej_78 hf
      refine lv_iconst (v := -1) hx hb dX11_leaven_78 (by decide) ?_
      exact J_79 (-1 : Int32) S_6 _ _ _ hf hP hS (lv_sub hl [] rfl)
    refine lv_if_eq (tgt := 78) hx hb dX11_leaven_46 (by decide) (fun c_14 => ?_) (fun c_14 => ?_)
    · have hf := z_it c_14 hf
      exact J_78  S_2 _ _ _ hf hP hS (lv_sub hl [] rfl)
    · have hf := z_if c_14 hf
      refine lv_aload_n hx hb dX11_leaven_49 rfl (lv_at hl 0 rfl) ?_
      refine va_get (D := D) (ci := 11) (v := .ref (ad 3)) (C := RX11) (T := TX11) (N := 8) hx hb hts k0 hown hK hP 0 (zX_0 cy ad S_2) rfl 1 (by decide) k1 (fun _ h9 => h9) rfl dX11_leaven_50 ?_
      refine va_get (D := D) (ci := 0) (v := .ref (ad 22)) (C := RX0) (T := TX0) (N := 6) hx hb hts k2 hown hK hP 3 (zX_3 cy ad S_2) rfl 4 (by decide) k3 (fun _ h9 => h9) rfl dX11_leaven_53 ?_
      refine lv_iload_n hx hb dX11_leaven_56 rfl (lv_at hl 2 rfl) ?_
      obtain ⟨r_7, S_8, h_9, hf⟩ := z_bd hf
      refine z_cVI (As := [.int a_2]) (rest := []) X hK hE hD hA hP hS (cx_Leavens_has l D K cy ad S_2 _ _ _ h_9) (cwV 1 hts (z_gV wt_4_195 wt_4_196 wt_4_197 wt_1_7 wt_4_198) rfl rfl rfl ⟨rfl, yd_yX3_has⟩ ⟨Nat.le_of_ble_eq_true rfl, Nat.le_of_ble_eq_true rfl⟩) (va_recv hK hP (ci := 3) (q0 := 22) rfl (zX_22 cy ad S_2)) hl.1 rfl rfl (Nat.le_of_ble_eq_true rfl) dX11_leaven_57 (fun H locs hP hS => ?_)
      refine lv_if_eq (tgt := 78) hx hb dX11_leaven_60 (by decide) (fun c_13 => ?_) (fun c_13 => ?_)
      · have hf := z_it c_13 hf
        exact J_78  S_8 _ _ _ hf hP hS (lv_sub hl [] rfl)
      · have hf := z_if c_13 hf
        refine lv_aload_n hx hb dX11_leaven_63 rfl (lv_at hl 0 rfl) ?_
        refine va_get (D := D) (ci := 11) (v := .ref (ad 3)) (C := RX11) (T := TX11) (N := 8) hx hb hts k0 hown hK hP 0 (zX_0 cy ad S_8) rfl 1 (by decide) k1 (fun _ h9 => h9) rfl dX11_leaven_64 ?_
        refine va_get (D := D) (ci := 0) (v := .ref (ad 22)) (C := RX0) (T := TX0) (N := 6) hx hb hts k2 hown hK hP 3 (zX_3 cy ad S_8) rfl 4 (by decide) k3 (fun _ h9 => h9) rfl dX11_leaven_67 ?_
        refine lv_iload_n hx hb dX11_leaven_70 rfl (lv_at hl 1 rfl) ?_
        refine lv_iload_n hx hb dX11_leaven_71 rfl (lv_at hl 2 rfl) ?_
        obtain ⟨r_10, S_11, h_12, hf⟩ := z_bd hf
        refine z_cVI (As := [.int a_1, .int a_2]) (rest := []) X hK hE hD hA hP hS (cx_Leavens_addMixed l D K cy ad S_8 _ _ _ _ h_12) (cwV 2 hts (z_gV wt_4_199 wt_4_200 wt_4_201 wt_1_7 wt_4_202) rfl rfl rfl ⟨rfl, yd_yX3_addMixed⟩ ⟨Nat.le_of_ble_eq_true rfl, Nat.le_of_ble_eq_true rfl⟩) (va_recv hK hP (ci := 3) (q0 := 22) rfl (zX_22 cy ad S_8)) hl.1 rfl rfl (Nat.le_of_ble_eq_true rfl) dX11_leaven_72 (fun H locs hP hS => ?_)
        refine lv_goto (tgt := 79) hx hb dX11_leaven_75 (by decide) ?_
        exact J_79 r_10 S_11 _ _ _ hf hP hS (lv_sub hl [] rfl)
  · have hf := z_it c_24 hf
    refine lv_aload_n hx hb dX11_leaven_5 rfl (lv_at hl 0 rfl) ?_
    refine va_get (D := D) (ci := 11) (v := .ref (ad 3)) (C := RX11) (T := TX11) (N := 8) hx hb hts k0 hown hK hP 0 (zX_0 cy ad S_0) rfl 1 (by decide) k1 (fun _ h9 => h9) rfl dX11_leaven_6 ?_
    refine va_get (D := D) (ci := 0) (v := .ref (ad 4)) (C := RX0) (T := TX0) (N := 6) hx hb hts k2 hown hK hP 3 (zX_3 cy ad S_0) rfl 0 (by decide) k4 (fun _ h9 => h9) rfl dX11_leaven_9 ?_
    refine lv_iload_n hx hb dX11_leaven_12 rfl (lv_at hl 1 rfl) ?_
    obtain ⟨r_15, S_16, h_17, hf⟩ := z_bd hf
    refine z_cVI (As := [.int a_1]) (rest := []) X hK hE hD hA hP hS (cx_Houses_has l D K cy ad S_0 _ _ _ h_17) (cwV 1 hts (z_gV wt_3_3 wt_3_4 wt_3_5 wt_1_4 wt_3_6) rfl rfl rfl ⟨rfl, yd_yX2_has⟩ ⟨Nat.le_of_ble_eq_true rfl, Nat.le_of_ble_eq_true rfl⟩) (va_recv hK hP (ci := 2) (q0 := 4) rfl (zX_4 cy ad S_0)) hl.1 rfl rfl (Nat.le_of_ble_eq_true rfl) dX11_leaven_13 (fun H locs hP hS => ?_)
    obtain ⟨j_34, ej_34, hf⟩ := z_nm hf
    have J_34 : ∀ (x_18 : Int32) (S_19 : zSt) (H : Heap) (locs : List Loc) (ls : Array Slot), j_34 x_18 S_19 = some (ro, So) → va_P D vwCl (zX cy ad S_19) H → va_S A s.heap H locs → lv_has ls 3 [] → W p l e ({ frames := 2, cells := 0, slots := 0, locals := 223 }) s m ([.ref (ad 0), .int a_1, .int a_2] : List Value).toArray below meth c H locs 0 0 Q (F0 m 34 ls [.int x_18]) := by
      intro x_18 S_19 H locs ls hf hP hS hl
      have hf := z_e2 ej_34 hf
      obtain ⟨h1, h2⟩ := z_s2 hf
      subst h1 h2
      exact hret _ _ _ _ hP hS dX11_leaven_34
    refine lv_if_eq (tgt := 33) hx hb dX11_leaven_16 (by decide) (fun c_23 => ?_) (fun c_23 => ?_)
    · have hf := z_it c_23 hf
      refine lv_iconst (v := -1) hx hb dX11_leaven_33 (by decide) ?_
      exact J_34 (-1 : Int32) S_16 _ _ _ hf hP hS (lv_sub hl [] rfl)
    · have hf := z_if c_23 hf
      refine lv_aload_n hx hb dX11_leaven_19 rfl (lv_at hl 0 rfl) ?_
      refine va_get (D := D) (ci := 11) (v := .ref (ad 3)) (C := RX11) (T := TX11) (N := 8) hx hb hts k0 hown hK hP 0 (zX_0 cy ad S_16) rfl 1 (by decide) k1 (fun _ h9 => h9) rfl dX11_leaven_20 ?_
      refine va_get (D := D) (ci := 0) (v := .ref (ad 22)) (C := RX0) (T := TX0) (N := 6) hx hb hts k2 hown hK hP 3 (zX_3 cy ad S_16) rfl 4 (by decide) k3 (fun _ h9 => h9) rfl dX11_leaven_23 ?_
      refine lv_iload_n hx hb dX11_leaven_26 rfl (lv_at hl 1 rfl) ?_
      obtain ⟨r_20, S_21, h_22, hf⟩ := z_bd hf
      refine z_cVI (As := [.int a_1]) (rest := []) X hK hE hD hA hP hS (cx_Leavens_addNew l D K cy ad S_16 _ _ _ h_22) (cwV 1 hts (z_gV wt_4_187 wt_4_188 wt_4_189 wt_1_7 wt_4_190) rfl rfl rfl ⟨rfl, yd_yX3_addNew⟩ ⟨Nat.le_of_ble_eq_true rfl, Nat.le_of_ble_eq_true rfl⟩) (va_recv hK hP (ci := 3) (q0 := 22) rfl (zX_22 cy ad S_16)) hl.1 rfl rfl (Nat.le_of_ble_eq_true rfl) dX11_leaven_27 (fun H locs hP hS => ?_)
      refine lv_goto (tgt := 34) hx hb dX11_leaven_30 (by decide) ?_
      exact J_34 r_20 S_21 _ _ _ hf hP hS (lv_sub hl [] rfl)
theorem yd_yX11_greatestCommonDivisor : (yX11_greatestCommonDivisor).cls ≠ "java/lang/invoke/MethodHandle" ∧ (yX11_greatestCommonDivisor).cls ≠ "java/lang/invoke/VarHandle" ∧ (parseMethodDescriptor (yX11_greatestCommonDivisor).desc).map (fun d => d.parameters.length) = some 2 := by decide +kernel
def fx_greatestCommonDivisor_L9 (j_44 : Int64 → zSt → Option (Int64 × zSt)) : Nat → Int64 → Int64 → Int32 → zSt → Option (Int64 × zSt)
  | 0, _, _, _, _ => none
  | n_9 + 1, x_3, x_4, x_5, S_6 =>
    if (100 : Int32) ≤ x_5 then (
    j_44 x_3 S_6) else (
    if (lg_cmp x_4 (0 : Int64)) = 0 then (
    j_44 x_3 S_6) else (
    zck (znzL x_4) <|
    znm (x_3 - x_3 / x_4 * x_4) fun x_8 =>
    znm (x_5 + (1 : Int32)) fun x_9 =>
    fx_greatestCommonDivisor_L9 j_44 n_9 x_4 x_8 x_9 S_6))
def fx_greatestCommonDivisor (S_0 : zSt) (a_1 : Int64) (a_2 : Int64) : Option (Int64 × zSt) :=
  znm (fun (x_1 : Int64) (S_2 : zSt) =>
  some (x_1, S_2)) fun j_44 =>
  fx_greatestCommonDivisor_L9 j_44 zFU a_2 a_1 (0 : Int32) S_0
set_option maxHeartbeats 4000000 in
set_option maxRecDepth 100000 in
theorem cx_greatestCommonDivisor (l : Launch) (D : va_G) (K : (Nat → Nat) × (Nat → Nat)) (cy : Nat → ClassId) (ad : Nat → Nat) (S_0 : zSt) (a_1 : Int64) (a_2 : Int64) (ro : Int64) (So : zSt) (hf : fx_greatestCommonDivisor S_0 a_1 a_2 = some (ro, So)) : zML l yX11_greatestCommonDivisor (zws yX11_greatestCommonDivisor cX11_greatestCommonDivisor 11 (Option.some .long)) ({ frames := 0, cells := 0, slots := 0, locals := 0 }) D (zTy cy) K (zX cy ad) [.long a_1, .long a_2] S_0 ro So := by
  refine z_metL (own := RX11) (lv := [(0, .long a_1), (2, .long a_2)]) (by decide) rfl rfl (Nat.le_of_ble_eq_true rfl) rfl ?_
  intro p e s m below meth c A Q X hK hE hD hA hret hP hS ls hl
  obtain ⟨hx, hb, hml, hown, hts⟩ := id X
  refine lv_lload_n hx hb dX11_greatestCommonDivisor_0 rfl (lv_at hl 1 rfl) ?_
  refine lv_lstore (lv' := [(4, .long a_2), (0, .long a_1), (2, .long a_2)]) hx hb dX11_greatestCommonDivisor_1 hl (by decide) rfl (fun ls hl => ?_)
  refine lv_lload_n hx hb dX11_greatestCommonDivisor_3 rfl (lv_at hl 1 rfl) ?_
  refine lv_lstore (lv' := [(6, .long a_1), (4, .long a_2), (0, .long a_1), (2, .long a_2)]) hx hb dX11_greatestCommonDivisor_4 hl (by decide) rfl (fun ls hl => ?_)
  refine lv_iconst (v := 0) hx hb dX11_greatestCommonDivisor_6 (by decide) ?_
  refine lv_istore (lv' := [(8, .int (0 : Int32)), (6, .long a_1), (4, .long a_2), (0, .long a_1), (2, .long a_2)]) hx hb dX11_greatestCommonDivisor_7 hl (by decide) rfl (fun ls hl => ?_)
  obtain ⟨j_44, ej_44, hf⟩ := z_nm hf
  have J_44 : ∀ (x_1 : Int64) (S_2 : zSt) (H : Heap) (locs : List Loc) (ls : Array Slot), j_44 x_1 S_2 = some (ro, So) → va_P D vwCl (zX cy ad S_2) H → va_S A s.heap H locs → lv_has ls 11 [(4, .long x_1)] → W p l e ({ frames := 0, cells := 0, slots := 0, locals := 0 }) s m ([.long a_1, .long a_2] : List Value).toArray below meth c H locs 0 0 Q (F0 m 44 ls []) := by
    intro x_1 S_2 H locs ls hf hP hS hl
    have hf := z_e2 ej_44 hf
    refine lv_lload hx hb dX11_greatestCommonDivisor_44 (lv_at hl 0 rfl) ?_
    obtain ⟨h1, h2⟩ := z_s2 hf
    subst h1 h2
    exact hret _ _ _ _ hP hS dX11_greatestCommonDivisor_46
  have L_9 : ∀ (n_9 : Nat) (x_3 : Int64) (x_4 : Int64) (x_5 : Int32) (S_6 : zSt) (H : Heap) (locs : List Loc) (ls : Array Slot), fx_greatestCommonDivisor_L9 j_44 n_9 x_3 x_4 x_5 S_6 = some (ro, So) → va_P D vwCl (zX cy ad S_6) H → va_S A s.heap H locs → lv_has ls 11 [(4, .long x_3), (6, .long x_4), (8, .int x_5)] → W p l e ({ frames := 0, cells := 0, slots := 0, locals := 0 }) s m ([.long a_1, .long a_2] : List Value).toArray below meth c H locs 0 0 Q (F0 m 9 ls []) := by
    intro n_9
    induction n_9 with
    | zero =>
      intro x_3 x_4 x_5 S_6 H locs ls hf hP hS hl
      exact z_no hf
    | succ n_9 ih_9 =>
      intro x_3 x_4 x_5 S_6 H locs ls hf hP hS hl
      rw [fx_greatestCommonDivisor_L9] at hf
      refine lv_iload hx hb dX11_greatestCommonDivisor_9 (lv_at hl 2 rfl) ?_
      refine lv_bipush (v := 100) hx hb dX11_greatestCommonDivisor_11 (by decide) ?_
      refine lv_icmp_ge (tgt := 44) hx hb dX11_greatestCommonDivisor_13 (by decide) (fun c_11 => ?_) (fun c_11 => ?_)
      · have hf := z_it c_11 hf
        exact J_44 x_3 S_6 _ _ _ hf hP hS (lv_sub hl [0] rfl)
      · have hf := z_if c_11 hf
        refine lv_lload hx hb dX11_greatestCommonDivisor_16 (lv_at hl 1 rfl) ?_
        refine lv_lconst (v := 0) hx hb dX11_greatestCommonDivisor_18 (by decide) ?_
        refine W.lcmp hx hb dX11_greatestCommonDivisor_19 ?_
        refine lv_if_eq (tgt := 44) hx hb dX11_greatestCommonDivisor_20 (by decide) (fun c_10 => ?_) (fun c_10 => ?_)
        · have hf := z_it c_10 hf
          exact J_44 x_3 S_6 _ _ _ hf hP hS (lv_sub hl [0] rfl)
        · have hf := z_if c_10 hf
          refine lv_lload hx hb dX11_greatestCommonDivisor_23 (lv_at hl 0 rfl) ?_
          refine lv_lload hx hb dX11_greatestCommonDivisor_25 (lv_at hl 1 rfl) ?_
          obtain ⟨h_7, hf⟩ := z_nzL hf
          refine lv_lrem hx hb dX11_greatestCommonDivisor_27 h_7 ?_
          refine lv_topl (fun x_8 ex_8 => ?_)
          have hf := z_nv ex_8 hf
          refine lv_lstore (lv' := [(9, .long x_8), (4, .long x_3), (6, .long x_4), (8, .int x_5)]) hx hb dX11_greatestCommonDivisor_28 hl (by decide) rfl (fun ls hl => ?_)
          refine lv_lload hx hb dX11_greatestCommonDivisor_30 (lv_at hl 2 rfl) ?_
          refine lv_lstore (lv' := [(4, .long x_4), (9, .long x_8), (6, .long x_4), (8, .int x_5)]) hx hb dX11_greatestCommonDivisor_32 hl (by decide) rfl (fun ls hl => ?_)
          refine lv_lload hx hb dX11_greatestCommonDivisor_34 (lv_at hl 1 rfl) ?_
          refine lv_lstore (lv' := [(6, .long x_8), (4, .long x_4), (9, .long x_8), (8, .int x_5)]) hx hb dX11_greatestCommonDivisor_36 hl (by decide) rfl (fun ls hl => ?_)
          obtain ⟨x_9, ex_9, hf⟩ := z_nm hf
          refine lv_iinc (v := x_9) (lv' := [(8, .int x_9), (6, .long x_8), (4, .long x_4), (9, .long x_8)]) hx hb dX11_greatestCommonDivisor_38 hl (k := 3) rfl (by rw [ex_9]; rfl) (by decide) rfl (fun ls hl => ?_)
          refine lv_goto (tgt := 9) hx hb dX11_greatestCommonDivisor_41 (by decide) ?_
          exact ih_9 x_4 x_8 x_9 S_6 _ _ _ hf hP hS (lv_sub hl [2, 1, 0] rfl)
  exact L_9 zFU a_2 a_1 (0 : Int32) S_0 _ _ _ hf hP hS (lv_sub hl [2, 1, 0] rfl)
theorem yd_yX11_part : (yX11_part).cls ≠ "java/lang/invoke/MethodHandle" ∧ (yX11_part).cls ≠ "java/lang/invoke/VarHandle" ∧ (parseMethodDescriptor (yX11_part).desc).map (fun d => d.parameters.length) = some 3 := by decide +kernel
def fx_part (S_0 : zSt) (a_1 : Int32) (a_2 : Int32) (a_3 : Int32) : Option (Int32 × zSt) :=
  zbd (fx_Leavens_has S_0 a_1) fun r_1 S_2 =>
  znm (fun (S_4 : zSt) =>
  some ((-1 : Int32), S_4)) fun j_51 =>
  if r_1 = 0 then (
  j_51  S_2) else (
  zbd (fx_Leavens_has S_2 a_2) fun r_5 S_6 =>
  if r_5 = 0 then (
  j_51  S_6) else (
  zbd (fx_Leavens_isNew S_6 a_2) fun r_8 S_9 =>
  if r_8 = 0 then (
  j_51  S_9) else (
  znm (fun (S_11 : zSt) =>
  zbd (fx_Leavens_shareOf S_11 a_1 a_2) fun r_12 S_13 =>
  zbd (fx_greatestCommonDivisor S_13 r_12 (1073741824 : Int64)) fun r_15 S_16 =>
  if 0 < (lg_cmp r_15 (0 : Int64)) then (
  znm (fun (x_18 : Int64) (S_19 : zSt) =>
  zck (znzL r_15) <|
  some ((x_18 / r_15).toInt32, S_19)) fun j_101 =>
  if a_3 = 0 then (
  j_101 r_12 S_16) else (
  j_101 (1073741824 : Int64) S_16)) else (
  some ((-1 : Int32), S_16))) fun j_53 =>
  if a_3 = 0 then (
  j_53  S_9) else (
  if a_3 = (1 : Int32) then (
  j_53  S_9) else (
  j_51  S_9)))))
set_option maxHeartbeats 4000000 in
set_option maxRecDepth 100000 in
theorem cx_part (l : Launch) (D : va_G) (K : (Nat → Nat) × (Nat → Nat)) (cy : Nat → ClassId) (ad : Nat → Nat) (S_0 : zSt) (a_1 : Int32) (a_2 : Int32) (a_3 : Int32) (ro : Int32) (So : zSt) (hf : fx_part S_0 a_1 a_2 a_3 = some (ro, So)) : zMI l yX11_part (zws yX11_part cX11_part 10 (Option.some .int)) ({ frames := 2, cells := 0, slots := 0, locals := 44 }) D (zTy cy) K (zX cy ad) [.ref (ad 0), .int a_1, .int a_2, .int a_3] S_0 ro So := by
  refine z_metI (own := RX11) (lv := [(0, .ref (ad 0)), (1, .int a_1), (2, .int a_2), (3, .int a_3)]) (by decide) rfl rfl (Nat.le_of_ble_eq_true rfl) rfl ?_
  intro p e s m below meth c A Q X hK hE hD hA hret hP hS ls hl
  obtain ⟨hx, hb, hml, hown, hts⟩ := id X
  have k0 := (fun w h => List.mem_cons_of_mem _ (zFX11 w h) : ∀ w ∈ u_ws RX11 TX11 8, w ∈ zws yX11_part cX11_part 10 (Option.some .int))
  have k1 := hts _ (List.mem_cons_of_mem _ wt_2_175)
  have k2 := (fun w h => List.mem_cons_of_mem _ (zFX0 w h) : ∀ w ∈ u_ws RX0 TX0 6, w ∈ zws yX11_part cX11_part 10 (Option.some .int))
  have k3 := hts _ (List.mem_cons_of_mem _ wt_2_6)
  have k4 := hts _ (List.mem_cons_of_mem _ wt_4_219)
  refine lv_aload_n hx hb dX11_part_0 rfl (lv_at hl 0 rfl) ?_
  refine va_get (D := D) (ci := 11) (v := .ref (ad 3)) (C := RX11) (T := TX11) (N := 8) hx hb hts k0 hown hK hP 0 (zX_0 cy ad S_0) rfl 1 (by decide) k1 (fun _ h9 => h9) rfl dX11_part_1 ?_
  refine va_get (D := D) (ci := 0) (v := .ref (ad 22)) (C := RX0) (T := TX0) (N := 6) hx hb hts k2 hown hK hP 3 (zX_3 cy ad S_0) rfl 4 (by decide) k3 (fun _ h9 => h9) rfl dX11_part_4 ?_
  refine lv_iload_n hx hb dX11_part_7 rfl (lv_at hl 1 rfl) ?_
  obtain ⟨r_1, S_2, h_3, hf⟩ := z_bd hf
  refine z_cVI (As := [.int a_1]) (rest := []) X hK hE hD hA hP hS (cx_Leavens_has l D K cy ad S_0 _ _ _ h_3) (cwV 1 hts (z_gV wt_4_195 wt_4_196 wt_4_197 wt_1_7 wt_4_198) rfl rfl rfl ⟨rfl, yd_yX3_has⟩ ⟨Nat.le_of_ble_eq_true rfl, Nat.le_of_ble_eq_true rfl⟩) (va_recv hK hP (ci := 3) (q0 := 22) rfl (zX_22 cy ad S_0)) hl.1 rfl rfl (Nat.le_of_ble_eq_true rfl) dX11_part_8 (fun H locs hP hS => ?_)
  obtain ⟨j_51, ej_51, hf⟩ := z_nm hf
  have J_51 : ∀ (S_4 : zSt) (H : Heap) (locs : List Loc) (ls : Array Slot), j_51  S_4 = some (ro, So) → va_P D vwCl (zX cy ad S_4) H → va_S A s.heap H locs → lv_has ls 10 [] → W p l e ({ frames := 2, cells := 0, slots := 0, locals := 44 }) s m ([.ref (ad 0), .int a_1, .int a_2, .int a_3] : List Value).toArray below meth c H locs 0 0 Q (F0 m 51 ls []) := by
    intro  S_4 H locs ls hf hP hS hl
    have hf := z_e1 ej_51 hf
    refine lv_iconst (v := -1) hx hb dX11_part_51 (by decide) ?_
    obtain ⟨h1, h2⟩ := z_s2 hf
    subst h1 h2
    exact hret _ _ _ _ hP hS dX11_part_52
  refine lv_if_eq (tgt := 51) hx hb dX11_part_11 (by decide) (fun c_27 => ?_) (fun c_27 => ?_)
  · have hf := z_it c_27 hf
    exact J_51  S_2 _ _ _ hf hP hS (lv_sub hl [] rfl)
  · have hf := z_if c_27 hf
    refine lv_aload_n hx hb dX11_part_14 rfl (lv_at hl 0 rfl) ?_
    refine va_get (D := D) (ci := 11) (v := .ref (ad 3)) (C := RX11) (T := TX11) (N := 8) hx hb hts k0 hown hK hP 0 (zX_0 cy ad S_2) rfl 1 (by decide) k1 (fun _ h9 => h9) rfl dX11_part_15 ?_
    refine va_get (D := D) (ci := 0) (v := .ref (ad 22)) (C := RX0) (T := TX0) (N := 6) hx hb hts k2 hown hK hP 3 (zX_3 cy ad S_2) rfl 4 (by decide) k3 (fun _ h9 => h9) rfl dX11_part_18 ?_
    refine lv_iload_n hx hb dX11_part_21 rfl (lv_at hl 2 rfl) ?_
    obtain ⟨r_5, S_6, h_7, hf⟩ := z_bd hf
    refine z_cVI (As := [.int a_2]) (rest := []) X hK hE hD hA hP hS (cx_Leavens_has l D K cy ad S_2 _ _ _ h_7) (cwV 1 hts (z_gV wt_4_195 wt_4_196 wt_4_197 wt_1_7 wt_4_198) rfl rfl rfl ⟨rfl, yd_yX3_has⟩ ⟨Nat.le_of_ble_eq_true rfl, Nat.le_of_ble_eq_true rfl⟩) (va_recv hK hP (ci := 3) (q0 := 22) rfl (zX_22 cy ad S_2)) hl.1 rfl rfl (Nat.le_of_ble_eq_true rfl) dX11_part_22 (fun H locs hP hS => ?_)
    refine lv_if_eq (tgt := 51) hx hb dX11_part_25 (by decide) (fun c_26 => ?_) (fun c_26 => ?_)
    · have hf := z_it c_26 hf
      exact J_51  S_6 _ _ _ hf hP hS (lv_sub hl [] rfl)
    · have hf := z_if c_26 hf
      refine lv_aload_n hx hb dX11_part_28 rfl (lv_at hl 0 rfl) ?_
      refine va_get (D := D) (ci := 11) (v := .ref (ad 3)) (C := RX11) (T := TX11) (N := 8) hx hb hts k0 hown hK hP 0 (zX_0 cy ad S_6) rfl 1 (by decide) k1 (fun _ h9 => h9) rfl dX11_part_29 ?_
      refine va_get (D := D) (ci := 0) (v := .ref (ad 22)) (C := RX0) (T := TX0) (N := 6) hx hb hts k2 hown hK hP 3 (zX_3 cy ad S_6) rfl 4 (by decide) k3 (fun _ h9 => h9) rfl dX11_part_32 ?_
      refine lv_iload_n hx hb dX11_part_35 rfl (lv_at hl 2 rfl) ?_
      obtain ⟨r_8, S_9, h_10, hf⟩ := z_bd hf
      refine z_cVI (As := [.int a_2]) (rest := []) X hK hE hD hA hP hS (cx_Leavens_isNew l D K cy ad S_6 _ _ _ h_10) (cwV 1 hts (z_gV wt_4_208 wt_4_209 wt_4_210 wt_1_7 wt_4_211) rfl rfl rfl ⟨rfl, yd_yX3_isNew⟩ ⟨Nat.le_of_ble_eq_true rfl, Nat.le_of_ble_eq_true rfl⟩) (va_recv hK hP (ci := 3) (q0 := 22) rfl (zX_22 cy ad S_6)) hl.1 rfl rfl (Nat.le_of_ble_eq_true rfl) dX11_part_36 (fun H locs hP hS => ?_)
      refine lv_if_eq (tgt := 51) hx hb dX11_part_39 (by decide) (fun c_25 => ?_) (fun c_25 => ?_)
      · have hf := z_it c_25 hf
        exact J_51  S_9 _ _ _ hf hP hS (lv_sub hl [] rfl)
      · have hf := z_if c_25 hf
        refine lv_iload_n hx hb dX11_part_42 rfl (lv_at hl 3 rfl) ?_
        obtain ⟨j_53, ej_53, hf⟩ := z_nm hf
        have J_53 : ∀ (S_11 : zSt) (H : Heap) (locs : List Loc) (ls : Array Slot), j_53  S_11 = some (ro, So) → va_P D vwCl (zX cy ad S_11) H → va_S A s.heap H locs → lv_has ls 10 [(0, .ref (ad 0)), (1, .int a_1), (2, .int a_2), (3, .int a_3)] → W p l e ({ frames := 2, cells := 0, slots := 0, locals := 44 }) s m ([.ref (ad 0), .int a_1, .int a_2, .int a_3] : List Value).toArray below meth c H locs 0 0 Q (F0 m 53 ls []) := by
          intro  S_11 H locs ls hf hP hS hl
          have hf := z_e1 ej_53 hf
          refine lv_aload_n hx hb dX11_part_53 rfl (lv_at hl 0 rfl) ?_
          refine va_get (D := D) (ci := 11) (v := .ref (ad 3)) (C := RX11) (T := TX11) (N := 8) hx hb hts k0 hown hK hP 0 (zX_0 cy ad S_11) rfl 1 (by decide) k1 (fun _ h9 => h9) rfl dX11_part_54 ?_
          refine va_get (D := D) (ci := 0) (v := .ref (ad 22)) (C := RX0) (T := TX0) (N := 6) hx hb hts k2 hown hK hP 3 (zX_3 cy ad S_11) rfl 4 (by decide) k3 (fun _ h9 => h9) rfl dX11_part_57 ?_
          refine lv_iload_n hx hb dX11_part_60 rfl (lv_at hl 1 rfl) ?_
          refine lv_iload_n hx hb dX11_part_61 rfl (lv_at hl 2 rfl) ?_
          obtain ⟨r_12, S_13, h_14, hf⟩ := z_bd hf
          refine z_cVL (As := [.int a_1, .int a_2]) (rest := []) X hK hE hD hA hP hS (cx_Leavens_shareOf l D K cy ad S_11 _ _ _ _ h_14) (cwV 2 hts (z_gV wt_4_212 wt_4_213 wt_4_214 wt_1_7 wt_4_215) rfl rfl rfl ⟨rfl, yd_yX3_shareOf⟩ ⟨Nat.le_of_ble_eq_true rfl, Nat.le_of_ble_eq_true rfl⟩) (va_recv hK hP (ci := 3) (q0 := 22) rfl (zX_22 cy ad S_11)) hl.1 rfl rfl (Nat.le_of_ble_eq_true rfl) dX11_part_62 (fun H locs hP hS => ?_)
          refine lv_lstore (lv' := [(4, .long r_12), (0, .ref (ad 0)), (1, .int a_1), (2, .int a_2), (3, .int a_3)]) hx hb dX11_part_65 hl (by decide) rfl (fun ls hl => ?_)
          refine lv_ldc2 hx hb hown k4 dX11_part_67 ?_
          refine lv_lstore (lv' := [(6, .long (1073741824 : Int64)), (4, .long r_12), (0, .ref (ad 0)), (1, .int a_1), (2, .int a_2), (3, .int a_3)]) hx hb dX11_part_70 hl (by decide) rfl (fun ls hl => ?_)
          refine lv_lload hx hb dX11_part_72 (lv_at hl 1 rfl) ?_
          refine lv_lload hx hb dX11_part_74 (lv_at hl 0 rfl) ?_
          obtain ⟨r_15, S_16, h_17, hf⟩ := z_bd hf
          refine z_cSL (As := [.long r_12, .long (1073741824 : Int64)]) (rest := []) X hK hE hD hA hP hS (cx_greatestCommonDivisor l D K cy ad S_13 _ _ _ _ h_17) (va_cwS 2 hts (z_gS wt_4_220 wt_4_221 wt_1_1 wt_4_222) rfl rfl rfl yd_yX11_greatestCommonDivisor ⟨Nat.le_of_ble_eq_true rfl, Nat.le_of_ble_eq_true rfl⟩) hl.1 rfl rfl (Nat.le_of_ble_eq_true rfl) dX11_part_76 (fun H locs hP hS => ?_)
          refine lv_lstore (lv' := [(8, .long r_15), (6, .long (1073741824 : Int64)), (4, .long r_12), (0, .ref (ad 0)), (1, .int a_1), (2, .int a_2), (3, .int a_3)]) hx hb dX11_part_79 hl (by decide) rfl (fun ls hl => ?_)
          refine lv_lload hx hb dX11_part_81 (lv_at hl 0 rfl) ?_
          refine lv_lconst (v := 0) hx hb dX11_part_83 (by decide) ?_
          refine W.lcmp hx hb dX11_part_84 ?_
          refine lv_if_gt (tgt := 90) hx hb dX11_part_85 (by decide) (fun c_22 => ?_) (fun c_22 => ?_)
          · have hf := z_it c_22 hf
            refine lv_iload_n hx hb dX11_part_90 rfl (lv_at hl 6 rfl) ?_
            obtain ⟨j_101, ej_101, hf⟩ := z_nm hf
            have J_101 : ∀ (x_18 : Int64) (S_19 : zSt) (H : Heap) (locs : List Loc) (ls : Array Slot), j_101 x_18 S_19 = some (ro, So) → va_P D vwCl (zX cy ad S_19) H → va_S A s.heap H locs → lv_has ls 10 [(8, .long r_15)] → W p l e ({ frames := 2, cells := 0, slots := 0, locals := 44 }) s m ([.ref (ad 0), .int a_1, .int a_2, .int a_3] : List Value).toArray below meth c H locs 0 0 Q (F0 m 101 ls [.long x_18]) := by
              intro x_18 S_19 H locs ls hf hP hS hl
              have hf := z_e2 ej_101 hf
              refine lv_lload hx hb dX11_part_101 (lv_at hl 0 rfl) ?_
              obtain ⟨h_20, hf⟩ := z_nzL hf
              refine lv_ldiv hx hb dX11_part_103 h_20 ?_
              refine lv_l2i hx hb dX11_part_104 rfl ?_
              obtain ⟨h1, h2⟩ := z_s2 hf
              subst h1 h2
              exact hret _ _ _ _ hP hS dX11_part_105
            refine lv_if_ne (tgt := 99) hx hb dX11_part_91 (by decide) (fun c_21 => ?_) (fun c_21 => ?_)
            · have hf := z_if c_21 hf
              refine lv_lload hx hb dX11_part_99 (lv_at hl 1 rfl) ?_
              exact J_101 (1073741824 : Int64) S_16 _ _ _ hf hP hS (lv_sub hl [0] rfl)
            · have hf := z_it c_21 hf
              refine lv_lload hx hb dX11_part_94 (lv_at hl 2 rfl) ?_
              refine lv_goto (tgt := 101) hx hb dX11_part_96 (by decide) ?_
              exact J_101 r_12 S_16 _ _ _ hf hP hS (lv_sub hl [0] rfl)
          · have hf := z_if c_22 hf
            refine lv_iconst (v := -1) hx hb dX11_part_88 (by decide) ?_
            obtain ⟨h1, h2⟩ := z_s2 hf
            subst h1 h2
            exact hret _ _ _ _ hP hS dX11_part_89
        refine lv_if_eq (tgt := 53) hx hb dX11_part_43 (by decide) (fun c_24 => ?_) (fun c_24 => ?_)
        · have hf := z_it c_24 hf
          exact J_53  S_9 _ _ _ hf hP hS (lv_sub hl [0, 1, 2, 3] rfl)
        · have hf := z_if c_24 hf
          refine lv_iload_n hx hb dX11_part_46 rfl (lv_at hl 3 rfl) ?_
          refine lv_iconst (v := 1) hx hb dX11_part_47 (by decide) ?_
          refine lv_icmp_eq (tgt := 53) hx hb dX11_part_48 (by decide) (fun c_23 => ?_) (fun c_23 => ?_)
          · have hf := z_it c_23 hf
            exact J_53  S_9 _ _ _ hf hP hS (lv_sub hl [0, 1, 2, 3] rfl)
          · have hf := z_if c_23 hf
            exact J_51  S_9 _ _ _ hf hP hS (lv_sub hl [] rfl)
theorem yd_yX11_lent : (yX11_lent).cls ≠ "java/lang/invoke/MethodHandle" ∧ (yX11_lent).cls ≠ "java/lang/invoke/VarHandle" ∧ (parseMethodDescriptor (yX11_lent).desc).map (fun d => d.parameters.length) = some 2 := by decide +kernel
def fx_lent (S_0 : zSt) (a_1 : Int32) (a_2 : Int32) : Option (Int32 × zSt) :=
  zbd (fx_Leavens_has S_0 a_1) fun r_1 S_2 =>
  if r_1 = 0 then (
  some ((-2 : Int32), S_2)) else (
  if a_2 = (0 : Int32) then (
  zck (zix a_1 60) <|
  some (S_2.1 23 (a_1.toNatClampNeg), S_2)) else (
  if a_2 = (1 : Int32) then (
  zck (zix a_1 60) <|
  some (S_2.1 24 (a_1.toNatClampNeg), S_2)) else (
  if a_2 = (2 : Int32) then (
  zck (zix a_1 60) <|
  some (S_2.1 25 (a_1.toNatClampNeg), S_2)) else (
  if a_2 = (3 : Int32) then (
  zck (zix a_1 60) <|
  some (S_2.1 26 (a_1.toNatClampNeg), S_2)) else (
  if a_2 = (4 : Int32) then (
  zbd (fx_Leavens_ownersWithin S_2 a_1) fun r_16 S_17 =>
  some (r_16, S_17)) else (
  some ((-2 : Int32), S_2)))))))
set_option maxHeartbeats 4000000 in
set_option maxRecDepth 100000 in
theorem cx_lent (l : Launch) (D : va_G) (K : (Nat → Nat) × (Nat → Nat)) (cy : Nat → ClassId) (ad : Nat → Nat) (S_0 : zSt) (a_1 : Int32) (a_2 : Int32) (ro : Int32) (So : zSt) (hf : fx_lent S_0 a_1 a_2 = some (ro, So)) : zMI l yX11_lent (zws yX11_lent cX11_lent 3 (Option.some .int)) ({ frames := 2, cells := 0, slots := 0, locals := 45 }) D (zTy cy) K (zX cy ad) [.ref (ad 0), .int a_1, .int a_2] S_0 ro So := by
  refine z_metI (own := RX11) (lv := [(0, .ref (ad 0)), (1, .int a_1), (2, .int a_2)]) (by decide) rfl rfl (Nat.le_of_ble_eq_true rfl) rfl ?_
  intro p e s m below meth c A Q X hK hE hD hA hret hP hS ls hl
  obtain ⟨hx, hb, hml, hown, hts⟩ := id X
  have k0 := (fun w h => List.mem_cons_of_mem _ (zFX11 w h) : ∀ w ∈ u_ws RX11 TX11 8, w ∈ zws yX11_lent cX11_lent 3 (Option.some .int))
  have k1 := hts _ (List.mem_cons_of_mem _ wt_2_175)
  have k2 := (fun w h => List.mem_cons_of_mem _ (zFX0 w h) : ∀ w ∈ u_ws RX0 TX0 6, w ∈ zws yX11_lent cX11_lent 3 (Option.some .int))
  have k3 := hts _ (List.mem_cons_of_mem _ wt_2_6)
  have k4 := (fun w h => List.mem_cons_of_mem _ (zFX3 w h) : ∀ w ∈ u_ws RX3 TX3 7, w ∈ zws yX11_lent cX11_lent 3 (Option.some .int))
  have k5 := hts _ (List.mem_cons_of_mem _ wt_1_196)
  have k6 := hts _ (List.mem_cons_of_mem _ wt_1_198)
  have k7 := hts _ (List.mem_cons_of_mem _ wt_1_200)
  have k8 := hts _ (List.mem_cons_of_mem _ wt_1_202)
  refine lv_aload_n hx hb dX11_lent_0 rfl (lv_at hl 0 rfl) ?_
  refine va_get (D := D) (ci := 11) (v := .ref (ad 3)) (C := RX11) (T := TX11) (N := 8) hx hb hts k0 hown hK hP 0 (zX_0 cy ad S_0) rfl 1 (by decide) k1 (fun _ h9 => h9) rfl dX11_lent_1 ?_
  refine va_get (D := D) (ci := 0) (v := .ref (ad 22)) (C := RX0) (T := TX0) (N := 6) hx hb hts k2 hown hK hP 3 (zX_3 cy ad S_0) rfl 4 (by decide) k3 (fun _ h9 => h9) rfl dX11_lent_4 ?_
  refine lv_iload_n hx hb dX11_lent_7 rfl (lv_at hl 1 rfl) ?_
  obtain ⟨r_1, S_2, h_3, hf⟩ := z_bd hf
  refine z_cVI (As := [.int a_1]) (rest := []) X hK hE hD hA hP hS (cx_Leavens_has l D K cy ad S_0 _ _ _ h_3) (cwV 1 hts (z_gV wt_4_195 wt_4_196 wt_4_197 wt_1_7 wt_4_198) rfl rfl rfl ⟨rfl, yd_yX3_has⟩ ⟨Nat.le_of_ble_eq_true rfl, Nat.le_of_ble_eq_true rfl⟩) (va_recv hK hP (ci := 3) (q0 := 22) rfl (zX_22 cy ad S_0)) hl.1 rfl rfl (Nat.le_of_ble_eq_true rfl) dX11_lent_8 (fun H locs hP hS => ?_)
  refine lv_if_ne (tgt := 17) hx hb dX11_lent_11 (by decide) (fun c_21 => ?_) (fun c_21 => ?_)
  · have hf := z_if c_21 hf
    refine lv_iload_n hx hb dX11_lent_17 rfl (lv_at hl 2 rfl) ?_
    by_cases c_5 : a_2 = (0 : Int32)
    · have hf := z_it c_5 hf
      refine lv_tableIn (off := 34) (tgt := 52) hx hb dX11_lent_18 (by rw [c_5]; decide) (by rw [c_5]; decide) (by rw [c_5]; rfl) (by decide) ?_
      refine lv_aload_n hx hb dX11_lent_52 rfl (lv_at hl 0 rfl) ?_
      refine va_get (D := D) (ci := 11) (v := .ref (ad 3)) (C := RX11) (T := TX11) (N := 8) hx hb hts k0 hown hK hP 0 (zX_0 cy ad S_2) rfl 1 (by decide) k1 (fun _ h9 => h9) rfl dX11_lent_53 ?_
      refine va_get (D := D) (ci := 0) (v := .ref (ad 22)) (C := RX0) (T := TX0) (N := 6) hx hb hts k2 hown hK hP 3 (zX_3 cy ad S_2) rfl 4 (by decide) k3 (fun _ h9 => h9) rfl dX11_lent_56 ?_
      refine va_get (D := D) (ci := 3) (v := .ref (ad 23)) (C := RX3) (T := TX3) (N := 7) hx hb hts k4 hown hK hP 22 (zX_22 cy ad S_2) rfl 1 (by decide) k5 (fun _ h9 => h9) rfl dX11_lent_59 ?_
      refine lv_iload_n hx hb dX11_lent_62 rfl (lv_at hl 1 rfl) ?_
      obtain ⟨h_4, hf⟩ := z_ix hf
      refine z_iald hx hb hK hP 23 0 (zX_23 cy ad S_2) rfl h_4 (k := (a_1.toNatClampNeg)) rfl dX11_lent_63 ?_
      obtain ⟨h1, h2⟩ := z_s2 hf
      subst h1 h2
      exact hret _ _ _ _ hP hS dX11_lent_64
    have hf := z_if c_5 hf
    have n_6 : a_2.toInt ≠ 0 := z_ne c_5 (by decide)
    by_cases c_8 : a_2 = (1 : Int32)
    · have hf := z_it c_8 hf
      refine lv_tableIn (off := 47) (tgt := 65) hx hb dX11_lent_18 (by rw [c_8]; decide) (by rw [c_8]; decide) (by rw [c_8]; rfl) (by decide) ?_
      refine lv_aload_n hx hb dX11_lent_65 rfl (lv_at hl 0 rfl) ?_
      refine va_get (D := D) (ci := 11) (v := .ref (ad 3)) (C := RX11) (T := TX11) (N := 8) hx hb hts k0 hown hK hP 0 (zX_0 cy ad S_2) rfl 1 (by decide) k1 (fun _ h9 => h9) rfl dX11_lent_66 ?_
      refine va_get (D := D) (ci := 0) (v := .ref (ad 22)) (C := RX0) (T := TX0) (N := 6) hx hb hts k2 hown hK hP 3 (zX_3 cy ad S_2) rfl 4 (by decide) k3 (fun _ h9 => h9) rfl dX11_lent_69 ?_
      refine va_get (D := D) (ci := 3) (v := .ref (ad 24)) (C := RX3) (T := TX3) (N := 7) hx hb hts k4 hown hK hP 22 (zX_22 cy ad S_2) rfl 2 (by decide) k6 (fun _ h9 => h9) rfl dX11_lent_72 ?_
      refine lv_iload_n hx hb dX11_lent_75 rfl (lv_at hl 1 rfl) ?_
      obtain ⟨h_7, hf⟩ := z_ix hf
      refine z_iald hx hb hK hP 24 0 (zX_24 cy ad S_2) rfl h_7 (k := (a_1.toNatClampNeg)) rfl dX11_lent_76 ?_
      obtain ⟨h1, h2⟩ := z_s2 hf
      subst h1 h2
      exact hret _ _ _ _ hP hS dX11_lent_77
    have hf := z_if c_8 hf
    have n_9 : a_2.toInt ≠ 1 := z_ne c_8 (by decide)
    by_cases c_11 : a_2 = (2 : Int32)
    · have hf := z_it c_11 hf
      refine lv_tableIn (off := 60) (tgt := 78) hx hb dX11_lent_18 (by rw [c_11]; decide) (by rw [c_11]; decide) (by rw [c_11]; rfl) (by decide) ?_
      refine lv_aload_n hx hb dX11_lent_78 rfl (lv_at hl 0 rfl) ?_
      refine va_get (D := D) (ci := 11) (v := .ref (ad 3)) (C := RX11) (T := TX11) (N := 8) hx hb hts k0 hown hK hP 0 (zX_0 cy ad S_2) rfl 1 (by decide) k1 (fun _ h9 => h9) rfl dX11_lent_79 ?_
      refine va_get (D := D) (ci := 0) (v := .ref (ad 22)) (C := RX0) (T := TX0) (N := 6) hx hb hts k2 hown hK hP 3 (zX_3 cy ad S_2) rfl 4 (by decide) k3 (fun _ h9 => h9) rfl dX11_lent_82 ?_
      refine va_get (D := D) (ci := 3) (v := .ref (ad 25)) (C := RX3) (T := TX3) (N := 7) hx hb hts k4 hown hK hP 22 (zX_22 cy ad S_2) rfl 3 (by decide) k7 (fun _ h9 => h9) rfl dX11_lent_85 ?_
      refine lv_iload_n hx hb dX11_lent_88 rfl (lv_at hl 1 rfl) ?_
      obtain ⟨h_10, hf⟩ := z_ix hf
      refine z_iald hx hb hK hP 25 0 (zX_25 cy ad S_2) rfl h_10 (k := (a_1.toNatClampNeg)) rfl dX11_lent_89 ?_
      obtain ⟨h1, h2⟩ := z_s2 hf
      subst h1 h2
      exact hret _ _ _ _ hP hS dX11_lent_90
    have hf := z_if c_11 hf
    have n_12 : a_2.toInt ≠ 2 := z_ne c_11 (by decide)
    by_cases c_14 : a_2 = (3 : Int32)
    · have hf := z_it c_14 hf
      refine lv_tableIn (off := 73) (tgt := 91) hx hb dX11_lent_18 (by rw [c_14]; decide) (by rw [c_14]; decide) (by rw [c_14]; rfl) (by decide) ?_
      refine lv_aload_n hx hb dX11_lent_91 rfl (lv_at hl 0 rfl) ?_
      refine va_get (D := D) (ci := 11) (v := .ref (ad 3)) (C := RX11) (T := TX11) (N := 8) hx hb hts k0 hown hK hP 0 (zX_0 cy ad S_2) rfl 1 (by decide) k1 (fun _ h9 => h9) rfl dX11_lent_92 ?_
      refine va_get (D := D) (ci := 0) (v := .ref (ad 22)) (C := RX0) (T := TX0) (N := 6) hx hb hts k2 hown hK hP 3 (zX_3 cy ad S_2) rfl 4 (by decide) k3 (fun _ h9 => h9) rfl dX11_lent_95 ?_
      refine va_get (D := D) (ci := 3) (v := .ref (ad 26)) (C := RX3) (T := TX3) (N := 7) hx hb hts k4 hown hK hP 22 (zX_22 cy ad S_2) rfl 4 (by decide) k8 (fun _ h9 => h9) rfl dX11_lent_98 ?_
      refine lv_iload_n hx hb dX11_lent_101 rfl (lv_at hl 1 rfl) ?_
      obtain ⟨h_13, hf⟩ := z_ix hf
      refine z_iald hx hb hK hP 26 0 (zX_26 cy ad S_2) rfl h_13 (k := (a_1.toNatClampNeg)) rfl dX11_lent_102 ?_
      obtain ⟨h1, h2⟩ := z_s2 hf
      subst h1 h2
      exact hret _ _ _ _ hP hS dX11_lent_103
    have hf := z_if c_14 hf
    have n_15 : a_2.toInt ≠ 3 := z_ne c_14 (by decide)
    by_cases c_19 : a_2 = (4 : Int32)
    · have hf := z_it c_19 hf
      refine lv_tableIn (off := 86) (tgt := 104) hx hb dX11_lent_18 (by rw [c_19]; decide) (by rw [c_19]; decide) (by rw [c_19]; rfl) (by decide) ?_
      refine lv_aload_n hx hb dX11_lent_104 rfl (lv_at hl 0 rfl) ?_
      refine va_get (D := D) (ci := 11) (v := .ref (ad 3)) (C := RX11) (T := TX11) (N := 8) hx hb hts k0 hown hK hP 0 (zX_0 cy ad S_2) rfl 1 (by decide) k1 (fun _ h9 => h9) rfl dX11_lent_105 ?_
      refine va_get (D := D) (ci := 0) (v := .ref (ad 22)) (C := RX0) (T := TX0) (N := 6) hx hb hts k2 hown hK hP 3 (zX_3 cy ad S_2) rfl 4 (by decide) k3 (fun _ h9 => h9) rfl dX11_lent_108 ?_
      refine lv_iload_n hx hb dX11_lent_111 rfl (lv_at hl 1 rfl) ?_
      obtain ⟨r_16, S_17, h_18, hf⟩ := z_bd hf
      refine z_cVI (As := [.int a_1]) (rest := []) X hK hE hD hA hP hS (cx_Leavens_ownersWithin l D K cy ad S_2 _ _ _ h_18) (cwV 1 hts (z_gV wt_4_227 wt_4_228 wt_4_229 wt_1_7 wt_4_230) rfl rfl rfl ⟨rfl, yd_yX3_ownersWithin⟩ ⟨Nat.le_of_ble_eq_true rfl, Nat.le_of_ble_eq_true rfl⟩) (va_recv hK hP (ci := 3) (q0 := 22) rfl (zX_22 cy ad S_2)) hl.1 rfl rfl (Nat.le_of_ble_eq_true rfl) dX11_lent_112 (fun H locs hP hS => ?_)
      obtain ⟨h1, h2⟩ := z_s2 hf
      subst h1 h2
      exact hret _ _ _ _ hP hS dX11_lent_115
    have hf := z_if c_19 hf
    have n_20 : a_2.toInt ≠ 4 := z_ne c_19 (by decide)
    refine lv_tableOut (tgt := 116) hx hb dX11_lent_18 (by omega) (by decide) ?_
    refine lv_bipush (v := -2) hx hb dX11_lent_116 (by decide) ?_
    obtain ⟨h1, h2⟩ := z_s2 hf
    subst h1 h2
    exact hret _ _ _ _ hP hS dX11_lent_118
  · have hf := z_it c_21 hf
    refine lv_bipush (v := -2) hx hb dX11_lent_14 (by decide) ?_
    obtain ⟨h1, h2⟩ := z_s2 hf
    subst h1 h2
    exact hret _ _ _ _ hP hS dX11_lent_16
theorem yd_yX11_led : (yX11_led).cls ≠ "java/lang/invoke/MethodHandle" ∧ (yX11_led).cls ≠ "java/lang/invoke/VarHandle" ∧ (parseMethodDescriptor (yX11_led).desc).map (fun d => d.parameters.length) = some 2 := by decide +kernel
def fx_led (S_0 : zSt) (a_1 : Int32) (a_2 : Int32) : Option (Int32 × zSt) :=
  zbd (fx_Leavens_has S_0 a_1) fun r_1 S_2 =>
  znm (fun (S_4 : zSt) =>
  some ((-1 : Int32), S_4)) fun j_28 =>
  if r_1 = 0 then (
  j_28  S_2) else (
  zbd (fx_Leavens_has S_2 a_2) fun r_5 S_6 =>
  if r_5 = 0 then (
  j_28  S_6) else (
  zbd (fx_Leavens_isLed S_6 a_1 a_2) fun r_8 S_9 =>
  znm (fun (x_11 : Int32) (S_12 : zSt) =>
  some (x_11, S_12)) fun j_50 =>
  if r_8 = 0 then (
  j_50 (0 : Int32) S_9) else (
  j_50 (1 : Int32) S_9)))
set_option maxHeartbeats 4000000 in
set_option maxRecDepth 100000 in
theorem cx_led (l : Launch) (D : va_G) (K : (Nat → Nat) × (Nat → Nat)) (cy : Nat → ClassId) (ad : Nat → Nat) (S_0 : zSt) (a_1 : Int32) (a_2 : Int32) (ro : Int32) (So : zSt) (hf : fx_led S_0 a_1 a_2 = some (ro, So)) : zMI l yX11_led (zws yX11_led cX11_led 3 (Option.some .int)) ({ frames := 1, cells := 0, slots := 0, locals := 22 }) D (zTy cy) K (zX cy ad) [.ref (ad 0), .int a_1, .int a_2] S_0 ro So := by
  refine z_metI (own := RX11) (lv := [(0, .ref (ad 0)), (1, .int a_1), (2, .int a_2)]) (by decide) rfl rfl (Nat.le_of_ble_eq_true rfl) rfl ?_
  intro p e s m below meth c A Q X hK hE hD hA hret hP hS ls hl
  obtain ⟨hx, hb, hml, hown, hts⟩ := id X
  have k0 := (fun w h => List.mem_cons_of_mem _ (zFX11 w h) : ∀ w ∈ u_ws RX11 TX11 8, w ∈ zws yX11_led cX11_led 3 (Option.some .int))
  have k1 := hts _ (List.mem_cons_of_mem _ wt_2_175)
  have k2 := (fun w h => List.mem_cons_of_mem _ (zFX0 w h) : ∀ w ∈ u_ws RX0 TX0 6, w ∈ zws yX11_led cX11_led 3 (Option.some .int))
  have k3 := hts _ (List.mem_cons_of_mem _ wt_2_6)
  refine lv_aload_n hx hb dX11_led_0 rfl (lv_at hl 0 rfl) ?_
  refine va_get (D := D) (ci := 11) (v := .ref (ad 3)) (C := RX11) (T := TX11) (N := 8) hx hb hts k0 hown hK hP 0 (zX_0 cy ad S_0) rfl 1 (by decide) k1 (fun _ h9 => h9) rfl dX11_led_1 ?_
  refine va_get (D := D) (ci := 0) (v := .ref (ad 22)) (C := RX0) (T := TX0) (N := 6) hx hb hts k2 hown hK hP 3 (zX_3 cy ad S_0) rfl 4 (by decide) k3 (fun _ h9 => h9) rfl dX11_led_4 ?_
  refine lv_iload_n hx hb dX11_led_7 rfl (lv_at hl 1 rfl) ?_
  obtain ⟨r_1, S_2, h_3, hf⟩ := z_bd hf
  refine z_cVI (As := [.int a_1]) (rest := []) X hK hE hD hA hP hS (cx_Leavens_has l D K cy ad S_0 _ _ _ h_3) (cwV 1 hts (z_gV wt_4_195 wt_4_196 wt_4_197 wt_1_7 wt_4_198) rfl rfl rfl ⟨rfl, yd_yX3_has⟩ ⟨Nat.le_of_ble_eq_true rfl, Nat.le_of_ble_eq_true rfl⟩) (va_recv hK hP (ci := 3) (q0 := 22) rfl (zX_22 cy ad S_0)) hl.1 rfl rfl (Nat.le_of_ble_eq_true rfl) dX11_led_8 (fun H locs hP hS => ?_)
  obtain ⟨j_28, ej_28, hf⟩ := z_nm hf
  have J_28 : ∀ (S_4 : zSt) (H : Heap) (locs : List Loc) (ls : Array Slot), j_28  S_4 = some (ro, So) → va_P D vwCl (zX cy ad S_4) H → va_S A s.heap H locs → lv_has ls 3 [] → W p l e ({ frames := 1, cells := 0, slots := 0, locals := 22 }) s m ([.ref (ad 0), .int a_1, .int a_2] : List Value).toArray below meth c H locs 0 0 Q (F0 m 28 ls []) := by
    intro  S_4 H locs ls hf hP hS hl
    have hf := z_e1 ej_28 hf
    refine lv_iconst (v := -1) hx hb dX11_led_28 (by decide) ?_
    obtain ⟨h1, h2⟩ := z_s2 hf
    subst h1 h2
    exact hret _ _ _ _ hP hS dX11_led_29
  refine lv_if_eq (tgt := 28) hx hb dX11_led_11 (by decide) (fun c_15 => ?_) (fun c_15 => ?_)
  · have hf := z_it c_15 hf
    exact J_28  S_2 _ _ _ hf hP hS (lv_sub hl [] rfl)
  · have hf := z_if c_15 hf
    refine lv_aload_n hx hb dX11_led_14 rfl (lv_at hl 0 rfl) ?_
    refine va_get (D := D) (ci := 11) (v := .ref (ad 3)) (C := RX11) (T := TX11) (N := 8) hx hb hts k0 hown hK hP 0 (zX_0 cy ad S_2) rfl 1 (by decide) k1 (fun _ h9 => h9) rfl dX11_led_15 ?_
    refine va_get (D := D) (ci := 0) (v := .ref (ad 22)) (C := RX0) (T := TX0) (N := 6) hx hb hts k2 hown hK hP 3 (zX_3 cy ad S_2) rfl 4 (by decide) k3 (fun _ h9 => h9) rfl dX11_led_18 ?_
    refine lv_iload_n hx hb dX11_led_21 rfl (lv_at hl 2 rfl) ?_
    obtain ⟨r_5, S_6, h_7, hf⟩ := z_bd hf
    refine z_cVI (As := [.int a_2]) (rest := []) X hK hE hD hA hP hS (cx_Leavens_has l D K cy ad S_2 _ _ _ h_7) (cwV 1 hts (z_gV wt_4_195 wt_4_196 wt_4_197 wt_1_7 wt_4_198) rfl rfl rfl ⟨rfl, yd_yX3_has⟩ ⟨Nat.le_of_ble_eq_true rfl, Nat.le_of_ble_eq_true rfl⟩) (va_recv hK hP (ci := 3) (q0 := 22) rfl (zX_22 cy ad S_2)) hl.1 rfl rfl (Nat.le_of_ble_eq_true rfl) dX11_led_22 (fun H locs hP hS => ?_)
    refine lv_if_ne (tgt := 30) hx hb dX11_led_25 (by decide) (fun c_14 => ?_) (fun c_14 => ?_)
    · have hf := z_if c_14 hf
      refine lv_aload_n hx hb dX11_led_30 rfl (lv_at hl 0 rfl) ?_
      refine va_get (D := D) (ci := 11) (v := .ref (ad 3)) (C := RX11) (T := TX11) (N := 8) hx hb hts k0 hown hK hP 0 (zX_0 cy ad S_6) rfl 1 (by decide) k1 (fun _ h9 => h9) rfl dX11_led_31 ?_
      refine va_get (D := D) (ci := 0) (v := .ref (ad 22)) (C := RX0) (T := TX0) (N := 6) hx hb hts k2 hown hK hP 3 (zX_3 cy ad S_6) rfl 4 (by decide) k3 (fun _ h9 => h9) rfl dX11_led_34 ?_
      refine lv_iload_n hx hb dX11_led_37 rfl (lv_at hl 1 rfl) ?_
      refine lv_iload_n hx hb dX11_led_38 rfl (lv_at hl 2 rfl) ?_
      obtain ⟨r_8, S_9, h_10, hf⟩ := z_bd hf
      refine z_cVI (As := [.int a_1, .int a_2]) (rest := []) X hK hE hD hA hP hS (cx_Leavens_isLed l D K cy ad S_6 _ _ _ _ h_10) (cwV 2 hts (z_gV wt_5_5 wt_4_232 wt_4_233 wt_1_7 wt_4_234) rfl rfl rfl ⟨rfl, yd_yX3_isLed⟩ ⟨Nat.le_of_ble_eq_true rfl, Nat.le_of_ble_eq_true rfl⟩) (va_recv hK hP (ci := 3) (q0 := 22) rfl (zX_22 cy ad S_6)) hl.1 rfl rfl (Nat.le_of_ble_eq_true rfl) dX11_led_39 (fun H locs hP hS => ?_)
      obtain ⟨j_50, ej_50, hf⟩ := z_nm hf
      have J_50 : ∀ (x_11 : Int32) (S_12 : zSt) (H : Heap) (locs : List Loc) (ls : Array Slot), j_50 x_11 S_12 = some (ro, So) → va_P D vwCl (zX cy ad S_12) H → va_S A s.heap H locs → lv_has ls 3 [] → W p l e ({ frames := 1, cells := 0, slots := 0, locals := 22 }) s m ([.ref (ad 0), .int a_1, .int a_2] : List Value).toArray below meth c H locs 0 0 Q (F0 m 50 ls [.int x_11]) := by
        intro x_11 S_12 H locs ls hf hP hS hl
        have hf := z_e2 ej_50 hf
        obtain ⟨h1, h2⟩ := z_s2 hf
        subst h1 h2
        exact hret _ _ _ _ hP hS dX11_led_50
      refine lv_if_eq (tgt := 49) hx hb dX11_led_42 (by decide) (fun c_13 => ?_) (fun c_13 => ?_)
      · have hf := z_it c_13 hf
        refine lv_iconst (v := 0) hx hb dX11_led_49 (by decide) ?_
        exact J_50 (0 : Int32) S_9 _ _ _ hf hP hS (lv_sub hl [] rfl)
      · have hf := z_if c_13 hf
        refine lv_iconst (v := 1) hx hb dX11_led_45 (by decide) ?_
        refine lv_goto (tgt := 50) hx hb dX11_led_46 (by decide) ?_
        exact J_50 (1 : Int32) S_9 _ _ _ hf hP hS (lv_sub hl [] rfl)
    · have hf := z_it c_14 hf
      exact J_28  S_6 _ _ _ hf hP hS (lv_sub hl [] rfl)
theorem yd_yX11_rise : (yX11_rise).cls ≠ "java/lang/invoke/MethodHandle" ∧ (yX11_rise).cls ≠ "java/lang/invoke/VarHandle" ∧ (parseMethodDescriptor (yX11_rise).desc).map (fun d => d.parameters.length) = some 3 := by decide +kernel
def fx_rise (S_0 : zSt) (a_1 : Int32) (a_2 : Int32) (a_3 : Int32) : Option (Int32 × zSt) :=
  zbd (fx_isWithin S_0 a_1 (0 : Int32) (7 : Int32)) fun r_1 S_2 =>
  znm (fun (S_4 : zSt) =>
  some ((0 : Int32), S_4)) fun j_30 =>
  if r_1 = 0 then (
  j_30  S_2) else (
  zbd (fx_isWithin S_2 a_2 (0 : Int32) (7 : Int32)) fun r_5 S_6 =>
  if r_5 = 0 then (
  j_30  S_6) else (
  zbd (fx_isWithin S_6 a_3 (0 : Int32) (9 : Int32)) fun r_8 S_9 =>
  if r_8 = 0 then (
  j_30  S_9) else (
  zck (zix ((a_1 * (8 : Int32)) + a_2) 64) <|
  znm (zpI S_9 30 (((a_1 * (8 : Int32)) + a_2).toNatClampNeg) a_3) fun S_12 =>
  some ((1 : Int32), S_12))))
set_option maxHeartbeats 4000000 in
set_option maxRecDepth 100000 in
theorem cx_rise (l : Launch) (D : va_G) (K : (Nat → Nat) × (Nat → Nat)) (cy : Nat → ClassId) (ad : Nat → Nat) (S_0 : zSt) (a_1 : Int32) (a_2 : Int32) (a_3 : Int32) (ro : Int32) (So : zSt) (hf : fx_rise S_0 a_1 a_2 a_3 = some (ro, So)) : zMI l yX11_rise (zws yX11_rise cX11_rise 4 (Option.some .boolean)) ({ frames := 1, cells := 0, slots := 0, locals := 22 }) D (zTy cy) K (zX cy ad) [.ref (ad 0), .int a_1, .int a_2, .int a_3] S_0 ro So := by
  refine z_metZ (own := RX11) (lv := [(0, .ref (ad 0)), (1, .int a_1), (2, .int a_2), (3, .int a_3)]) (by decide) rfl rfl (Nat.le_of_ble_eq_true rfl) rfl ?_
  intro p e s m below meth c A Q X hK hE hD hA hret hP hS ls hl
  obtain ⟨hx, hb, hml, hown, hts⟩ := id X
  have k0 := (fun w h => List.mem_cons_of_mem _ (zFX11 w h) : ∀ w ∈ u_ws RX11 TX11 8, w ∈ zws yX11_rise cX11_rise 4 (Option.some .boolean))
  have k1 := hts _ (List.mem_cons_of_mem _ wt_2_175)
  have k2 := (fun w h => List.mem_cons_of_mem _ (zFX0 w h) : ∀ w ∈ u_ws RX0 TX0 6, w ∈ zws yX11_rise cX11_rise 4 (Option.some .boolean))
  have k3 := hts _ (List.mem_cons_of_mem _ wt_2_8)
  have k4 := (fun w h => List.mem_cons_of_mem _ (zFX5 w h) : ∀ w ∈ u_ws RX5 TX5 1, w ∈ zws yX11_rise cX11_rise 4 (Option.some .boolean))
  have k5 := hts _ (List.mem_cons_of_mem _ wt_1_229)
  refine lv_iload_n hx hb dX11_rise_0 rfl (lv_at hl 1 rfl) ?_
  refine lv_iconst (v := 0) hx hb dX11_rise_1 (by decide) ?_
  refine lv_bipush (v := 7) hx hb dX11_rise_2 (by decide) ?_
  obtain ⟨r_1, S_2, h_3, hf⟩ := z_bd hf
  refine z_cSI (As := [.int a_1, .int (0 : Int32), .int (7 : Int32)]) (rest := []) X hK hE hD hA hP hS (cx_isWithin l D K cy ad S_0 _ _ _ _ _ h_3) (va_cwS 3 hts (z_gS wt_2_219 wt_2_220 wt_1_1 wt_2_221) rfl rfl rfl yd_yX11_isWithin ⟨Nat.le_of_ble_eq_true rfl, Nat.le_of_ble_eq_true rfl⟩) hl.1 rfl rfl (Nat.le_of_ble_eq_true rfl) dX11_rise_4 (fun H locs hP hS => ?_)
  obtain ⟨j_30, ej_30, hf⟩ := z_nm hf
  have J_30 : ∀ (S_4 : zSt) (H : Heap) (locs : List Loc) (ls : Array Slot), j_30  S_4 = some (ro, So) → va_P D vwCl (zX cy ad S_4) H → va_S A s.heap H locs → lv_has ls 4 [] → W p l e ({ frames := 1, cells := 0, slots := 0, locals := 22 }) s m ([.ref (ad 0), .int a_1, .int a_2, .int a_3] : List Value).toArray below meth c H locs 0 0 Q (F0 m 30 ls []) := by
    intro  S_4 H locs ls hf hP hS hl
    have hf := z_e1 ej_30 hf
    refine lv_iconst (v := 0) hx hb dX11_rise_30 (by decide) ?_
    obtain ⟨h1, h2⟩ := z_s2 hf
    subst h1 h2
    exact hret _ _ _ _ rfl hP hS dX11_rise_31
  refine lv_if_eq (tgt := 30) hx hb dX11_rise_7 (by decide) (fun c_15 => ?_) (fun c_15 => ?_)
  · have hf := z_it c_15 hf
    exact J_30  S_2 _ _ _ hf hP hS (lv_sub hl [] rfl)
  · have hf := z_if c_15 hf
    refine lv_iload_n hx hb dX11_rise_10 rfl (lv_at hl 2 rfl) ?_
    refine lv_iconst (v := 0) hx hb dX11_rise_11 (by decide) ?_
    refine lv_bipush (v := 7) hx hb dX11_rise_12 (by decide) ?_
    obtain ⟨r_5, S_6, h_7, hf⟩ := z_bd hf
    refine z_cSI (As := [.int a_2, .int (0 : Int32), .int (7 : Int32)]) (rest := []) X hK hE hD hA hP hS (cx_isWithin l D K cy ad S_2 _ _ _ _ _ h_7) (va_cwS 3 hts (z_gS wt_2_219 wt_2_220 wt_1_1 wt_2_221) rfl rfl rfl yd_yX11_isWithin ⟨Nat.le_of_ble_eq_true rfl, Nat.le_of_ble_eq_true rfl⟩) hl.1 rfl rfl (Nat.le_of_ble_eq_true rfl) dX11_rise_14 (fun H locs hP hS => ?_)
    refine lv_if_eq (tgt := 30) hx hb dX11_rise_17 (by decide) (fun c_14 => ?_) (fun c_14 => ?_)
    · have hf := z_it c_14 hf
      exact J_30  S_6 _ _ _ hf hP hS (lv_sub hl [] rfl)
    · have hf := z_if c_14 hf
      refine lv_iload_n hx hb dX11_rise_20 rfl (lv_at hl 3 rfl) ?_
      refine lv_iconst (v := 0) hx hb dX11_rise_21 (by decide) ?_
      refine lv_bipush (v := 9) hx hb dX11_rise_22 (by decide) ?_
      obtain ⟨r_8, S_9, h_10, hf⟩ := z_bd hf
      refine z_cSI (As := [.int a_3, .int (0 : Int32), .int (9 : Int32)]) (rest := []) X hK hE hD hA hP hS (cx_isWithin l D K cy ad S_6 _ _ _ _ _ h_10) (va_cwS 3 hts (z_gS wt_2_219 wt_2_220 wt_1_1 wt_2_221) rfl rfl rfl yd_yX11_isWithin ⟨Nat.le_of_ble_eq_true rfl, Nat.le_of_ble_eq_true rfl⟩) hl.1 rfl rfl (Nat.le_of_ble_eq_true rfl) dX11_rise_24 (fun H locs hP hS => ?_)
      refine lv_if_ne (tgt := 32) hx hb dX11_rise_27 (by decide) (fun c_13 => ?_) (fun c_13 => ?_)
      · have hf := z_if c_13 hf
        refine lv_aload_n hx hb dX11_rise_32 rfl (lv_at hl 0 rfl) ?_
        refine va_get (D := D) (ci := 11) (v := .ref (ad 3)) (C := RX11) (T := TX11) (N := 8) hx hb hts k0 hown hK hP 0 (zX_0 cy ad S_9) rfl 1 (by decide) k1 (fun _ h9 => h9) rfl dX11_rise_33 ?_
        refine va_get (D := D) (ci := 0) (v := .ref (ad 29)) (C := RX0) (T := TX0) (N := 6) hx hb hts k2 hown hK hP 3 (zX_3 cy ad S_9) rfl 5 (by decide) k3 (fun _ h9 => h9) rfl dX11_rise_36 ?_
        refine va_get (D := D) (ci := 5) (v := .ref (ad 30)) (C := RX5) (T := TX5) (N := 1) hx hb hts k4 hown hK hP 29 (zX_29 cy ad S_9) rfl 0 (by decide) k5 (fun _ h9 => h9) rfl dX11_rise_39 ?_
        refine lv_iload_n hx hb dX11_rise_42 rfl (lv_at hl 1 rfl) ?_
        refine lv_bipush (v := 8) hx hb dX11_rise_43 (by decide) ?_
        refine lv_imul hx hb dX11_rise_45 ?_
        refine lv_iload_n hx hb dX11_rise_46 rfl (lv_at hl 2 rfl) ?_
        refine lv_iadd hx hb dX11_rise_47 ?_
        refine lv_iload_n hx hb dX11_rise_48 rfl (lv_at hl 3 rfl) ?_
        obtain ⟨h_11, hf⟩ := z_ix hf
        refine z_iast hx hb hK hP (hD S_9) hS 30 0 (zX_30 cy ad S_9) rfl h_11 (k := (((a_1 * (8 : Int32)) + a_2).toNatClampNeg)) rfl dX11_rise_49 (fun H locs hP hS => ?_)
        obtain ⟨S_12, eS_12, hf⟩ := z_nm hf
        have hP := zW_putI hP eS_12 (by decide) rfl
        refine lv_iconst (v := 1) hx hb dX11_rise_50 (by decide) ?_
        obtain ⟨h1, h2⟩ := z_s2 hf
        subst h1 h2
        exact hret _ _ _ _ rfl hP hS dX11_rise_51
      · have hf := z_it c_13 hf
        exact J_30  S_9 _ _ _ hf hP hS (lv_sub hl [] rfl)
theorem yd_yX11_odds : (yX11_odds).cls ≠ "java/lang/invoke/MethodHandle" ∧ (yX11_odds).cls ≠ "java/lang/invoke/VarHandle" ∧ (parseMethodDescriptor (yX11_odds).desc).map (fun d => d.parameters.length) = some 2 := by decide +kernel
def fx_odds (S_0 : zSt) (a_1 : Int32) (a_2 : Int32) : Option (Int64 × zSt) :=
  zbd (fx_Tape_isMark S_0) fun r_1 S_2 =>
  znm (fun (x_4 : Int64) (S_5 : zSt) =>
  znm (zpI S_5 1 1 (0 : Int32)) fun S_6 =>
  some (x_4, S_6)) fun j_114 =>
  if r_1 = 0 then (
  j_114 (-1 : Int64) S_2) else (
  zbd (fx_Houses_has S_2 a_1) fun r_7 S_8 =>
  if r_7 = 0 then (
  j_114 (-1 : Int64) S_8) else (
  znm (fun (S_10 : zSt) =>
  zbd (fx_Rises_above S_10 a_1) fun r_11 S_12 =>
  zbd (fx_Rises_below S_12 a_1 r_11) fun r_14 S_15 =>
  zbd (fx_greatestCommonDivisor S_15 r_11 r_14) fun r_17 S_18 =>
  if (lg_cmp r_17 (0 : Int64)) ≤ 0 then (
  j_114 (-1 : Int64) S_18) else (
  znm (fun (x_20 : Int64) (S_21 : zSt) =>
  zck (znzL r_17) <|
  znm (x_20 / r_17) fun x_23 =>
  j_114 x_23 S_21) fun j_110 =>
  if a_2 = 0 then (
  j_110 r_11 S_18) else (
  j_110 r_14 S_18))) fun j_37 =>
  if a_2 = 0 then (
  j_37  S_8) else (
  if a_2 = (1 : Int32) then (
  j_37  S_8) else (
  j_114 (-1 : Int64) S_8))))
set_option maxHeartbeats 4000000 in
set_option maxRecDepth 100000 in
theorem cx_odds (l : Launch) (D : va_G) (K : (Nat → Nat) × (Nat → Nat)) (cy : Nat → ClassId) (ad : Nat → Nat) (S_0 : zSt) (a_1 : Int32) (a_2 : Int32) (ro : Int64) (So : zSt) (hf : fx_odds S_0 a_1 a_2 = some (ro, So)) : zML l yX11_odds (zws yX11_odds cX11_odds 11 (Option.some .long)) ({ frames := 2, cells := 0, slots := 0, locals := 50 }) D (zTy cy) K (zX cy ad) [.ref (ad 0), .int a_1, .int a_2] S_0 ro So := by
  refine z_metL (own := RX11) (lv := [(0, .ref (ad 0)), (1, .int a_1), (2, .int a_2)]) (by decide) rfl rfl (Nat.le_of_ble_eq_true rfl) rfl ?_
  intro p e s m below meth c A Q X hK hE hD hA hret hP hS ls hl
  obtain ⟨hx, hb, hml, hown, hts⟩ := id X
  have k0 := hts _ (List.mem_cons_of_mem _ wt_5_14)
  have k1 := (fun w h => List.mem_cons_of_mem _ (zFX11 w h) : ∀ w ∈ u_ws RX11 TX11 8, w ∈ zws yX11_odds cX11_odds 11 (Option.some .long))
  have k2 := hts _ (List.mem_cons_of_mem _ wt_2_174)
  have k3 := (fun w h => List.mem_cons_of_mem _ (zFX9 w h) : ∀ w ∈ u_ws RX9 TX9 2, w ∈ zws yX11_odds cX11_odds 11 (Option.some .long))
  have k4 := hts _ (List.mem_cons_of_mem _ wt_1_44)
  have k5 := hts _ (List.mem_cons_of_mem _ wt_2_175)
  have k6 := (fun w h => List.mem_cons_of_mem _ (zFX0 w h) : ∀ w ∈ u_ws RX0 TX0 6, w ∈ zws yX11_odds cX11_odds 11 (Option.some .long))
  have k7 := hts _ (List.mem_cons_of_mem _ wt_1_235)
  have k8 := hts _ (List.mem_cons_of_mem _ wt_2_8)
  refine lv_ldc2 hx hb hown k0 dX11_odds_0 ?_
  refine lv_lstore_n (lv' := [(3, .long (-1 : Int64)), (0, .ref (ad 0)), (1, .int a_1), (2, .int a_2)]) hx hb dX11_odds_3 rfl hl (by decide) rfl (fun ls hl => ?_)
  refine lv_aload_n hx hb dX11_odds_4 rfl (lv_at hl 1 rfl) ?_
  refine va_get (D := D) (ci := 11) (v := .ref (ad 1)) (C := RX11) (T := TX11) (N := 8) hx hb hts k1 hown hK hP 0 (zX_0 cy ad S_0) rfl 0 (by decide) k2 (fun _ h9 => h9) rfl dX11_odds_5 ?_
  obtain ⟨r_1, S_2, h_3, hf⟩ := z_bd hf
  refine z_cVI (As := []) (rest := []) X hK hE hD hA hP hS (cx_Tape_isMark l D K cy ad S_0 _ _ h_3) (cwV 0 hts (z_gV wt_2_222 wt_2_223 wt_2_224 wt_1_2 wt_2_225) rfl rfl rfl ⟨rfl, yd_yX9_isMark⟩ ⟨Nat.le_of_ble_eq_true rfl, Nat.le_of_ble_eq_true rfl⟩) (va_recv hK hP (ci := 9) (q0 := 1) rfl (zX_1 cy ad S_0)) hl.1 rfl rfl (Nat.le_of_ble_eq_true rfl) dX11_odds_8 (fun H locs hP hS => ?_)
  obtain ⟨j_114, ej_114, hf⟩ := z_nm hf
  have J_114 : ∀ (x_4 : Int64) (S_5 : zSt) (H : Heap) (locs : List Loc) (ls : Array Slot), j_114 x_4 S_5 = some (ro, So) → va_P D vwCl (zX cy ad S_5) H → va_S A s.heap H locs → lv_has ls 11 [(0, .ref (ad 0)), (3, .long x_4)] → W p l e ({ frames := 2, cells := 0, slots := 0, locals := 50 }) s m ([.ref (ad 0), .int a_1, .int a_2] : List Value).toArray below meth c H locs 0 0 Q (F0 m 114 ls []) := by
    intro x_4 S_5 H locs ls hf hP hS hl
    have hf := z_e2 ej_114 hf
    refine lv_aload_n hx hb dX11_odds_114 rfl (lv_at hl 0 rfl) ?_
    refine va_get (D := D) (ci := 11) (v := .ref (ad 1)) (C := RX11) (T := TX11) (N := 8) hx hb hts k1 hown hK hP 0 (zX_0 cy ad S_5) rfl 0 (by decide) k2 (fun _ h9 => h9) rfl dX11_odds_115 ?_
    refine lv_iconst (v := 0) hx hb dX11_odds_118 (by decide) ?_
    refine va_put (D := D) (ci := 9) (v := .int (0 : Int32)) (ty := .int) (C := RX9) (T := TX9) (N := 2) hx hb hts k3 tyX9 tyX9_ok nmX9 hown hK hP (hD S_5) hS 1 (zX_1 cy ad S_5) rfl 1 (by decide) k4 (fun _ h9 => h9) rfl (tyX9_ok 1 (by decide)) rfl rfl (Nat.le_of_ble_eq_true rfl) dX11_odds_119 (fun H locs hP _ hS => ?_)
    obtain ⟨S_6, eS_6, hf⟩ := z_nm hf
    have hP := zW_putI hP eS_6 (by decide) rfl
    refine lv_lload_n hx hb dX11_odds_122 rfl (lv_at hl 1 rfl) ?_
    obtain ⟨h1, h2⟩ := z_s2 hf
    subst h1 h2
    exact hret _ _ _ _ hP hS dX11_odds_123
  refine lv_if_eq (tgt := 114) hx hb dX11_odds_11 (by decide) (fun c_29 => ?_) (fun c_29 => ?_)
  · have hf := z_it c_29 hf
    exact J_114 (-1 : Int64) S_2 _ _ _ hf hP hS (lv_sub hl [1, 0] rfl)
  · have hf := z_if c_29 hf
    refine lv_aload_n hx hb dX11_odds_14 rfl (lv_at hl 1 rfl) ?_
    refine va_get (D := D) (ci := 11) (v := .ref (ad 3)) (C := RX11) (T := TX11) (N := 8) hx hb hts k1 hown hK hP 0 (zX_0 cy ad S_2) rfl 1 (by decide) k5 (fun _ h9 => h9) rfl dX11_odds_15 ?_
    refine va_get (D := D) (ci := 0) (v := .ref (ad 4)) (C := RX0) (T := TX0) (N := 6) hx hb hts k6 hown hK hP 3 (zX_3 cy ad S_2) rfl 0 (by decide) k7 (fun _ h9 => h9) rfl dX11_odds_18 ?_
    refine lv_iload_n hx hb dX11_odds_21 rfl (lv_at hl 2 rfl) ?_
    obtain ⟨r_7, S_8, h_9, hf⟩ := z_bd hf
    refine z_cVI (As := [.int a_1]) (rest := []) X hK hE hD hA hP hS (cx_Houses_has l D K cy ad S_2 _ _ _ h_9) (cwV 1 hts (z_gV wt_3_3 wt_3_4 wt_3_5 wt_1_4 wt_3_6) rfl rfl rfl ⟨rfl, yd_yX2_has⟩ ⟨Nat.le_of_ble_eq_true rfl, Nat.le_of_ble_eq_true rfl⟩) (va_recv hK hP (ci := 2) (q0 := 4) rfl (zX_4 cy ad S_2)) hl.1 rfl rfl (Nat.le_of_ble_eq_true rfl) dX11_odds_22 (fun H locs hP hS => ?_)
    refine lv_if_eq (tgt := 114) hx hb dX11_odds_25 (by decide) (fun c_28 => ?_) (fun c_28 => ?_)
    · have hf := z_it c_28 hf
      exact J_114 (-1 : Int64) S_8 _ _ _ hf hP hS (lv_sub hl [1, 0] rfl)
    · have hf := z_if c_28 hf
      refine lv_iload_n hx hb dX11_odds_28 rfl (lv_at hl 3 rfl) ?_
      obtain ⟨j_37, ej_37, hf⟩ := z_nm hf
      have J_37 : ∀ (S_10 : zSt) (H : Heap) (locs : List Loc) (ls : Array Slot), j_37  S_10 = some (ro, So) → va_P D vwCl (zX cy ad S_10) H → va_S A s.heap H locs → lv_has ls 11 [(0, .ref (ad 0)), (1, .int a_1), (2, .int a_2), (3, .long (-1 : Int64))] → W p l e ({ frames := 2, cells := 0, slots := 0, locals := 50 }) s m ([.ref (ad 0), .int a_1, .int a_2] : List Value).toArray below meth c H locs 0 0 Q (F0 m 37 ls []) := by
        intro  S_10 H locs ls hf hP hS hl
        have hf := z_e1 ej_37 hf
        refine lv_aload_n hx hb dX11_odds_37 rfl (lv_at hl 0 rfl) ?_
        refine va_get (D := D) (ci := 11) (v := .ref (ad 3)) (C := RX11) (T := TX11) (N := 8) hx hb hts k1 hown hK hP 0 (zX_0 cy ad S_10) rfl 1 (by decide) k5 (fun _ h9 => h9) rfl dX11_odds_38 ?_
        refine va_get (D := D) (ci := 0) (v := .ref (ad 29)) (C := RX0) (T := TX0) (N := 6) hx hb hts k6 hown hK hP 3 (zX_3 cy ad S_10) rfl 5 (by decide) k8 (fun _ h9 => h9) rfl dX11_odds_41 ?_
        refine lv_aload_n hx hb dX11_odds_44 rfl (lv_at hl 0 rfl) ?_
        refine va_get (D := D) (ci := 11) (v := .ref (ad 3)) (C := RX11) (T := TX11) (N := 8) hx hb hts k1 hown hK hP 0 (zX_0 cy ad S_10) rfl 1 (by decide) k5 (fun _ h9 => h9) rfl dX11_odds_45 ?_
        refine va_get (D := D) (ci := 0) (v := .ref (ad 4)) (C := RX0) (T := TX0) (N := 6) hx hb hts k6 hown hK hP 3 (zX_3 cy ad S_10) rfl 0 (by decide) k7 (fun _ h9 => h9) rfl dX11_odds_48 ?_
        refine lv_iload_n hx hb dX11_odds_51 rfl (lv_at hl 1 rfl) ?_
        refine lv_aload_n hx hb dX11_odds_52 rfl (lv_at hl 0 rfl) ?_
        refine va_get (D := D) (ci := 11) (v := .ref (ad 1)) (C := RX11) (T := TX11) (N := 8) hx hb hts k1 hown hK hP 0 (zX_0 cy ad S_10) rfl 0 (by decide) k2 (fun _ h9 => h9) rfl dX11_odds_53 ?_
        obtain ⟨r_11, S_12, h_13, hf⟩ := z_bd hf
        refine z_cVL (As := [.ref (ad 4), .int a_1, .ref (ad 1)]) (rest := []) X hK hE hD hA hP hS (cx_Rises_above l D K cy ad S_10 _ _ _ h_13) (cwV 3 hts (z_gV wt_5_15 wt_5_16 wt_5_17 wt_1_8 wt_5_18) rfl rfl rfl ⟨rfl, yd_yX5_above⟩ ⟨Nat.le_of_ble_eq_true rfl, Nat.le_of_ble_eq_true rfl⟩) (va_recv hK hP (ci := 5) (q0 := 29) rfl (zX_29 cy ad S_10)) hl.1 rfl rfl (Nat.le_of_ble_eq_true rfl) dX11_odds_56 (fun H locs hP hS => ?_)
        refine lv_lstore (lv' := [(5, .long r_11), (0, .ref (ad 0)), (1, .int a_1), (2, .int a_2), (3, .long (-1 : Int64))]) hx hb dX11_odds_59 hl (by decide) rfl (fun ls hl => ?_)
        refine lv_aload_n hx hb dX11_odds_61 rfl (lv_at hl 1 rfl) ?_
        refine va_get (D := D) (ci := 11) (v := .ref (ad 3)) (C := RX11) (T := TX11) (N := 8) hx hb hts k1 hown hK hP 0 (zX_0 cy ad S_12) rfl 1 (by decide) k5 (fun _ h9 => h9) rfl dX11_odds_62 ?_
        refine va_get (D := D) (ci := 0) (v := .ref (ad 29)) (C := RX0) (T := TX0) (N := 6) hx hb hts k6 hown hK hP 3 (zX_3 cy ad S_12) rfl 5 (by decide) k8 (fun _ h9 => h9) rfl dX11_odds_65 ?_
        refine lv_aload_n hx hb dX11_odds_68 rfl (lv_at hl 1 rfl) ?_
        refine va_get (D := D) (ci := 11) (v := .ref (ad 3)) (C := RX11) (T := TX11) (N := 8) hx hb hts k1 hown hK hP 0 (zX_0 cy ad S_12) rfl 1 (by decide) k5 (fun _ h9 => h9) rfl dX11_odds_69 ?_
        refine va_get (D := D) (ci := 0) (v := .ref (ad 4)) (C := RX0) (T := TX0) (N := 6) hx hb hts k6 hown hK hP 3 (zX_3 cy ad S_12) rfl 0 (by decide) k7 (fun _ h9 => h9) rfl dX11_odds_72 ?_
        refine lv_iload_n hx hb dX11_odds_75 rfl (lv_at hl 2 rfl) ?_
        refine lv_lload hx hb dX11_odds_76 (lv_at hl 0 rfl) ?_
        obtain ⟨r_14, S_15, h_16, hf⟩ := z_bd hf
        refine z_cVL (As := [.ref (ad 4), .int a_1, .long r_11]) (rest := []) X hK hE hD hA hP hS (cx_Rises_below l D K cy ad S_12 _ _ _ _ h_16) (cwV 3 hts (z_gV wt_5_21 wt_5_22 wt_5_23 wt_1_8 wt_5_24) rfl rfl rfl ⟨rfl, yd_yX5_below⟩ ⟨Nat.le_of_ble_eq_true rfl, Nat.le_of_ble_eq_true rfl⟩) (va_recv hK hP (ci := 5) (q0 := 29) rfl (zX_29 cy ad S_12)) hl.1 rfl rfl (Nat.le_of_ble_eq_true rfl) dX11_odds_78 (fun H locs hP hS => ?_)
        refine lv_lstore (lv' := [(7, .long r_14), (5, .long r_11), (0, .ref (ad 0)), (1, .int a_1), (2, .int a_2), (3, .long (-1 : Int64))]) hx hb dX11_odds_81 hl (by decide) rfl (fun ls hl => ?_)
        refine lv_lload hx hb dX11_odds_83 (lv_at hl 1 rfl) ?_
        refine lv_lload hx hb dX11_odds_85 (lv_at hl 0 rfl) ?_
        obtain ⟨r_17, S_18, h_19, hf⟩ := z_bd hf
        refine z_cSL (As := [.long r_11, .long r_14]) (rest := []) X hK hE hD hA hP hS (cx_greatestCommonDivisor l D K cy ad S_15 _ _ _ _ h_19) (va_cwS 2 hts (z_gS wt_4_220 wt_4_221 wt_1_1 wt_4_222) rfl rfl rfl yd_yX11_greatestCommonDivisor ⟨Nat.le_of_ble_eq_true rfl, Nat.le_of_ble_eq_true rfl⟩) hl.1 rfl rfl (Nat.le_of_ble_eq_true rfl) dX11_odds_87 (fun H locs hP hS => ?_)
        refine lv_lstore (lv' := [(9, .long r_17), (7, .long r_14), (5, .long r_11), (0, .ref (ad 0)), (1, .int a_1), (2, .int a_2), (3, .long (-1 : Int64))]) hx hb dX11_odds_90 hl (by decide) rfl (fun ls hl => ?_)
        refine lv_lload hx hb dX11_odds_92 (lv_at hl 0 rfl) ?_
        refine lv_lconst (v := 0) hx hb dX11_odds_94 (by decide) ?_
        refine W.lcmp hx hb dX11_odds_95 ?_
        refine lv_if_le (tgt := 114) hx hb dX11_odds_96 (by decide) (fun c_25 => ?_) (fun c_25 => ?_)
        · have hf := z_it c_25 hf
          exact J_114 (-1 : Int64) S_18 _ _ _ hf hP hS (lv_sub hl [3, 6] rfl)
        · have hf := z_if c_25 hf
          refine lv_iload_n hx hb dX11_odds_99 rfl (lv_at hl 5 rfl) ?_
          obtain ⟨j_110, ej_110, hf⟩ := z_nm hf
          have J_110 : ∀ (x_20 : Int64) (S_21 : zSt) (H : Heap) (locs : List Loc) (ls : Array Slot), j_110 x_20 S_21 = some (ro, So) → va_P D vwCl (zX cy ad S_21) H → va_S A s.heap H locs → lv_has ls 11 [(0, .ref (ad 0)), (9, .long r_17)] → W p l e ({ frames := 2, cells := 0, slots := 0, locals := 50 }) s m ([.ref (ad 0), .int a_1, .int a_2] : List Value).toArray below meth c H locs 0 0 Q (F0 m 110 ls [.long x_20]) := by
            intro x_20 S_21 H locs ls hf hP hS hl
            have hf := z_e2 ej_110 hf
            refine lv_lload hx hb dX11_odds_110 (lv_at hl 1 rfl) ?_
            obtain ⟨h_22, hf⟩ := z_nzL hf
            refine lv_ldiv hx hb dX11_odds_112 h_22 ?_
            refine lv_topl (fun x_23 ex_23 => ?_)
            have hf := z_nv ex_23 hf
            refine lv_lstore_n (lv' := [(3, .long x_23), (0, .ref (ad 0)), (9, .long r_17)]) hx hb dX11_odds_113 rfl hl (by decide) rfl (fun ls hl => ?_)
            exact J_114 x_23 S_21 _ _ _ hf hP hS (lv_sub hl [1, 0] rfl)
          refine lv_if_ne (tgt := 108) hx hb dX11_odds_100 (by decide) (fun c_24 => ?_) (fun c_24 => ?_)
          · have hf := z_if c_24 hf
            refine lv_lload hx hb dX11_odds_108 (lv_at hl 1 rfl) ?_
            exact J_110 r_14 S_18 _ _ _ hf hP hS (lv_sub hl [3, 0] rfl)
          · have hf := z_it c_24 hf
            refine lv_lload hx hb dX11_odds_103 (lv_at hl 2 rfl) ?_
            refine lv_goto (tgt := 110) hx hb dX11_odds_105 (by decide) ?_
            exact J_110 r_11 S_18 _ _ _ hf hP hS (lv_sub hl [3, 0] rfl)
      refine lv_if_eq (tgt := 37) hx hb dX11_odds_29 (by decide) (fun c_27 => ?_) (fun c_27 => ?_)
      · have hf := z_it c_27 hf
        exact J_37  S_8 _ _ _ hf hP hS (lv_sub hl [1, 2, 3, 0] rfl)
      · have hf := z_if c_27 hf
        refine lv_iload_n hx hb dX11_odds_32 rfl (lv_at hl 3 rfl) ?_
        refine lv_iconst (v := 1) hx hb dX11_odds_33 (by decide) ?_
        refine lv_icmp_ne (tgt := 114) hx hb dX11_odds_34 (by decide) (fun c_26 => ?_) (fun c_26 => ?_)
        · have hf := z_if c_26 hf
          exact J_114 (-1 : Int64) S_8 _ _ _ hf hP hS (lv_sub hl [1, 0] rfl)
        · have hf := z_it c_26 hf
          exact J_37  S_8 _ _ _ hf hP hS (lv_sub hl [1, 2, 3, 0] rfl)
