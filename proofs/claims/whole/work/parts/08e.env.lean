/-! what the start gives: Strings, statics, links -/
def zTm (i : Nat) : Term := .string (zSO.getD i ("", 0, "")).1 (zSO.getD i ("", 0, "")).2.1
def zFl : List Cond := flatC (Jvm.Cond.and given_1 narrow_1)
set_option maxRecDepth 100000 in
theorem zs_ex : ∀ i, i < 17 → Cond.exactly (zTm i) "java/lang/String" ∈ zFl := by decide +kernel
set_option maxRecDepth 100000 in
theorem zs_co : ∀ i, i < 17 → Cond.eq (.field (zTm i) "java/lang/String" "coder" "B") (.int 0) ∈ zFl := by decide +kernel
set_option maxRecDepth 100000 in
theorem zs_ar : ∀ i, i < 17 → Cond.arrayOf (.field (zTm i) "java/lang/String" "value" "[B") .byte ∈ zFl := by decide +kernel
set_option maxRecDepth 100000 in
theorem zs_le : ∀ i, i < 17 → Cond.eq (.length (.field (zTm i) "java/lang/String" "value" "[B")) (.int (Int32.ofNat (zSL.getD i 0))) ∈ zFl := by decide +kernel
set_option maxRecDepth 100000 in
theorem zs_el : ∀ i, i < 17 → ∀ j, j < zSL.getD i 0 → Cond.eq (.elem (.field (zTm i) "java/lang/String" "value" "[B") (.int (Int32.ofNat j))) (.int ((zSB.getD i []).getD j 0)) ∈ zFl := by decide +kernel
def zPp : List Nat := [102, 111, 112, 119, 120, 121, 129, 130, 131, 132, 140, 141, 142, 143, 144, 154, 155, 156, 157, 158, 159, 168, 169, 170, 171, 172, 173, 174, 183, 184, 185, 186, 187, 188, 189, 190, 200, 201, 202, 203, 204, 205, 206, 207, 208, 218, 219, 220, 221, 222, 223, 224, 225, 226, 227, 236, 237, 238, 239, 240, 241, 242, 243, 244, 245, 246, 256, 257, 258, 259, 260, 261, 262, 263, 264, 265, 266, 267, 276, 277, 278, 279, 280, 281, 282, 283, 284, 285, 286, 287, 288, 298, 299, 300, 301, 302, 303, 304, 305, 306, 307, 308, 309, 310, 311, 319, 320, 321, 322, 323, 324, 325, 326, 327, 328, 329, 330, 331, 332, 333, 342, 343, 344, 345, 346, 347, 348, 349, 350, 351, 352, 353, 354, 355, 356, 357]
def zPa : List Nat := [0, 0, 1, 0, 1, 2, 0, 1, 2, 3, 0, 1, 2, 3, 4, 0, 1, 2, 3, 4, 5, 0, 1, 2, 3, 4, 5, 6, 0, 1, 2, 3, 4, 5, 6, 7, 0, 1, 2, 3, 4, 5, 6, 7, 8, 0, 1, 2, 3, 4, 5, 6, 7, 8, 9, 0, 1, 2, 3, 4, 5, 6, 7, 8, 9, 10, 0, 1, 2, 3, 4, 5, 6, 7, 8, 9, 10, 11, 0, 1, 2, 3, 4, 5, 6, 7, 8, 9, 10, 11, 12, 0, 1, 2, 3, 4, 5, 6, 7, 8, 9, 10, 11, 12, 13, 0, 1, 2, 3, 4, 5, 6, 7, 8, 9, 10, 11, 12, 13, 14, 0, 1, 2, 3, 4, 5, 6, 7, 8, 9, 10, 11, 12, 13, 14, 15]
def zPb : List Nat := [1, 2, 2, 3, 3, 3, 4, 4, 4, 4, 5, 5, 5, 5, 5, 6, 6, 6, 6, 6, 6, 7, 7, 7, 7, 7, 7, 7, 8, 8, 8, 8, 8, 8, 8, 8, 9, 9, 9, 9, 9, 9, 9, 9, 9, 10, 10, 10, 10, 10, 10, 10, 10, 10, 10, 11, 11, 11, 11, 11, 11, 11, 11, 11, 11, 11, 12, 12, 12, 12, 12, 12, 12, 12, 12, 12, 12, 12, 13, 13, 13, 13, 13, 13, 13, 13, 13, 13, 13, 13, 13, 14, 14, 14, 14, 14, 14, 14, 14, 14, 14, 14, 14, 14, 14, 15, 15, 15, 15, 15, 15, 15, 15, 15, 15, 15, 15, 15, 15, 15, 16, 16, 16, 16, 16, 16, 16, 16, 16, 16, 16, 16, 16, 16, 16, 16]
set_option maxRecDepth 100000 in
theorem zs_np0 : ∀ k, k < 17 → zFl[zPp.getD (0 + k) 0]? = some (Cond.not (Cond.eq (zTm (zPa.getD (0 + k) 0)) (zTm (zPb.getD (0 + k) 0)))) := by decide +kernel
set_option maxRecDepth 100000 in
theorem zs_np17 : ∀ k, k < 17 → zFl[zPp.getD (17 + k) 0]? = some (Cond.not (Cond.eq (zTm (zPa.getD (17 + k) 0)) (zTm (zPb.getD (17 + k) 0)))) := by decide +kernel
set_option maxRecDepth 100000 in
theorem zs_np34 : ∀ k, k < 17 → zFl[zPp.getD (34 + k) 0]? = some (Cond.not (Cond.eq (zTm (zPa.getD (34 + k) 0)) (zTm (zPb.getD (34 + k) 0)))) := by decide +kernel
set_option maxRecDepth 100000 in
theorem zs_np51 : ∀ k, k < 17 → zFl[zPp.getD (51 + k) 0]? = some (Cond.not (Cond.eq (zTm (zPa.getD (51 + k) 0)) (zTm (zPb.getD (51 + k) 0)))) := by decide +kernel
set_option maxRecDepth 100000 in
theorem zs_np68 : ∀ k, k < 17 → zFl[zPp.getD (68 + k) 0]? = some (Cond.not (Cond.eq (zTm (zPa.getD (68 + k) 0)) (zTm (zPb.getD (68 + k) 0)))) := by decide +kernel
set_option maxRecDepth 100000 in
theorem zs_np85 : ∀ k, k < 17 → zFl[zPp.getD (85 + k) 0]? = some (Cond.not (Cond.eq (zTm (zPa.getD (85 + k) 0)) (zTm (zPb.getD (85 + k) 0)))) := by decide +kernel
set_option maxRecDepth 100000 in
theorem zs_np102 : ∀ k, k < 17 → zFl[zPp.getD (102 + k) 0]? = some (Cond.not (Cond.eq (zTm (zPa.getD (102 + k) 0)) (zTm (zPb.getD (102 + k) 0)))) := by decide +kernel
set_option maxRecDepth 100000 in
theorem zs_np119 : ∀ k, k < 17 → zFl[zPp.getD (119 + k) 0]? = some (Cond.not (Cond.eq (zTm (zPa.getD (119 + k) 0)) (zTm (zPb.getD (119 + k) 0)))) := by decide +kernel
theorem zs_np : ∀ k, k < 136 → zFl[zPp.getD k 0]? = some (Cond.not (Cond.eq (zTm (zPa.getD k 0)) (zTm (zPb.getD k 0)))) := by
  intro k hk
  by_cases h0 : k < 17
  · have := zs_np0 (k - 0) (by omega)
    rwa [show 0 + (k - 0) = k by omega] at this
  by_cases h17 : k < 34
  · have := zs_np17 (k - 17) (by omega)
    rwa [show 17 + (k - 17) = k by omega] at this
  by_cases h34 : k < 51
  · have := zs_np34 (k - 34) (by omega)
    rwa [show 34 + (k - 34) = k by omega] at this
  by_cases h51 : k < 68
  · have := zs_np51 (k - 51) (by omega)
    rwa [show 51 + (k - 51) = k by omega] at this
  by_cases h68 : k < 85
  · have := zs_np68 (k - 68) (by omega)
    rwa [show 68 + (k - 68) = k by omega] at this
  by_cases h85 : k < 102
  · have := zs_np85 (k - 85) (by omega)
    rwa [show 85 + (k - 85) = k by omega] at this
  by_cases h102 : k < 119
  · have := zs_np102 (k - 102) (by omega)
    rwa [show 102 + (k - 102) = k by omega] at this
  by_cases h119 : k < 136
  · have := zs_np119 (k - 119) (by omega)
    rwa [show 119 + (k - 119) = k by omega] at this
  omega
theorem zs_nf : ∀ i, i < 17 → ∀ j, j < 17 → i ≠ j → ∃ k, k < 136 ∧ ((zPa.getD k 0 = i ∧ zPb.getD k 0 = j) ∨ (zPa.getD k 0 = j ∧ zPb.getD k 0 = i)) := by decide +kernel
theorem zs_ne : ∀ i, i < 17 → ∀ j, j < 17 → i ≠ j → Cond.not (Cond.eq (zTm i) (zTm j)) ∈ zFl ∨ Cond.not (Cond.eq (zTm j) (zTm i)) ∈ zFl := by
  intro i hi j hj hij
  obtain ⟨k, hk, ⟨rfl, rfl⟩ | ⟨rfl, rfl⟩⟩ := zs_nf i hi j hj hij
  · exact Or.inl (List.mem_of_getElem? (zs_np k hk))
  · exact Or.inr (List.mem_of_getElem? (zs_np k hk))
theorem zs_n : ∀ i, i < 17 → zSL.getD i 0 < 2 ^ 31 := by decide +kernel
set_option maxRecDepth 100000 in
theorem zs_cs : Cond.eq (.static "java/lang/String" "COMPACT_STRINGS" "Z") (.int 1) ∈ zFl := by decide +kernel
set_option maxRecDepth 100000 in
theorem zs_si : Cond.isRef (.static "jdk/internal/util/Preconditions" "SIOOBE_FORMATTER" "Ljava/util/function/BiFunction;") ∈ zFl := by decide +kernel
set_option maxRecDepth 100000 in
theorem zs_l1 : Cond.laysStatic "java/lang/String" "COMPACT_STRINGS" "Z" ∈ lw_tbl := List.mem_append_right _ (by decide +kernel)
set_option maxRecDepth 100000 in
theorem zs_l2 : Cond.laysStatic "jdk/internal/util/Preconditions" "SIOOBE_FORMATTER" "Ljava/util/function/BiFunction;" ∈ lw_tbl := List.mem_append_right _ (by decide +kernel)
theorem zs_sr : ∀ (i : Nat) (q : String × Nat × String), zSO[i]? = some q → Cond.stringRef q.1 q.2.1 q.2.2 ∈ lw_tbl := by
  intro i q h
  have hm : ∀ q ∈ zSO, Cond.stringRef q.1 q.2.1 q.2.2 ∈ lw_tbl := List.forall_mem_cons.mpr ⟨wl_3_49, List.forall_mem_cons.mpr ⟨wl_3_98, List.forall_mem_cons.mpr ⟨wl_5_238, List.forall_mem_cons.mpr ⟨wl_6_5, List.forall_mem_cons.mpr ⟨wl_6_6, List.forall_mem_cons.mpr ⟨wl_6_7, List.forall_mem_cons.mpr ⟨wl_6_8, List.forall_mem_cons.mpr ⟨wl_6_13, List.forall_mem_cons.mpr ⟨wl_6_14, List.forall_mem_cons.mpr ⟨wl_6_15, List.forall_mem_cons.mpr ⟨wl_6_16, List.forall_mem_cons.mpr ⟨wl_6_17, List.forall_mem_cons.mpr ⟨wl_6_18, List.forall_mem_cons.mpr ⟨wl_6_19, List.forall_mem_cons.mpr ⟨wl_6_20, List.forall_mem_cons.mpr ⟨wl_6_21, List.forall_mem_cons.mpr ⟨wl_6_22, fun _ h => absurd h List.not_mem_nil⟩⟩⟩⟩⟩⟩⟩⟩⟩⟩⟩⟩⟩⟩⟩⟩⟩
  exact hm q (List.mem_of_getElem? h)
theorem zs_nx : ∀ q ∈ zNe, Cond.methodLinkNest q.1 q.2.1 q.2.2 "DoughDebts" ∈ lw_tbl := List.forall_mem_cons.mpr ⟨wl_1_33, List.forall_mem_cons.mpr ⟨wl_1_54, List.forall_mem_cons.mpr ⟨wl_1_60, List.forall_mem_cons.mpr ⟨wl_1_103, List.forall_mem_cons.mpr ⟨wl_1_169, List.forall_mem_cons.mpr ⟨wl_1_189, List.forall_mem_cons.mpr ⟨wl_2_30, List.forall_mem_cons.mpr ⟨wl_2_160, List.forall_mem_cons.mpr ⟨wl_3_40, fun _ h => absurd h List.not_mem_nil⟩⟩⟩⟩⟩⟩⟩⟩⟩
theorem zE_start {s : State} {a : Array Value} {A : Nat → Prop} (hts : ∀ w ∈ lw_tbl, w.before a s = true) (hgv : (Jvm.Cond.and given_1 narrow_1).before a s = true) (hA : ∀ q : Nat, q < s.heap.size → ¬ A q) : ∃ K : (Nat → Nat) × (Nat → Nat), zE K A s s.heap := by
  have hs : ∀ c ∈ zFl, c.before a s = true := flat_of_before _ hgv
  obtain ⟨adK, adV, hS, hR⟩ := vk_Sof (N := 17) (tm := zTm) (len := zSL) (byt := zSB) (A := A) zs_n (fun i hi => hs _ (zs_ex i hi)) (fun i hi => hs _ (zs_co i hi)) (fun i hi => hs _ (zs_ar i hi)) (fun i hi => hs _ (zs_le i hi)) (fun i hi j hj => hs _ (zs_el i hi j hj)) (fun i j hi hj hij => (zs_ne i hi j hj hij).elim (fun h => Or.inl (hs _ h)) (fun h => Or.inr (hs _ h))) hA
  refine ⟨(adK, adV), hS, fun i q hq => ?_, va_Zof (hts _ zs_l1) (hts _ (List.mem_filter.mp wt_1_14).1) (va_eqi (hs _ zs_cs)) hA, va_Zqof (hts _ zs_l2) (hts _ (List.mem_filter.mp wt_1_16).1) (hs _ zs_si) hA, fun q hq => va_Nw.of rfl (hts _ (zs_nx q hq)), va_AO.of (hts _ wl_2_29)⟩
  have hi : i < 17 := by
    have := (List.getElem?_eq_some_iff.mp hq).1
    exact this
  have h2 := hR i hi
  have hz : zSO.getD i ("", 0, "") = q := by rw [List.getD_eq_getElem?_getD, hq]; rfl
  unfold zTm at h2
  rw [hz] at h2
  exact vk_R.of (hts _ (zs_sr i q hq)) h2
theorem zD_start {s : State} {a : Array Value} (hts : ∀ w ∈ zT, w.before a s = true) : ∃ D : va_G, ∀ (k : Nat) (q : vw_C), vwCl[k]? = some q → u_Kn s q.1 q.2.1 q.2.2 (D.1 k) (D.2 k) := by
  obtain ⟨c0, i0, h0⟩ := u_known (C := RX0) (T := TX0) (N := 6) (n := 6) hts zFX0 (hts _ wt_1_53)
  obtain ⟨c1, i1, h1⟩ := u_known (C := RX1) (T := TX1) (N := 3) (n := 3) hts zFX1 (hts _ wt_2_23)
  obtain ⟨c2, i2, h2⟩ := u_known (C := RX2) (T := TX2) (N := 7) (n := 7) hts zFX2 (hts _ wt_1_59)
  obtain ⟨c3, i3, h3⟩ := u_known (C := RX3) (T := TX3) (N := 7) (n := 7) hts zFX3 (hts _ wt_1_188)
  obtain ⟨c4, i4, h4⟩ := u_known (C := RX4) (T := TX4) (N := 14) (n := 14) hts zFX4 (hts _ wt_2_103)
  obtain ⟨c5, i5, h5⟩ := u_known (C := RX5) (T := TX5) (N := 1) (n := 1) hts zFX5 (hts _ wt_1_222)
  obtain ⟨c6, i6, h6⟩ := u_known (C := RX6) (T := TX6) (N := 3) (n := 3) hts zFX6 (hts _ wt_1_168)
  obtain ⟨c7, i7, h7⟩ := u_known (C := RX7) (T := TX7) (N := 16) (n := 16) hts zFX7 (hts _ wt_2_43)
  obtain ⟨c8, i8, h8⟩ := u_known (C := RX8) (T := TX8) (N := 3) (n := 3) hts zFX8 (hts _ wt_2_159)
  obtain ⟨c9, i9, h9⟩ := u_known (C := RX9) (T := TX9) (N := 2) (n := 2) hts zFX9 (hts _ wt_1_32)
  obtain ⟨c10, i10, h10⟩ := u_known (C := RX10) (T := TX10) (N := 12) (n := 12) hts zFX10 (hts _ wt_1_102)
  obtain ⟨c11, i11, h11⟩ := u_known (C := RX11) (T := TX11) (N := 8) (n := 8) hts zFX11 (hts _ wt_1_24)
  obtain ⟨c12, i12, h12⟩ := u_known (C := RX12) (T := TX12) (N := 36) (n := 36) hts zFX12 (hts _ wt_5_90)
  refine ⟨(fun k => [c0, c1, c2, c3, c4, c5, c6, c7, c8, c9, c10, c11, c12].getD k c0, fun k => [i0, i1, i2, i3, i4, i5, i6, i7, i8, i9, i10, i11, i12].getD k i0), ?_⟩
  intro k q hq
  match k, hq with
  | 0, hq => cases hq; exact h0
  | 1, hq => cases hq; exact h1
  | 2, hq => cases hq; exact h2
  | 3, hq => cases hq; exact h3
  | 4, hq => cases hq; exact h4
  | 5, hq => cases hq; exact h5
  | 6, hq => cases hq; exact h6
  | 7, hq => cases hq; exact h7
  | 8, hq => cases hq; exact h8
  | 9, hq => cases hq; exact h9
  | 10, hq => cases hq; exact h10
  | 11, hq => cases hq; exact h11
  | 12, hq => cases hq; exact h12
  | k + 13, hq => simp [vwCl] at hq
theorem zcy_one {s : State} {a : Array Value} {ty : FieldType} (h : (Cond.arrayClass ty).before a s = true) : ∃ cA : ClassId, ArrOfT s cA ty ∧ s.vm.findClass ("[" ++ ty.toString) = some cA := by
  obtain ⟨cA, kA, comp, h1, h2, h3⟩ := Cond.arrayClass_spec h
  exact ⟨cA, fun n z => ⟨fun k h => (by cases h), kA, h2, comp, h3⟩, h1⟩
theorem zcy_start {s : State} {a : Array Value} (hts : ∀ w ∈ lw_tbl, w.before a s = true) : ∃ cy : Nat → ClassId, ∀ (k : Nat) (q : ClassId × FieldType), (zTy cy)[k]? = some q → ArrOfT s q.1 q.2 ∧ va_RA s q.1 q.2 := by
  obtain ⟨a0, x0, y0⟩ := zcy_one (hts _ (List.mem_filter.mp wt_1_51).1)
  obtain ⟨a1, x1, y1⟩ := zcy_one (hts _ (List.mem_filter.mp wt_1_220).1)
  obtain ⟨a2, x2, y2⟩ := zcy_one (hts _ (List.mem_filter.mp wt_2_157).1)
  obtain ⟨comp, a3, k3, f1, f2, f3, f4, f5⟩ := Cond.arrayOver_spec (hts _ wl_2_29)
  refine ⟨fun k => [a0, a1, a2, a3].getD k a0, fun k q hq => ?_⟩
  match k, hq with
  | 0, hq => cases hq; exact ⟨x0, y0⟩
  | 1, hq => cases hq; exact ⟨x1, y1⟩
  | 2, hq => cases hq; exact ⟨x2, y2⟩
  | 3, hq => cases hq; exact ⟨fun n z => ⟨fun k h => (by cases h), k3, f3, comp, f4⟩, k3, comp, f3, f4, f1, f5⟩
  | k + 4, hq => simp [zTy] at hq
