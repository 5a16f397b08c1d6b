set_option maxHeartbeats 4000000 in
set_option maxRecDepth 100000 in
theorem law_loop {p : Program} {l : Launch} {e : Env} {s : State} {m : MethodId} {below : List Frame} {meth : Method} {c : Code} {D : va_G} {cy : Nat → ClassId} {K : (Nat → Nat) × (Nat → Nat)} {ax am : Nat → Nat} {b L : Nat} {xs : Nat → Int32} (hL : L ≤ 3072) (C0 : lw_At p s m meth c b L xs) (hK : va_K D vwCl (zTy cy) s) (hE : zE K (fun q : Nat => s.heap.size ≤ q) s s.heap) (hDX : ∀ S, va_D (fun q : Nat => s.heap.size ≤ q) (zX cy ax S)) (hDM : ∀ S, va_D (fun q : Nat => s.heap.size ≤ q) (zM cy am S)) (hXM : ∀ i j, i < 142 → j < 18 → ax i ≠ am j) {Inv : zSt → zSt → Prop} (hst : zStep Inv) :
    ∀ (n i : Nat) (x3 : Int32) (SX SM : zSt) (H : Heap) (locs : List Loc) (ls : Array Slot), i ≤ L + 5 → L + 6 ≤ i + n → x3 = nI i → Inv SX SM → va_P D vwCl (zX cy ax SX) H → va_P D vwCl (zM cy am SM) H → va_S (fun q : Nat => s.heap.size ≤ q) s.heap H locs → lv_has ls 4 [(0, .ref b), (1, .ref (ax 0)), (2, .ref (am 0)), (3, .int x3)] → W p l e room_1 s m #[Value.ref b] below meth c H locs 160 13485 (lw_Z below #[Value.ref b] s) (F0 m 18 ls []) := by
  obtain ⟨hx, hb, hr, hml, hown, hts0, hX, hbl, hlocks, hgv⟩ := C0
  have hts : ∀ w ∈ (Cond.initialized RL :: zT), w.before #[Value.ref b] s = true := fun w h => (List.mem_cons.mp h).elim (fun q => q ▸ hts0 _ (List.mem_filter.mp wt_1_0).1) (fun q => hts0 w (List.mem_filter.mp q).1)
  have hA : ∀ q : Nat, s.heap.size ≤ q → (fun q : Nat => s.heap.size ≤ q) q := fun _ h => h
  have hbA : ¬ (fun q : Nat => s.heap.size ≤ q) b := Nat.not_le.mpr hbl
  have X0 : CallFix p m c cL_law 4 s #[Value.ref b] (Cond.initialized RL :: zT) RL := ⟨hx, hb, hml, hown, hts⟩
  intro n
  induction n with
  | zero =>
    intro i x3 SX SM H locs ls h1 h2
    exact absurd h2 (by omega)
  | succ n ih =>
    intro i x3 SX SM H locs ls hi hin ex3 hI hPX hPM hS hl
    refine lv_iload_n hx hb dL_law_18 rfl (lv_at hl 3 rfl) ?_
    refine lv_aload_n hx hb dL_law_19 rfl (lv_at hl 0 rfl) ?_
    refine va_slen hx hb hX hbl hbA hS dL_law_20 ?_
    refine lv_bipush (v := 6) hx hb dL_law_21 (by decide) ?_
    refine lv_isub hx hb dL_law_23 ?_
    refine lv_icmp_gt (tgt := 987) hx hb dL_law_24 (by decide) (fun c_1 => ?_) (fun c_1 => ?_)
    · refine lv_iconst (v := 1) hx hb dL_law_987 (by decide) ?_
      refine va_forget (fun q hq => hS.2.2 q hq) ?_
      refine W.widen (k := 600000) (n := 7302250) (Nat.le_of_ble_eq_true rfl) (Nat.le_of_ble_eq_true rfl) ?_
      exact lw_ret hx hb hr hlocks dL_law_988
    have hgo : i + 6 ≤ L := lw_go hL hi (by rw [ex3] at c_1; exact c_1)
    have hend : ∀ (X1 M1 : zSt) (H : Heap) (locs : List Loc) (ls : Array Slot), Inv X1 M1 → va_P D vwCl (zX cy ax X1) H → va_P D vwCl (zM cy am M1) H → va_S (fun q : Nat => s.heap.size ≤ q) s.heap H locs → lv_has ls 4 [(0, .ref b), (1, .ref (ax 0)), (2, .ref (am 0)), (3, .int x3)] → W p l e room_1 s m #[Value.ref b] below meth c H locs 160 13485 (lw_Z below #[Value.ref b] s) (F0 m 981 ls []) := by
      intro X1 M1 H locs ls hI hPX hPM hS hl
      obtain ⟨x4, ex4⟩ : ∃ y : Int32, y = x3 + 6 := ⟨_, rfl⟩
      refine lv_iinc (v := x4) (lv' := [(3, .int x4), (0, .ref b), (1, .ref (ax 0)), (2, .ref (am 0))]) hx hb dL_law_981 hl (k := 3) rfl (by rw [ex4]; rfl) (by decide) rfl (fun ls hl => ?_)
      refine lv_goto (tgt := 18) hx hb dL_law_984 (by decide) ?_
      exact ih (i + 6) x4 X1 M1 _ _ _ (by omega) (by omega) (by rw [ex4, ex3, show (6 : Int32) = nI 6 from rfl, nI_add]) hI hPX hPM hS (lv_sub hl [1, 2, 3, 0] rfl)
    refine lv_aload_n hx hb dL_law_27 rfl (lv_at hl 0 rfl) ?_
    refine lv_iload_n hx hb dL_law_28 rfl (lv_at hl 3 rfl) ?_
    refine va_sld hx hb hX hbl hbA hS (by rw [ex3]; exact lw_ix0 hL hgo) dL_law_29 ?_
    refine lv_bipush (v := 31) hx hb dL_law_30 (by decide) ?_
    refine lv_iand hx hb dL_law_32 ?_
    refine lv_topi (fun y ey => ?_)
    by_cases c_k0 : y = 0
    · exact law_case0 hL ⟨hx, hb, hr, hml, hown, hts0, hX, hbl, hlocks, hgv⟩ hK hE hDX hDM hXM hst i x3 y SX SM H locs ls hgo ex3 c_k0 hI hPX hPM hS hl hend
    have n_k0 : y.toInt ≠ 0 := z_ne c_k0 (by decide)
    by_cases c_k1 : y = 1
    · exact law_case1 hL ⟨hx, hb, hr, hml, hown, hts0, hX, hbl, hlocks, hgv⟩ hK hE hDX hDM hXM hst i x3 y SX SM H locs ls hgo ex3 c_k1 hI hPX hPM hS hl hend
    have n_k1 : y.toInt ≠ 1 := z_ne c_k1 (by decide)
    by_cases c_k2 : y = 2
    · exact law_case2 hL ⟨hx, hb, hr, hml, hown, hts0, hX, hbl, hlocks, hgv⟩ hK hE hDX hDM hXM hst i x3 y SX SM H locs ls hgo ex3 c_k2 hI hPX hPM hS hl hend
    have n_k2 : y.toInt ≠ 2 := z_ne c_k2 (by decide)
    by_cases c_k3 : y = 3
    · exact law_case3 hL ⟨hx, hb, hr, hml, hown, hts0, hX, hbl, hlocks, hgv⟩ hK hE hDX hDM hXM hst i x3 y SX SM H locs ls hgo ex3 c_k3 hI hPX hPM hS hl hend
    have n_k3 : y.toInt ≠ 3 := z_ne c_k3 (by decide)
    by_cases c_k4 : y = 4
    · exact law_case4 hL ⟨hx, hb, hr, hml, hown, hts0, hX, hbl, hlocks, hgv⟩ hK hE hDX hDM hXM hst i x3 y SX SM H locs ls hgo ex3 c_k4 hI hPX hPM hS hl hend
    have n_k4 : y.toInt ≠ 4 := z_ne c_k4 (by decide)
    by_cases c_k5 : y = 5
    · exact law_case5 hL ⟨hx, hb, hr, hml, hown, hts0, hX, hbl, hlocks, hgv⟩ hK hE hDX hDM hXM hst i x3 y SX SM H locs ls hgo ex3 c_k5 hI hPX hPM hS hl hend
    have n_k5 : y.toInt ≠ 5 := z_ne c_k5 (by decide)
    by_cases c_k6 : y = 6
    · exact law_case6 hL ⟨hx, hb, hr, hml, hown, hts0, hX, hbl, hlocks, hgv⟩ hK hE hDX hDM hXM hst i x3 y SX SM H locs ls hgo ex3 c_k6 hI hPX hPM hS hl hend
    have n_k6 : y.toInt ≠ 6 := z_ne c_k6 (by decide)
    by_cases c_k7 : y = 7
    · exact law_case7 hL ⟨hx, hb, hr, hml, hown, hts0, hX, hbl, hlocks, hgv⟩ hK hE hDX hDM hXM hst i x3 y SX SM H locs ls hgo ex3 c_k7 hI hPX hPM hS hl hend
    have n_k7 : y.toInt ≠ 7 := z_ne c_k7 (by decide)
    by_cases c_k8 : y = 8
    · exact law_case8 hL ⟨hx, hb, hr, hml, hown, hts0, hX, hbl, hlocks, hgv⟩ hK hE hDX hDM hXM hst i x3 y SX SM H locs ls hgo ex3 c_k8 hI hPX hPM hS hl hend
    have n_k8 : y.toInt ≠ 8 := z_ne c_k8 (by decide)
    by_cases c_k9 : y = 9
    · exact law_case9 hL ⟨hx, hb, hr, hml, hown, hts0, hX, hbl, hlocks, hgv⟩ hK hE hDX hDM hXM hst i x3 y SX SM H locs ls hgo ex3 c_k9 hI hPX hPM hS hl hend
    have n_k9 : y.toInt ≠ 9 := z_ne c_k9 (by decide)
    by_cases c_k10 : y = 10
    · exact law_case10 hL ⟨hx, hb, hr, hml, hown, hts0, hX, hbl, hlocks, hgv⟩ hK hE hDX hDM hXM hst i x3 y SX SM H locs ls hgo ex3 c_k10 hI hPX hPM hS hl hend
    have n_k10 : y.toInt ≠ 10 := z_ne c_k10 (by decide)
    by_cases c_k11 : y = 11
    · exact law_case11 hL ⟨hx, hb, hr, hml, hown, hts0, hX, hbl, hlocks, hgv⟩ hK hE hDX hDM hXM hst i x3 y SX SM H locs ls hgo ex3 c_k11 hI hPX hPM hS hl hend
    have n_k11 : y.toInt ≠ 11 := z_ne c_k11 (by decide)
    by_cases c_k12 : y = 12
    · exact law_case12 hL ⟨hx, hb, hr, hml, hown, hts0, hX, hbl, hlocks, hgv⟩ hK hE hDX hDM hXM hst i x3 y SX SM H locs ls hgo ex3 c_k12 hI hPX hPM hS hl hend
    have n_k12 : y.toInt ≠ 12 := z_ne c_k12 (by decide)
    by_cases c_k13 : y = 13
    · exact law_case13 hL ⟨hx, hb, hr, hml, hown, hts0, hX, hbl, hlocks, hgv⟩ hK hE hDX hDM hXM hst i x3 y SX SM H locs ls hgo ex3 c_k13 hI hPX hPM hS hl hend
    have n_k13 : y.toInt ≠ 13 := z_ne c_k13 (by decide)
    by_cases c_k14 : y = 14
    · exact law_case14 hL ⟨hx, hb, hr, hml, hown, hts0, hX, hbl, hlocks, hgv⟩ hK hE hDX hDM hXM hst i x3 y SX SM H locs ls hgo ex3 c_k14 hI hPX hPM hS hl hend
    have n_k14 : y.toInt ≠ 14 := z_ne c_k14 (by decide)
    by_cases c_k15 : y = 15
    · exact law_case15 hL ⟨hx, hb, hr, hml, hown, hts0, hX, hbl, hlocks, hgv⟩ hK hE hDX hDM hXM hst i x3 y SX SM H locs ls hgo ex3 c_k15 hI hPX hPM hS hl hend
    have n_k15 : y.toInt ≠ 15 := z_ne c_k15 (by decide)
    by_cases c_k16 : y = 16
    · exact law_case16 hL ⟨hx, hb, hr, hml, hown, hts0, hX, hbl, hlocks, hgv⟩ hK hE hDX hDM hXM hst i x3 y SX SM H locs ls hgo ex3 c_k16 hI hPX hPM hS hl hend
    have n_k16 : y.toInt ≠ 16 := z_ne c_k16 (by decide)
    by_cases c_k17 : y = 17
    · exact law_case17 hL ⟨hx, hb, hr, hml, hown, hts0, hX, hbl, hlocks, hgv⟩ hK hE hDX hDM hXM hst i x3 y SX SM H locs ls hgo ex3 c_k17 hI hPX hPM hS hl hend
    have n_k17 : y.toInt ≠ 17 := z_ne c_k17 (by decide)
    by_cases c_k18 : y = 18
    · exact law_case18 hL ⟨hx, hb, hr, hml, hown, hts0, hX, hbl, hlocks, hgv⟩ hK hE hDX hDM hXM hst i x3 y SX SM H locs ls hgo ex3 c_k18 hI hPX hPM hS hl hend
    have n_k18 : y.toInt ≠ 18 := z_ne c_k18 (by decide)
    by_cases c_k19 : y = 19
    · exact law_case19 hL ⟨hx, hb, hr, hml, hown, hts0, hX, hbl, hlocks, hgv⟩ hK hE hDX hDM hXM hst i x3 y SX SM H locs ls hgo ex3 c_k19 hI hPX hPM hS hl hend
    have n_k19 : y.toInt ≠ 19 := z_ne c_k19 (by decide)
    by_cases c_k20 : y = 20
    · exact law_case20 hL ⟨hx, hb, hr, hml, hown, hts0, hX, hbl, hlocks, hgv⟩ hK hE hDX hDM hXM hst i x3 y SX SM H locs ls hgo ex3 c_k20 hI hPX hPM hS hl hend
    have n_k20 : y.toInt ≠ 20 := z_ne c_k20 (by decide)
    by_cases c_k21 : y = 21
    · exact law_case21 hL ⟨hx, hb, hr, hml, hown, hts0, hX, hbl, hlocks, hgv⟩ hK hE hDX hDM hXM hst i x3 y SX SM H locs ls hgo ex3 c_k21 hI hPX hPM hS hl hend
    have n_k21 : y.toInt ≠ 21 := z_ne c_k21 (by decide)
    by_cases c_k22 : y = 22
    · exact law_case22 hL ⟨hx, hb, hr, hml, hown, hts0, hX, hbl, hlocks, hgv⟩ hK hE hDX hDM hXM hst i x3 y SX SM H locs ls hgo ex3 c_k22 hI hPX hPM hS hl hend
    have n_k22 : y.toInt ≠ 22 := z_ne c_k22 (by decide)
    by_cases c_k23 : y = 23
    · exact law_case23 hL ⟨hx, hb, hr, hml, hown, hts0, hX, hbl, hlocks, hgv⟩ hK hE hDX hDM hXM hst i x3 y SX SM H locs ls hgo ex3 c_k23 hI hPX hPM hS hl hend
    have n_k23 : y.toInt ≠ 23 := z_ne c_k23 (by decide)
    by_cases c_k24 : y = 24
    · exact law_case24 hL ⟨hx, hb, hr, hml, hown, hts0, hX, hbl, hlocks, hgv⟩ hK hE hDX hDM hXM hst i x3 y SX SM H locs ls hgo ex3 c_k24 hI hPX hPM hS hl hend
    have n_k24 : y.toInt ≠ 24 := z_ne c_k24 (by decide)
    by_cases c_k25 : y = 25
    · exact law_case25 hL ⟨hx, hb, hr, hml, hown, hts0, hX, hbl, hlocks, hgv⟩ hK hE hDX hDM hXM hst i x3 y SX SM H locs ls hgo ex3 c_k25 hI hPX hPM hS hl hend
    have n_k25 : y.toInt ≠ 25 := z_ne c_k25 (by decide)
    by_cases c_k26 : y = 26
    · exact law_case26 hL ⟨hx, hb, hr, hml, hown, hts0, hX, hbl, hlocks, hgv⟩ hK hE hDX hDM hXM hst i x3 y SX SM H locs ls hgo ex3 c_k26 hI hPX hPM hS hl hend
    have n_k26 : y.toInt ≠ 26 := z_ne c_k26 (by decide)
    by_cases c_k27 : y = 27
    · exact law_case27 hL ⟨hx, hb, hr, hml, hown, hts0, hX, hbl, hlocks, hgv⟩ hK hE hDX hDM hXM hst i x3 y SX SM H locs ls hgo ex3 c_k27 hI hPX hPM hS hl hend
    have n_k27 : y.toInt ≠ 27 := z_ne c_k27 (by decide)
    refine lv_tableOut (tgt := 981) hx hb dL_law_33 (by omega) (by decide) ?_
    exact hend SX SM _ _ _ hI hPX hPM hS hl
