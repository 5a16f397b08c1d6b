theorem zW_len (N : Nat) (ad : Nat → Nat) (C : Nat → (Nat → Int32) → (Nat → Int64) → va_E) (S : zSt) : (zW N ad C S).length = N := by simp [zW]
theorem z_at0 (w : va_W) (e0 : Nat × va_E) (n : Nat) (h : w.length = n) : (w ++ [e0])[n]? = some e0 := by rw [List.getElem?_append_right (by omega), h, Nat.sub_self]; rfl
theorem z_at1 (w : va_W) (e0 : Nat × va_E) (n : Nat) (h : w.length = n) : [n].map (fun i => (w ++ [e0])[i]?) = [e0].map some := by simp only [List.map_cons, List.map_nil]; rw [z_at0 w e0 n h]
theorem z_at2 (w : va_W) (e0 : Nat × va_E) (n : Nat) (h : w.length = n) : [n].filterMap (fun i => (w ++ [e0])[i]?) = [e0] := by simp only [List.filterMap_cons, List.filterMap_nil]; rw [z_at0 w e0 n h]
theorem z_at3 (w : va_W) (e0 : Nat × va_E) (n : Nat) (h : w.length = n) : (List.range n).map (fun i => (w ++ [e0])[i]?) = w.map some := by
  apply List.ext_getElem?
  intro i
  by_cases hi : i < n
  · rw [List.getElem?_map, List.getElem?_map, List.getElem?_range hi]
    simp only [Option.map_some]
    rw [List.getElem?_append_left (by omega)]
    rw [List.getElem?_eq_getElem (by omega)]
    rfl
  · rw [List.getElem?_eq_none (by simp; omega), List.getElem?_eq_none (by simp; omega)]
set_option maxHeartbeats 8000000 in
set_option maxRecDepth 100000 in
theorem whole_open {p : Program} {e : Env} {s : State} {m : MethodId} {below : List Frame} {meth : Method} {c : Code} (l : Launch) {b L : Nat} {xs : Nat → Int32} (hL : L ≤ 3072) (C0 : lw_At p s m meth c b L xs) {Inv : zSt → zSt → Prop} (hI0 : Inv zS0X zS0M) (hst : zStep Inv) : W p l e room_1 s m #[Value.ref b] below meth c s.heap [] 0 0 (lw_Z below #[Value.ref b] s) (entryFrame m ([Value.ref b] : List Value).toArray 4) := by
  obtain ⟨hx, hb, hr, hml, hown, hts0, hX, hbl, hlocks, hgv⟩ := id C0
  have hts : ∀ w ∈ (Cond.initialized RL :: zT), w.before #[Value.ref b] s = true := fun w h => (List.mem_cons.mp h).elim (fun q => q ▸ hts0 _ (List.mem_filter.mp wt_1_0).1) (fun q => hts0 w (List.mem_filter.mp q).1)
  have hA : ∀ q : Nat, s.heap.size ≤ q → (fun q : Nat => s.heap.size ≤ q) q := fun _ h => h
  obtain ⟨K, hE⟩ := zE_start (A := fun q : Nat => s.heap.size ≤ q) hts0 hgv (fun q h => Nat.not_le.mpr h)
  obtain ⟨D, hKc⟩ := zD_start (fun w h => hts0 w (List.mem_filter.mp h).1)
  obtain ⟨cy, hKy⟩ := zcy_start hts0
  have hK : va_K D vwCl (zTy cy) s := ⟨hKc, hKy⟩
  have X0 : CallFix p m c cL_law 4 s #[Value.ref b] (Cond.initialized RL :: zT) RL := ⟨hx, hb, hml, hown, hts⟩
  have hS : va_S (fun q : Nat => s.heap.size ≤ q) s.heap s.heap [] := va_S.rf
  have hP : va_P D vwCl [] s.heap := fun k q h => by simp at h
  have hD : va_D (fun q : Nat => s.heap.size ≤ q) [] := ⟨fun i j p q h => by simp at h, fun k q h => by simp at h⟩
  have hl := lv_entry ([.ref b]) (n := 4) (Nat.le_of_ble_eq_true rfl)
  rw [lg_entry_eq]
  generalize (lg_sl ([.ref b]) ++ List.replicate (4 - (lg_sl ([.ref b])).length) Slot.unset).toArray = ls at hl ⊢
  have hl : lv_has ls 4 [(0, .ref b)] := hl
  refine va_new (ci := 11) (fs := [.null, .null, .null, .int 0, .null, .null, .null, .null]) (C := RX11) (T := TX11) (N := 8) hx hb hts (fun w h => List.mem_cons_of_mem _ (zFX11 w h)) tyX11 tyX11_ok hown (hts _ (List.mem_cons_of_mem _ wt_1_23)) (hts _ (List.mem_cons_of_mem _ wt_1_24)) (hts _ (List.mem_cons_of_mem _ wt_1_1)) hK hP hD hS hA rfl (fun j hj => by rcases (show j = 0 ∨ j = 1 ∨ j = 2 ∨ j = 3 ∨ j = 4 ∨ j = 5 ∨ j = 6 ∨ j = 7 by omega) with rfl | rfl | rfl | rfl | rfl | rfl | rfl | rfl <;> rfl) (Nat.le_of_ble_eq_true rfl) (Nat.le_of_ble_eq_true rfl) dL_law_0 (fun q0 H hP hD hS => ?_)
  have hP : va_P D vwCl [(q0, .inr (11, [.null, .null, .null, .int 0, .null, .null, .null, .null]))] H := hP
  have hD : va_D (fun q : Nat => s.heap.size ≤ q) [(q0, .inr (11, [.null, .null, .null, .int 0, .null, .null, .null, .null]))] := hD
  refine lv_dup hx hb dL_law_3 rfl ?_
  refine z_cK (wr := []) (e0 := (q0, .inr (11, [.null, .null, .null, .int 0, .null, .null, .null, .null]))) (As := []) (rest := [.ref q0]) X0 hK hE hD hA hP hS 0 [] rfl rfl rfl (by decide) (by decide) (ck_x l D K cy q0) (cwI 0 hts (z_gT wt_1_27) rfl rfl rfl (hts _ (List.mem_cons_of_mem _ wt_1_1)) (hts _ (List.mem_cons_of_mem _ wt_1_25)) (hts _ (List.mem_cons_of_mem _ wt_1_26)) rfl yd_yX11_init ⟨Nat.le_of_ble_eq_true rfl, Nat.le_of_ble_eq_true rfl⟩) hl.1 rfl rfl (Nat.le_of_ble_eq_true rfl) dL_law_4 ⟨Nat.le_of_ble_eq_true rfl, Nat.le_of_ble_eq_true rfl⟩ (fun u H1 locs1 hu hP1 hD1 hS1 => ?_)
  clear hP hD hS
  obtain rfl := hu
  have hP : va_P D vwCl (zX cy u zS0X) H1 := by rw [← zBX]; exact hP1
  have hD : va_D (fun q : Nat => s.heap.size ≤ q) (zX cy u zS0X) := by rw [← zBX]; exact hD1
  have hS := hS1
  clear hP1 hD1 hS1
  generalize H1 = H at hP hS ⊢
  generalize locs1 = locs at hS ⊢
  refine lv_astore_n (lv' := [(1, .ref (u 0)), (0, .ref b)]) hx hb dL_law_7 rfl hl (by decide) rfl (fun ls hl => ?_)
  refine va_new (ci := 12) (fs := [.null, .null, .null, .int 0, .int 0, .null, .null, .null, .null, .null, .int 0, .int 0, .int 0, .int 0, .int 0, .int 0, .int 0, .int 0, .int 0, .int 0, .int 0, .int 0, .null, .null, .int 0, .null, .null, .null, .null, .int 0, .int 0, .null, .null, .long 0, .long 0, .null]) (C := RX12) (T := TX12) (N := 36) hx hb hts (fun w h => List.mem_cons_of_mem _ (zFX12 w h)) tyX12 tyX12_ok hown (hts _ (List.mem_cons_of_mem _ wt_5_89)) (hts _ (List.mem_cons_of_mem _ wt_5_90)) (hts _ (List.mem_cons_of_mem _ wt_1_13)) hK hP hD hS hA rfl (fun j hj => by rcases (show j = 0 ∨ j = 1 ∨ j = 2 ∨ j = 3 ∨ j = 4 ∨ j = 5 ∨ j = 6 ∨ j = 7 ∨ j = 8 ∨ j = 9 ∨ j = 10 ∨ j = 11 ∨ j = 12 ∨ j = 13 ∨ j = 14 ∨ j = 15 ∨ j = 16 ∨ j = 17 ∨ j = 18 ∨ j = 19 ∨ j = 20 ∨ j = 21 ∨ j = 22 ∨ j = 23 ∨ j = 24 ∨ j = 25 ∨ j = 26 ∨ j = 27 ∨ j = 28 ∨ j = 29 ∨ j = 30 ∨ j = 31 ∨ j = 32 ∨ j = 33 ∨ j = 34 ∨ j = 35 by omega) with rfl | rfl | rfl | rfl | rfl | rfl | rfl | rfl | rfl | rfl | rfl | rfl | rfl | rfl | rfl | rfl | rfl | rfl | rfl | rfl | rfl | rfl | rfl | rfl | rfl | rfl | rfl | rfl | rfl | rfl | rfl | rfl | rfl | rfl | rfl | rfl <;> rfl) (Nat.le_of_ble_eq_true rfl) (Nat.le_of_ble_eq_true rfl) dL_law_8 (fun q1 H hP hD hS => ?_)
  refine lv_dup hx hb dL_law_11 rfl ?_
  refine z_cK (wr := zX cy u zS0X) (e0 := (q1, .inr (12, [.null, .null, .null, .int 0, .int 0, .null, .null, .null, .null, .null, .int 0, .int 0, .int 0, .int 0, .int 0, .int 0, .int 0, .int 0, .int 0, .int 0, .int 0, .int 0, .null, .null, .int 0, .null, .null, .null, .null, .int 0, .int 0, .null, .null, .long 0, .long 0, .null]))) (As := []) (rest := [.ref q1]) X0 hK hE hD hA hP hS 142 (List.range 142) (z_at1 (zX cy u zS0X) _ 142 (zW_len _ _ _ _)) (z_at2 (zX cy u zS0X) _ 142 (zW_len _ _ _ _)) (z_at3 (zX cy u zS0X) _ 142 (zW_len _ _ _ _)) (by decide +kernel) (by decide +kernel) (ck_M l D K cy q1) (cwI 0 hts (z_gT wt_5_93) rfl rfl rfl (hts _ (List.mem_cons_of_mem _ wt_1_13)) (hts _ (List.mem_cons_of_mem _ wt_5_91)) (hts _ (List.mem_cons_of_mem _ wt_5_92)) rfl yd_yX12_init ⟨Nat.le_of_ble_eq_true rfl, Nat.le_of_ble_eq_true rfl⟩) hl.1 rfl rfl (Nat.le_of_ble_eq_true rfl) dL_law_12 ⟨Nat.le_of_ble_eq_true rfl, Nat.le_of_ble_eq_true rfl⟩ (fun v H1 locs1 hu hP1 hD1 hS1 => ?_)
  clear hP hD hS
  obtain rfl := hu
  rw [zBM] at hP1 hD1
  refine lv_astore_n (lv' := [(2, .ref (v 0)), (1, .ref (u 0)), (0, .ref b)]) hx hb dL_law_15 rfl hl (by decide) rfl (fun ls hl => ?_)
  refine lv_iconst (v := 0) hx hb dL_law_16 (by decide) ?_
  refine lv_istore_n (lv' := [(3, .int 0), (2, .ref (v 0)), (1, .ref (u 0)), (0, .ref b)]) hx hb dL_law_17 rfl hl (by decide) rfl (fun ls hl => ?_)
  have hXM : ∀ i j, i < 142 → j < 18 → u i ≠ v j := fun i j hi hj h => by
    have q1 : (zX cy u zS0X ++ zM cy v zS0M)[i]? = some (u i, zCX cy u i (zS0X.1 i) (zS0X.2 i)) := by rw [List.getElem?_append_left (by rw [zW_len]; exact hi)]; exact zW_at hi
    have q2 : (zX cy u zS0X ++ zM cy v zS0M)[142 + j]? = some (v j, zCM cy v j (zS0M.1 j) (zS0M.2 j)) := by rw [List.getElem?_append_right (by rw [zW_len]; omega), zW_len, show 142 + j - 142 = j by omega]; exact zW_at hj
    have := hD1.1 i (142 + j) _ _ q1 q2 h
    omega
  have hPX : va_P D vwCl (zX cy u zS0X) H1 := fun k q h => hP1 k q (by rw [List.getElem?_append_left (List.getElem?_eq_some_iff.mp h).1]; exact h)
  have hPM : va_P D vwCl (zM cy v zS0M) H1 := fun k q h => hP1 (142 + k) q (by rw [List.getElem?_append_right (by rw [zW_len]; omega), zW_len, show 142 + k - 142 = k by omega]; exact h)
  have hDX0 : va_D (fun q : Nat => s.heap.size ≤ q) (zX cy u zS0X) := ⟨fun i j p q h1 h2 => hD1.1 i j p q (by rw [List.getElem?_append_left (List.getElem?_eq_some_iff.mp h1).1]; exact h1) (by rw [List.getElem?_append_left (List.getElem?_eq_some_iff.mp h2).1]; exact h2), fun k q h => hD1.2 k q (by rw [List.getElem?_append_left (List.getElem?_eq_some_iff.mp h).1]; exact h)⟩
  have hDM0 : va_D (fun q : Nat => s.heap.size ≤ q) (zM cy v zS0M) := ⟨fun i j p q h1 h2 h => by
      have := hD1.1 (142 + i) (142 + j) p q (by rw [List.getElem?_append_right (by rw [zW_len]; omega), zW_len, show 142 + i - 142 = i by omega]; exact h1) (by rw [List.getElem?_append_right (by rw [zW_len]; omega), zW_len, show 142 + j - 142 = j by omega]; exact h2) h
      omega, fun k q h => hD1.2 (142 + k) q (by rw [List.getElem?_append_right (by rw [zW_len]; omega), zW_len, show 142 + k - 142 = k by omega]; exact h)⟩
  refine W.widen (k := 160) (n := 13485) (Nat.le_of_ble_eq_true rfl) (Nat.le_of_ble_eq_true rfl) ?_
  exact law_loop hL C0 hK hE (fun S => zW_D hDX0 (fun _ _ h => h) S) (fun S => zW_D hDM0 (fun _ _ h => h) S) hXM hst (L + 6) 0 0 zS0X zS0M _ _ _ (by omega) (by omega) nI_0.symm hI0 hPX hPM hS1 (lv_sub hl [3, 2, 1, 0] rfl)
