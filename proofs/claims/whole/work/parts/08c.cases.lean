set_option maxHeartbeats 4000000 in
set_option maxRecDepth 100000 in
theorem law_case0 {p : Program} {l : Launch} {e : Env} {s : State} {m : MethodId} {below : List Frame} {meth : Method} {c : Code} {D : va_G} {cy : Nat → ClassId} {K : (Nat → Nat) × (Nat → Nat)} {ax am : Nat → Nat} {b L : Nat} {xs : Nat → Int32} (hL : L ≤ 3072) (C0 : lw_At p s m meth c b L xs) (hK : va_K D vwCl (zTy cy) s) (hE : zE K (fun q : Nat => s.heap.size ≤ q) s s.heap) (hDX : ∀ S, va_D (fun q : Nat => s.heap.size ≤ q) (zX cy ax S)) (hDM : ∀ S, va_D (fun q : Nat => s.heap.size ≤ q) (zM cy am S)) (hXM : ∀ i j, i < 142 → j < 18 → ax i ≠ am j) {Inv : zSt → zSt → Prop} (hst : zStep Inv) (i : Nat) (x3 y : Int32) (SX SM : zSt) (H : Heap) (locs : List Loc) (ls : Array Slot) (hgo : i + 6 ≤ L) (ex3 : x3 = nI i) (c_k : y = 0) (hI : Inv SX SM) (hPX : va_P D vwCl (zX cy ax SX) H) (hPM : va_P D vwCl (zM cy am SM) H) (hS : va_S (fun q : Nat => s.heap.size ≤ q) s.heap H locs) (hl : lv_has ls 4 [(0, .ref b), (1, .ref (ax 0)), (2, .ref (am 0)), (3, .int x3)])
    (hend : ∀ (X1 M1 : zSt) (H : Heap) (locs : List Loc) (ls : Array Slot), Inv X1 M1 → va_P D vwCl (zX cy ax X1) H → va_P D vwCl (zM cy am M1) H → va_S (fun q : Nat => s.heap.size ≤ q) s.heap H locs → lv_has ls 4 [(0, .ref b), (1, .ref (ax 0)), (2, .ref (am 0)), (3, .int x3)] → W p l e room_1 s m #[Value.ref b] below meth c H locs 160 13485 (lw_Z below #[Value.ref b] s) (F0 m 981 ls [])) : W p l e room_1 s m #[Value.ref b] below meth c H locs 160 13485 (lw_Z below #[Value.ref b] s) (F0 m 33 ls [.int y]) := by
  obtain ⟨hx, hb, hr, hml, hown, hts0, hX, hbl, hlocks, hgv⟩ := C0
  have hts : ∀ w ∈ (Cond.initialized RL :: zT), w.before #[Value.ref b] s = true := fun w h => (List.mem_cons.mp h).elim (fun q => q ▸ hts0 _ (List.mem_filter.mp wt_1_0).1) (fun q => hts0 w (List.mem_filter.mp q).1)
  have hA : ∀ q : Nat, s.heap.size ≤ q → (fun q : Nat => s.heap.size ≤ q) q := fun _ h => h
  have hbA : ¬ (fun q : Nat => s.heap.size ≤ q) b := Nat.not_le.mpr hbl
  have X0 : CallFix p m c cL_law 4 s #[Value.ref b] (Cond.initialized RL :: zT) RL := ⟨hx, hb, hml, hown, hts⟩
  subst c_k
  refine lv_tableIn (off := 127) (tgt := 160) hx hb dL_law_33 (by decide) (by decide) rfl (by decide) ?_
  refine lv_aload_n hx hb dL_law_160 rfl (lv_at hl 1 rfl) ?_
  refine lv_aload_n hx hb dL_law_161 rfl (lv_at hl 0 rfl) ?_
  refine lv_iload_n hx hb dL_law_162 rfl (lv_at hl 3 rfl) ?_
  refine lv_iconst (v := 1) hx hb dL_law_163 (by decide) ?_
  refine lv_iadd hx hb dL_law_164 ?_
  refine va_sld hx hb hX hbl hbA hS (by rw [ex3]; exact lw_ix hL hgo (k := 1) (by decide)) dL_law_165 ?_
  obtain ⟨rr, X1, M1, hfx, hfm, hI⟩ := hst.1 SX SM hI (xs (x3 + (1 : Int32)).toNatClampNeg)
  refine z_c2I (As := [.int (xs (x3 + (1 : Int32)).toNatClampNeg)]) (rest := []) X0 hK hE hDX hA hPX hPM hXM hS (cx_state l D K cy ax SX _ _ _ hfx) (cwV 1 hts (z_gV wt_2_199 wt_2_200 wt_2_201 wt_1_1 wt_2_202) rfl rfl rfl ⟨rfl, yd_yX11_state⟩ ⟨Nat.le_of_ble_eq_true rfl, Nat.le_of_ble_eq_true rfl⟩) (va_recv hK hPX (ci := 11) (q0 := 0) rfl (zX_0 cy ax SX)) hl.1 rfl rfl (Nat.le_of_ble_eq_true rfl) dL_law_166 ⟨Nat.le_of_ble_eq_true rfl, Nat.le_of_ble_eq_true rfl⟩ (fun H locs hPX hPM hS => ?_)
  refine lv_aload_n hx hb dL_law_169 rfl (lv_at hl 2 rfl) ?_
  refine lv_aload_n hx hb dL_law_170 rfl (lv_at hl 0 rfl) ?_
  refine lv_iload_n hx hb dL_law_171 rfl (lv_at hl 3 rfl) ?_
  refine lv_iconst (v := 1) hx hb dL_law_172 (by decide) ?_
  refine lv_iadd hx hb dL_law_173 ?_
  refine va_sld hx hb hX hbl hbA hS (by rw [ex3]; exact lw_ix hL hgo (k := 1) (by decide)) dL_law_174 ?_
  refine z_c2I (As := [.int (xs (x3 + (1 : Int32)).toNatClampNeg)]) (rest := [.int rr]) X0 hK hE hDM hA hPM hPX (fun i j h1 h2 h => hXM j i h2 h1 h.symm) hS (cm_state l D K cy am SM _ _ _ hfm) (cwV 1 hts (z_gV wt_5_204 wt_5_205 wt_5_206 wt_1_13 wt_5_207) rfl rfl rfl ⟨rfl, yd_yX12_state⟩ ⟨Nat.le_of_ble_eq_true rfl, Nat.le_of_ble_eq_true rfl⟩) (va_recv hK hPM (ci := 12) (q0 := 0) rfl (zM_0 cy am SM)) hl.1 rfl rfl (Nat.le_of_ble_eq_true rfl) dL_law_175 ⟨Nat.le_of_ble_eq_true rfl, Nat.le_of_ble_eq_true rfl⟩ (fun H locs hPM hPX hS => ?_)
  refine lv_icmp_eq (tgt := 981) hx hb dL_law_178 (by decide) (fun _ => ?_) (fun c9 => absurd rfl c9)
  exact hend X1 M1 _ _ _ hI hPX hPM hS hl
set_option maxHeartbeats 4000000 in
set_option maxRecDepth 100000 in
theorem law_case1 {p : Program} {l : Launch} {e : Env} {s : State} {m : MethodId} {below : List Frame} {meth : Method} {c : Code} {D : va_G} {cy : Nat → ClassId} {K : (Nat → Nat) × (Nat → Nat)} {ax am : Nat → Nat} {b L : Nat} {xs : Nat → Int32} (hL : L ≤ 3072) (C0 : lw_At p s m meth c b L xs) (hK : va_K D vwCl (zTy cy) s) (hE : zE K (fun q : Nat => s.heap.size ≤ q) s s.heap) (hDX : ∀ S, va_D (fun q : Nat => s.heap.size ≤ q) (zX cy ax S)) (hDM : ∀ S, va_D (fun q : Nat => s.heap.size ≤ q) (zM cy am S)) (hXM : ∀ i j, i < 142 → j < 18 → ax i ≠ am j) {Inv : zSt → zSt → Prop} (hst : zStep Inv) (i : Nat) (x3 y : Int32) (SX SM : zSt) (H : Heap) (locs : List Loc) (ls : Array Slot) (hgo : i + 6 ≤ L) (ex3 : x3 = nI i) (c_k : y = 1) (hI : Inv SX SM) (hPX : va_P D vwCl (zX cy ax SX) H) (hPM : va_P D vwCl (zM cy am SM) H) (hS : va_S (fun q : Nat => s.heap.size ≤ q) s.heap H locs) (hl : lv_has ls 4 [(0, .ref b), (1, .ref (ax 0)), (2, .ref (am 0)), (3, .int x3)])
    (hend : ∀ (X1 M1 : zSt) (H : Heap) (locs : List Loc) (ls : Array Slot), Inv X1 M1 → va_P D vwCl (zX cy ax X1) H → va_P D vwCl (zM cy am M1) H → va_S (fun q : Nat => s.heap.size ≤ q) s.heap H locs → lv_has ls 4 [(0, .ref b), (1, .ref (ax 0)), (2, .ref (am 0)), (3, .int x3)] → W p l e room_1 s m #[Value.ref b] below meth c H locs 160 13485 (lw_Z below #[Value.ref b] s) (F0 m 981 ls [])) : W p l e room_1 s m #[Value.ref b] below meth c H locs 160 13485 (lw_Z below #[Value.ref b] s) (F0 m 33 ls [.int y]) := by
  obtain ⟨hx, hb, hr, hml, hown, hts0, hX, hbl, hlocks, hgv⟩ := C0
  have hts : ∀ w ∈ (Cond.initialized RL :: zT), w.before #[Value.ref b] s = true := fun w h => (List.mem_cons.mp h).elim (fun q => q ▸ hts0 _ (List.mem_filter.mp wt_1_0).1) (fun q => hts0 w (List.mem_filter.mp q).1)
  have hA : ∀ q : Nat, s.heap.size ≤ q → (fun q : Nat => s.heap.size ≤ q) q := fun _ h => h
  have hbA : ¬ (fun q : Nat => s.heap.size ≤ q) b := Nat.not_le.mpr hbl
  have X0 : CallFix p m c cL_law 4 s #[Value.ref b] (Cond.initialized RL :: zT) RL := ⟨hx, hb, hml, hown, hts⟩
  subst c_k
  refine lv_tableIn (off := 150) (tgt := 183) hx hb dL_law_33 (by decide) (by decide) rfl (by decide) ?_
  refine lv_aload_n hx hb dL_law_183 rfl (lv_at hl 1 rfl) ?_
  refine lv_aload_n hx hb dL_law_184 rfl (lv_at hl 0 rfl) ?_
  refine lv_iload_n hx hb dL_law_185 rfl (lv_at hl 3 rfl) ?_
  refine lv_iconst (v := 1) hx hb dL_law_186 (by decide) ?_
  refine lv_iadd hx hb dL_law_187 ?_
  refine va_sld hx hb hX hbl hbA hS (by rw [ex3]; exact lw_ix hL hgo (k := 1) (by decide)) dL_law_188 ?_
  refine lv_aload_n hx hb dL_law_189 rfl (lv_at hl 0 rfl) ?_
  refine lv_iload_n hx hb dL_law_190 rfl (lv_at hl 3 rfl) ?_
  refine lv_iconst (v := 2) hx hb dL_law_191 (by decide) ?_
  refine lv_iadd hx hb dL_law_192 ?_
  refine va_sld hx hb hX hbl hbA hS (by rw [ex3]; exact lw_ix hL hgo (k := 2) (by decide)) dL_law_193 ?_
  refine lv_aload_n hx hb dL_law_194 rfl (lv_at hl 0 rfl) ?_
  refine lv_iload_n hx hb dL_law_195 rfl (lv_at hl 3 rfl) ?_
  refine lv_iconst (v := 3) hx hb dL_law_196 (by decide) ?_
  refine lv_iadd hx hb dL_law_197 ?_
  refine va_sld hx hb hX hbl hbA hS (by rw [ex3]; exact lw_ix hL hgo (k := 3) (by decide)) dL_law_198 ?_
  refine lv_aload_n hx hb dL_law_199 rfl (lv_at hl 0 rfl) ?_
  refine lv_iload_n hx hb dL_law_200 rfl (lv_at hl 3 rfl) ?_
  refine lv_iconst (v := 4) hx hb dL_law_201 (by decide) ?_
  refine lv_iadd hx hb dL_law_202 ?_
  refine va_sld hx hb hX hbl hbA hS (by rw [ex3]; exact lw_ix hL hgo (k := 4) (by decide)) dL_law_203 ?_
  refine lv_aload_n hx hb dL_law_204 rfl (lv_at hl 0 rfl) ?_
  refine lv_iload_n hx hb dL_law_205 rfl (lv_at hl 3 rfl) ?_
  refine lv_iconst (v := 5) hx hb dL_law_206 (by decide) ?_
  refine lv_iadd hx hb dL_law_207 ?_
  refine va_sld hx hb hX hbl hbA hS (by rw [ex3]; exact lw_ix hL hgo (k := 5) (by decide)) dL_law_208 ?_
  obtain ⟨rr, X1, M1, hfx, hfm, hI⟩ := hst.2.1 SX SM hI (xs (x3 + (1 : Int32)).toNatClampNeg) (xs (x3 + (2 : Int32)).toNatClampNeg) (xs (x3 + (3 : Int32)).toNatClampNeg) (xs (x3 + (4 : Int32)).toNatClampNeg) (xs (x3 + (5 : Int32)).toNatClampNeg)
  refine z_c2I (As := [.int (xs (x3 + (1 : Int32)).toNatClampNeg), .int (xs (x3 + (2 : Int32)).toNatClampNeg), .int (xs (x3 + (3 : Int32)).toNatClampNeg), .int (xs (x3 + (4 : Int32)).toNatClampNeg), .int (xs (x3 + (5 : Int32)).toNatClampNeg)]) (rest := []) X0 hK hE hDX hA hPX hPM hXM hS (cx_feed l D K cy ax SX _ _ _ _ _ _ _ hfx) (cwV 5 hts (z_gV wt_2_203 wt_2_204 wt_2_205 wt_1_1 wt_2_206) rfl rfl rfl ⟨rfl, yd_yX11_feed⟩ ⟨Nat.le_of_ble_eq_true rfl, Nat.le_of_ble_eq_true rfl⟩) (va_recv hK hPX (ci := 11) (q0 := 0) rfl (zX_0 cy ax SX)) hl.1 rfl rfl (Nat.le_of_ble_eq_true rfl) dL_law_209 ⟨Nat.le_of_ble_eq_true rfl, Nat.le_of_ble_eq_true rfl⟩ (fun H locs hPX hPM hS => ?_)
  refine lv_aload_n hx hb dL_law_212 rfl (lv_at hl 2 rfl) ?_
  refine lv_aload_n hx hb dL_law_213 rfl (lv_at hl 0 rfl) ?_
  refine lv_iload_n hx hb dL_law_214 rfl (lv_at hl 3 rfl) ?_
  refine lv_iconst (v := 1) hx hb dL_law_215 (by decide) ?_
  refine lv_iadd hx hb dL_law_216 ?_
  refine va_sld hx hb hX hbl hbA hS (by rw [ex3]; exact lw_ix hL hgo (k := 1) (by decide)) dL_law_217 ?_
  refine lv_aload_n hx hb dL_law_218 rfl (lv_at hl 0 rfl) ?_
  refine lv_iload_n hx hb dL_law_219 rfl (lv_at hl 3 rfl) ?_
  refine lv_iconst (v := 2) hx hb dL_law_220 (by decide) ?_
  refine lv_iadd hx hb dL_law_221 ?_
  refine va_sld hx hb hX hbl hbA hS (by rw [ex3]; exact lw_ix hL hgo (k := 2) (by decide)) dL_law_222 ?_
  refine lv_aload_n hx hb dL_law_223 rfl (lv_at hl 0 rfl) ?_
  refine lv_iload_n hx hb dL_law_224 rfl (lv_at hl 3 rfl) ?_
  refine lv_iconst (v := 3) hx hb dL_law_225 (by decide) ?_
  refine lv_iadd hx hb dL_law_226 ?_
  refine va_sld hx hb hX hbl hbA hS (by rw [ex3]; exact lw_ix hL hgo (k := 3) (by decide)) dL_law_227 ?_
  refine lv_aload_n hx hb dL_law_228 rfl (lv_at hl 0 rfl) ?_
  refine lv_iload_n hx hb dL_law_229 rfl (lv_at hl 3 rfl) ?_
  refine lv_iconst (v := 4) hx hb dL_law_230 (by decide) ?_
  refine lv_iadd hx hb dL_law_231 ?_
  refine va_sld hx hb hX hbl hbA hS (by rw [ex3]; exact lw_ix hL hgo (k := 4) (by decide)) dL_law_232 ?_
  refine lv_aload_n hx hb dL_law_233 rfl (lv_at hl 0 rfl) ?_
  refine lv_iload_n hx hb dL_law_234 rfl (lv_at hl 3 rfl) ?_
  refine lv_iconst (v := 5) hx hb dL_law_235 (by decide) ?_
  refine lv_iadd hx hb dL_law_236 ?_
  refine va_sld hx hb hX hbl hbA hS (by rw [ex3]; exact lw_ix hL hgo (k := 5) (by decide)) dL_law_237 ?_
  refine z_c2I (As := [.int (xs (x3 + (1 : Int32)).toNatClampNeg), .int (xs (x3 + (2 : Int32)).toNatClampNeg), .int (xs (x3 + (3 : Int32)).toNatClampNeg), .int (xs (x3 + (4 : Int32)).toNatClampNeg), .int (xs (x3 + (5 : Int32)).toNatClampNeg)]) (rest := [.int rr]) X0 hK hE hDM hA hPM hPX (fun i j h1 h2 h => hXM j i h2 h1 h.symm) hS (cm_feed l D K cy am SM _ _ _ _ _ _ _ hfm) (cwV 5 hts (z_gV wt_5_208 wt_5_209 wt_5_210 wt_1_13 wt_5_211) rfl rfl rfl ⟨rfl, yd_yX12_feed⟩ ⟨Nat.le_of_ble_eq_true rfl, Nat.le_of_ble_eq_true rfl⟩) (va_recv hK hPM (ci := 12) (q0 := 0) rfl (zM_0 cy am SM)) hl.1 rfl rfl (Nat.le_of_ble_eq_true rfl) dL_law_238 ⟨Nat.le_of_ble_eq_true rfl, Nat.le_of_ble_eq_true rfl⟩ (fun H locs hPM hPX hS => ?_)
  refine lv_icmp_eq (tgt := 981) hx hb dL_law_241 (by decide) (fun _ => ?_) (fun c9 => absurd rfl c9)
  exact hend X1 M1 _ _ _ hI hPX hPM hS hl
set_option maxHeartbeats 4000000 in
set_option maxRecDepth 100000 in
theorem law_case2 {p : Program} {l : Launch} {e : Env} {s : State} {m : MethodId} {below : List Frame} {meth : Method} {c : Code} {D : va_G} {cy : Nat → ClassId} {K : (Nat → Nat) × (Nat → Nat)} {ax am : Nat → Nat} {b L : Nat} {xs : Nat → Int32} (hL : L ≤ 3072) (C0 : lw_At p s m meth c b L xs) (hK : va_K D vwCl (zTy cy) s) (hE : zE K (fun q : Nat => s.heap.size ≤ q) s s.heap) (hDX : ∀ S, va_D (fun q : Nat => s.heap.size ≤ q) (zX cy ax S)) (hDM : ∀ S, va_D (fun q : Nat => s.heap.size ≤ q) (zM cy am S)) (hXM : ∀ i j, i < 142 → j < 18 → ax i ≠ am j) {Inv : zSt → zSt → Prop} (hst : zStep Inv) (i : Nat) (x3 y : Int32) (SX SM : zSt) (H : Heap) (locs : List Loc) (ls : Array Slot) (hgo : i + 6 ≤ L) (ex3 : x3 = nI i) (c_k : y = 2) (hI : Inv SX SM) (hPX : va_P D vwCl (zX cy ax SX) H) (hPM : va_P D vwCl (zM cy am SM) H) (hS : va_S (fun q : Nat => s.heap.size ≤ q) s.heap H locs) (hl : lv_has ls 4 [(0, .ref b), (1, .ref (ax 0)), (2, .ref (am 0)), (3, .int x3)])
    (hend : ∀ (X1 M1 : zSt) (H : Heap) (locs : List Loc) (ls : Array Slot), Inv X1 M1 → va_P D vwCl (zX cy ax X1) H → va_P D vwCl (zM cy am M1) H → va_S (fun q : Nat => s.heap.size ≤ q) s.heap H locs → lv_has ls 4 [(0, .ref b), (1, .ref (ax 0)), (2, .ref (am 0)), (3, .int x3)] → W p l e room_1 s m #[Value.ref b] below meth c H locs 160 13485 (lw_Z below #[Value.ref b] s) (F0 m 981 ls [])) : W p l e room_1 s m #[Value.ref b] below meth c H locs 160 13485 (lw_Z below #[Value.ref b] s) (F0 m 33 ls [.int y]) := by
  obtain ⟨hx, hb, hr, hml, hown, hts0, hX, hbl, hlocks, hgv⟩ := C0
  have hts : ∀ w ∈ (Cond.initialized RL :: zT), w.before #[Value.ref b] s = true := fun w h => (List.mem_cons.mp h).elim (fun q => q ▸ hts0 _ (List.mem_filter.mp wt_1_0).1) (fun q => hts0 w (List.mem_filter.mp q).1)
  have hA : ∀ q : Nat, s.heap.size ≤ q → (fun q : Nat => s.heap.size ≤ q) q := fun _ h => h
  have hbA : ¬ (fun q : Nat => s.heap.size ≤ q) b := Nat.not_le.mpr hbl
  have X0 : CallFix p m c cL_law 4 s #[Value.ref b] (Cond.initialized RL :: zT) RL := ⟨hx, hb, hml, hown, hts⟩
  subst c_k
  refine lv_tableIn (off := 213) (tgt := 246) hx hb dL_law_33 (by decide) (by decide) rfl (by decide) ?_
  refine lv_aload_n hx hb dL_law_246 rfl (lv_at hl 1 rfl) ?_
  refine lv_aload_n hx hb dL_law_247 rfl (lv_at hl 0 rfl) ?_
  refine lv_iload_n hx hb dL_law_248 rfl (lv_at hl 3 rfl) ?_
  refine lv_iconst (v := 1) hx hb dL_law_249 (by decide) ?_
  refine lv_iadd hx hb dL_law_250 ?_
  refine va_sld hx hb hX hbl hbA hS (by rw [ex3]; exact lw_ix hL hgo (k := 1) (by decide)) dL_law_251 ?_
  obtain ⟨rr, X1, M1, hfx, hfm, hI⟩ := hst.2.2.1 SX SM hI (xs (x3 + (1 : Int32)).toNatClampNeg)
  refine z_c2I (As := [.int (xs (x3 + (1 : Int32)).toNatClampNeg)]) (rest := []) X0 hK hE hDX hA hPX hPM hXM hS (cx_end l D K cy ax SX _ _ _ hfx) (cwV 1 hts (z_gV wt_2_211 wt_2_212 wt_2_213 wt_1_1 wt_2_214) rfl rfl rfl ⟨rfl, yd_yX11_end⟩ ⟨Nat.le_of_ble_eq_true rfl, Nat.le_of_ble_eq_true rfl⟩) (va_recv hK hPX (ci := 11) (q0 := 0) rfl (zX_0 cy ax SX)) hl.1 rfl rfl (Nat.le_of_ble_eq_true rfl) dL_law_252 ⟨Nat.le_of_ble_eq_true rfl, Nat.le_of_ble_eq_true rfl⟩ (fun H locs hPX hPM hS => ?_)
  refine lv_aload_n hx hb dL_law_255 rfl (lv_at hl 2 rfl) ?_
  refine lv_aload_n hx hb dL_law_256 rfl (lv_at hl 0 rfl) ?_
  refine lv_iload_n hx hb dL_law_257 rfl (lv_at hl 3 rfl) ?_
  refine lv_iconst (v := 1) hx hb dL_law_258 (by decide) ?_
  refine lv_iadd hx hb dL_law_259 ?_
  refine va_sld hx hb hX hbl hbA hS (by rw [ex3]; exact lw_ix hL hgo (k := 1) (by decide)) dL_law_260 ?_
  refine z_c2I (As := [.int (xs (x3 + (1 : Int32)).toNatClampNeg)]) (rest := [.int rr]) X0 hK hE hDM hA hPM hPX (fun i j h1 h2 h => hXM j i h2 h1 h.symm) hS (cm_end l D K cy am SM _ _ _ hfm) (cwV 1 hts (z_gV wt_5_212 wt_5_213 wt_5_214 wt_1_13 wt_5_215) rfl rfl rfl ⟨rfl, yd_yX12_end⟩ ⟨Nat.le_of_ble_eq_true rfl, Nat.le_of_ble_eq_true rfl⟩) (va_recv hK hPM (ci := 12) (q0 := 0) rfl (zM_0 cy am SM)) hl.1 rfl rfl (Nat.le_of_ble_eq_true rfl) dL_law_261 ⟨Nat.le_of_ble_eq_true rfl, Nat.le_of_ble_eq_true rfl⟩ (fun H locs hPM hPX hS => ?_)
  refine lv_icmp_eq (tgt := 981) hx hb dL_law_264 (by decide) (fun _ => ?_) (fun c9 => absurd rfl c9)
  exact hend X1 M1 _ _ _ hI hPX hPM hS hl
set_option maxHeartbeats 4000000 in
set_option maxRecDepth 100000 in
theorem law_case3 {p : Program} {l : Launch} {e : Env} {s : State} {m : MethodId} {below : List Frame} {meth : Method} {c : Code} {D : va_G} {cy : Nat → ClassId} {K : (Nat → Nat) × (Nat → Nat)} {ax am : Nat → Nat} {b L : Nat} {xs : Nat → Int32} (hL : L ≤ 3072) (C0 : lw_At p s m meth c b L xs) (hK : va_K D vwCl (zTy cy) s) (hE : zE K (fun q : Nat => s.heap.size ≤ q) s s.heap) (hDX : ∀ S, va_D (fun q : Nat => s.heap.size ≤ q) (zX cy ax S)) (hDM : ∀ S, va_D (fun q : Nat => s.heap.size ≤ q) (zM cy am S)) (hXM : ∀ i j, i < 142 → j < 18 → ax i ≠ am j) {Inv : zSt → zSt → Prop} (hst : zStep Inv) (i : Nat) (x3 y : Int32) (SX SM : zSt) (H : Heap) (locs : List Loc) (ls : Array Slot) (hgo : i + 6 ≤ L) (ex3 : x3 = nI i) (c_k : y = 3) (hI : Inv SX SM) (hPX : va_P D vwCl (zX cy ax SX) H) (hPM : va_P D vwCl (zM cy am SM) H) (hS : va_S (fun q : Nat => s.heap.size ≤ q) s.heap H locs) (hl : lv_has ls 4 [(0, .ref b), (1, .ref (ax 0)), (2, .ref (am 0)), (3, .int x3)])
    (hend : ∀ (X1 M1 : zSt) (H : Heap) (locs : List Loc) (ls : Array Slot), Inv X1 M1 → va_P D vwCl (zX cy ax X1) H → va_P D vwCl (zM cy am M1) H → va_S (fun q : Nat => s.heap.size ≤ q) s.heap H locs → lv_has ls 4 [(0, .ref b), (1, .ref (ax 0)), (2, .ref (am 0)), (3, .int x3)] → W p l e room_1 s m #[Value.ref b] below meth c H locs 160 13485 (lw_Z below #[Value.ref b] s) (F0 m 981 ls [])) : W p l e room_1 s m #[Value.ref b] below meth c H locs 160 13485 (lw_Z below #[Value.ref b] s) (F0 m 33 ls [.int y]) := by
  obtain ⟨hx, hb, hr, hml, hown, hts0, hX, hbl, hlocks, hgv⟩ := C0
  have hts : ∀ w ∈ (Cond.initialized RL :: zT), w.before #[Value.ref b] s = true := fun w h => (List.mem_cons.mp h).elim (fun q => q ▸ hts0 _ (List.mem_filter.mp wt_1_0).1) (fun q => hts0 w (List.mem_filter.mp q).1)
  have hA : ∀ q : Nat, s.heap.size ≤ q → (fun q : Nat => s.heap.size ≤ q) q := fun _ h => h
  have hbA : ¬ (fun q : Nat => s.heap.size ≤ q) b := Nat.not_le.mpr hbl
  have X0 : CallFix p m c cL_law 4 s #[Value.ref b] (Cond.initialized RL :: zT) RL := ⟨hx, hb, hml, hown, hts⟩
  subst c_k
  refine lv_tableIn (off := 236) (tgt := 269) hx hb dL_law_33 (by decide) (by decide) rfl (by decide) ?_
  refine lv_aload_n hx hb dL_law_269 rfl (lv_at hl 1 rfl) ?_
  refine lv_aload_n hx hb dL_law_270 rfl (lv_at hl 0 rfl) ?_
  refine lv_iload_n hx hb dL_law_271 rfl (lv_at hl 3 rfl) ?_
  refine lv_iconst (v := 1) hx hb dL_law_272 (by decide) ?_
  refine lv_iadd hx hb dL_law_273 ?_
  refine va_sld hx hb hX hbl hbA hS (by rw [ex3]; exact lw_ix hL hgo (k := 1) (by decide)) dL_law_274 ?_
  refine lv_aload_n hx hb dL_law_275 rfl (lv_at hl 0 rfl) ?_
  refine lv_iload_n hx hb dL_law_276 rfl (lv_at hl 3 rfl) ?_
  refine lv_iconst (v := 2) hx hb dL_law_277 (by decide) ?_
  refine lv_iadd hx hb dL_law_278 ?_
  refine va_sld hx hb hX hbl hbA hS (by rw [ex3]; exact lw_ix hL hgo (k := 2) (by decide)) dL_law_279 ?_
  refine lv_aload_n hx hb dL_law_280 rfl (lv_at hl 0 rfl) ?_
  refine lv_iload_n hx hb dL_law_281 rfl (lv_at hl 3 rfl) ?_
  refine lv_iconst (v := 3) hx hb dL_law_282 (by decide) ?_
  refine lv_iadd hx hb dL_law_283 ?_
  refine va_sld hx hb hX hbl hbA hS (by rw [ex3]; exact lw_ix hL hgo (k := 3) (by decide)) dL_law_284 ?_
  obtain ⟨rr, X1, M1, hfx, hfm, hI⟩ := hst.2.2.2.1 SX SM hI (xs (x3 + (1 : Int32)).toNatClampNeg) (xs (x3 + (2 : Int32)).toNatClampNeg) (xs (x3 + (3 : Int32)).toNatClampNeg)
  refine z_c2I (As := [.int (xs (x3 + (1 : Int32)).toNatClampNeg), .int (xs (x3 + (2 : Int32)).toNatClampNeg), .int (xs (x3 + (3 : Int32)).toNatClampNeg)]) (rest := []) X0 hK hE hDX hA hPX hPM hXM hS (cx_house l D K cy ax SX _ _ _ _ _ hfx) (cwV 3 hts (z_gV wt_2_215 wt_2_216 wt_2_217 wt_1_1 wt_2_218) rfl rfl rfl ⟨rfl, yd_yX11_house⟩ ⟨Nat.le_of_ble_eq_true rfl, Nat.le_of_ble_eq_true rfl⟩) (va_recv hK hPX (ci := 11) (q0 := 0) rfl (zX_0 cy ax SX)) hl.1 rfl rfl (Nat.le_of_ble_eq_true rfl) dL_law_285 ⟨Nat.le_of_ble_eq_true rfl, Nat.le_of_ble_eq_true rfl⟩ (fun H locs hPX hPM hS => ?_)
  refine lv_aload_n hx hb dL_law_288 rfl (lv_at hl 2 rfl) ?_
  refine lv_aload_n hx hb dL_law_289 rfl (lv_at hl 0 rfl) ?_
  refine lv_iload_n hx hb dL_law_290 rfl (lv_at hl 3 rfl) ?_
  refine lv_iconst (v := 1) hx hb dL_law_291 (by decide) ?_
  refine lv_iadd hx hb dL_law_292 ?_
  refine va_sld hx hb hX hbl hbA hS (by rw [ex3]; exact lw_ix hL hgo (k := 1) (by decide)) dL_law_293 ?_
  refine lv_aload_n hx hb dL_law_294 rfl (lv_at hl 0 rfl) ?_
  refine lv_iload_n hx hb dL_law_295 rfl (lv_at hl 3 rfl) ?_
  refine lv_iconst (v := 2) hx hb dL_law_296 (by decide) ?_
  refine lv_iadd hx hb dL_law_297 ?_
  refine va_sld hx hb hX hbl hbA hS (by rw [ex3]; exact lw_ix hL hgo (k := 2) (by decide)) dL_law_298 ?_
  refine lv_aload_n hx hb dL_law_299 rfl (lv_at hl 0 rfl) ?_
  refine lv_iload_n hx hb dL_law_300 rfl (lv_at hl 3 rfl) ?_
  refine lv_iconst (v := 3) hx hb dL_law_301 (by decide) ?_
  refine lv_iadd hx hb dL_law_302 ?_
  refine va_sld hx hb hX hbl hbA hS (by rw [ex3]; exact lw_ix hL hgo (k := 3) (by decide)) dL_law_303 ?_
  refine z_c2I (As := [.int (xs (x3 + (1 : Int32)).toNatClampNeg), .int (xs (x3 + (2 : Int32)).toNatClampNeg), .int (xs (x3 + (3 : Int32)).toNatClampNeg)]) (rest := [.int rr]) X0 hK hE hDM hA hPM hPX (fun i j h1 h2 h => hXM j i h2 h1 h.symm) hS (cm_house l D K cy am SM _ _ _ _ _ hfm) (cwV 3 hts (z_gV wt_6_74 wt_6_75 wt_6_76 wt_1_13 wt_6_77) rfl rfl rfl ⟨rfl, yd_yX12_house⟩ ⟨Nat.le_of_ble_eq_true rfl, Nat.le_of_ble_eq_true rfl⟩) (va_recv hK hPM (ci := 12) (q0 := 0) rfl (zM_0 cy am SM)) hl.1 rfl rfl (Nat.le_of_ble_eq_true rfl) dL_law_304 ⟨Nat.le_of_ble_eq_true rfl, Nat.le_of_ble_eq_true rfl⟩ (fun H locs hPM hPX hS => ?_)
  refine lv_icmp_eq (tgt := 981) hx hb dL_law_307 (by decide) (fun _ => ?_) (fun c9 => absurd rfl c9)
  exact hend X1 M1 _ _ _ hI hPX hPM hS hl
set_option maxHeartbeats 4000000 in
set_option maxRecDepth 100000 in
theorem law_case4 {p : Program} {l : Launch} {e : Env} {s : State} {m : MethodId} {below : List Frame} {meth : Method} {c : Code} {D : va_G} {cy : Nat → ClassId} {K : (Nat → Nat) × (Nat → Nat)} {ax am : Nat → Nat} {b L : Nat} {xs : Nat → Int32} (hL : L ≤ 3072) (C0 : lw_At p s m meth c b L xs) (hK : va_K D vwCl (zTy cy) s) (hE : zE K (fun q : Nat => s.heap.size ≤ q) s s.heap) (hDX : ∀ S, va_D (fun q : Nat => s.heap.size ≤ q) (zX cy ax S)) (hDM : ∀ S, va_D (fun q : Nat => s.heap.size ≤ q) (zM cy am S)) (hXM : ∀ i j, i < 142 → j < 18 → ax i ≠ am j) {Inv : zSt → zSt → Prop} (hst : zStep Inv) (i : Nat) (x3 y : Int32) (SX SM : zSt) (H : Heap) (locs : List Loc) (ls : Array Slot) (hgo : i + 6 ≤ L) (ex3 : x3 = nI i) (c_k : y = 4) (hI : Inv SX SM) (hPX : va_P D vwCl (zX cy ax SX) H) (hPM : va_P D vwCl (zM cy am SM) H) (hS : va_S (fun q : Nat => s.heap.size ≤ q) s.heap H locs) (hl : lv_has ls 4 [(0, .ref b), (1, .ref (ax 0)), (2, .ref (am 0)), (3, .int x3)])
    (hend : ∀ (X1 M1 : zSt) (H : Heap) (locs : List Loc) (ls : Array Slot), Inv X1 M1 → va_P D vwCl (zX cy ax X1) H → va_P D vwCl (zM cy am M1) H → va_S (fun q : Nat => s.heap.size ≤ q) s.heap H locs → lv_has ls 4 [(0, .ref b), (1, .ref (ax 0)), (2, .ref (am 0)), (3, .int x3)] → W p l e room_1 s m #[Value.ref b] below meth c H locs 160 13485 (lw_Z below #[Value.ref b] s) (F0 m 981 ls [])) : W p l e room_1 s m #[Value.ref b] below meth c H locs 160 13485 (lw_Z below #[Value.ref b] s) (F0 m 33 ls [.int y]) := by
  obtain ⟨hx, hb, hr, hml, hown, hts0, hX, hbl, hlocks, hgv⟩ := C0
  have hts : ∀ w ∈ (Cond.initialized RL :: zT), w.before #[Value.ref b] s = true := fun w h => (List.mem_cons.mp h).elim (fun q => q ▸ hts0 _ (List.mem_filter.mp wt_1_0).1) (fun q => hts0 w (List.mem_filter.mp q).1)
  have hA : ∀ q : Nat, s.heap.size ≤ q → (fun q : Nat => s.heap.size ≤ q) q := fun _ h => h
  have hbA : ¬ (fun q : Nat => s.heap.size ≤ q) b := Nat.not_le.mpr hbl
  have X0 : CallFix p m c cL_law 4 s #[Value.ref b] (Cond.initialized RL :: zT) RL := ⟨hx, hb, hml, hown, hts⟩
  subst c_k
  refine lv_tableIn (off := 279) (tgt := 312) hx hb dL_law_33 (by decide) (by decide) rfl (by decide) ?_
  refine lv_aload_n hx hb dL_law_312 rfl (lv_at hl 1 rfl) ?_
  refine lv_aload_n hx hb dL_law_313 rfl (lv_at hl 0 rfl) ?_
  refine lv_iload_n hx hb dL_law_314 rfl (lv_at hl 3 rfl) ?_
  refine lv_iconst (v := 1) hx hb dL_law_315 (by decide) ?_
  refine lv_iadd hx hb dL_law_316 ?_
  refine va_sld hx hb hX hbl hbA hS (by rw [ex3]; exact lw_ix hL hgo (k := 1) (by decide)) dL_law_317 ?_
  refine lv_aload_n hx hb dL_law_318 rfl (lv_at hl 0 rfl) ?_
  refine lv_iload_n hx hb dL_law_319 rfl (lv_at hl 3 rfl) ?_
  refine lv_iconst (v := 2) hx hb dL_law_320 (by decide) ?_
  refine lv_iadd hx hb dL_law_321 ?_
  refine va_sld hx hb hX hbl hbA hS (by rw [ex3]; exact lw_ix hL hgo (k := 2) (by decide)) dL_law_322 ?_
  obtain ⟨rr, X1, M1, hfx, hfm, hI⟩ := hst.2.2.2.2.1 SX SM hI (xs (x3 + (1 : Int32)).toNatClampNeg) (xs (x3 + (2 : Int32)).toNatClampNeg)
  refine z_c2I (As := [.int (xs (x3 + (1 : Int32)).toNatClampNeg), .int (xs (x3 + (2 : Int32)).toNatClampNeg)]) (rest := []) X0 hK hE hDX hA hPX hPM hXM hS (cx_give l D K cy ax SX _ _ _ _ hfx) (cwV 2 hts (z_gV wt_2_239 wt_3_0 wt_3_1 wt_1_1 wt_3_2) rfl rfl rfl ⟨rfl, yd_yX11_give⟩ ⟨Nat.le_of_ble_eq_true rfl, Nat.le_of_ble_eq_true rfl⟩) (va_recv hK hPX (ci := 11) (q0 := 0) rfl (zX_0 cy ax SX)) hl.1 rfl rfl (Nat.le_of_ble_eq_true rfl) dL_law_323 ⟨Nat.le_of_ble_eq_true rfl, Nat.le_of_ble_eq_true rfl⟩ (fun H locs hPX hPM hS => ?_)
  refine lv_aload_n hx hb dL_law_326 rfl (lv_at hl 2 rfl) ?_
  refine lv_aload_n hx hb dL_law_327 rfl (lv_at hl 0 rfl) ?_
  refine lv_iload_n hx hb dL_law_328 rfl (lv_at hl 3 rfl) ?_
  refine lv_iconst (v := 1) hx hb dL_law_329 (by decide) ?_
  refine lv_iadd hx hb dL_law_330 ?_
  refine va_sld hx hb hX hbl hbA hS (by rw [ex3]; exact lw_ix hL hgo (k := 1) (by decide)) dL_law_331 ?_
  refine lv_aload_n hx hb dL_law_332 rfl (lv_at hl 0 rfl) ?_
  refine lv_iload_n hx hb dL_law_333 rfl (lv_at hl 3 rfl) ?_
  refine lv_iconst (v := 2) hx hb dL_law_334 (by decide) ?_
  refine lv_iadd hx hb dL_law_335 ?_
  refine va_sld hx hb hX hbl hbA hS (by rw [ex3]; exact lw_ix hL hgo (k := 2) (by decide)) dL_law_336 ?_
  refine z_c2I (As := [.int (xs (x3 + (1 : Int32)).toNatClampNeg), .int (xs (x3 + (2 : Int32)).toNatClampNeg)]) (rest := [.int rr]) X0 hK hE hDM hA hPM hPX (fun i j h1 h2 h => hXM j i h2 h1 h.symm) hS (cm_give l D K cy am SM _ _ _ _ hfm) (cwV 2 hts (z_gV wt_6_86 wt_6_87 wt_6_88 wt_1_13 wt_6_89) rfl rfl rfl ⟨rfl, yd_yX12_give⟩ ⟨Nat.le_of_ble_eq_true rfl, Nat.le_of_ble_eq_true rfl⟩) (va_recv hK hPM (ci := 12) (q0 := 0) rfl (zM_0 cy am SM)) hl.1 rfl rfl (Nat.le_of_ble_eq_true rfl) dL_law_337 ⟨Nat.le_of_ble_eq_true rfl, Nat.le_of_ble_eq_true rfl⟩ (fun H locs hPM hPX hS => ?_)
  refine lv_icmp_eq (tgt := 981) hx hb dL_law_340 (by decide) (fun _ => ?_) (fun c9 => absurd rfl c9)
  exact hend X1 M1 _ _ _ hI hPX hPM hS hl
set_option maxHeartbeats 4000000 in
set_option maxRecDepth 100000 in
theorem law_case5 {p : Program} {l : Launch} {e : Env} {s : State} {m : MethodId} {below : List Frame} {meth : Method} {c : Code} {D : va_G} {cy : Nat → ClassId} {K : (Nat → Nat) × (Nat → Nat)} {ax am : Nat → Nat} {b L : Nat} {xs : Nat → Int32} (hL : L ≤ 3072) (C0 : lw_At p s m meth c b L xs) (hK : va_K D vwCl (zTy cy) s) (hE : zE K (fun q : Nat => s.heap.size ≤ q) s s.heap) (hDX : ∀ S, va_D (fun q : Nat => s.heap.size ≤ q) (zX cy ax S)) (hDM : ∀ S, va_D (fun q : Nat => s.heap.size ≤ q) (zM cy am S)) (hXM : ∀ i j, i < 142 → j < 18 → ax i ≠ am j) {Inv : zSt → zSt → Prop} (hst : zStep Inv) (i : Nat) (x3 y : Int32) (SX SM : zSt) (H : Heap) (locs : List Loc) (ls : Array Slot) (hgo : i + 6 ≤ L) (ex3 : x3 = nI i) (c_k : y = 5) (hI : Inv SX SM) (hPX : va_P D vwCl (zX cy ax SX) H) (hPM : va_P D vwCl (zM cy am SM) H) (hS : va_S (fun q : Nat => s.heap.size ≤ q) s.heap H locs) (hl : lv_has ls 4 [(0, .ref b), (1, .ref (ax 0)), (2, .ref (am 0)), (3, .int x3)])
    (hend : ∀ (X1 M1 : zSt) (H : Heap) (locs : List Loc) (ls : Array Slot), Inv X1 M1 → va_P D vwCl (zX cy ax X1) H → va_P D vwCl (zM cy am M1) H → va_S (fun q : Nat => s.heap.size ≤ q) s.heap H locs → lv_has ls 4 [(0, .ref b), (1, .ref (ax 0)), (2, .ref (am 0)), (3, .int x3)] → W p l e room_1 s m #[Value.ref b] below meth c H locs 160 13485 (lw_Z below #[Value.ref b] s) (F0 m 981 ls [])) : W p l e room_1 s m #[Value.ref b] below meth c H locs 160 13485 (lw_Z below #[Value.ref b] s) (F0 m 33 ls [.int y]) := by
  obtain ⟨hx, hb, hr, hml, hown, hts0, hX, hbl, hlocks, hgv⟩ := C0
  have hts : ∀ w ∈ (Cond.initialized RL :: zT), w.before #[Value.ref b] s = true := fun w h => (List.mem_cons.mp h).elim (fun q => q ▸ hts0 _ (List.mem_filter.mp wt_1_0).1) (fun q => hts0 w (List.mem_filter.mp q).1)
  have hA : ∀ q : Nat, s.heap.size ≤ q → (fun q : Nat => s.heap.size ≤ q) q := fun _ h => h
  have hbA : ¬ (fun q : Nat => s.heap.size ≤ q) b := Nat.not_le.mpr hbl
  have X0 : CallFix p m c cL_law 4 s #[Value.ref b] (Cond.initialized RL :: zT) RL := ⟨hx, hb, hml, hown, hts⟩
  subst c_k
  refine lv_tableIn (off := 312) (tgt := 345) hx hb dL_law_33 (by decide) (by decide) rfl (by decide) ?_
  refine lv_aload_n hx hb dL_law_345 rfl (lv_at hl 1 rfl) ?_
  refine lv_aload_n hx hb dL_law_346 rfl (lv_at hl 0 rfl) ?_
  refine lv_iload_n hx hb dL_law_347 rfl (lv_at hl 3 rfl) ?_
  refine lv_iconst (v := 1) hx hb dL_law_348 (by decide) ?_
  refine lv_iadd hx hb dL_law_349 ?_
  refine va_sld hx hb hX hbl hbA hS (by rw [ex3]; exact lw_ix hL hgo (k := 1) (by decide)) dL_law_350 ?_
  refine lv_aload_n hx hb dL_law_351 rfl (lv_at hl 0 rfl) ?_
  refine lv_iload_n hx hb dL_law_352 rfl (lv_at hl 3 rfl) ?_
  refine lv_iconst (v := 2) hx hb dL_law_353 (by decide) ?_
  refine lv_iadd hx hb dL_law_354 ?_
  refine va_sld hx hb hX hbl hbA hS (by rw [ex3]; exact lw_ix hL hgo (k := 2) (by decide)) dL_law_355 ?_
  obtain ⟨rr, X1, M1, hfx, hfm, hI⟩ := hst.2.2.2.2.2.1 SX SM hI (xs (x3 + (1 : Int32)).toNatClampNeg) (xs (x3 + (2 : Int32)).toNatClampNeg)
  refine z_c2I (As := [.int (xs (x3 + (1 : Int32)).toNatClampNeg), .int (xs (x3 + (2 : Int32)).toNatClampNeg)]) (rest := []) X0 hK hE hDX hA hPX hPM hXM hS (cx_set l D K cy ax SX _ _ _ _ hfx) (cwV 2 hts (z_gV wt_3_9 wt_3_10 wt_3_11 wt_1_1 wt_3_12) rfl rfl rfl ⟨rfl, yd_yX11_set⟩ ⟨Nat.le_of_ble_eq_true rfl, Nat.le_of_ble_eq_true rfl⟩) (va_recv hK hPX (ci := 11) (q0 := 0) rfl (zX_0 cy ax SX)) hl.1 rfl rfl (Nat.le_of_ble_eq_true rfl) dL_law_356 ⟨Nat.le_of_ble_eq_true rfl, Nat.le_of_ble_eq_true rfl⟩ (fun H locs hPX hPM hS => ?_)
  refine lv_aload_n hx hb dL_law_359 rfl (lv_at hl 2 rfl) ?_
  refine lv_aload_n hx hb dL_law_360 rfl (lv_at hl 0 rfl) ?_
  refine lv_iload_n hx hb dL_law_361 rfl (lv_at hl 3 rfl) ?_
  refine lv_iconst (v := 1) hx hb dL_law_362 (by decide) ?_
  refine lv_iadd hx hb dL_law_363 ?_
  refine va_sld hx hb hX hbl hbA hS (by rw [ex3]; exact lw_ix hL hgo (k := 1) (by decide)) dL_law_364 ?_
  refine lv_aload_n hx hb dL_law_365 rfl (lv_at hl 0 rfl) ?_
  refine lv_iload_n hx hb dL_law_366 rfl (lv_at hl 3 rfl) ?_
  refine lv_iconst (v := 2) hx hb dL_law_367 (by decide) ?_
  refine lv_iadd hx hb dL_law_368 ?_
  refine va_sld hx hb hX hbl hbA hS (by rw [ex3]; exact lw_ix hL hgo (k := 2) (by decide)) dL_law_369 ?_
  refine z_c2I (As := [.int (xs (x3 + (1 : Int32)).toNatClampNeg), .int (xs (x3 + (2 : Int32)).toNatClampNeg)]) (rest := [.int rr]) X0 hK hE hDM hA hPM hPX (fun i j h1 h2 h => hXM j i h2 h1 h.symm) hS (cm_set l D K cy am SM _ _ _ _ hfm) (cwV 2 hts (z_gV wt_6_104 wt_6_105 wt_6_106 wt_1_13 wt_6_107) rfl rfl rfl ⟨rfl, yd_yX12_set⟩ ⟨Nat.le_of_ble_eq_true rfl, Nat.le_of_ble_eq_true rfl⟩) (va_recv hK hPM (ci := 12) (q0 := 0) rfl (zM_0 cy am SM)) hl.1 rfl rfl (Nat.le_of_ble_eq_true rfl) dL_law_370 ⟨Nat.le_of_ble_eq_true rfl, Nat.le_of_ble_eq_true rfl⟩ (fun H locs hPM hPX hS => ?_)
  refine lv_icmp_eq (tgt := 981) hx hb dL_law_373 (by decide) (fun _ => ?_) (fun c9 => absurd rfl c9)
  exact hend X1 M1 _ _ _ hI hPX hPM hS hl
set_option maxHeartbeats 4000000 in
set_option maxRecDepth 100000 in
theorem law_case6 {p : Program} {l : Launch} {e : Env} {s : State} {m : MethodId} {below : List Frame} {meth : Method} {c : Code} {D : va_G} {cy : Nat → ClassId} {K : (Nat → Nat) × (Nat → Nat)} {ax am : Nat → Nat} {b L : Nat} {xs : Nat → Int32} (hL : L ≤ 3072) (C0 : lw_At p s m meth c b L xs) (hK : va_K D vwCl (zTy cy) s) (hE : zE K (fun q : Nat => s.heap.size ≤ q) s s.heap) (hDX : ∀ S, va_D (fun q : Nat => s.heap.size ≤ q) (zX cy ax S)) (hDM : ∀ S, va_D (fun q : Nat => s.heap.size ≤ q) (zM cy am S)) (hXM : ∀ i j, i < 142 → j < 18 → ax i ≠ am j) {Inv : zSt → zSt → Prop} (hst : zStep Inv) (i : Nat) (x3 y : Int32) (SX SM : zSt) (H : Heap) (locs : List Loc) (ls : Array Slot) (hgo : i + 6 ≤ L) (ex3 : x3 = nI i) (c_k : y = 6) (hI : Inv SX SM) (hPX : va_P D vwCl (zX cy ax SX) H) (hPM : va_P D vwCl (zM cy am SM) H) (hS : va_S (fun q : Nat => s.heap.size ≤ q) s.heap H locs) (hl : lv_has ls 4 [(0, .ref b), (1, .ref (ax 0)), (2, .ref (am 0)), (3, .int x3)])
    (hend : ∀ (X1 M1 : zSt) (H : Heap) (locs : List Loc) (ls : Array Slot), Inv X1 M1 → va_P D vwCl (zX cy ax X1) H → va_P D vwCl (zM cy am M1) H → va_S (fun q : Nat => s.heap.size ≤ q) s.heap H locs → lv_has ls 4 [(0, .ref b), (1, .ref (ax 0)), (2, .ref (am 0)), (3, .int x3)] → W p l e room_1 s m #[Value.ref b] below meth c H locs 160 13485 (lw_Z below #[Value.ref b] s) (F0 m 981 ls [])) : W p l e room_1 s m #[Value.ref b] below meth c H locs 160 13485 (lw_Z below #[Value.ref b] s) (F0 m 33 ls [.int y]) := by
  obtain ⟨hx, hb, hr, hml, hown, hts0, hX, hbl, hlocks, hgv⟩ := C0
  have hts : ∀ w ∈ (Cond.initialized RL :: zT), w.before #[Value.ref b] s = true := fun w h => (List.mem_cons.mp h).elim (fun q => q ▸ hts0 _ (List.mem_filter.mp wt_1_0).1) (fun q => hts0 w (List.mem_filter.mp q).1)
  have hA : ∀ q : Nat, s.heap.size ≤ q → (fun q : Nat => s.heap.size ≤ q) q := fun _ h => h
  have hbA : ¬ (fun q : Nat => s.heap.size ≤ q) b := Nat.not_le.mpr hbl
  have X0 : CallFix p m c cL_law 4 s #[Value.ref b] (Cond.initialized RL :: zT) RL := ⟨hx, hb, hml, hown, hts⟩
  subst c_k
  refine lv_tableIn (off := 345) (tgt := 378) hx hb dL_law_33 (by decide) (by decide) rfl (by decide) ?_
  refine lv_aload_n hx hb dL_law_378 rfl (lv_at hl 1 rfl) ?_
  obtain ⟨rr, X1, M1, hfx, hfm, hI⟩ := hst.2.2.2.2.2.2.1 SX SM hI
  refine z_c2I (As := []) (rest := []) X0 hK hE hDX hA hPX hPM hXM hS (cx_text l D K cy ax SX _ _ hfx) (cwV 0 hts (z_gV wt_3_16 wt_3_17 wt_3_18 wt_1_1 wt_3_19) rfl rfl rfl ⟨rfl, yd_yX11_text⟩ ⟨Nat.le_of_ble_eq_true rfl, Nat.le_of_ble_eq_true rfl⟩) (va_recv hK hPX (ci := 11) (q0 := 0) rfl (zX_0 cy ax SX)) hl.1 rfl rfl (Nat.le_of_ble_eq_true rfl) dL_law_379 ⟨Nat.le_of_ble_eq_true rfl, Nat.le_of_ble_eq_true rfl⟩ (fun H locs hPX hPM hS => ?_)
  refine lv_aload_n hx hb dL_law_382 rfl (lv_at hl 2 rfl) ?_
  refine z_c2I (As := []) (rest := [.int rr]) X0 hK hE hDM hA hPM hPX (fun i j h1 h2 h => hXM j i h2 h1 h.symm) hS (cm_text l D K cy am SM _ _ hfm) (cwV 0 hts (z_gV wt_5_219 wt_5_220 wt_5_221 wt_1_13 wt_5_222) rfl rfl rfl ⟨rfl, yd_yX12_text⟩ ⟨Nat.le_of_ble_eq_true rfl, Nat.le_of_ble_eq_true rfl⟩) (va_recv hK hPM (ci := 12) (q0 := 0) rfl (zM_0 cy am SM)) hl.1 rfl rfl (Nat.le_of_ble_eq_true rfl) dL_law_383 ⟨Nat.le_of_ble_eq_true rfl, Nat.le_of_ble_eq_true rfl⟩ (fun H locs hPM hPX hS => ?_)
  refine lv_icmp_eq (tgt := 981) hx hb dL_law_386 (by decide) (fun _ => ?_) (fun c9 => absurd rfl c9)
  exact hend X1 M1 _ _ _ hI hPX hPM hS hl
set_option maxHeartbeats 4000000 in
set_option maxRecDepth 100000 in
theorem law_case7 {p : Program} {l : Launch} {e : Env} {s : State} {m : MethodId} {below : List Frame} {meth : Method} {c : Code} {D : va_G} {cy : Nat → ClassId} {K : (Nat → Nat) × (Nat → Nat)} {ax am : Nat → Nat} {b L : Nat} {xs : Nat → Int32} (hL : L ≤ 3072) (C0 : lw_At p s m meth c b L xs) (hK : va_K D vwCl (zTy cy) s) (hE : zE K (fun q : Nat => s.heap.size ≤ q) s s.heap) (hDX : ∀ S, va_D (fun q : Nat => s.heap.size ≤ q) (zX cy ax S)) (hDM : ∀ S, va_D (fun q : Nat => s.heap.size ≤ q) (zM cy am S)) (hXM : ∀ i j, i < 142 → j < 18 → ax i ≠ am j) {Inv : zSt → zSt → Prop} (hst : zStep Inv) (i : Nat) (x3 y : Int32) (SX SM : zSt) (H : Heap) (locs : List Loc) (ls : Array Slot) (hgo : i + 6 ≤ L) (ex3 : x3 = nI i) (c_k : y = 7) (hI : Inv SX SM) (hPX : va_P D vwCl (zX cy ax SX) H) (hPM : va_P D vwCl (zM cy am SM) H) (hS : va_S (fun q : Nat => s.heap.size ≤ q) s.heap H locs) (hl : lv_has ls 4 [(0, .ref b), (1, .ref (ax 0)), (2, .ref (am 0)), (3, .int x3)])
    (hend : ∀ (X1 M1 : zSt) (H : Heap) (locs : List Loc) (ls : Array Slot), Inv X1 M1 → va_P D vwCl (zX cy ax X1) H → va_P D vwCl (zM cy am M1) H → va_S (fun q : Nat => s.heap.size ≤ q) s.heap H locs → lv_has ls 4 [(0, .ref b), (1, .ref (ax 0)), (2, .ref (am 0)), (3, .int x3)] → W p l e room_1 s m #[Value.ref b] below meth c H locs 160 13485 (lw_Z below #[Value.ref b] s) (F0 m 981 ls [])) : W p l e room_1 s m #[Value.ref b] below meth c H locs 160 13485 (lw_Z below #[Value.ref b] s) (F0 m 33 ls [.int y]) := by
  obtain ⟨hx, hb, hr, hml, hown, hts0, hX, hbl, hlocks, hgv⟩ := C0
  have hts : ∀ w ∈ (Cond.initialized RL :: zT), w.before #[Value.ref b] s = true := fun w h => (List.mem_cons.mp h).elim (fun q => q ▸ hts0 _ (List.mem_filter.mp wt_1_0).1) (fun q => hts0 w (List.mem_filter.mp q).1)
  have hA : ∀ q : Nat, s.heap.size ≤ q → (fun q : Nat => s.heap.size ≤ q) q := fun _ h => h
  have hbA : ¬ (fun q : Nat => s.heap.size ≤ q) b := Nat.not_le.mpr hbl
  have X0 : CallFix p m c cL_law 4 s #[Value.ref b] (Cond.initialized RL :: zT) RL := ⟨hx, hb, hml, hown, hts⟩
  subst c_k
  refine lv_tableIn (off := 358) (tgt := 391) hx hb dL_law_33 (by decide) (by decide) rfl (by decide) ?_
  refine lv_aload_n hx hb dL_law_391 rfl (lv_at hl 1 rfl) ?_
  refine lv_aload_n hx hb dL_law_392 rfl (lv_at hl 0 rfl) ?_
  refine lv_iload_n hx hb dL_law_393 rfl (lv_at hl 3 rfl) ?_
  refine lv_iconst (v := 1) hx hb dL_law_394 (by decide) ?_
  refine lv_iadd hx hb dL_law_395 ?_
  refine va_sld hx hb hX hbl hbA hS (by rw [ex3]; exact lw_ix hL hgo (k := 1) (by decide)) dL_law_396 ?_
  obtain ⟨rr, X1, M1, hfx, hfm, hI⟩ := hst.2.2.2.2.2.2.2.1 SX SM hI (xs (x3 + (1 : Int32)).toNatClampNeg)
  refine z_c2I (As := [.int (xs (x3 + (1 : Int32)).toNatClampNeg)]) (rest := []) X0 hK hE hDX hA hPX hPM hXM hS (cx_fault l D K cy ax SX _ _ _ hfx) (cwV 1 hts (z_gV wt_3_233 wt_3_234 wt_3_235 wt_1_1 wt_3_236) rfl rfl rfl ⟨rfl, yd_yX11_fault⟩ ⟨Nat.le_of_ble_eq_true rfl, Nat.le_of_ble_eq_true rfl⟩) (va_recv hK hPX (ci := 11) (q0 := 0) rfl (zX_0 cy ax SX)) hl.1 rfl rfl (Nat.le_of_ble_eq_true rfl) dL_law_397 ⟨Nat.le_of_ble_eq_true rfl, Nat.le_of_ble_eq_true rfl⟩ (fun H locs hPX hPM hS => ?_)
  refine lv_aload_n hx hb dL_law_400 rfl (lv_at hl 2 rfl) ?_
  refine lv_aload_n hx hb dL_law_401 rfl (lv_at hl 0 rfl) ?_
  refine lv_iload_n hx hb dL_law_402 rfl (lv_at hl 3 rfl) ?_
  refine lv_iconst (v := 1) hx hb dL_law_403 (by decide) ?_
  refine lv_iadd hx hb dL_law_404 ?_
  refine va_sld hx hb hX hbl hbA hS (by rw [ex3]; exact lw_ix hL hgo (k := 1) (by decide)) dL_law_405 ?_
  refine z_c2I (As := [.int (xs (x3 + (1 : Int32)).toNatClampNeg)]) (rest := [.int rr]) X0 hK hE hDM hA hPM hPX (fun i j h1 h2 h => hXM j i h2 h1 h.symm) hS (cm_fault l D K cy am SM _ _ _ hfm) (cwV 1 hts (z_gV wt_6_70 wt_6_71 wt_6_72 wt_1_13 wt_6_73) rfl rfl rfl ⟨rfl, yd_yX12_fault⟩ ⟨Nat.le_of_ble_eq_true rfl, Nat.le_of_ble_eq_true rfl⟩) (va_recv hK hPM (ci := 12) (q0 := 0) rfl (zM_0 cy am SM)) hl.1 rfl rfl (Nat.le_of_ble_eq_true rfl) dL_law_406 ⟨Nat.le_of_ble_eq_true rfl, Nat.le_of_ble_eq_true rfl⟩ (fun H locs hPM hPX hS => ?_)
  refine lv_icmp_eq (tgt := 981) hx hb dL_law_409 (by decide) (fun _ => ?_) (fun c9 => absurd rfl c9)
  exact hend X1 M1 _ _ _ hI hPX hPM hS hl
set_option maxHeartbeats 4000000 in
set_option maxRecDepth 100000 in
theorem law_case8 {p : Program} {l : Launch} {e : Env} {s : State} {m : MethodId} {below : List Frame} {meth : Method} {c : Code} {D : va_G} {cy : Nat → ClassId} {K : (Nat → Nat) × (Nat → Nat)} {ax am : Nat → Nat} {b L : Nat} {xs : Nat → Int32} (hL : L ≤ 3072) (C0 : lw_At p s m meth c b L xs) (hK : va_K D vwCl (zTy cy) s) (hE : zE K (fun q : Nat => s.heap.size ≤ q) s s.heap) (hDX : ∀ S, va_D (fun q : Nat => s.heap.size ≤ q) (zX cy ax S)) (hDM : ∀ S, va_D (fun q : Nat => s.heap.size ≤ q) (zM cy am S)) (hXM : ∀ i j, i < 142 → j < 18 → ax i ≠ am j) {Inv : zSt → zSt → Prop} (hst : zStep Inv) (i : Nat) (x3 y : Int32) (SX SM : zSt) (H : Heap) (locs : List Loc) (ls : Array Slot) (hgo : i + 6 ≤ L) (ex3 : x3 = nI i) (c_k : y = 8) (hI : Inv SX SM) (hPX : va_P D vwCl (zX cy ax SX) H) (hPM : va_P D vwCl (zM cy am SM) H) (hS : va_S (fun q : Nat => s.heap.size ≤ q) s.heap H locs) (hl : lv_has ls 4 [(0, .ref b), (1, .ref (ax 0)), (2, .ref (am 0)), (3, .int x3)])
    (hend : ∀ (X1 M1 : zSt) (H : Heap) (locs : List Loc) (ls : Array Slot), Inv X1 M1 → va_P D vwCl (zX cy ax X1) H → va_P D vwCl (zM cy am M1) H → va_S (fun q : Nat => s.heap.size ≤ q) s.heap H locs → lv_has ls 4 [(0, .ref b), (1, .ref (ax 0)), (2, .ref (am 0)), (3, .int x3)] → W p l e room_1 s m #[Value.ref b] below meth c H locs 160 13485 (lw_Z below #[Value.ref b] s) (F0 m 981 ls [])) : W p l e room_1 s m #[Value.ref b] below meth c H locs 160 13485 (lw_Z below #[Value.ref b] s) (F0 m 33 ls [.int y]) := by
  obtain ⟨hx, hb, hr, hml, hown, hts0, hX, hbl, hlocks, hgv⟩ := C0
  have hts : ∀ w ∈ (Cond.initialized RL :: zT), w.before #[Value.ref b] s = true := fun w h => (List.mem_cons.mp h).elim (fun q => q ▸ hts0 _ (List.mem_filter.mp wt_1_0).1) (fun q => hts0 w (List.mem_filter.mp q).1)
  have hA : ∀ q : Nat, s.heap.size ≤ q → (fun q : Nat => s.heap.size ≤ q) q := fun _ h => h
  have hbA : ¬ (fun q : Nat => s.heap.size ≤ q) b := Nat.not_le.mpr hbl
  have X0 : CallFix p m c cL_law 4 s #[Value.ref b] (Cond.initialized RL :: zT) RL := ⟨hx, hb, hml, hown, hts⟩
  subst c_k
  refine lv_tableIn (off := 381) (tgt := 414) hx hb dL_law_33 (by decide) (by decide) rfl (by decide) ?_
  refine lv_aload_n hx hb dL_law_414 rfl (lv_at hl 1 rfl) ?_
  refine lv_aload_n hx hb dL_law_415 rfl (lv_at hl 0 rfl) ?_
  refine lv_iload_n hx hb dL_law_416 rfl (lv_at hl 3 rfl) ?_
  refine lv_iconst (v := 1) hx hb dL_law_417 (by decide) ?_
  refine lv_iadd hx hb dL_law_418 ?_
  refine va_sld hx hb hX hbl hbA hS (by rw [ex3]; exact lw_ix hL hgo (k := 1) (by decide)) dL_law_419 ?_
  obtain ⟨rr, X1, M1, hfx, hfm, hI⟩ := hst.2.2.2.2.2.2.2.2.1 SX SM hI (xs (x3 + (1 : Int32)).toNatClampNeg)
  refine z_c2I (As := [.int (xs (x3 + (1 : Int32)).toNatClampNeg)]) (rest := []) X0 hK hE hDX hA hPX hPM hXM hS (cx_order l D K cy ax SX _ _ _ hfx) (cwV 1 hts (z_gV wt_3_237 wt_3_238 wt_3_239 wt_1_1 wt_4_0) rfl rfl rfl ⟨rfl, yd_yX11_order⟩ ⟨Nat.le_of_ble_eq_true rfl, Nat.le_of_ble_eq_true rfl⟩) (va_recv hK hPX (ci := 11) (q0 := 0) rfl (zX_0 cy ax SX)) hl.1 rfl rfl (Nat.le_of_ble_eq_true rfl) dL_law_420 ⟨Nat.le_of_ble_eq_true rfl, Nat.le_of_ble_eq_true rfl⟩ (fun H locs hPX hPM hS => ?_)
  refine lv_aload_n hx hb dL_law_423 rfl (lv_at hl 2 rfl) ?_
  refine lv_aload_n hx hb dL_law_424 rfl (lv_at hl 0 rfl) ?_
  refine lv_iload_n hx hb dL_law_425 rfl (lv_at hl 3 rfl) ?_
  refine lv_iconst (v := 1) hx hb dL_law_426 (by decide) ?_
  refine lv_iadd hx hb dL_law_427 ?_
  refine va_sld hx hb hX hbl hbA hS (by rw [ex3]; exact lw_ix hL hgo (k := 1) (by decide)) dL_law_428 ?_
  refine z_c2I (As := [.int (xs (x3 + (1 : Int32)).toNatClampNeg)]) (rest := [.int rr]) X0 hK hE hDM hA hPM hPX (fun i j h1 h2 h => hXM j i h2 h1 h.symm) hS (cm_order l D K cy am SM _ _ _ hfm) (cwV 1 hts (z_gV wt_6_108 wt_6_109 wt_6_110 wt_1_13 wt_6_111) rfl rfl rfl ⟨rfl, yd_yX12_order⟩ ⟨Nat.le_of_ble_eq_true rfl, Nat.le_of_ble_eq_true rfl⟩) (va_recv hK hPM (ci := 12) (q0 := 0) rfl (zM_0 cy am SM)) hl.1 rfl rfl (Nat.le_of_ble_eq_true rfl) dL_law_429 ⟨Nat.le_of_ble_eq_true rfl, Nat.le_of_ble_eq_true rfl⟩ (fun H locs hPM hPX hS => ?_)
  refine lv_icmp_eq (tgt := 981) hx hb dL_law_432 (by decide) (fun _ => ?_) (fun c9 => absurd rfl c9)
  exact hend X1 M1 _ _ _ hI hPX hPM hS hl
set_option maxHeartbeats 4000000 in
set_option maxRecDepth 100000 in
theorem law_case9 {p : Program} {l : Launch} {e : Env} {s : State} {m : MethodId} {below : List Frame} {meth : Method} {c : Code} {D : va_G} {cy : Nat → ClassId} {K : (Nat → Nat) × (Nat → Nat)} {ax am : Nat → Nat} {b L : Nat} {xs : Nat → Int32} (hL : L ≤ 3072) (C0 : lw_At p s m meth c b L xs) (hK : va_K D vwCl (zTy cy) s) (hE : zE K (fun q : Nat => s.heap.size ≤ q) s s.heap) (hDX : ∀ S, va_D (fun q : Nat => s.heap.size ≤ q) (zX cy ax S)) (hDM : ∀ S, va_D (fun q : Nat => s.heap.size ≤ q) (zM cy am S)) (hXM : ∀ i j, i < 142 → j < 18 → ax i ≠ am j) {Inv : zSt → zSt → Prop} (hst : zStep Inv) (i : Nat) (x3 y : Int32) (SX SM : zSt) (H : Heap) (locs : List Loc) (ls : Array Slot) (hgo : i + 6 ≤ L) (ex3 : x3 = nI i) (c_k : y = 9) (hI : Inv SX SM) (hPX : va_P D vwCl (zX cy ax SX) H) (hPM : va_P D vwCl (zM cy am SM) H) (hS : va_S (fun q : Nat => s.heap.size ≤ q) s.heap H locs) (hl : lv_has ls 4 [(0, .ref b), (1, .ref (ax 0)), (2, .ref (am 0)), (3, .int x3)])
    (hend : ∀ (X1 M1 : zSt) (H : Heap) (locs : List Loc) (ls : Array Slot), Inv X1 M1 → va_P D vwCl (zX cy ax X1) H → va_P D vwCl (zM cy am M1) H → va_S (fun q : Nat => s.heap.size ≤ q) s.heap H locs → lv_has ls 4 [(0, .ref b), (1, .ref (ax 0)), (2, .ref (am 0)), (3, .int x3)] → W p l e room_1 s m #[Value.ref b] below meth c H locs 160 13485 (lw_Z below #[Value.ref b] s) (F0 m 981 ls [])) : W p l e room_1 s m #[Value.ref b] below meth c H locs 160 13485 (lw_Z below #[Value.ref b] s) (F0 m 33 ls [.int y]) := by
  obtain ⟨hx, hb, hr, hml, hown, hts0, hX, hbl, hlocks, hgv⟩ := C0
  have hts : ∀ w ∈ (Cond.initialized RL :: zT), w.before #[Value.ref b] s = true := fun w h => (List.mem_cons.mp h).elim (fun q => q ▸ hts0 _ (List.mem_filter.mp wt_1_0).1) (fun q => hts0 w (List.mem_filter.mp q).1)
  have hA : ∀ q : Nat, s.heap.size ≤ q → (fun q : Nat => s.heap.size ≤ q) q := fun _ h => h
  have hbA : ¬ (fun q : Nat => s.heap.size ≤ q) b := Nat.not_le.mpr hbl
  have X0 : CallFix p m c cL_law 4 s #[Value.ref b] (Cond.initialized RL :: zT) RL := ⟨hx, hb, hml, hown, hts⟩
  subst c_k
  refine lv_tableIn (off := 404) (tgt := 437) hx hb dL_law_33 (by decide) (by decide) rfl (by decide) ?_
  refine lv_aload_n hx hb dL_law_437 rfl (lv_at hl 1 rfl) ?_
  refine lv_aload_n hx hb dL_law_438 rfl (lv_at hl 0 rfl) ?_
  refine lv_iload_n hx hb dL_law_439 rfl (lv_at hl 3 rfl) ?_
  refine lv_iconst (v := 1) hx hb dL_law_440 (by decide) ?_
  refine lv_iadd hx hb dL_law_441 ?_
  refine va_sld hx hb hX hbl hbA hS (by rw [ex3]; exact lw_ix hL hgo (k := 1) (by decide)) dL_law_442 ?_
  obtain ⟨rr, X1, M1, hfx, hfm, hI⟩ := hst.2.2.2.2.2.2.2.2.2.1 SX SM hI (xs (x3 + (1 : Int32)).toNatClampNeg)
  refine z_c2I (As := [.int (xs (x3 + (1 : Int32)).toNatClampNeg)]) (rest := []) X0 hK hE hDX hA hPX hPM hXM hS (cx_days l D K cy ax SX _ _ _ hfx) (cwV 1 hts (z_gV wt_4_35 wt_4_36 wt_4_37 wt_1_1 wt_4_38) rfl rfl rfl ⟨rfl, yd_yX11_days⟩ ⟨Nat.le_of_ble_eq_true rfl, Nat.le_of_ble_eq_true rfl⟩) (va_recv hK hPX (ci := 11) (q0 := 0) rfl (zX_0 cy ax SX)) hl.1 rfl rfl (Nat.le_of_ble_eq_true rfl) dL_law_443 ⟨Nat.le_of_ble_eq_true rfl, Nat.le_of_ble_eq_true rfl⟩ (fun H locs hPX hPM hS => ?_)
  refine lv_aload_n hx hb dL_law_446 rfl (lv_at hl 2 rfl) ?_
  refine lv_aload_n hx hb dL_law_447 rfl (lv_at hl 0 rfl) ?_
  refine lv_iload_n hx hb dL_law_448 rfl (lv_at hl 3 rfl) ?_
  refine lv_iconst (v := 1) hx hb dL_law_449 (by decide) ?_
  refine lv_iadd hx hb dL_law_450 ?_
  refine va_sld hx hb hX hbl hbA hS (by rw [ex3]; exact lw_ix hL hgo (k := 1) (by decide)) dL_law_451 ?_
  refine z_c2I (As := [.int (xs (x3 + (1 : Int32)).toNatClampNeg)]) (rest := [.int rr]) X0 hK hE hDM hA hPM hPX (fun i j h1 h2 h => hXM j i h2 h1 h.symm) hS (cm_days l D K cy am SM _ _ _ hfm) (cwV 1 hts (z_gV wt_6_135 wt_6_136 wt_6_137 wt_1_13 wt_6_138) rfl rfl rfl ⟨rfl, yd_yX12_days⟩ ⟨Nat.le_of_ble_eq_true rfl, Nat.le_of_ble_eq_true rfl⟩) (va_recv hK hPM (ci := 12) (q0 := 0) rfl (zM_0 cy am SM)) hl.1 rfl rfl (Nat.le_of_ble_eq_true rfl) dL_law_452 ⟨Nat.le_of_ble_eq_true rfl, Nat.le_of_ble_eq_true rfl⟩ (fun H locs hPM hPX hS => ?_)
  refine lv_icmp_eq (tgt := 981) hx hb dL_law_455 (by decide) (fun _ => ?_) (fun c9 => absurd rfl c9)
  exact hend X1 M1 _ _ _ hI hPX hPM hS hl
set_option maxHeartbeats 4000000 in
set_option maxRecDepth 100000 in
theorem law_case10 {p : Program} {l : Launch} {e : Env} {s : State} {m : MethodId} {below : List Frame} {meth : Method} {c : Code} {D : va_G} {cy : Nat → ClassId} {K : (Nat → Nat) × (Nat → Nat)} {ax am : Nat → Nat} {b L : Nat} {xs : Nat → Int32} (hL : L ≤ 3072) (C0 : lw_At p s m meth c b L xs) (hK : va_K D vwCl (zTy cy) s) (hE : zE K (fun q : Nat => s.heap.size ≤ q) s s.heap) (hDX : ∀ S, va_D (fun q : Nat => s.heap.size ≤ q) (zX cy ax S)) (hDM : ∀ S, va_D (fun q : Nat => s.heap.size ≤ q) (zM cy am S)) (hXM : ∀ i j, i < 142 → j < 18 → ax i ≠ am j) {Inv : zSt → zSt → Prop} (hst : zStep Inv) (i : Nat) (x3 y : Int32) (SX SM : zSt) (H : Heap) (locs : List Loc) (ls : Array Slot) (hgo : i + 6 ≤ L) (ex3 : x3 = nI i) (c_k : y = 10) (hI : Inv SX SM) (hPX : va_P D vwCl (zX cy ax SX) H) (hPM : va_P D vwCl (zM cy am SM) H) (hS : va_S (fun q : Nat => s.heap.size ≤ q) s.heap H locs) (hl : lv_has ls 4 [(0, .ref b), (1, .ref (ax 0)), (2, .ref (am 0)), (3, .int x3)])
    (hend : ∀ (X1 M1 : zSt) (H : Heap) (locs : List Loc) (ls : Array Slot), Inv X1 M1 → va_P D vwCl (zX cy ax X1) H → va_P D vwCl (zM cy am M1) H → va_S (fun q : Nat => s.heap.size ≤ q) s.heap H locs → lv_has ls 4 [(0, .ref b), (1, .ref (ax 0)), (2, .ref (am 0)), (3, .int x3)] → W p l e room_1 s m #[Value.ref b] below meth c H locs 160 13485 (lw_Z below #[Value.ref b] s) (F0 m 981 ls [])) : W p l e room_1 s m #[Value.ref b] below meth c H locs 160 13485 (lw_Z below #[Value.ref b] s) (F0 m 33 ls [.int y]) := by
  obtain ⟨hx, hb, hr, hml, hown, hts0, hX, hbl, hlocks, hgv⟩ := C0
  have hts : ∀ w ∈ (Cond.initialized RL :: zT), w.before #[Value.ref b] s = true := fun w h => (List.mem_cons.mp h).elim (fun q => q ▸ hts0 _ (List.mem_filter.mp wt_1_0).1) (fun q => hts0 w (List.mem_filter.mp q).1)
  have hA : ∀ q : Nat, s.heap.size ≤ q → (fun q : Nat => s.heap.size ≤ q) q := fun _ h => h
  have hbA : ¬ (fun q : Nat => s.heap.size ≤ q) b := Nat.not_le.mpr hbl
  have X0 : CallFix p m c cL_law 4 s #[Value.ref b] (Cond.initialized RL :: zT) RL := ⟨hx, hb, hml, hown, hts⟩
  subst c_k
  refine lv_tableIn (off := 427) (tgt := 460) hx hb dL_law_33 (by decide) (by decide) rfl (by decide) ?_
  refine lv_aload_n hx hb dL_law_460 rfl (lv_at hl 1 rfl) ?_
  refine lv_aload_n hx hb dL_law_461 rfl (lv_at hl 0 rfl) ?_
  refine lv_iload_n hx hb dL_law_462 rfl (lv_at hl 3 rfl) ?_
  refine lv_iconst (v := 1) hx hb dL_law_463 (by decide) ?_
  refine lv_iadd hx hb dL_law_464 ?_
  refine va_sld hx hb hX hbl hbA hS (by rw [ex3]; exact lw_ix hL hgo (k := 1) (by decide)) dL_law_465 ?_
  refine lv_aload_n hx hb dL_law_466 rfl (lv_at hl 0 rfl) ?_
  refine lv_iload_n hx hb dL_law_467 rfl (lv_at hl 3 rfl) ?_
  refine lv_iconst (v := 2) hx hb dL_law_468 (by decide) ?_
  refine lv_iadd hx hb dL_law_469 ?_
  refine va_sld hx hb hX hbl hbA hS (by rw [ex3]; exact lw_ix hL hgo (k := 2) (by decide)) dL_law_470 ?_
  obtain ⟨rr, X1, M1, hfx, hfm, hI⟩ := hst.2.2.2.2.2.2.2.2.2.2.1 SX SM hI (xs (x3 + (1 : Int32)).toNatClampNeg) (xs (x3 + (2 : Int32)).toNatClampNeg)
  refine z_c2I (As := [.int (xs (x3 + (1 : Int32)).toNatClampNeg), .int (xs (x3 + (2 : Int32)).toNatClampNeg)]) (rest := []) X0 hK hE hDX hA hPX hPM hXM hS (cx_of l D K cy ax SX _ _ _ _ hfx) (cwV 2 hts (z_gV wt_4_82 wt_4_83 wt_4_84 wt_1_1 wt_4_85) rfl rfl rfl ⟨rfl, yd_yX11_of⟩ ⟨Nat.le_of_ble_eq_true rfl, Nat.le_of_ble_eq_true rfl⟩) (va_recv hK hPX (ci := 11) (q0 := 0) rfl (zX_0 cy ax SX)) hl.1 rfl rfl (Nat.le_of_ble_eq_true rfl) dL_law_471 ⟨Nat.le_of_ble_eq_true rfl, Nat.le_of_ble_eq_true rfl⟩ (fun H locs hPX hPM hS => ?_)
  refine lv_aload_n hx hb dL_law_474 rfl (lv_at hl 2 rfl) ?_
  refine lv_aload_n hx hb dL_law_475 rfl (lv_at hl 0 rfl) ?_
  refine lv_iload_n hx hb dL_law_476 rfl (lv_at hl 3 rfl) ?_
  refine lv_iconst (v := 1) hx hb dL_law_477 (by decide) ?_
  refine lv_iadd hx hb dL_law_478 ?_
  refine va_sld hx hb hX hbl hbA hS (by rw [ex3]; exact lw_ix hL hgo (k := 1) (by decide)) dL_law_479 ?_
  refine lv_aload_n hx hb dL_law_480 rfl (lv_at hl 0 rfl) ?_
  refine lv_iload_n hx hb dL_law_481 rfl (lv_at hl 3 rfl) ?_
  refine lv_iconst (v := 2) hx hb dL_law_482 (by decide) ?_
  refine lv_iadd hx hb dL_law_483 ?_
  refine va_sld hx hb hX hbl hbA hS (by rw [ex3]; exact lw_ix hL hgo (k := 2) (by decide)) dL_law_484 ?_
  refine z_c2I (As := [.int (xs (x3 + (1 : Int32)).toNatClampNeg), .int (xs (x3 + (2 : Int32)).toNatClampNeg)]) (rest := [.int rr]) X0 hK hE hDM hA hPM hPX (fun i j h1 h2 h => hXM j i h2 h1 h.symm) hS (cm_of l D K cy am SM _ _ _ _ hfm) (cwV 2 hts (z_gV wt_6_161 wt_6_162 wt_6_163 wt_1_13 wt_6_164) rfl rfl rfl ⟨rfl, yd_yX12_of⟩ ⟨Nat.le_of_ble_eq_true rfl, Nat.le_of_ble_eq_true rfl⟩) (va_recv hK hPM (ci := 12) (q0 := 0) rfl (zM_0 cy am SM)) hl.1 rfl rfl (Nat.le_of_ble_eq_true rfl) dL_law_485 ⟨Nat.le_of_ble_eq_true rfl, Nat.le_of_ble_eq_true rfl⟩ (fun H locs hPM hPX hS => ?_)
  refine lv_icmp_eq (tgt := 981) hx hb dL_law_488 (by decide) (fun _ => ?_) (fun c9 => absurd rfl c9)
  exact hend X1 M1 _ _ _ hI hPX hPM hS hl
set_option maxHeartbeats 4000000 in
set_option maxRecDepth 100000 in
theorem law_case11 {p : Program} {l : Launch} {e : Env} {s : State} {m : MethodId} {below : List Frame} {meth : Method} {c : Code} {D : va_G} {cy : Nat → ClassId} {K : (Nat → Nat) × (Nat → Nat)} {ax am : Nat → Nat} {b L : Nat} {xs : Nat → Int32} (hL : L ≤ 3072) (C0 : lw_At p s m meth c b L xs) (hK : va_K D vwCl (zTy cy) s) (hE : zE K (fun q : Nat => s.heap.size ≤ q) s s.heap) (hDX : ∀ S, va_D (fun q : Nat => s.heap.size ≤ q) (zX cy ax S)) (hDM : ∀ S, va_D (fun q : Nat => s.heap.size ≤ q) (zM cy am S)) (hXM : ∀ i j, i < 142 → j < 18 → ax i ≠ am j) {Inv : zSt → zSt → Prop} (hst : zStep Inv) (i : Nat) (x3 y : Int32) (SX SM : zSt) (H : Heap) (locs : List Loc) (ls : Array Slot) (hgo : i + 6 ≤ L) (ex3 : x3 = nI i) (c_k : y = 11) (hI : Inv SX SM) (hPX : va_P D vwCl (zX cy ax SX) H) (hPM : va_P D vwCl (zM cy am SM) H) (hS : va_S (fun q : Nat => s.heap.size ≤ q) s.heap H locs) (hl : lv_has ls 4 [(0, .ref b), (1, .ref (ax 0)), (2, .ref (am 0)), (3, .int x3)])
    (hend : ∀ (X1 M1 : zSt) (H : Heap) (locs : List Loc) (ls : Array Slot), Inv X1 M1 → va_P D vwCl (zX cy ax X1) H → va_P D vwCl (zM cy am M1) H → va_S (fun q : Nat => s.heap.size ≤ q) s.heap H locs → lv_has ls 4 [(0, .ref b), (1, .ref (ax 0)), (2, .ref (am 0)), (3, .int x3)] → W p l e room_1 s m #[Value.ref b] below meth c H locs 160 13485 (lw_Z below #[Value.ref b] s) (F0 m 981 ls [])) : W p l e room_1 s m #[Value.ref b] below meth c H locs 160 13485 (lw_Z below #[Value.ref b] s) (F0 m 33 ls [.int y]) := by
  obtain ⟨hx, hb, hr, hml, hown, hts0, hX, hbl, hlocks, hgv⟩ := C0
  have hts : ∀ w ∈ (Cond.initialized RL :: zT), w.before #[Value.ref b] s = true := fun w h => (List.mem_cons.mp h).elim (fun q => q ▸ hts0 _ (List.mem_filter.mp wt_1_0).1) (fun q => hts0 w (List.mem_filter.mp q).1)
  have hA : ∀ q : Nat, s.heap.size ≤ q → (fun q : Nat => s.heap.size ≤ q) q := fun _ h => h
  have hbA : ¬ (fun q : Nat => s.heap.size ≤ q) b := Nat.not_le.mpr hbl
  have X0 : CallFix p m c cL_law 4 s #[Value.ref b] (Cond.initialized RL :: zT) RL := ⟨hx, hb, hml, hown, hts⟩
  subst c_k
  refine lv_tableIn (off := 460) (tgt := 493) hx hb dL_law_33 (by decide) (by decide) rfl (by decide) ?_
  refine lv_aload_n hx hb dL_law_493 rfl (lv_at hl 1 rfl) ?_
  refine lv_aload_n hx hb dL_law_494 rfl (lv_at hl 0 rfl) ?_
  refine lv_iload_n hx hb dL_law_495 rfl (lv_at hl 3 rfl) ?_
  refine lv_iconst (v := 1) hx hb dL_law_496 (by decide) ?_
  refine lv_iadd hx hb dL_law_497 ?_
  refine va_sld hx hb hX hbl hbA hS (by rw [ex3]; exact lw_ix hL hgo (k := 1) (by decide)) dL_law_498 ?_
  obtain ⟨rr, X1, M1, hfx, hfm, hI⟩ := hst.2.2.2.2.2.2.2.2.2.2.2.1 SX SM hI (xs (x3 + (1 : Int32)).toNatClampNeg)
  refine z_c2I (As := [.int (xs (x3 + (1 : Int32)).toNatClampNeg)]) (rest := []) X0 hK hE hDX hA hPX hPM hXM hS (cx_book l D K cy ax SX _ _ _ hfx) (cwV 1 hts (z_gV wt_4_91 wt_4_92 wt_4_93 wt_1_1 wt_4_94) rfl rfl rfl ⟨rfl, yd_yX11_book⟩ ⟨Nat.le_of_ble_eq_true rfl, Nat.le_of_ble_eq_true rfl⟩) (va_recv hK hPX (ci := 11) (q0 := 0) rfl (zX_0 cy ax SX)) hl.1 rfl rfl (Nat.le_of_ble_eq_true rfl) dL_law_499 ⟨Nat.le_of_ble_eq_true rfl, Nat.le_of_ble_eq_true rfl⟩ (fun H locs hPX hPM hS => ?_)
  refine lv_aload_n hx hb dL_law_502 rfl (lv_at hl 2 rfl) ?_
  refine lv_aload_n hx hb dL_law_503 rfl (lv_at hl 0 rfl) ?_
  refine lv_iload_n hx hb dL_law_504 rfl (lv_at hl 3 rfl) ?_
  refine lv_iconst (v := 1) hx hb dL_law_505 (by decide) ?_
  refine lv_iadd hx hb dL_law_506 ?_
  refine va_sld hx hb hX hbl hbA hS (by rw [ex3]; exact lw_ix hL hgo (k := 1) (by decide)) dL_law_507 ?_
  refine z_c2I (As := [.int (xs (x3 + (1 : Int32)).toNatClampNeg)]) (rest := [.int rr]) X0 hK hE hDM hA hPM hPX (fun i j h1 h2 h => hXM j i h2 h1 h.symm) hS (cm_book l D K cy am SM _ _ _ hfm) (cwV 1 hts (z_gV wt_6_166 wt_6_167 wt_6_168 wt_1_13 wt_6_169) rfl rfl rfl ⟨rfl, yd_yX12_book⟩ ⟨Nat.le_of_ble_eq_true rfl, Nat.le_of_ble_eq_true rfl⟩) (va_recv hK hPM (ci := 12) (q0 := 0) rfl (zM_0 cy am SM)) hl.1 rfl rfl (Nat.le_of_ble_eq_true rfl) dL_law_508 ⟨Nat.le_of_ble_eq_true rfl, Nat.le_of_ble_eq_true rfl⟩ (fun H locs hPM hPX hS => ?_)
  refine lv_icmp_eq (tgt := 981) hx hb dL_law_511 (by decide) (fun _ => ?_) (fun c9 => absurd rfl c9)
  exact hend X1 M1 _ _ _ hI hPX hPM hS hl
set_option maxHeartbeats 4000000 in
set_option maxRecDepth 100000 in
theorem law_case12 {p : Program} {l : Launch} {e : Env} {s : State} {m : MethodId} {below : List Frame} {meth : Method} {c : Code} {D : va_G} {cy : Nat → ClassId} {K : (Nat → Nat) × (Nat → Nat)} {ax am : Nat → Nat} {b L : Nat} {xs : Nat → Int32} (hL : L ≤ 3072) (C0 : lw_At p s m meth c b L xs) (hK : va_K D vwCl (zTy cy) s) (hE : zE K (fun q : Nat => s.heap.size ≤ q) s s.heap) (hDX : ∀ S, va_D (fun q : Nat => s.heap.size ≤ q) (zX cy ax S)) (hDM : ∀ S, va_D (fun q : Nat => s.heap.size ≤ q) (zM cy am S)) (hXM : ∀ i j, i < 142 → j < 18 → ax i ≠ am j) {Inv : zSt → zSt → Prop} (hst : zStep Inv) (i : Nat) (x3 y : Int32) (SX SM : zSt) (H : Heap) (locs : List Loc) (ls : Array Slot) (hgo : i + 6 ≤ L) (ex3 : x3 = nI i) (c_k : y = 12) (hI : Inv SX SM) (hPX : va_P D vwCl (zX cy ax SX) H) (hPM : va_P D vwCl (zM cy am SM) H) (hS : va_S (fun q : Nat => s.heap.size ≤ q) s.heap H locs) (hl : lv_has ls 4 [(0, .ref b), (1, .ref (ax 0)), (2, .ref (am 0)), (3, .int x3)])
    (hend : ∀ (X1 M1 : zSt) (H : Heap) (locs : List Loc) (ls : Array Slot), Inv X1 M1 → va_P D vwCl (zX cy ax X1) H → va_P D vwCl (zM cy am M1) H → va_S (fun q : Nat => s.heap.size ≤ q) s.heap H locs → lv_has ls 4 [(0, .ref b), (1, .ref (ax 0)), (2, .ref (am 0)), (3, .int x3)] → W p l e room_1 s m #[Value.ref b] below meth c H locs 160 13485 (lw_Z below #[Value.ref b] s) (F0 m 981 ls [])) : W p l e room_1 s m #[Value.ref b] below meth c H locs 160 13485 (lw_Z below #[Value.ref b] s) (F0 m 33 ls [.int y]) := by
  obtain ⟨hx, hb, hr, hml, hown, hts0, hX, hbl, hlocks, hgv⟩ := C0
  have hts : ∀ w ∈ (Cond.initialized RL :: zT), w.before #[Value.ref b] s = true := fun w h => (List.mem_cons.mp h).elim (fun q => q ▸ hts0 _ (List.mem_filter.mp wt_1_0).1) (fun q => hts0 w (List.mem_filter.mp q).1)
  have hA : ∀ q : Nat, s.heap.size ≤ q → (fun q : Nat => s.heap.size ≤ q) q := fun _ h => h
  have hbA : ¬ (fun q : Nat => s.heap.size ≤ q) b := Nat.not_le.mpr hbl
  have X0 : CallFix p m c cL_law 4 s #[Value.ref b] (Cond.initialized RL :: zT) RL := ⟨hx, hb, hml, hown, hts⟩
  subst c_k
  refine lv_tableIn (off := 483) (tgt := 516) hx hb dL_law_33 (by decide) (by decide) rfl (by decide) ?_
  refine lv_aload_n hx hb dL_law_516 rfl (lv_at hl 1 rfl) ?_
  refine lv_aload_n hx hb dL_law_517 rfl (lv_at hl 0 rfl) ?_
  refine lv_iload_n hx hb dL_law_518 rfl (lv_at hl 3 rfl) ?_
  refine lv_iconst (v := 1) hx hb dL_law_519 (by decide) ?_
  refine lv_iadd hx hb dL_law_520 ?_
  refine va_sld hx hb hX hbl hbA hS (by rw [ex3]; exact lw_ix hL hgo (k := 1) (by decide)) dL_law_521 ?_
  obtain ⟨rr, X1, M1, hfx, hfm, hI⟩ := hst.2.2.2.2.2.2.2.2.2.2.2.2.1 SX SM hI (xs (x3 + (1 : Int32)).toNatClampNeg)
  refine z_c2I (As := [.int (xs (x3 + (1 : Int32)).toNatClampNeg)]) (rest := []) X0 hK hE hDX hA hPX hPM hXM hS (cx_gain l D K cy ax SX _ _ _ hfx) (cwV 1 hts (z_gV wt_4_95 wt_4_96 wt_4_97 wt_1_1 wt_4_98) rfl rfl rfl ⟨rfl, yd_yX11_gain⟩ ⟨Nat.le_of_ble_eq_true rfl, Nat.le_of_ble_eq_true rfl⟩) (va_recv hK hPX (ci := 11) (q0 := 0) rfl (zX_0 cy ax SX)) hl.1 rfl rfl (Nat.le_of_ble_eq_true rfl) dL_law_522 ⟨Nat.le_of_ble_eq_true rfl, Nat.le_of_ble_eq_true rfl⟩ (fun H locs hPX hPM hS => ?_)
  refine lv_aload_n hx hb dL_law_525 rfl (lv_at hl 2 rfl) ?_
  refine lv_aload_n hx hb dL_law_526 rfl (lv_at hl 0 rfl) ?_
  refine lv_iload_n hx hb dL_law_527 rfl (lv_at hl 3 rfl) ?_
  refine lv_iconst (v := 1) hx hb dL_law_528 (by decide) ?_
  refine lv_iadd hx hb dL_law_529 ?_
  refine va_sld hx hb hX hbl hbA hS (by rw [ex3]; exact lw_ix hL hgo (k := 1) (by decide)) dL_law_530 ?_
  refine z_c2I (As := [.int (xs (x3 + (1 : Int32)).toNatClampNeg)]) (rest := [.int rr]) X0 hK hE hDM hA hPM hPX (fun i j h1 h2 h => hXM j i h2 h1 h.symm) hS (cm_gain l D K cy am SM _ _ _ hfm) (cwV 1 hts (z_gV wt_6_170 wt_6_171 wt_6_172 wt_1_13 wt_6_173) rfl rfl rfl ⟨rfl, yd_yX12_gain⟩ ⟨Nat.le_of_ble_eq_true rfl, Nat.le_of_ble_eq_true rfl⟩) (va_recv hK hPM (ci := 12) (q0 := 0) rfl (zM_0 cy am SM)) hl.1 rfl rfl (Nat.le_of_ble_eq_true rfl) dL_law_531 ⟨Nat.le_of_ble_eq_true rfl, Nat.le_of_ble_eq_true rfl⟩ (fun H locs hPM hPX hS => ?_)
  refine lv_icmp_eq (tgt := 981) hx hb dL_law_534 (by decide) (fun _ => ?_) (fun c9 => absurd rfl c9)
  exact hend X1 M1 _ _ _ hI hPX hPM hS hl
set_option maxHeartbeats 4000000 in
set_option maxRecDepth 100000 in
theorem law_case13 {p : Program} {l : Launch} {e : Env} {s : State} {m : MethodId} {below : List Frame} {meth : Method} {c : Code} {D : va_G} {cy : Nat → ClassId} {K : (Nat → Nat) × (Nat → Nat)} {ax am : Nat → Nat} {b L : Nat} {xs : Nat → Int32} (hL : L ≤ 3072) (C0 : lw_At p s m meth c b L xs) (hK : va_K D vwCl (zTy cy) s) (hE : zE K (fun q : Nat => s.heap.size ≤ q) s s.heap) (hDX : ∀ S, va_D (fun q : Nat => s.heap.size ≤ q) (zX cy ax S)) (hDM : ∀ S, va_D (fun q : Nat => s.heap.size ≤ q) (zM cy am S)) (hXM : ∀ i j, i < 142 → j < 18 → ax i ≠ am j) {Inv : zSt → zSt → Prop} (hst : zStep Inv) (i : Nat) (x3 y : Int32) (SX SM : zSt) (H : Heap) (locs : List Loc) (ls : Array Slot) (hgo : i + 6 ≤ L) (ex3 : x3 = nI i) (c_k : y = 13) (hI : Inv SX SM) (hPX : va_P D vwCl (zX cy ax SX) H) (hPM : va_P D vwCl (zM cy am SM) H) (hS : va_S (fun q : Nat => s.heap.size ≤ q) s.heap H locs) (hl : lv_has ls 4 [(0, .ref b), (1, .ref (ax 0)), (2, .ref (am 0)), (3, .int x3)])
    (hend : ∀ (X1 M1 : zSt) (H : Heap) (locs : List Loc) (ls : Array Slot), Inv X1 M1 → va_P D vwCl (zX cy ax X1) H → va_P D vwCl (zM cy am M1) H → va_S (fun q : Nat => s.heap.size ≤ q) s.heap H locs → lv_has ls 4 [(0, .ref b), (1, .ref (ax 0)), (2, .ref (am 0)), (3, .int x3)] → W p l e room_1 s m #[Value.ref b] below meth c H locs 160 13485 (lw_Z below #[Value.ref b] s) (F0 m 981 ls [])) : W p l e room_1 s m #[Value.ref b] below meth c H locs 160 13485 (lw_Z below #[Value.ref b] s) (F0 m 33 ls [.int y]) := by
  obtain ⟨hx, hb, hr, hml, hown, hts0, hX, hbl, hlocks, hgv⟩ := C0
  have hts : ∀ w ∈ (Cond.initialized RL :: zT), w.before #[Value.ref b] s = true := fun w h => (List.mem_cons.mp h).elim (fun q => q ▸ hts0 _ (List.mem_filter.mp wt_1_0).1) (fun q => hts0 w (List.mem_filter.mp q).1)
  have hA : ∀ q : Nat, s.heap.size ≤ q → (fun q : Nat => s.heap.size ≤ q) q := fun _ h => h
  have hbA : ¬ (fun q : Nat => s.heap.size ≤ q) b := Nat.not_le.mpr hbl
  have X0 : CallFix p m c cL_law 4 s #[Value.ref b] (Cond.initialized RL :: zT) RL := ⟨hx, hb, hml, hown, hts⟩
  subst c_k
  refine lv_tableIn (off := 506) (tgt := 539) hx hb dL_law_33 (by decide) (by decide) rfl (by decide) ?_
  refine lv_aload_n hx hb dL_law_539 rfl (lv_at hl 1 rfl) ?_
  refine lv_aload_n hx hb dL_law_540 rfl (lv_at hl 0 rfl) ?_
  refine lv_iload_n hx hb dL_law_541 rfl (lv_at hl 3 rfl) ?_
  refine lv_iconst (v := 1) hx hb dL_law_542 (by decide) ?_
  refine lv_iadd hx hb dL_law_543 ?_
  refine va_sld hx hb hX hbl hbA hS (by rw [ex3]; exact lw_ix hL hgo (k := 1) (by decide)) dL_law_544 ?_
  obtain ⟨rr, X1, M1, hfx, hfm, hI⟩ := hst.2.2.2.2.2.2.2.2.2.2.2.2.2.1 SX SM hI (xs (x3 + (1 : Int32)).toNatClampNeg)
  refine z_c2I (As := [.int (xs (x3 + (1 : Int32)).toNatClampNeg)]) (rest := []) X0 hK hE hDX hA hPX hPM hXM hS (cx_orders l D K cy ax SX _ _ _ hfx) (cwV 1 hts (z_gV wt_4_117 wt_4_118 wt_4_119 wt_1_1 wt_4_120) rfl rfl rfl ⟨rfl, yd_yX11_orders⟩ ⟨Nat.le_of_ble_eq_true rfl, Nat.le_of_ble_eq_true rfl⟩) (va_recv hK hPX (ci := 11) (q0 := 0) rfl (zX_0 cy ax SX)) hl.1 rfl rfl (Nat.le_of_ble_eq_true rfl) dL_law_545 ⟨Nat.le_of_ble_eq_true rfl, Nat.le_of_ble_eq_true rfl⟩ (fun H locs hPX hPM hS => ?_)
  refine lv_aload_n hx hb dL_law_548 rfl (lv_at hl 2 rfl) ?_
  refine lv_aload_n hx hb dL_law_549 rfl (lv_at hl 0 rfl) ?_
  refine lv_iload_n hx hb dL_law_550 rfl (lv_at hl 3 rfl) ?_
  refine lv_iconst (v := 1) hx hb dL_law_551 (by decide) ?_
  refine lv_iadd hx hb dL_law_552 ?_
  refine va_sld hx hb hX hbl hbA hS (by rw [ex3]; exact lw_ix hL hgo (k := 1) (by decide)) dL_law_553 ?_
  refine z_c2I (As := [.int (xs (x3 + (1 : Int32)).toNatClampNeg)]) (rest := [.int rr]) X0 hK hE hDM hA hPM hPX (fun i j h1 h2 h => hXM j i h2 h1 h.symm) hS (cm_orders l D K cy am SM _ _ _ hfm) (cwV 1 hts (z_gV wt_6_182 wt_6_183 wt_6_184 wt_1_13 wt_6_185) rfl rfl rfl ⟨rfl, yd_yX12_orders⟩ ⟨Nat.le_of_ble_eq_true rfl, Nat.le_of_ble_eq_true rfl⟩) (va_recv hK hPM (ci := 12) (q0 := 0) rfl (zM_0 cy am SM)) hl.1 rfl rfl (Nat.le_of_ble_eq_true rfl) dL_law_554 ⟨Nat.le_of_ble_eq_true rfl, Nat.le_of_ble_eq_true rfl⟩ (fun H locs hPM hPX hS => ?_)
  refine lv_icmp_eq (tgt := 981) hx hb dL_law_557 (by decide) (fun _ => ?_) (fun c9 => absurd rfl c9)
  exact hend X1 M1 _ _ _ hI hPX hPM hS hl
set_option maxHeartbeats 4000000 in
set_option maxRecDepth 100000 in
theorem law_case14 {p : Program} {l : Launch} {e : Env} {s : State} {m : MethodId} {below : List Frame} {meth : Method} {c : Code} {D : va_G} {cy : Nat → ClassId} {K : (Nat → Nat) × (Nat → Nat)} {ax am : Nat → Nat} {b L : Nat} {xs : Nat → Int32} (hL : L ≤ 3072) (C0 : lw_At p s m meth c b L xs) (hK : va_K D vwCl (zTy cy) s) (hE : zE K (fun q : Nat => s.heap.size ≤ q) s s.heap) (hDX : ∀ S, va_D (fun q : Nat => s.heap.size ≤ q) (zX cy ax S)) (hDM : ∀ S, va_D (fun q : Nat => s.heap.size ≤ q) (zM cy am S)) (hXM : ∀ i j, i < 142 → j < 18 → ax i ≠ am j) {Inv : zSt → zSt → Prop} (hst : zStep Inv) (i : Nat) (x3 y : Int32) (SX SM : zSt) (H : Heap) (locs : List Loc) (ls : Array Slot) (hgo : i + 6 ≤ L) (ex3 : x3 = nI i) (c_k : y = 14) (hI : Inv SX SM) (hPX : va_P D vwCl (zX cy ax SX) H) (hPM : va_P D vwCl (zM cy am SM) H) (hS : va_S (fun q : Nat => s.heap.size ≤ q) s.heap H locs) (hl : lv_has ls 4 [(0, .ref b), (1, .ref (ax 0)), (2, .ref (am 0)), (3, .int x3)])
    (hend : ∀ (X1 M1 : zSt) (H : Heap) (locs : List Loc) (ls : Array Slot), Inv X1 M1 → va_P D vwCl (zX cy ax X1) H → va_P D vwCl (zM cy am M1) H → va_S (fun q : Nat => s.heap.size ≤ q) s.heap H locs → lv_has ls 4 [(0, .ref b), (1, .ref (ax 0)), (2, .ref (am 0)), (3, .int x3)] → W p l e room_1 s m #[Value.ref b] below meth c H locs 160 13485 (lw_Z below #[Value.ref b] s) (F0 m 981 ls [])) : W p l e room_1 s m #[Value.ref b] below meth c H locs 160 13485 (lw_Z below #[Value.ref b] s) (F0 m 33 ls [.int y]) := by
  obtain ⟨hx, hb, hr, hml, hown, hts0, hX, hbl, hlocks, hgv⟩ := C0
  have hts : ∀ w ∈ (Cond.initialized RL :: zT), w.before #[Value.ref b] s = true := fun w h => (List.mem_cons.mp h).elim (fun q => q ▸ hts0 _ (List.mem_filter.mp wt_1_0).1) (fun q => hts0 w (List.mem_filter.mp q).1)
  have hA : ∀ q : Nat, s.heap.size ≤ q → (fun q : Nat => s.heap.size ≤ q) q := fun _ h => h
  have hbA : ¬ (fun q : Nat => s.heap.size ≤ q) b := Nat.not_le.mpr hbl
  have X0 : CallFix p m c cL_law 4 s #[Value.ref b] (Cond.initialized RL :: zT) RL := ⟨hx, hb, hml, hown, hts⟩
  subst c_k
  refine lv_tableIn (off := 529) (tgt := 562) hx hb dL_law_33 (by decide) (by decide) rfl (by decide) ?_
  refine lv_aload_n hx hb dL_law_562 rfl (lv_at hl 1 rfl) ?_
  refine lv_aload_n hx hb dL_law_563 rfl (lv_at hl 0 rfl) ?_
  refine lv_iload_n hx hb dL_law_564 rfl (lv_at hl 3 rfl) ?_
  refine lv_iconst (v := 1) hx hb dL_law_565 (by decide) ?_
  refine lv_iadd hx hb dL_law_566 ?_
  refine va_sld hx hb hX hbl hbA hS (by rw [ex3]; exact lw_ix hL hgo (k := 1) (by decide)) dL_law_567 ?_
  obtain ⟨rr, X1, M1, hfx, hfm, hI⟩ := hst.2.2.2.2.2.2.2.2.2.2.2.2.2.2.1 SX SM hI (xs (x3 + (1 : Int32)).toNatClampNeg)
  refine z_c2I (As := [.int (xs (x3 + (1 : Int32)).toNatClampNeg)]) (rest := []) X0 hK hE hDX hA hPX hPM hXM hS (cx_round l D K cy ax SX _ _ _ hfx) (cwV 1 hts (z_gV wt_4_149 wt_4_150 wt_4_151 wt_1_1 wt_4_152) rfl rfl rfl ⟨rfl, yd_yX11_round⟩ ⟨Nat.le_of_ble_eq_true rfl, Nat.le_of_ble_eq_true rfl⟩) (va_recv hK hPX (ci := 11) (q0 := 0) rfl (zX_0 cy ax SX)) hl.1 rfl rfl (Nat.le_of_ble_eq_true rfl) dL_law_568 ⟨Nat.le_of_ble_eq_true rfl, Nat.le_of_ble_eq_true rfl⟩ (fun H locs hPX hPM hS => ?_)
  refine lv_aload_n hx hb dL_law_571 rfl (lv_at hl 2 rfl) ?_
  refine lv_aload_n hx hb dL_law_572 rfl (lv_at hl 0 rfl) ?_
  refine lv_iload_n hx hb dL_law_573 rfl (lv_at hl 3 rfl) ?_
  refine lv_iconst (v := 1) hx hb dL_law_574 (by decide) ?_
  refine lv_iadd hx hb dL_law_575 ?_
  refine va_sld hx hb hX hbl hbA hS (by rw [ex3]; exact lw_ix hL hgo (k := 1) (by decide)) dL_law_576 ?_
  refine z_c2I (As := [.int (xs (x3 + (1 : Int32)).toNatClampNeg)]) (rest := [.int rr]) X0 hK hE hDM hA hPM hPX (fun i j h1 h2 h => hXM j i h2 h1 h.symm) hS (cm_round l D K cy am SM _ _ _ hfm) (cwV 1 hts (z_gV wt_6_210 wt_6_211 wt_6_212 wt_1_13 wt_6_213) rfl rfl rfl ⟨rfl, yd_yX12_round⟩ ⟨Nat.le_of_ble_eq_true rfl, Nat.le_of_ble_eq_true rfl⟩) (va_recv hK hPM (ci := 12) (q0 := 0) rfl (zM_0 cy am SM)) hl.1 rfl rfl (Nat.le_of_ble_eq_true rfl) dL_law_577 ⟨Nat.le_of_ble_eq_true rfl, Nat.le_of_ble_eq_true rfl⟩ (fun H locs hPM hPX hS => ?_)
  refine lv_icmp_eq (tgt := 981) hx hb dL_law_580 (by decide) (fun _ => ?_) (fun c9 => absurd rfl c9)
  exact hend X1 M1 _ _ _ hI hPX hPM hS hl
set_option maxHeartbeats 4000000 in
set_option maxRecDepth 100000 in
theorem law_case15 {p : Program} {l : Launch} {e : Env} {s : State} {m : MethodId} {below : List Frame} {meth : Method} {c : Code} {D : va_G} {cy : Nat → ClassId} {K : (Nat → Nat) × (Nat → Nat)} {ax am : Nat → Nat} {b L : Nat} {xs : Nat → Int32} (hL : L ≤ 3072) (C0 : lw_At p s m meth c b L xs) (hK : va_K D vwCl (zTy cy) s) (hE : zE K (fun q : Nat => s.heap.size ≤ q) s s.heap) (hDX : ∀ S, va_D (fun q : Nat => s.heap.size ≤ q) (zX cy ax S)) (hDM : ∀ S, va_D (fun q : Nat => s.heap.size ≤ q) (zM cy am S)) (hXM : ∀ i j, i < 142 → j < 18 → ax i ≠ am j) {Inv : zSt → zSt → Prop} (hst : zStep Inv) (i : Nat) (x3 y : Int32) (SX SM : zSt) (H : Heap) (locs : List Loc) (ls : Array Slot) (hgo : i + 6 ≤ L) (ex3 : x3 = nI i) (c_k : y = 15) (hI : Inv SX SM) (hPX : va_P D vwCl (zX cy ax SX) H) (hPM : va_P D vwCl (zM cy am SM) H) (hS : va_S (fun q : Nat => s.heap.size ≤ q) s.heap H locs) (hl : lv_has ls 4 [(0, .ref b), (1, .ref (ax 0)), (2, .ref (am 0)), (3, .int x3)])
    (hend : ∀ (X1 M1 : zSt) (H : Heap) (locs : List Loc) (ls : Array Slot), Inv X1 M1 → va_P D vwCl (zX cy ax X1) H → va_P D vwCl (zM cy am M1) H → va_S (fun q : Nat => s.heap.size ≤ q) s.heap H locs → lv_has ls 4 [(0, .ref b), (1, .ref (ax 0)), (2, .ref (am 0)), (3, .int x3)] → W p l e room_1 s m #[Value.ref b] below meth c H locs 160 13485 (lw_Z below #[Value.ref b] s) (F0 m 981 ls [])) : W p l e room_1 s m #[Value.ref b] below meth c H locs 160 13485 (lw_Z below #[Value.ref b] s) (F0 m 33 ls [.int y]) := by
  obtain ⟨hx, hb, hr, hml, hown, hts0, hX, hbl, hlocks, hgv⟩ := C0
  have hts : ∀ w ∈ (Cond.initialized RL :: zT), w.before #[Value.ref b] s = true := fun w h => (List.mem_cons.mp h).elim (fun q => q ▸ hts0 _ (List.mem_filter.mp wt_1_0).1) (fun q => hts0 w (List.mem_filter.mp q).1)
  have hA : ∀ q : Nat, s.heap.size ≤ q → (fun q : Nat => s.heap.size ≤ q) q := fun _ h => h
  have hbA : ¬ (fun q : Nat => s.heap.size ≤ q) b := Nat.not_le.mpr hbl
  have X0 : CallFix p m c cL_law 4 s #[Value.ref b] (Cond.initialized RL :: zT) RL := ⟨hx, hb, hml, hown, hts⟩
  subst c_k
  refine lv_tableIn (off := 552) (tgt := 585) hx hb dL_law_33 (by decide) (by decide) rfl (by decide) ?_
  refine lv_aload_n hx hb dL_law_585 rfl (lv_at hl 1 rfl) ?_
  refine lv_aload_n hx hb dL_law_586 rfl (lv_at hl 0 rfl) ?_
  refine lv_iload_n hx hb dL_law_587 rfl (lv_at hl 3 rfl) ?_
  refine lv_iconst (v := 1) hx hb dL_law_588 (by decide) ?_
  refine lv_iadd hx hb dL_law_589 ?_
  refine va_sld hx hb hX hbl hbA hS (by rw [ex3]; exact lw_ix hL hgo (k := 1) (by decide)) dL_law_590 ?_
  obtain ⟨rr, X1, M1, hfx, hfm, hI⟩ := hst.2.2.2.2.2.2.2.2.2.2.2.2.2.2.2.1 SX SM hI (xs (x3 + (1 : Int32)).toNatClampNeg)
  refine z_c2I (As := [.int (xs (x3 + (1 : Int32)).toNatClampNeg)]) (rest := []) X0 hK hE hDX hA hPX hPM hXM hS (cx_least l D K cy ax SX _ _ _ hfx) (cwV 1 hts (z_gV wt_4_170 wt_4_171 wt_4_172 wt_1_1 wt_4_173) rfl rfl rfl ⟨rfl, yd_yX11_least⟩ ⟨Nat.le_of_ble_eq_true rfl, Nat.le_of_ble_eq_true rfl⟩) (va_recv hK hPX (ci := 11) (q0 := 0) rfl (zX_0 cy ax SX)) hl.1 rfl rfl (Nat.le_of_ble_eq_true rfl) dL_law_591 ⟨Nat.le_of_ble_eq_true rfl, Nat.le_of_ble_eq_true rfl⟩ (fun H locs hPX hPM hS => ?_)
  refine lv_aload_n hx hb dL_law_594 rfl (lv_at hl 2 rfl) ?_
  refine lv_aload_n hx hb dL_law_595 rfl (lv_at hl 0 rfl) ?_
  refine lv_iload_n hx hb dL_law_596 rfl (lv_at hl 3 rfl) ?_
  refine lv_iconst (v := 1) hx hb dL_law_597 (by decide) ?_
  refine lv_iadd hx hb dL_law_598 ?_
  refine va_sld hx hb hX hbl hbA hS (by rw [ex3]; exact lw_ix hL hgo (k := 1) (by decide)) dL_law_599 ?_
  refine z_c2I (As := [.int (xs (x3 + (1 : Int32)).toNatClampNeg)]) (rest := [.int rr]) X0 hK hE hDM hA hPM hPX (fun i j h1 h2 h => hXM j i h2 h1 h.symm) hS (cm_least l D K cy am SM _ _ _ hfm) (cwV 1 hts (z_gV wt_6_206 wt_6_207 wt_6_208 wt_1_13 wt_6_209) rfl rfl rfl ⟨rfl, yd_yX12_least⟩ ⟨Nat.le_of_ble_eq_true rfl, Nat.le_of_ble_eq_true rfl⟩) (va_recv hK hPM (ci := 12) (q0 := 0) rfl (zM_0 cy am SM)) hl.1 rfl rfl (Nat.le_of_ble_eq_true rfl) dL_law_600 ⟨Nat.le_of_ble_eq_true rfl, Nat.le_of_ble_eq_true rfl⟩ (fun H locs hPM hPX hS => ?_)
  refine lv_icmp_eq (tgt := 981) hx hb dL_law_603 (by decide) (fun _ => ?_) (fun c9 => absurd rfl c9)
  exact hend X1 M1 _ _ _ hI hPX hPM hS hl
set_option maxHeartbeats 4000000 in
set_option maxRecDepth 100000 in
theorem law_case16 {p : Program} {l : Launch} {e : Env} {s : State} {m : MethodId} {below : List Frame} {meth : Method} {c : Code} {D : va_G} {cy : Nat → ClassId} {K : (Nat → Nat) × (Nat → Nat)} {ax am : Nat → Nat} {b L : Nat} {xs : Nat → Int32} (hL : L ≤ 3072) (C0 : lw_At p s m meth c b L xs) (hK : va_K D vwCl (zTy cy) s) (hE : zE K (fun q : Nat => s.heap.size ≤ q) s s.heap) (hDX : ∀ S, va_D (fun q : Nat => s.heap.size ≤ q) (zX cy ax S)) (hDM : ∀ S, va_D (fun q : Nat => s.heap.size ≤ q) (zM cy am S)) (hXM : ∀ i j, i < 142 → j < 18 → ax i ≠ am j) {Inv : zSt → zSt → Prop} (hst : zStep Inv) (i : Nat) (x3 y : Int32) (SX SM : zSt) (H : Heap) (locs : List Loc) (ls : Array Slot) (hgo : i + 6 ≤ L) (ex3 : x3 = nI i) (c_k : y = 16) (hI : Inv SX SM) (hPX : va_P D vwCl (zX cy ax SX) H) (hPM : va_P D vwCl (zM cy am SM) H) (hS : va_S (fun q : Nat => s.heap.size ≤ q) s.heap H locs) (hl : lv_has ls 4 [(0, .ref b), (1, .ref (ax 0)), (2, .ref (am 0)), (3, .int x3)])
    (hend : ∀ (X1 M1 : zSt) (H : Heap) (locs : List Loc) (ls : Array Slot), Inv X1 M1 → va_P D vwCl (zX cy ax X1) H → va_P D vwCl (zM cy am M1) H → va_S (fun q : Nat => s.heap.size ≤ q) s.heap H locs → lv_has ls 4 [(0, .ref b), (1, .ref (ax 0)), (2, .ref (am 0)), (3, .int x3)] → W p l e room_1 s m #[Value.ref b] below meth c H locs 160 13485 (lw_Z below #[Value.ref b] s) (F0 m 981 ls [])) : W p l e room_1 s m #[Value.ref b] below meth c H locs 160 13485 (lw_Z below #[Value.ref b] s) (F0 m 33 ls [.int y]) := by
  obtain ⟨hx, hb, hr, hml, hown, hts0, hX, hbl, hlocks, hgv⟩ := C0
  have hts : ∀ w ∈ (Cond.initialized RL :: zT), w.before #[Value.ref b] s = true := fun w h => (List.mem_cons.mp h).elim (fun q => q ▸ hts0 _ (List.mem_filter.mp wt_1_0).1) (fun q => hts0 w (List.mem_filter.mp q).1)
  have hA : ∀ q : Nat, s.heap.size ≤ q → (fun q : Nat => s.heap.size ≤ q) q := fun _ h => h
  have hbA : ¬ (fun q : Nat => s.heap.size ≤ q) b := Nat.not_le.mpr hbl
  have X0 : CallFix p m c cL_law 4 s #[Value.ref b] (Cond.initialized RL :: zT) RL := ⟨hx, hb, hml, hown, hts⟩
  subst c_k
  refine lv_tableIn (off := 575) (tgt := 608) hx hb dL_law_33 (by decide) (by decide) rfl (by decide) ?_
  refine lv_aload_n hx hb dL_law_608 rfl (lv_at hl 1 rfl) ?_
  refine lv_aload_n hx hb dL_law_609 rfl (lv_at hl 0 rfl) ?_
  refine lv_iload_n hx hb dL_law_610 rfl (lv_at hl 3 rfl) ?_
  refine lv_iconst (v := 1) hx hb dL_law_611 (by decide) ?_
  refine lv_iadd hx hb dL_law_612 ?_
  refine va_sld hx hb hX hbl hbA hS (by rw [ex3]; exact lw_ix hL hgo (k := 1) (by decide)) dL_law_613 ?_
  refine lv_aload_n hx hb dL_law_614 rfl (lv_at hl 0 rfl) ?_
  refine lv_iload_n hx hb dL_law_615 rfl (lv_at hl 3 rfl) ?_
  refine lv_iconst (v := 2) hx hb dL_law_616 (by decide) ?_
  refine lv_iadd hx hb dL_law_617 ?_
  refine va_sld hx hb hX hbl hbA hS (by rw [ex3]; exact lw_ix hL hgo (k := 2) (by decide)) dL_law_618 ?_
  obtain ⟨rr, X1, M1, hfx, hfm, hI⟩ := hst.2.2.2.2.2.2.2.2.2.2.2.2.2.2.2.2.1 SX SM hI (xs (x3 + (1 : Int32)).toNatClampNeg) (xs (x3 + (2 : Int32)).toNatClampNeg)
  refine z_c2I (As := [.int (xs (x3 + (1 : Int32)).toNatClampNeg), .int (xs (x3 + (2 : Int32)).toNatClampNeg)]) (rest := []) X0 hK hE hDX hA hPX hPM hXM hS (cx_leaven l D K cy ax SX _ _ _ _ hfx) (cwV 2 hts (z_gV wt_4_183 wt_4_184 wt_4_185 wt_1_1 wt_4_186) rfl rfl rfl ⟨rfl, yd_yX11_leaven⟩ ⟨Nat.le_of_ble_eq_true rfl, Nat.le_of_ble_eq_true rfl⟩) (va_recv hK hPX (ci := 11) (q0 := 0) rfl (zX_0 cy ax SX)) hl.1 rfl rfl (Nat.le_of_ble_eq_true rfl) dL_law_619 ⟨Nat.le_of_ble_eq_true rfl, Nat.le_of_ble_eq_true rfl⟩ (fun H locs hPX hPM hS => ?_)
  refine lv_aload_n hx hb dL_law_622 rfl (lv_at hl 2 rfl) ?_
  refine lv_aload_n hx hb dL_law_623 rfl (lv_at hl 0 rfl) ?_
  refine lv_iload_n hx hb dL_law_624 rfl (lv_at hl 3 rfl) ?_
  refine lv_iconst (v := 1) hx hb dL_law_625 (by decide) ?_
  refine lv_iadd hx hb dL_law_626 ?_
  refine va_sld hx hb hX hbl hbA hS (by rw [ex3]; exact lw_ix hL hgo (k := 1) (by decide)) dL_law_627 ?_
  refine lv_aload_n hx hb dL_law_628 rfl (lv_at hl 0 rfl) ?_
  refine lv_iload_n hx hb dL_law_629 rfl (lv_at hl 3 rfl) ?_
  refine lv_iconst (v := 2) hx hb dL_law_630 (by decide) ?_
  refine lv_iadd hx hb dL_law_631 ?_
  refine va_sld hx hb hX hbl hbA hS (by rw [ex3]; exact lw_ix hL hgo (k := 2) (by decide)) dL_law_632 ?_
  refine z_c2I (As := [.int (xs (x3 + (1 : Int32)).toNatClampNeg), .int (xs (x3 + (2 : Int32)).toNatClampNeg)]) (rest := [.int rr]) X0 hK hE hDM hA hPM hPX (fun i j h1 h2 h => hXM j i h2 h1 h.symm) hS (cm_leaven l D K cy am SM _ _ _ _ hfm) (cwV 2 hts (z_gV wt_6_218 wt_6_219 wt_6_220 wt_1_13 wt_6_221) rfl rfl rfl ⟨rfl, yd_yX12_leaven⟩ ⟨Nat.le_of_ble_eq_true rfl, Nat.le_of_ble_eq_true rfl⟩) (va_recv hK hPM (ci := 12) (q0 := 0) rfl (zM_0 cy am SM)) hl.1 rfl rfl (Nat.le_of_ble_eq_true rfl) dL_law_633 ⟨Nat.le_of_ble_eq_true rfl, Nat.le_of_ble_eq_true rfl⟩ (fun H locs hPM hPX hS => ?_)
  refine lv_icmp_eq (tgt := 981) hx hb dL_law_636 (by decide) (fun _ => ?_) (fun c9 => absurd rfl c9)
  exact hend X1 M1 _ _ _ hI hPX hPM hS hl
set_option maxHeartbeats 4000000 in
set_option maxRecDepth 100000 in
theorem law_case17 {p : Program} {l : Launch} {e : Env} {s : State} {m : MethodId} {below : List Frame} {meth : Method} {c : Code} {D : va_G} {cy : Nat → ClassId} {K : (Nat → Nat) × (Nat → Nat)} {ax am : Nat → Nat} {b L : Nat} {xs : Nat → Int32} (hL : L ≤ 3072) (C0 : lw_At p s m meth c b L xs) (hK : va_K D vwCl (zTy cy) s) (hE : zE K (fun q : Nat => s.heap.size ≤ q) s s.heap) (hDX : ∀ S, va_D (fun q : Nat => s.heap.size ≤ q) (zX cy ax S)) (hDM : ∀ S, va_D (fun q : Nat => s.heap.size ≤ q) (zM cy am S)) (hXM : ∀ i j, i < 142 → j < 18 → ax i ≠ am j) {Inv : zSt → zSt → Prop} (hst : zStep Inv) (i : Nat) (x3 y : Int32) (SX SM : zSt) (H : Heap) (locs : List Loc) (ls : Array Slot) (hgo : i + 6 ≤ L) (ex3 : x3 = nI i) (c_k : y = 17) (hI : Inv SX SM) (hPX : va_P D vwCl (zX cy ax SX) H) (hPM : va_P D vwCl (zM cy am SM) H) (hS : va_S (fun q : Nat => s.heap.size ≤ q) s.heap H locs) (hl : lv_has ls 4 [(0, .ref b), (1, .ref (ax 0)), (2, .ref (am 0)), (3, .int x3)])
    (hend : ∀ (X1 M1 : zSt) (H : Heap) (locs : List Loc) (ls : Array Slot), Inv X1 M1 → va_P D vwCl (zX cy ax X1) H → va_P D vwCl (zM cy am M1) H → va_S (fun q : Nat => s.heap.size ≤ q) s.heap H locs → lv_has ls 4 [(0, .ref b), (1, .ref (ax 0)), (2, .ref (am 0)), (3, .int x3)] → W p l e room_1 s m #[Value.ref b] below meth c H locs 160 13485 (lw_Z below #[Value.ref b] s) (F0 m 981 ls [])) : W p l e room_1 s m #[Value.ref b] below meth c H locs 160 13485 (lw_Z below #[Value.ref b] s) (F0 m 33 ls [.int y]) := by
  obtain ⟨hx, hb, hr, hml, hown, hts0, hX, hbl, hlocks, hgv⟩ := C0
  have hts : ∀ w ∈ (Cond.initialized RL :: zT), w.before #[Value.ref b] s = true := fun w h => (List.mem_cons.mp h).elim (fun q => q ▸ hts0 _ (List.mem_filter.mp wt_1_0).1) (fun q => hts0 w (List.mem_filter.mp q).1)
  have hA : ∀ q : Nat, s.heap.size ≤ q → (fun q : Nat => s.heap.size ≤ q) q := fun _ h => h
  have hbA : ¬ (fun q : Nat => s.heap.size ≤ q) b := Nat.not_le.mpr hbl
  have X0 : CallFix p m c cL_law 4 s #[Value.ref b] (Cond.initialized RL :: zT) RL := ⟨hx, hb, hml, hown, hts⟩
  subst c_k
  refine lv_tableIn (off := 608) (tgt := 641) hx hb dL_law_33 (by decide) (by decide) rfl (by decide) ?_
  refine lv_aload_n hx hb dL_law_641 rfl (lv_at hl 1 rfl) ?_
  refine lv_aload_n hx hb dL_law_642 rfl (lv_at hl 0 rfl) ?_
  refine lv_iload_n hx hb dL_law_643 rfl (lv_at hl 3 rfl) ?_
  refine lv_iconst (v := 1) hx hb dL_law_644 (by decide) ?_
  refine lv_iadd hx hb dL_law_645 ?_
  refine va_sld hx hb hX hbl hbA hS (by rw [ex3]; exact lw_ix hL hgo (k := 1) (by decide)) dL_law_646 ?_
  refine lv_aload_n hx hb dL_law_647 rfl (lv_at hl 0 rfl) ?_
  refine lv_iload_n hx hb dL_law_648 rfl (lv_at hl 3 rfl) ?_
  refine lv_iconst (v := 2) hx hb dL_law_649 (by decide) ?_
  refine lv_iadd hx hb dL_law_650 ?_
  refine va_sld hx hb hX hbl hbA hS (by rw [ex3]; exact lw_ix hL hgo (k := 2) (by decide)) dL_law_651 ?_
  refine lv_aload_n hx hb dL_law_652 rfl (lv_at hl 0 rfl) ?_
  refine lv_iload_n hx hb dL_law_653 rfl (lv_at hl 3 rfl) ?_
  refine lv_iconst (v := 3) hx hb dL_law_654 (by decide) ?_
  refine lv_iadd hx hb dL_law_655 ?_
  refine va_sld hx hb hX hbl hbA hS (by rw [ex3]; exact lw_ix hL hgo (k := 3) (by decide)) dL_law_656 ?_
  obtain ⟨rr, X1, M1, hfx, hfm, hI⟩ := hst.2.2.2.2.2.2.2.2.2.2.2.2.2.2.2.2.2.1 SX SM hI (xs (x3 + (1 : Int32)).toNatClampNeg) (xs (x3 + (2 : Int32)).toNatClampNeg) (xs (x3 + (3 : Int32)).toNatClampNeg)
  refine z_c2I (As := [.int (xs (x3 + (1 : Int32)).toNatClampNeg), .int (xs (x3 + (2 : Int32)).toNatClampNeg), .int (xs (x3 + (3 : Int32)).toNatClampNeg)]) (rest := []) X0 hK hE hDX hA hPX hPM hXM hS (cx_part l D K cy ax SX _ _ _ _ _ hfx) (cwV 3 hts (z_gV wt_4_204 wt_4_205 wt_4_206 wt_1_1 wt_4_207) rfl rfl rfl ⟨rfl, yd_yX11_part⟩ ⟨Nat.le_of_ble_eq_true rfl, Nat.le_of_ble_eq_true rfl⟩) (va_recv hK hPX (ci := 11) (q0 := 0) rfl (zX_0 cy ax SX)) hl.1 rfl rfl (Nat.le_of_ble_eq_true rfl) dL_law_657 ⟨Nat.le_of_ble_eq_true rfl, Nat.le_of_ble_eq_true rfl⟩ (fun H locs hPX hPM hS => ?_)
  refine lv_aload_n hx hb dL_law_660 rfl (lv_at hl 2 rfl) ?_
  refine lv_aload_n hx hb dL_law_661 rfl (lv_at hl 0 rfl) ?_
  refine lv_iload_n hx hb dL_law_662 rfl (lv_at hl 3 rfl) ?_
  refine lv_iconst (v := 1) hx hb dL_law_663 (by decide) ?_
  refine lv_iadd hx hb dL_law_664 ?_
  refine va_sld hx hb hX hbl hbA hS (by rw [ex3]; exact lw_ix hL hgo (k := 1) (by decide)) dL_law_665 ?_
  refine lv_aload_n hx hb dL_law_666 rfl (lv_at hl 0 rfl) ?_
  refine lv_iload_n hx hb dL_law_667 rfl (lv_at hl 3 rfl) ?_
  refine lv_iconst (v := 2) hx hb dL_law_668 (by decide) ?_
  refine lv_iadd hx hb dL_law_669 ?_
  refine va_sld hx hb hX hbl hbA hS (by rw [ex3]; exact lw_ix hL hgo (k := 2) (by decide)) dL_law_670 ?_
  refine lv_aload_n hx hb dL_law_671 rfl (lv_at hl 0 rfl) ?_
  refine lv_iload_n hx hb dL_law_672 rfl (lv_at hl 3 rfl) ?_
  refine lv_iconst (v := 3) hx hb dL_law_673 (by decide) ?_
  refine lv_iadd hx hb dL_law_674 ?_
  refine va_sld hx hb hX hbl hbA hS (by rw [ex3]; exact lw_ix hL hgo (k := 3) (by decide)) dL_law_675 ?_
  refine z_c2I (As := [.int (xs (x3 + (1 : Int32)).toNatClampNeg), .int (xs (x3 + (2 : Int32)).toNatClampNeg), .int (xs (x3 + (3 : Int32)).toNatClampNeg)]) (rest := [.int rr]) X0 hK hE hDM hA hPM hPX (fun i j h1 h2 h => hXM j i h2 h1 h.symm) hS (cm_part l D K cy am SM _ _ _ _ _ hfm) (cwV 3 hts (z_gV wt_6_230 wt_6_231 wt_6_232 wt_1_13 wt_6_233) rfl rfl rfl ⟨rfl, yd_yX12_part⟩ ⟨Nat.le_of_ble_eq_true rfl, Nat.le_of_ble_eq_true rfl⟩) (va_recv hK hPM (ci := 12) (q0 := 0) rfl (zM_0 cy am SM)) hl.1 rfl rfl (Nat.le_of_ble_eq_true rfl) dL_law_676 ⟨Nat.le_of_ble_eq_true rfl, Nat.le_of_ble_eq_true rfl⟩ (fun H locs hPM hPX hS => ?_)
  refine lv_icmp_eq (tgt := 981) hx hb dL_law_679 (by decide) (fun _ => ?_) (fun c9 => absurd rfl c9)
  exact hend X1 M1 _ _ _ hI hPX hPM hS hl
set_option maxHeartbeats 4000000 in
set_option maxRecDepth 100000 in
theorem law_case18 {p : Program} {l : Launch} {e : Env} {s : State} {m : MethodId} {below : List Frame} {meth : Method} {c : Code} {D : va_G} {cy : Nat → ClassId} {K : (Nat → Nat) × (Nat → Nat)} {ax am : Nat → Nat} {b L : Nat} {xs : Nat → Int32} (hL : L ≤ 3072) (C0 : lw_At p s m meth c b L xs) (hK : va_K D vwCl (zTy cy) s) (hE : zE K (fun q : Nat => s.heap.size ≤ q) s s.heap) (hDX : ∀ S, va_D (fun q : Nat => s.heap.size ≤ q) (zX cy ax S)) (hDM : ∀ S, va_D (fun q : Nat => s.heap.size ≤ q) (zM cy am S)) (hXM : ∀ i j, i < 142 → j < 18 → ax i ≠ am j) {Inv : zSt → zSt → Prop} (hst : zStep Inv) (i : Nat) (x3 y : Int32) (SX SM : zSt) (H : Heap) (locs : List Loc) (ls : Array Slot) (hgo : i + 6 ≤ L) (ex3 : x3 = nI i) (c_k : y = 18) (hI : Inv SX SM) (hPX : va_P D vwCl (zX cy ax SX) H) (hPM : va_P D vwCl (zM cy am SM) H) (hS : va_S (fun q : Nat => s.heap.size ≤ q) s.heap H locs) (hl : lv_has ls 4 [(0, .ref b), (1, .ref (ax 0)), (2, .ref (am 0)), (3, .int x3)])
    (hend : ∀ (X1 M1 : zSt) (H : Heap) (locs : List Loc) (ls : Array Slot), Inv X1 M1 → va_P D vwCl (zX cy ax X1) H → va_P D vwCl (zM cy am M1) H → va_S (fun q : Nat => s.heap.size ≤ q) s.heap H locs → lv_has ls 4 [(0, .ref b), (1, .ref (ax 0)), (2, .ref (am 0)), (3, .int x3)] → W p l e room_1 s m #[Value.ref b] below meth c H locs 160 13485 (lw_Z below #[Value.ref b] s) (F0 m 981 ls [])) : W p l e room_1 s m #[Value.ref b] below meth c H locs 160 13485 (lw_Z below #[Value.ref b] s) (F0 m 33 ls [.int y]) := by
  obtain ⟨hx, hb, hr, hml, hown, hts0, hX, hbl, hlocks, hgv⟩ := C0
  have hts : ∀ w ∈ (Cond.initialized RL :: zT), w.before #[Value.ref b] s = true := fun w h => (List.mem_cons.mp h).elim (fun q => q ▸ hts0 _ (List.mem_filter.mp wt_1_0).1) (fun q => hts0 w (List.mem_filter.mp q).1)
  have hA : ∀ q : Nat, s.heap.size ≤ q → (fun q : Nat => s.heap.size ≤ q) q := fun _ h => h
  have hbA : ¬ (fun q : Nat => s.heap.size ≤ q) b := Nat.not_le.mpr hbl
  have X0 : CallFix p m c cL_law 4 s #[Value.ref b] (Cond.initialized RL :: zT) RL := ⟨hx, hb, hml, hown, hts⟩
  subst c_k
  refine lv_tableIn (off := 651) (tgt := 684) hx hb dL_law_33 (by decide) (by decide) rfl (by decide) ?_
  refine lv_aload_n hx hb dL_law_684 rfl (lv_at hl 1 rfl) ?_
  refine lv_aload_n hx hb dL_law_685 rfl (lv_at hl 0 rfl) ?_
  refine lv_iload_n hx hb dL_law_686 rfl (lv_at hl 3 rfl) ?_
  refine lv_iconst (v := 1) hx hb dL_law_687 (by decide) ?_
  refine lv_iadd hx hb dL_law_688 ?_
  refine va_sld hx hb hX hbl hbA hS (by rw [ex3]; exact lw_ix hL hgo (k := 1) (by decide)) dL_law_689 ?_
  refine lv_aload_n hx hb dL_law_690 rfl (lv_at hl 0 rfl) ?_
  refine lv_iload_n hx hb dL_law_691 rfl (lv_at hl 3 rfl) ?_
  refine lv_iconst (v := 2) hx hb dL_law_692 (by decide) ?_
  refine lv_iadd hx hb dL_law_693 ?_
  refine va_sld hx hb hX hbl hbA hS (by rw [ex3]; exact lw_ix hL hgo (k := 2) (by decide)) dL_law_694 ?_
  obtain ⟨rr, X1, M1, hfx, hfm, hI⟩ := hst.2.2.2.2.2.2.2.2.2.2.2.2.2.2.2.2.2.2.1 SX SM hI (xs (x3 + (1 : Int32)).toNatClampNeg) (xs (x3 + (2 : Int32)).toNatClampNeg)
  refine z_c2I (As := [.int (xs (x3 + (1 : Int32)).toNatClampNeg), .int (xs (x3 + (2 : Int32)).toNatClampNeg)]) (rest := []) X0 hK hE hDX hA hPX hPM hXM hS (cx_lent l D K cy ax SX _ _ _ _ hfx) (cwV 2 hts (z_gV wt_4_223 wt_4_224 wt_4_225 wt_1_1 wt_4_226) rfl rfl rfl ⟨rfl, yd_yX11_lent⟩ ⟨Nat.le_of_ble_eq_true rfl, Nat.le_of_ble_eq_true rfl⟩) (va_recv hK hPX (ci := 11) (q0 := 0) rfl (zX_0 cy ax SX)) hl.1 rfl rfl (Nat.le_of_ble_eq_true rfl) dL_law_695 ⟨Nat.le_of_ble_eq_true rfl, Nat.le_of_ble_eq_true rfl⟩ (fun H locs hPX hPM hS => ?_)
  refine lv_aload_n hx hb dL_law_698 rfl (lv_at hl 2 rfl) ?_
  refine lv_aload_n hx hb dL_law_699 rfl (lv_at hl 0 rfl) ?_
  refine lv_iload_n hx hb dL_law_700 rfl (lv_at hl 3 rfl) ?_
  refine lv_iconst (v := 1) hx hb dL_law_701 (by decide) ?_
  refine lv_iadd hx hb dL_law_702 ?_
  refine va_sld hx hb hX hbl hbA hS (by rw [ex3]; exact lw_ix hL hgo (k := 1) (by decide)) dL_law_703 ?_
  refine lv_aload_n hx hb dL_law_704 rfl (lv_at hl 0 rfl) ?_
  refine lv_iload_n hx hb dL_law_705 rfl (lv_at hl 3 rfl) ?_
  refine lv_iconst (v := 2) hx hb dL_law_706 (by decide) ?_
  refine lv_iadd hx hb dL_law_707 ?_
  refine va_sld hx hb hX hbl hbA hS (by rw [ex3]; exact lw_ix hL hgo (k := 2) (by decide)) dL_law_708 ?_
  refine z_c2I (As := [.int (xs (x3 + (1 : Int32)).toNatClampNeg), .int (xs (x3 + (2 : Int32)).toNatClampNeg)]) (rest := [.int rr]) X0 hK hE hDM hA hPM hPX (fun i j h1 h2 h => hXM j i h2 h1 h.symm) hS (cm_lent l D K cy am SM _ _ _ _ hfm) (cwV 2 hts (z_gV wt_7_7 wt_7_8 wt_7_9 wt_1_13 wt_7_10) rfl rfl rfl ⟨rfl, yd_yX12_lent⟩ ⟨Nat.le_of_ble_eq_true rfl, Nat.le_of_ble_eq_true rfl⟩) (va_recv hK hPM (ci := 12) (q0 := 0) rfl (zM_0 cy am SM)) hl.1 rfl rfl (Nat.le_of_ble_eq_true rfl) dL_law_709 ⟨Nat.le_of_ble_eq_true rfl, Nat.le_of_ble_eq_true rfl⟩ (fun H locs hPM hPX hS => ?_)
  refine lv_icmp_eq (tgt := 981) hx hb dL_law_712 (by decide) (fun _ => ?_) (fun c9 => absurd rfl c9)
  exact hend X1 M1 _ _ _ hI hPX hPM hS hl
set_option maxHeartbeats 4000000 in
set_option maxRecDepth 100000 in
theorem law_case19 {p : Program} {l : Launch} {e : Env} {s : State} {m : MethodId} {below : List Frame} {meth : Method} {c : Code} {D : va_G} {cy : Nat → ClassId} {K : (Nat → Nat) × (Nat → Nat)} {ax am : Nat → Nat} {b L : Nat} {xs : Nat → Int32} (hL : L ≤ 3072) (C0 : lw_At p s m meth c b L xs) (hK : va_K D vwCl (zTy cy) s) (hE : zE K (fun q : Nat => s.heap.size ≤ q) s s.heap) (hDX : ∀ S, va_D (fun q : Nat => s.heap.size ≤ q) (zX cy ax S)) (hDM : ∀ S, va_D (fun q : Nat => s.heap.size ≤ q) (zM cy am S)) (hXM : ∀ i j, i < 142 → j < 18 → ax i ≠ am j) {Inv : zSt → zSt → Prop} (hst : zStep Inv) (i : Nat) (x3 y : Int32) (SX SM : zSt) (H : Heap) (locs : List Loc) (ls : Array Slot) (hgo : i + 6 ≤ L) (ex3 : x3 = nI i) (c_k : y = 19) (hI : Inv SX SM) (hPX : va_P D vwCl (zX cy ax SX) H) (hPM : va_P D vwCl (zM cy am SM) H) (hS : va_S (fun q : Nat => s.heap.size ≤ q) s.heap H locs) (hl : lv_has ls 4 [(0, .ref b), (1, .ref (ax 0)), (2, .ref (am 0)), (3, .int x3)])
    (hend : ∀ (X1 M1 : zSt) (H : Heap) (locs : List Loc) (ls : Array Slot), Inv X1 M1 → va_P D vwCl (zX cy ax X1) H → va_P D vwCl (zM cy am M1) H → va_S (fun q : Nat => s.heap.size ≤ q) s.heap H locs → lv_has ls 4 [(0, .ref b), (1, .ref (ax 0)), (2, .ref (am 0)), (3, .int x3)] → W p l e room_1 s m #[Value.ref b] below meth c H locs 160 13485 (lw_Z below #[Value.ref b] s) (F0 m 981 ls [])) : W p l e room_1 s m #[Value.ref b] below meth c H locs 160 13485 (lw_Z below #[Value.ref b] s) (F0 m 33 ls [.int y]) := by
  obtain ⟨hx, hb, hr, hml, hown, hts0, hX, hbl, hlocks, hgv⟩ := C0
  have hts : ∀ w ∈ (Cond.initialized RL :: zT), w.before #[Value.ref b] s = true := fun w h => (List.mem_cons.mp h).elim (fun q => q ▸ hts0 _ (List.mem_filter.mp wt_1_0).1) (fun q => hts0 w (List.mem_filter.mp q).1)
  have hA : ∀ q : Nat, s.heap.size ≤ q → (fun q : Nat => s.heap.size ≤ q) q := fun _ h => h
  have hbA : ¬ (fun q : Nat => s.heap.size ≤ q) b := Nat.not_le.mpr hbl
  have X0 : CallFix p m c cL_law 4 s #[Value.ref b] (Cond.initialized RL :: zT) RL := ⟨hx, hb, hml, hown, hts⟩
  subst c_k
  refine lv_tableIn (off := 684) (tgt := 717) hx hb dL_law_33 (by decide) (by decide) rfl (by decide) ?_
  refine lv_aload_n hx hb dL_law_717 rfl (lv_at hl 1 rfl) ?_
  refine lv_aload_n hx hb dL_law_718 rfl (lv_at hl 0 rfl) ?_
  refine lv_iload_n hx hb dL_law_719 rfl (lv_at hl 3 rfl) ?_
  refine lv_iconst (v := 1) hx hb dL_law_720 (by decide) ?_
  refine lv_iadd hx hb dL_law_721 ?_
  refine va_sld hx hb hX hbl hbA hS (by rw [ex3]; exact lw_ix hL hgo (k := 1) (by decide)) dL_law_722 ?_
  refine lv_aload_n hx hb dL_law_723 rfl (lv_at hl 0 rfl) ?_
  refine lv_iload_n hx hb dL_law_724 rfl (lv_at hl 3 rfl) ?_
  refine lv_iconst (v := 2) hx hb dL_law_725 (by decide) ?_
  refine lv_iadd hx hb dL_law_726 ?_
  refine va_sld hx hb hX hbl hbA hS (by rw [ex3]; exact lw_ix hL hgo (k := 2) (by decide)) dL_law_727 ?_
  obtain ⟨rr, X1, M1, hfx, hfm, hI⟩ := hst.2.2.2.2.2.2.2.2.2.2.2.2.2.2.2.2.2.2.2.1 SX SM hI (xs (x3 + (1 : Int32)).toNatClampNeg) (xs (x3 + (2 : Int32)).toNatClampNeg)
  refine z_c2I (As := [.int (xs (x3 + (1 : Int32)).toNatClampNeg), .int (xs (x3 + (2 : Int32)).toNatClampNeg)]) (rest := []) X0 hK hE hDX hA hPX hPM hXM hS (cx_led l D K cy ax SX _ _ _ _ hfx) (cwV 2 hts (z_gV wt_5_1 wt_5_2 wt_5_3 wt_1_1 wt_5_4) rfl rfl rfl ⟨rfl, yd_yX11_led⟩ ⟨Nat.le_of_ble_eq_true rfl, Nat.le_of_ble_eq_true rfl⟩) (va_recv hK hPX (ci := 11) (q0 := 0) rfl (zX_0 cy ax SX)) hl.1 rfl rfl (Nat.le_of_ble_eq_true rfl) dL_law_728 ⟨Nat.le_of_ble_eq_true rfl, Nat.le_of_ble_eq_true rfl⟩ (fun H locs hPX hPM hS => ?_)
  refine lv_aload_n hx hb dL_law_731 rfl (lv_at hl 2 rfl) ?_
  refine lv_aload_n hx hb dL_law_732 rfl (lv_at hl 0 rfl) ?_
  refine lv_iload_n hx hb dL_law_733 rfl (lv_at hl 3 rfl) ?_
  refine lv_iconst (v := 1) hx hb dL_law_734 (by decide) ?_
  refine lv_iadd hx hb dL_law_735 ?_
  refine va_sld hx hb hX hbl hbA hS (by rw [ex3]; exact lw_ix hL hgo (k := 1) (by decide)) dL_law_736 ?_
  refine lv_aload_n hx hb dL_law_737 rfl (lv_at hl 0 rfl) ?_
  refine lv_iload_n hx hb dL_law_738 rfl (lv_at hl 3 rfl) ?_
  refine lv_iconst (v := 2) hx hb dL_law_739 (by decide) ?_
  refine lv_iadd hx hb dL_law_740 ?_
  refine va_sld hx hb hX hbl hbA hS (by rw [ex3]; exact lw_ix hL hgo (k := 2) (by decide)) dL_law_741 ?_
  refine z_c2I (As := [.int (xs (x3 + (1 : Int32)).toNatClampNeg), .int (xs (x3 + (2 : Int32)).toNatClampNeg)]) (rest := [.int rr]) X0 hK hE hDM hA hPM hPX (fun i j h1 h2 h => hXM j i h2 h1 h.symm) hS (cm_led l D K cy am SM _ _ _ _ hfm) (cwV 2 hts (z_gV wt_6_239 wt_7_0 wt_7_1 wt_1_13 wt_7_2) rfl rfl rfl ⟨rfl, yd_yX12_led⟩ ⟨Nat.le_of_ble_eq_true rfl, Nat.le_of_ble_eq_true rfl⟩) (va_recv hK hPM (ci := 12) (q0 := 0) rfl (zM_0 cy am SM)) hl.1 rfl rfl (Nat.le_of_ble_eq_true rfl) dL_law_742 ⟨Nat.le_of_ble_eq_true rfl, Nat.le_of_ble_eq_true rfl⟩ (fun H locs hPM hPX hS => ?_)
  refine lv_icmp_eq (tgt := 981) hx hb dL_law_745 (by decide) (fun _ => ?_) (fun c9 => absurd rfl c9)
  exact hend X1 M1 _ _ _ hI hPX hPM hS hl
set_option maxHeartbeats 4000000 in
set_option maxRecDepth 100000 in
theorem law_case20 {p : Program} {l : Launch} {e : Env} {s : State} {m : MethodId} {below : List Frame} {meth : Method} {c : Code} {D : va_G} {cy : Nat → ClassId} {K : (Nat → Nat) × (Nat → Nat)} {ax am : Nat → Nat} {b L : Nat} {xs : Nat → Int32} (hL : L ≤ 3072) (C0 : lw_At p s m meth c b L xs) (hK : va_K D vwCl (zTy cy) s) (hE : zE K (fun q : Nat => s.heap.size ≤ q) s s.heap) (hDX : ∀ S, va_D (fun q : Nat => s.heap.size ≤ q) (zX cy ax S)) (hDM : ∀ S, va_D (fun q : Nat => s.heap.size ≤ q) (zM cy am S)) (hXM : ∀ i j, i < 142 → j < 18 → ax i ≠ am j) {Inv : zSt → zSt → Prop} (hst : zStep Inv) (i : Nat) (x3 y : Int32) (SX SM : zSt) (H : Heap) (locs : List Loc) (ls : Array Slot) (hgo : i + 6 ≤ L) (ex3 : x3 = nI i) (c_k : y = 20) (hI : Inv SX SM) (hPX : va_P D vwCl (zX cy ax SX) H) (hPM : va_P D vwCl (zM cy am SM) H) (hS : va_S (fun q : Nat => s.heap.size ≤ q) s.heap H locs) (hl : lv_has ls 4 [(0, .ref b), (1, .ref (ax 0)), (2, .ref (am 0)), (3, .int x3)])
    (hend : ∀ (X1 M1 : zSt) (H : Heap) (locs : List Loc) (ls : Array Slot), Inv X1 M1 → va_P D vwCl (zX cy ax X1) H → va_P D vwCl (zM cy am M1) H → va_S (fun q : Nat => s.heap.size ≤ q) s.heap H locs → lv_has ls 4 [(0, .ref b), (1, .ref (ax 0)), (2, .ref (am 0)), (3, .int x3)] → W p l e room_1 s m #[Value.ref b] below meth c H locs 160 13485 (lw_Z below #[Value.ref b] s) (F0 m 981 ls [])) : W p l e room_1 s m #[Value.ref b] below meth c H locs 160 13485 (lw_Z below #[Value.ref b] s) (F0 m 33 ls [.int y]) := by
  obtain ⟨hx, hb, hr, hml, hown, hts0, hX, hbl, hlocks, hgv⟩ := C0
  have hts : ∀ w ∈ (Cond.initialized RL :: zT), w.before #[Value.ref b] s = true := fun w h => (List.mem_cons.mp h).elim (fun q => q ▸ hts0 _ (List.mem_filter.mp wt_1_0).1) (fun q => hts0 w (List.mem_filter.mp q).1)
  have hA : ∀ q : Nat, s.heap.size ≤ q → (fun q : Nat => s.heap.size ≤ q) q := fun _ h => h
  have hbA : ¬ (fun q : Nat => s.heap.size ≤ q) b := Nat.not_le.mpr hbl
  have X0 : CallFix p m c cL_law 4 s #[Value.ref b] (Cond.initialized RL :: zT) RL := ⟨hx, hb, hml, hown, hts⟩
  subst c_k
  refine lv_tableIn (off := 717) (tgt := 750) hx hb dL_law_33 (by decide) (by decide) rfl (by decide) ?_
  refine lv_aload_n hx hb dL_law_750 rfl (lv_at hl 1 rfl) ?_
  refine lv_aload_n hx hb dL_law_751 rfl (lv_at hl 0 rfl) ?_
  refine lv_iload_n hx hb dL_law_752 rfl (lv_at hl 3 rfl) ?_
  refine lv_iconst (v := 1) hx hb dL_law_753 (by decide) ?_
  refine lv_iadd hx hb dL_law_754 ?_
  refine va_sld hx hb hX hbl hbA hS (by rw [ex3]; exact lw_ix hL hgo (k := 1) (by decide)) dL_law_755 ?_
  refine lv_aload_n hx hb dL_law_756 rfl (lv_at hl 0 rfl) ?_
  refine lv_iload_n hx hb dL_law_757 rfl (lv_at hl 3 rfl) ?_
  refine lv_iconst (v := 2) hx hb dL_law_758 (by decide) ?_
  refine lv_iadd hx hb dL_law_759 ?_
  refine va_sld hx hb hX hbl hbA hS (by rw [ex3]; exact lw_ix hL hgo (k := 2) (by decide)) dL_law_760 ?_
  refine lv_aload_n hx hb dL_law_761 rfl (lv_at hl 0 rfl) ?_
  refine lv_iload_n hx hb dL_law_762 rfl (lv_at hl 3 rfl) ?_
  refine lv_iconst (v := 3) hx hb dL_law_763 (by decide) ?_
  refine lv_iadd hx hb dL_law_764 ?_
  refine va_sld hx hb hX hbl hbA hS (by rw [ex3]; exact lw_ix hL hgo (k := 3) (by decide)) dL_law_765 ?_
  obtain ⟨rr, X1, M1, hfx, hfm, hI⟩ := hst.2.2.2.2.2.2.2.2.2.2.2.2.2.2.2.2.2.2.2.2.1 SX SM hI (xs (x3 + (1 : Int32)).toNatClampNeg) (xs (x3 + (2 : Int32)).toNatClampNeg) (xs (x3 + (3 : Int32)).toNatClampNeg)
  refine z_c2I (As := [.int (xs (x3 + (1 : Int32)).toNatClampNeg), .int (xs (x3 + (2 : Int32)).toNatClampNeg), .int (xs (x3 + (3 : Int32)).toNatClampNeg)]) (rest := []) X0 hK hE hDX hA hPX hPM hXM hS (cx_rise l D K cy ax SX _ _ _ _ _ hfx) (cwV 3 hts (z_gV wt_5_6 wt_5_7 wt_5_8 wt_1_1 wt_5_9) rfl rfl rfl ⟨rfl, yd_yX11_rise⟩ ⟨Nat.le_of_ble_eq_true rfl, Nat.le_of_ble_eq_true rfl⟩) (va_recv hK hPX (ci := 11) (q0 := 0) rfl (zX_0 cy ax SX)) hl.1 rfl rfl (Nat.le_of_ble_eq_true rfl) dL_law_766 ⟨Nat.le_of_ble_eq_true rfl, Nat.le_of_ble_eq_true rfl⟩ (fun H locs hPX hPM hS => ?_)
  refine lv_aload_n hx hb dL_law_769 rfl (lv_at hl 2 rfl) ?_
  refine lv_aload_n hx hb dL_law_770 rfl (lv_at hl 0 rfl) ?_
  refine lv_iload_n hx hb dL_law_771 rfl (lv_at hl 3 rfl) ?_
  refine lv_iconst (v := 1) hx hb dL_law_772 (by decide) ?_
  refine lv_iadd hx hb dL_law_773 ?_
  refine va_sld hx hb hX hbl hbA hS (by rw [ex3]; exact lw_ix hL hgo (k := 1) (by decide)) dL_law_774 ?_
  refine lv_aload_n hx hb dL_law_775 rfl (lv_at hl 0 rfl) ?_
  refine lv_iload_n hx hb dL_law_776 rfl (lv_at hl 3 rfl) ?_
  refine lv_iconst (v := 2) hx hb dL_law_777 (by decide) ?_
  refine lv_iadd hx hb dL_law_778 ?_
  refine va_sld hx hb hX hbl hbA hS (by rw [ex3]; exact lw_ix hL hgo (k := 2) (by decide)) dL_law_779 ?_
  refine lv_aload_n hx hb dL_law_780 rfl (lv_at hl 0 rfl) ?_
  refine lv_iload_n hx hb dL_law_781 rfl (lv_at hl 3 rfl) ?_
  refine lv_iconst (v := 3) hx hb dL_law_782 (by decide) ?_
  refine lv_iadd hx hb dL_law_783 ?_
  refine va_sld hx hb hX hbl hbA hS (by rw [ex3]; exact lw_ix hL hgo (k := 3) (by decide)) dL_law_784 ?_
  refine z_c2I (As := [.int (xs (x3 + (1 : Int32)).toNatClampNeg), .int (xs (x3 + (2 : Int32)).toNatClampNeg), .int (xs (x3 + (3 : Int32)).toNatClampNeg)]) (rest := [.int rr]) X0 hK hE hDM hA hPM hPX (fun i j h1 h2 h => hXM j i h2 h1 h.symm) hS (cm_rise l D K cy am SM _ _ _ _ _ hfm) (cwV 3 hts (z_gV wt_7_11 wt_7_12 wt_7_13 wt_1_13 wt_7_14) rfl rfl rfl ⟨rfl, yd_yX12_rise⟩ ⟨Nat.le_of_ble_eq_true rfl, Nat.le_of_ble_eq_true rfl⟩) (va_recv hK hPM (ci := 12) (q0 := 0) rfl (zM_0 cy am SM)) hl.1 rfl rfl (Nat.le_of_ble_eq_true rfl) dL_law_785 ⟨Nat.le_of_ble_eq_true rfl, Nat.le_of_ble_eq_true rfl⟩ (fun H locs hPM hPX hS => ?_)
  refine lv_icmp_eq (tgt := 981) hx hb dL_law_788 (by decide) (fun _ => ?_) (fun c9 => absurd rfl c9)
  exact hend X1 M1 _ _ _ hI hPX hPM hS hl
set_option maxHeartbeats 4000000 in
set_option maxRecDepth 100000 in
theorem law_case21 {p : Program} {l : Launch} {e : Env} {s : State} {m : MethodId} {below : List Frame} {meth : Method} {c : Code} {D : va_G} {cy : Nat → ClassId} {K : (Nat → Nat) × (Nat → Nat)} {ax am : Nat → Nat} {b L : Nat} {xs : Nat → Int32} (hL : L ≤ 3072) (C0 : lw_At p s m meth c b L xs) (hK : va_K D vwCl (zTy cy) s) (hE : zE K (fun q : Nat => s.heap.size ≤ q) s s.heap) (hDX : ∀ S, va_D (fun q : Nat => s.heap.size ≤ q) (zX cy ax S)) (hDM : ∀ S, va_D (fun q : Nat => s.heap.size ≤ q) (zM cy am S)) (hXM : ∀ i j, i < 142 → j < 18 → ax i ≠ am j) {Inv : zSt → zSt → Prop} (hst : zStep Inv) (i : Nat) (x3 y : Int32) (SX SM : zSt) (H : Heap) (locs : List Loc) (ls : Array Slot) (hgo : i + 6 ≤ L) (ex3 : x3 = nI i) (c_k : y = 21) (hI : Inv SX SM) (hPX : va_P D vwCl (zX cy ax SX) H) (hPM : va_P D vwCl (zM cy am SM) H) (hS : va_S (fun q : Nat => s.heap.size ≤ q) s.heap H locs) (hl : lv_has ls 4 [(0, .ref b), (1, .ref (ax 0)), (2, .ref (am 0)), (3, .int x3)])
    (hend : ∀ (X1 M1 : zSt) (H : Heap) (locs : List Loc) (ls : Array Slot), Inv X1 M1 → va_P D vwCl (zX cy ax X1) H → va_P D vwCl (zM cy am M1) H → va_S (fun q : Nat => s.heap.size ≤ q) s.heap H locs → lv_has ls 4 [(0, .ref b), (1, .ref (ax 0)), (2, .ref (am 0)), (3, .int x3)] → W p l e room_1 s m #[Value.ref b] below meth c H locs 160 13485 (lw_Z below #[Value.ref b] s) (F0 m 981 ls [])) : W p l e room_1 s m #[Value.ref b] below meth c H locs 160 13485 (lw_Z below #[Value.ref b] s) (F0 m 33 ls [.int y]) := by
  obtain ⟨hx, hb, hr, hml, hown, hts0, hX, hbl, hlocks, hgv⟩ := C0
  have hts : ∀ w ∈ (Cond.initialized RL :: zT), w.before #[Value.ref b] s = true := fun w h => (List.mem_cons.mp h).elim (fun q => q ▸ hts0 _ (List.mem_filter.mp wt_1_0).1) (fun q => hts0 w (List.mem_filter.mp q).1)
  have hA : ∀ q : Nat, s.heap.size ≤ q → (fun q : Nat => s.heap.size ≤ q) q := fun _ h => h
  have hbA : ¬ (fun q : Nat => s.heap.size ≤ q) b := Nat.not_le.mpr hbl
  have X0 : CallFix p m c cL_law 4 s #[Value.ref b] (Cond.initialized RL :: zT) RL := ⟨hx, hb, hml, hown, hts⟩
  subst c_k
  refine lv_tableIn (off := 760) (tgt := 793) hx hb dL_law_33 (by decide) (by decide) rfl (by decide) ?_
  refine lv_aload_n hx hb dL_law_793 rfl (lv_at hl 1 rfl) ?_
  refine lv_aload_n hx hb dL_law_794 rfl (lv_at hl 0 rfl) ?_
  refine lv_iload_n hx hb dL_law_795 rfl (lv_at hl 3 rfl) ?_
  refine lv_iconst (v := 1) hx hb dL_law_796 (by decide) ?_
  refine lv_iadd hx hb dL_law_797 ?_
  refine va_sld hx hb hX hbl hbA hS (by rw [ex3]; exact lw_ix hL hgo (k := 1) (by decide)) dL_law_798 ?_
  refine lv_aload_n hx hb dL_law_799 rfl (lv_at hl 0 rfl) ?_
  refine lv_iload_n hx hb dL_law_800 rfl (lv_at hl 3 rfl) ?_
  refine lv_iconst (v := 2) hx hb dL_law_801 (by decide) ?_
  refine lv_iadd hx hb dL_law_802 ?_
  refine va_sld hx hb hX hbl hbA hS (by rw [ex3]; exact lw_ix hL hgo (k := 2) (by decide)) dL_law_803 ?_
  obtain ⟨rr, X1, M1, hfx, hfm, hI⟩ := hst.2.2.2.2.2.2.2.2.2.2.2.2.2.2.2.2.2.2.2.2.2.1 SX SM hI (xs (x3 + (1 : Int32)).toNatClampNeg) (xs (x3 + (2 : Int32)).toNatClampNeg)
  refine z_c2L (As := [.int (xs (x3 + (1 : Int32)).toNatClampNeg), .int (xs (x3 + (2 : Int32)).toNatClampNeg)]) (rest := []) X0 hK hE hDX hA hPX hPM hXM hS (cx_odds l D K cy ax SX _ _ _ _ hfx) (cwV 2 hts (z_gV wt_5_10 wt_5_11 wt_5_12 wt_1_1 wt_5_13) rfl rfl rfl ⟨rfl, yd_yX11_odds⟩ ⟨Nat.le_of_ble_eq_true rfl, Nat.le_of_ble_eq_true rfl⟩) (va_recv hK hPX (ci := 11) (q0 := 0) rfl (zX_0 cy ax SX)) hl.1 rfl rfl (Nat.le_of_ble_eq_true rfl) dL_law_804 ⟨Nat.le_of_ble_eq_true rfl, Nat.le_of_ble_eq_true rfl⟩ (fun H locs hPX hPM hS => ?_)
  refine lv_aload_n hx hb dL_law_807 rfl (lv_at hl 2 rfl) ?_
  refine lv_aload_n hx hb dL_law_808 rfl (lv_at hl 0 rfl) ?_
  refine lv_iload_n hx hb dL_law_809 rfl (lv_at hl 3 rfl) ?_
  refine lv_iconst (v := 1) hx hb dL_law_810 (by decide) ?_
  refine lv_iadd hx hb dL_law_811 ?_
  refine va_sld hx hb hX hbl hbA hS (by rw [ex3]; exact lw_ix hL hgo (k := 1) (by decide)) dL_law_812 ?_
  refine lv_aload_n hx hb dL_law_813 rfl (lv_at hl 0 rfl) ?_
  refine lv_iload_n hx hb dL_law_814 rfl (lv_at hl 3 rfl) ?_
  refine lv_iconst (v := 2) hx hb dL_law_815 (by decide) ?_
  refine lv_iadd hx hb dL_law_816 ?_
  refine va_sld hx hb hX hbl hbA hS (by rw [ex3]; exact lw_ix hL hgo (k := 2) (by decide)) dL_law_817 ?_
  refine z_c2L (As := [.int (xs (x3 + (1 : Int32)).toNatClampNeg), .int (xs (x3 + (2 : Int32)).toNatClampNeg)]) (rest := [.long rr]) X0 hK hE hDM hA hPM hPX (fun i j h1 h2 h => hXM j i h2 h1 h.symm) hS (cm_odds l D K cy am SM _ _ _ _ hfm) (cwV 2 hts (z_gV wt_7_15 wt_7_16 wt_7_17 wt_1_13 wt_7_18) rfl rfl rfl ⟨rfl, yd_yX12_odds⟩ ⟨Nat.le_of_ble_eq_true rfl, Nat.le_of_ble_eq_true rfl⟩) (va_recv hK hPM (ci := 12) (q0 := 0) rfl (zM_0 cy am SM)) hl.1 rfl rfl (Nat.le_of_ble_eq_true rfl) dL_law_818 ⟨Nat.le_of_ble_eq_true rfl, Nat.le_of_ble_eq_true rfl⟩ (fun H locs hPM hPX hS => ?_)
  refine W.lcmp hx hb dL_law_821 ?_
  refine lv_if_eq (tgt := 981) hx hb dL_law_822 (by decide) (fun _ => ?_) (fun c9 => absurd (lg_self _) c9)
  exact hend X1 M1 _ _ _ hI hPX hPM hS hl
set_option maxHeartbeats 4000000 in
set_option maxRecDepth 100000 in
theorem law_case22 {p : Program} {l : Launch} {e : Env} {s : State} {m : MethodId} {below : List Frame} {meth : Method} {c : Code} {D : va_G} {cy : Nat → ClassId} {K : (Nat → Nat) × (Nat → Nat)} {ax am : Nat → Nat} {b L : Nat} {xs : Nat → Int32} (hL : L ≤ 3072) (C0 : lw_At p s m meth c b L xs) (hK : va_K D vwCl (zTy cy) s) (hE : zE K (fun q : Nat => s.heap.size ≤ q) s s.heap) (hDX : ∀ S, va_D (fun q : Nat => s.heap.size ≤ q) (zX cy ax S)) (hDM : ∀ S, va_D (fun q : Nat => s.heap.size ≤ q) (zM cy am S)) (hXM : ∀ i j, i < 142 → j < 18 → ax i ≠ am j) {Inv : zSt → zSt → Prop} (hst : zStep Inv) (i : Nat) (x3 y : Int32) (SX SM : zSt) (H : Heap) (locs : List Loc) (ls : Array Slot) (hgo : i + 6 ≤ L) (ex3 : x3 = nI i) (c_k : y = 22) (hI : Inv SX SM) (hPX : va_P D vwCl (zX cy ax SX) H) (hPM : va_P D vwCl (zM cy am SM) H) (hS : va_S (fun q : Nat => s.heap.size ≤ q) s.heap H locs) (hl : lv_has ls 4 [(0, .ref b), (1, .ref (ax 0)), (2, .ref (am 0)), (3, .int x3)])
    (hend : ∀ (X1 M1 : zSt) (H : Heap) (locs : List Loc) (ls : Array Slot), Inv X1 M1 → va_P D vwCl (zX cy ax X1) H → va_P D vwCl (zM cy am M1) H → va_S (fun q : Nat => s.heap.size ≤ q) s.heap H locs → lv_has ls 4 [(0, .ref b), (1, .ref (ax 0)), (2, .ref (am 0)), (3, .int x3)] → W p l e room_1 s m #[Value.ref b] below meth c H locs 160 13485 (lw_Z below #[Value.ref b] s) (F0 m 981 ls [])) : W p l e room_1 s m #[Value.ref b] below meth c H locs 160 13485 (lw_Z below #[Value.ref b] s) (F0 m 33 ls [.int y]) := by
  obtain ⟨hx, hb, hr, hml, hown, hts0, hX, hbl, hlocks, hgv⟩ := C0
  have hts : ∀ w ∈ (Cond.initialized RL :: zT), w.before #[Value.ref b] s = true := fun w h => (List.mem_cons.mp h).elim (fun q => q ▸ hts0 _ (List.mem_filter.mp wt_1_0).1) (fun q => hts0 w (List.mem_filter.mp q).1)
  have hA : ∀ q : Nat, s.heap.size ≤ q → (fun q : Nat => s.heap.size ≤ q) q := fun _ h => h
  have hbA : ¬ (fun q : Nat => s.heap.size ≤ q) b := Nat.not_le.mpr hbl
  have X0 : CallFix p m c cL_law 4 s #[Value.ref b] (Cond.initialized RL :: zT) RL := ⟨hx, hb, hml, hown, hts⟩
  subst c_k
  refine lv_tableIn (off := 794) (tgt := 827) hx hb dL_law_33 (by decide) (by decide) rfl (by decide) ?_
  refine lv_aload_n hx hb dL_law_827 rfl (lv_at hl 1 rfl) ?_
  refine lv_aload_n hx hb dL_law_828 rfl (lv_at hl 0 rfl) ?_
  refine lv_iload_n hx hb dL_law_829 rfl (lv_at hl 3 rfl) ?_
  refine lv_iconst (v := 1) hx hb dL_law_830 (by decide) ?_
  refine lv_iadd hx hb dL_law_831 ?_
  refine va_sld hx hb hX hbl hbA hS (by rw [ex3]; exact lw_ix hL hgo (k := 1) (by decide)) dL_law_832 ?_
  obtain ⟨rr, X1, M1, hfx, hfm, hI⟩ := hst.2.2.2.2.2.2.2.2.2.2.2.2.2.2.2.2.2.2.2.2.2.2.1 SX SM hI (xs (x3 + (1 : Int32)).toNatClampNeg)
  refine z_c2I (As := [.int (xs (x3 + (1 : Int32)).toNatClampNeg)]) (rest := []) X0 hK hE hDX hA hPX hPM hXM hS (cx_whose l D K cy ax SX _ _ _ hfx) (cwV 1 hts (z_gV wt_5_29 wt_5_30 wt_5_31 wt_1_1 wt_5_32) rfl rfl rfl ⟨rfl, yd_yX11_whose⟩ ⟨Nat.le_of_ble_eq_true rfl, Nat.le_of_ble_eq_true rfl⟩) (va_recv hK hPX (ci := 11) (q0 := 0) rfl (zX_0 cy ax SX)) hl.1 rfl rfl (Nat.le_of_ble_eq_true rfl) dL_law_833 ⟨Nat.le_of_ble_eq_true rfl, Nat.le_of_ble_eq_true rfl⟩ (fun H locs hPX hPM hS => ?_)
  refine lv_aload_n hx hb dL_law_836 rfl (lv_at hl 2 rfl) ?_
  refine lv_aload_n hx hb dL_law_837 rfl (lv_at hl 0 rfl) ?_
  refine lv_iload_n hx hb dL_law_838 rfl (lv_at hl 3 rfl) ?_
  refine lv_iconst (v := 1) hx hb dL_law_839 (by decide) ?_
  refine lv_iadd hx hb dL_law_840 ?_
  refine va_sld hx hb hX hbl hbA hS (by rw [ex3]; exact lw_ix hL hgo (k := 1) (by decide)) dL_law_841 ?_
  refine z_c2I (As := [.int (xs (x3 + (1 : Int32)).toNatClampNeg)]) (rest := [.int rr]) X0 hK hE hDM hA hPM hPX (fun i j h1 h2 h => hXM j i h2 h1 h.symm) hS (cm_whose l D K cy am SM _ _ _ hfm) (cwV 1 hts (z_gV wt_7_24 wt_7_25 wt_7_26 wt_1_13 wt_7_27) rfl rfl rfl ⟨rfl, yd_yX12_whose⟩ ⟨Nat.le_of_ble_eq_true rfl, Nat.le_of_ble_eq_true rfl⟩) (va_recv hK hPM (ci := 12) (q0 := 0) rfl (zM_0 cy am SM)) hl.1 rfl rfl (Nat.le_of_ble_eq_true rfl) dL_law_842 ⟨Nat.le_of_ble_eq_true rfl, Nat.le_of_ble_eq_true rfl⟩ (fun H locs hPM hPX hS => ?_)
  refine lv_icmp_eq (tgt := 981) hx hb dL_law_845 (by decide) (fun _ => ?_) (fun c9 => absurd rfl c9)
  exact hend X1 M1 _ _ _ hI hPX hPM hS hl
set_option maxHeartbeats 4000000 in
set_option maxRecDepth 100000 in
theorem law_case23 {p : Program} {l : Launch} {e : Env} {s : State} {m : MethodId} {below : List Frame} {meth : Method} {c : Code} {D : va_G} {cy : Nat → ClassId} {K : (Nat → Nat) × (Nat → Nat)} {ax am : Nat → Nat} {b L : Nat} {xs : Nat → Int32} (hL : L ≤ 3072) (C0 : lw_At p s m meth c b L xs) (hK : va_K D vwCl (zTy cy) s) (hE : zE K (fun q : Nat => s.heap.size ≤ q) s s.heap) (hDX : ∀ S, va_D (fun q : Nat => s.heap.size ≤ q) (zX cy ax S)) (hDM : ∀ S, va_D (fun q : Nat => s.heap.size ≤ q) (zM cy am S)) (hXM : ∀ i j, i < 142 → j < 18 → ax i ≠ am j) {Inv : zSt → zSt → Prop} (hst : zStep Inv) (i : Nat) (x3 y : Int32) (SX SM : zSt) (H : Heap) (locs : List Loc) (ls : Array Slot) (hgo : i + 6 ≤ L) (ex3 : x3 = nI i) (c_k : y = 23) (hI : Inv SX SM) (hPX : va_P D vwCl (zX cy ax SX) H) (hPM : va_P D vwCl (zM cy am SM) H) (hS : va_S (fun q : Nat => s.heap.size ≤ q) s.heap H locs) (hl : lv_has ls 4 [(0, .ref b), (1, .ref (ax 0)), (2, .ref (am 0)), (3, .int x3)])
    (hend : ∀ (X1 M1 : zSt) (H : Heap) (locs : List Loc) (ls : Array Slot), Inv X1 M1 → va_P D vwCl (zX cy ax X1) H → va_P D vwCl (zM cy am M1) H → va_S (fun q : Nat => s.heap.size ≤ q) s.heap H locs → lv_has ls 4 [(0, .ref b), (1, .ref (ax 0)), (2, .ref (am 0)), (3, .int x3)] → W p l e room_1 s m #[Value.ref b] below meth c H locs 160 13485 (lw_Z below #[Value.ref b] s) (F0 m 981 ls [])) : W p l e room_1 s m #[Value.ref b] below meth c H locs 160 13485 (lw_Z below #[Value.ref b] s) (F0 m 33 ls [.int y]) := by
  obtain ⟨hx, hb, hr, hml, hown, hts0, hX, hbl, hlocks, hgv⟩ := C0
  have hts : ∀ w ∈ (Cond.initialized RL :: zT), w.before #[Value.ref b] s = true := fun w h => (List.mem_cons.mp h).elim (fun q => q ▸ hts0 _ (List.mem_filter.mp wt_1_0).1) (fun q => hts0 w (List.mem_filter.mp q).1)
  have hA : ∀ q : Nat, s.heap.size ≤ q → (fun q : Nat => s.heap.size ≤ q) q := fun _ h => h
  have hbA : ¬ (fun q : Nat => s.heap.size ≤ q) b := Nat.not_le.mpr hbl
  have X0 : CallFix p m c cL_law 4 s #[Value.ref b] (Cond.initialized RL :: zT) RL := ⟨hx, hb, hml, hown, hts⟩
  subst c_k
  refine lv_tableIn (off := 817) (tgt := 850) hx hb dL_law_33 (by decide) (by decide) rfl (by decide) ?_
  refine lv_aload_n hx hb dL_law_850 rfl (lv_at hl 1 rfl) ?_
  refine lv_aload_n hx hb dL_law_851 rfl (lv_at hl 0 rfl) ?_
  refine lv_iload_n hx hb dL_law_852 rfl (lv_at hl 3 rfl) ?_
  refine lv_iconst (v := 1) hx hb dL_law_853 (by decide) ?_
  refine lv_iadd hx hb dL_law_854 ?_
  refine va_sld hx hb hX hbl hbA hS (by rw [ex3]; exact lw_ix hL hgo (k := 1) (by decide)) dL_law_855 ?_
  refine lv_aload_n hx hb dL_law_856 rfl (lv_at hl 0 rfl) ?_
  refine lv_iload_n hx hb dL_law_857 rfl (lv_at hl 3 rfl) ?_
  refine lv_iconst (v := 2) hx hb dL_law_858 (by decide) ?_
  refine lv_iadd hx hb dL_law_859 ?_
  refine va_sld hx hb hX hbl hbA hS (by rw [ex3]; exact lw_ix hL hgo (k := 2) (by decide)) dL_law_860 ?_
  refine lv_aload_n hx hb dL_law_861 rfl (lv_at hl 0 rfl) ?_
  refine lv_iload_n hx hb dL_law_862 rfl (lv_at hl 3 rfl) ?_
  refine lv_iconst (v := 3) hx hb dL_law_863 (by decide) ?_
  refine lv_iadd hx hb dL_law_864 ?_
  refine va_sld hx hb hX hbl hbA hS (by rw [ex3]; exact lw_ix hL hgo (k := 3) (by decide)) dL_law_865 ?_
  obtain ⟨rr, X1, M1, hfx, hfm, hI⟩ := hst.2.2.2.2.2.2.2.2.2.2.2.2.2.2.2.2.2.2.2.2.2.2.2.1 SX SM hI (xs (x3 + (1 : Int32)).toNatClampNeg) (xs (x3 + (2 : Int32)).toNatClampNeg) (xs (x3 + (3 : Int32)).toNatClampNeg)
  refine z_c2I (As := [.int (xs (x3 + (1 : Int32)).toNatClampNeg), .int (xs (x3 + (2 : Int32)).toNatClampNeg), .int (xs (x3 + (3 : Int32)).toNatClampNeg)]) (rest := []) X0 hK hE hDX hA hPX hPM hXM hS (cx_owe l D K cy ax SX _ _ _ _ _ hfx) (cwV 3 hts (z_gV wt_5_42 wt_5_43 wt_5_44 wt_1_1 wt_5_45) rfl rfl rfl ⟨rfl, yd_yX11_owe⟩ ⟨Nat.le_of_ble_eq_true rfl, Nat.le_of_ble_eq_true rfl⟩) (va_recv hK hPX (ci := 11) (q0 := 0) rfl (zX_0 cy ax SX)) hl.1 rfl rfl (Nat.le_of_ble_eq_true rfl) dL_law_866 ⟨Nat.le_of_ble_eq_true rfl, Nat.le_of_ble_eq_true rfl⟩ (fun H locs hPX hPM hS => ?_)
  refine lv_aload_n hx hb dL_law_869 rfl (lv_at hl 2 rfl) ?_
  refine lv_aload_n hx hb dL_law_870 rfl (lv_at hl 0 rfl) ?_
  refine lv_iload_n hx hb dL_law_871 rfl (lv_at hl 3 rfl) ?_
  refine lv_iconst (v := 1) hx hb dL_law_872 (by decide) ?_
  refine lv_iadd hx hb dL_law_873 ?_
  refine va_sld hx hb hX hbl hbA hS (by rw [ex3]; exact lw_ix hL hgo (k := 1) (by decide)) dL_law_874 ?_
  refine lv_aload_n hx hb dL_law_875 rfl (lv_at hl 0 rfl) ?_
  refine lv_iload_n hx hb dL_law_876 rfl (lv_at hl 3 rfl) ?_
  refine lv_iconst (v := 2) hx hb dL_law_877 (by decide) ?_
  refine lv_iadd hx hb dL_law_878 ?_
  refine va_sld hx hb hX hbl hbA hS (by rw [ex3]; exact lw_ix hL hgo (k := 2) (by decide)) dL_law_879 ?_
  refine lv_aload_n hx hb dL_law_880 rfl (lv_at hl 0 rfl) ?_
  refine lv_iload_n hx hb dL_law_881 rfl (lv_at hl 3 rfl) ?_
  refine lv_iconst (v := 3) hx hb dL_law_882 (by decide) ?_
  refine lv_iadd hx hb dL_law_883 ?_
  refine va_sld hx hb hX hbl hbA hS (by rw [ex3]; exact lw_ix hL hgo (k := 3) (by decide)) dL_law_884 ?_
  refine z_c2I (As := [.int (xs (x3 + (1 : Int32)).toNatClampNeg), .int (xs (x3 + (2 : Int32)).toNatClampNeg), .int (xs (x3 + (3 : Int32)).toNatClampNeg)]) (rest := [.int rr]) X0 hK hE hDM hA hPM hPX (fun i j h1 h2 h => hXM j i h2 h1 h.symm) hS (cm_owe l D K cy am SM _ _ _ _ _ hfm) (cwV 3 hts (z_gV wt_7_28 wt_7_29 wt_7_30 wt_1_13 wt_7_31) rfl rfl rfl ⟨rfl, yd_yX12_owe⟩ ⟨Nat.le_of_ble_eq_true rfl, Nat.le_of_ble_eq_true rfl⟩) (va_recv hK hPM (ci := 12) (q0 := 0) rfl (zM_0 cy am SM)) hl.1 rfl rfl (Nat.le_of_ble_eq_true rfl) dL_law_885 ⟨Nat.le_of_ble_eq_true rfl, Nat.le_of_ble_eq_true rfl⟩ (fun H locs hPM hPX hS => ?_)
  refine lv_icmp_eq (tgt := 981) hx hb dL_law_888 (by decide) (fun _ => ?_) (fun c9 => absurd rfl c9)
  exact hend X1 M1 _ _ _ hI hPX hPM hS hl
set_option maxHeartbeats 4000000 in
set_option maxRecDepth 100000 in
theorem law_case24 {p : Program} {l : Launch} {e : Env} {s : State} {m : MethodId} {below : List Frame} {meth : Method} {c : Code} {D : va_G} {cy : Nat → ClassId} {K : (Nat → Nat) × (Nat → Nat)} {ax am : Nat → Nat} {b L : Nat} {xs : Nat → Int32} (hL : L ≤ 3072) (C0 : lw_At p s m meth c b L xs) (hK : va_K D vwCl (zTy cy) s) (hE : zE K (fun q : Nat => s.heap.size ≤ q) s s.heap) (hDX : ∀ S, va_D (fun q : Nat => s.heap.size ≤ q) (zX cy ax S)) (hDM : ∀ S, va_D (fun q : Nat => s.heap.size ≤ q) (zM cy am S)) (hXM : ∀ i j, i < 142 → j < 18 → ax i ≠ am j) {Inv : zSt → zSt → Prop} (hst : zStep Inv) (i : Nat) (x3 y : Int32) (SX SM : zSt) (H : Heap) (locs : List Loc) (ls : Array Slot) (hgo : i + 6 ≤ L) (ex3 : x3 = nI i) (c_k : y = 24) (hI : Inv SX SM) (hPX : va_P D vwCl (zX cy ax SX) H) (hPM : va_P D vwCl (zM cy am SM) H) (hS : va_S (fun q : Nat => s.heap.size ≤ q) s.heap H locs) (hl : lv_has ls 4 [(0, .ref b), (1, .ref (ax 0)), (2, .ref (am 0)), (3, .int x3)])
    (hend : ∀ (X1 M1 : zSt) (H : Heap) (locs : List Loc) (ls : Array Slot), Inv X1 M1 → va_P D vwCl (zX cy ax X1) H → va_P D vwCl (zM cy am M1) H → va_S (fun q : Nat => s.heap.size ≤ q) s.heap H locs → lv_has ls 4 [(0, .ref b), (1, .ref (ax 0)), (2, .ref (am 0)), (3, .int x3)] → W p l e room_1 s m #[Value.ref b] below meth c H locs 160 13485 (lw_Z below #[Value.ref b] s) (F0 m 981 ls [])) : W p l e room_1 s m #[Value.ref b] below meth c H locs 160 13485 (lw_Z below #[Value.ref b] s) (F0 m 33 ls [.int y]) := by
  obtain ⟨hx, hb, hr, hml, hown, hts0, hX, hbl, hlocks, hgv⟩ := C0
  have hts : ∀ w ∈ (Cond.initialized RL :: zT), w.before #[Value.ref b] s = true := fun w h => (List.mem_cons.mp h).elim (fun q => q ▸ hts0 _ (List.mem_filter.mp wt_1_0).1) (fun q => hts0 w (List.mem_filter.mp q).1)
  have hA : ∀ q : Nat, s.heap.size ≤ q → (fun q : Nat => s.heap.size ≤ q) q := fun _ h => h
  have hbA : ¬ (fun q : Nat => s.heap.size ≤ q) b := Nat.not_le.mpr hbl
  have X0 : CallFix p m c cL_law 4 s #[Value.ref b] (Cond.initialized RL :: zT) RL := ⟨hx, hb, hml, hown, hts⟩
  subst c_k
  refine lv_tableIn (off := 860) (tgt := 893) hx hb dL_law_33 (by decide) (by decide) rfl (by decide) ?_
  refine lv_aload_n hx hb dL_law_893 rfl (lv_at hl 1 rfl) ?_
  obtain ⟨rr, X1, M1, hfx, hfm, hI⟩ := hst.2.2.2.2.2.2.2.2.2.2.2.2.2.2.2.2.2.2.2.2.2.2.2.2.1 SX SM hI
  refine z_c2I (As := []) (rest := []) X0 hK hE hDX hA hPX hPM hXM hS (cx_payments l D K cy ax SX _ _ hfx) (cwV 0 hts (z_gV wt_5_47 wt_5_48 wt_5_49 wt_1_1 wt_5_50) rfl rfl rfl ⟨rfl, yd_yX11_payments⟩ ⟨Nat.le_of_ble_eq_true rfl, Nat.le_of_ble_eq_true rfl⟩) (va_recv hK hPX (ci := 11) (q0 := 0) rfl (zX_0 cy ax SX)) hl.1 rfl rfl (Nat.le_of_ble_eq_true rfl) dL_law_894 ⟨Nat.le_of_ble_eq_true rfl, Nat.le_of_ble_eq_true rfl⟩ (fun H locs hPX hPM hS => ?_)
  refine lv_aload_n hx hb dL_law_897 rfl (lv_at hl 2 rfl) ?_
  refine z_c2I (As := []) (rest := [.int rr]) X0 hK hE hDM hA hPM hPX (fun i j h1 h2 h => hXM j i h2 h1 h.symm) hS (cm_payments l D K cy am SM _ _ hfm) (cwV 0 hts (z_gV wt_7_33 wt_7_34 wt_7_35 wt_1_13 wt_7_36) rfl rfl rfl ⟨rfl, yd_yX12_payments⟩ ⟨Nat.le_of_ble_eq_true rfl, Nat.le_of_ble_eq_true rfl⟩) (va_recv hK hPM (ci := 12) (q0 := 0) rfl (zM_0 cy am SM)) hl.1 rfl rfl (Nat.le_of_ble_eq_true rfl) dL_law_898 ⟨Nat.le_of_ble_eq_true rfl, Nat.le_of_ble_eq_true rfl⟩ (fun H locs hPM hPX hS => ?_)
  refine lv_icmp_eq (tgt := 981) hx hb dL_law_901 (by decide) (fun _ => ?_) (fun c9 => absurd rfl c9)
  exact hend X1 M1 _ _ _ hI hPX hPM hS hl
set_option maxHeartbeats 4000000 in
set_option maxRecDepth 100000 in
theorem law_case25 {p : Program} {l : Launch} {e : Env} {s : State} {m : MethodId} {below : List Frame} {meth : Method} {c : Code} {D : va_G} {cy : Nat → ClassId} {K : (Nat → Nat) × (Nat → Nat)} {ax am : Nat → Nat} {b L : Nat} {xs : Nat → Int32} (hL : L ≤ 3072) (C0 : lw_At p s m meth c b L xs) (hK : va_K D vwCl (zTy cy) s) (hE : zE K (fun q : Nat => s.heap.size ≤ q) s s.heap) (hDX : ∀ S, va_D (fun q : Nat => s.heap.size ≤ q) (zX cy ax S)) (hDM : ∀ S, va_D (fun q : Nat => s.heap.size ≤ q) (zM cy am S)) (hXM : ∀ i j, i < 142 → j < 18 → ax i ≠ am j) {Inv : zSt → zSt → Prop} (hst : zStep Inv) (i : Nat) (x3 y : Int32) (SX SM : zSt) (H : Heap) (locs : List Loc) (ls : Array Slot) (hgo : i + 6 ≤ L) (ex3 : x3 = nI i) (c_k : y = 25) (hI : Inv SX SM) (hPX : va_P D vwCl (zX cy ax SX) H) (hPM : va_P D vwCl (zM cy am SM) H) (hS : va_S (fun q : Nat => s.heap.size ≤ q) s.heap H locs) (hl : lv_has ls 4 [(0, .ref b), (1, .ref (ax 0)), (2, .ref (am 0)), (3, .int x3)])
    (hend : ∀ (X1 M1 : zSt) (H : Heap) (locs : List Loc) (ls : Array Slot), Inv X1 M1 → va_P D vwCl (zX cy ax X1) H → va_P D vwCl (zM cy am M1) H → va_S (fun q : Nat => s.heap.size ≤ q) s.heap H locs → lv_has ls 4 [(0, .ref b), (1, .ref (ax 0)), (2, .ref (am 0)), (3, .int x3)] → W p l e room_1 s m #[Value.ref b] below meth c H locs 160 13485 (lw_Z below #[Value.ref b] s) (F0 m 981 ls [])) : W p l e room_1 s m #[Value.ref b] below meth c H locs 160 13485 (lw_Z below #[Value.ref b] s) (F0 m 33 ls [.int y]) := by
  obtain ⟨hx, hb, hr, hml, hown, hts0, hX, hbl, hlocks, hgv⟩ := C0
  have hts : ∀ w ∈ (Cond.initialized RL :: zT), w.before #[Value.ref b] s = true := fun w h => (List.mem_cons.mp h).elim (fun q => q ▸ hts0 _ (List.mem_filter.mp wt_1_0).1) (fun q => hts0 w (List.mem_filter.mp q).1)
  have hA : ∀ q : Nat, s.heap.size ≤ q → (fun q : Nat => s.heap.size ≤ q) q := fun _ h => h
  have hbA : ¬ (fun q : Nat => s.heap.size ≤ q) b := Nat.not_le.mpr hbl
  have X0 : CallFix p m c cL_law 4 s #[Value.ref b] (Cond.initialized RL :: zT) RL := ⟨hx, hb, hml, hown, hts⟩
  subst c_k
  refine lv_tableIn (off := 873) (tgt := 906) hx hb dL_law_33 (by decide) (by decide) rfl (by decide) ?_
  refine lv_aload_n hx hb dL_law_906 rfl (lv_at hl 1 rfl) ?_
  obtain ⟨rr, X1, M1, hfx, hfm, hI⟩ := hst.2.2.2.2.2.2.2.2.2.2.2.2.2.2.2.2.2.2.2.2.2.2.2.2.2.1 SX SM hI
  refine z_c2I (As := []) (rest := []) X0 hK hE hDX hA hPX hPM hXM hS (cx_undo l D K cy ax SX _ _ hfx) (cwV 0 hts (z_gV wt_5_56 wt_5_57 wt_5_58 wt_1_1 wt_5_59) rfl rfl rfl ⟨rfl, yd_yX11_undo⟩ ⟨Nat.le_of_ble_eq_true rfl, Nat.le_of_ble_eq_true rfl⟩) (va_recv hK hPX (ci := 11) (q0 := 0) rfl (zX_0 cy ax SX)) hl.1 rfl rfl (Nat.le_of_ble_eq_true rfl) dL_law_907 ⟨Nat.le_of_ble_eq_true rfl, Nat.le_of_ble_eq_true rfl⟩ (fun H locs hPX hPM hS => ?_)
  refine lv_aload_n hx hb dL_law_910 rfl (lv_at hl 2 rfl) ?_
  refine z_c2I (As := []) (rest := [.int rr]) X0 hK hE hDM hA hPM hPX (fun i j h1 h2 h => hXM j i h2 h1 h.symm) hS (cm_undo l D K cy am SM _ _ hfm) (cwV 0 hts (z_gV wt_6_157 wt_6_158 wt_6_159 wt_1_13 wt_6_160) rfl rfl rfl ⟨rfl, yd_yX12_undo⟩ ⟨Nat.le_of_ble_eq_true rfl, Nat.le_of_ble_eq_true rfl⟩) (va_recv hK hPM (ci := 12) (q0 := 0) rfl (zM_0 cy am SM)) hl.1 rfl rfl (Nat.le_of_ble_eq_true rfl) dL_law_911 ⟨Nat.le_of_ble_eq_true rfl, Nat.le_of_ble_eq_true rfl⟩ (fun H locs hPM hPX hS => ?_)
  refine lv_icmp_eq (tgt := 981) hx hb dL_law_914 (by decide) (fun _ => ?_) (fun c9 => absurd rfl c9)
  exact hend X1 M1 _ _ _ hI hPX hPM hS hl
set_option maxHeartbeats 4000000 in
set_option maxRecDepth 100000 in
theorem law_case26 {p : Program} {l : Launch} {e : Env} {s : State} {m : MethodId} {below : List Frame} {meth : Method} {c : Code} {D : va_G} {cy : Nat → ClassId} {K : (Nat → Nat) × (Nat → Nat)} {ax am : Nat → Nat} {b L : Nat} {xs : Nat → Int32} (hL : L ≤ 3072) (C0 : lw_At p s m meth c b L xs) (hK : va_K D vwCl (zTy cy) s) (hE : zE K (fun q : Nat => s.heap.size ≤ q) s s.heap) (hDX : ∀ S, va_D (fun q : Nat => s.heap.size ≤ q) (zX cy ax S)) (hDM : ∀ S, va_D (fun q : Nat => s.heap.size ≤ q) (zM cy am S)) (hXM : ∀ i j, i < 142 → j < 18 → ax i ≠ am j) {Inv : zSt → zSt → Prop} (hst : zStep Inv) (i : Nat) (x3 y : Int32) (SX SM : zSt) (H : Heap) (locs : List Loc) (ls : Array Slot) (hgo : i + 6 ≤ L) (ex3 : x3 = nI i) (c_k : y = 26) (hI : Inv SX SM) (hPX : va_P D vwCl (zX cy ax SX) H) (hPM : va_P D vwCl (zM cy am SM) H) (hS : va_S (fun q : Nat => s.heap.size ≤ q) s.heap H locs) (hl : lv_has ls 4 [(0, .ref b), (1, .ref (ax 0)), (2, .ref (am 0)), (3, .int x3)])
    (hend : ∀ (X1 M1 : zSt) (H : Heap) (locs : List Loc) (ls : Array Slot), Inv X1 M1 → va_P D vwCl (zX cy ax X1) H → va_P D vwCl (zM cy am M1) H → va_S (fun q : Nat => s.heap.size ≤ q) s.heap H locs → lv_has ls 4 [(0, .ref b), (1, .ref (ax 0)), (2, .ref (am 0)), (3, .int x3)] → W p l e room_1 s m #[Value.ref b] below meth c H locs 160 13485 (lw_Z below #[Value.ref b] s) (F0 m 981 ls [])) : W p l e room_1 s m #[Value.ref b] below meth c H locs 160 13485 (lw_Z below #[Value.ref b] s) (F0 m 33 ls [.int y]) := by
  obtain ⟨hx, hb, hr, hml, hown, hts0, hX, hbl, hlocks, hgv⟩ := C0
  have hts : ∀ w ∈ (Cond.initialized RL :: zT), w.before #[Value.ref b] s = true := fun w h => (List.mem_cons.mp h).elim (fun q => q ▸ hts0 _ (List.mem_filter.mp wt_1_0).1) (fun q => hts0 w (List.mem_filter.mp q).1)
  have hA : ∀ q : Nat, s.heap.size ≤ q → (fun q : Nat => s.heap.size ≤ q) q := fun _ h => h
  have hbA : ¬ (fun q : Nat => s.heap.size ≤ q) b := Nat.not_le.mpr hbl
  have X0 : CallFix p m c cL_law 4 s #[Value.ref b] (Cond.initialized RL :: zT) RL := ⟨hx, hb, hml, hown, hts⟩
  subst c_k
  refine lv_tableIn (off := 886) (tgt := 919) hx hb dL_law_33 (by decide) (by decide) rfl (by decide) ?_
  refine lv_aload_n hx hb dL_law_919 rfl (lv_at hl 1 rfl) ?_
  refine lv_aload_n hx hb dL_law_920 rfl (lv_at hl 0 rfl) ?_
  refine lv_iload_n hx hb dL_law_921 rfl (lv_at hl 3 rfl) ?_
  refine lv_iconst (v := 1) hx hb dL_law_922 (by decide) ?_
  refine lv_iadd hx hb dL_law_923 ?_
  refine va_sld hx hb hX hbl hbA hS (by rw [ex3]; exact lw_ix hL hgo (k := 1) (by decide)) dL_law_924 ?_
  refine lv_if_eq (tgt := 932) hx hb dL_law_925 (by decide) (fun c_1 => ?_) (fun c_1 => ?_)
  · skip
    refine lv_iconst (v := 0) hx hb dL_law_932 (by decide) ?_
    obtain ⟨rr, X1, M1, hfx, hfm, hI⟩ := hst.2.2.2.2.2.2.2.2.2.2.2.2.2.2.2.2.2.2.2.2.2.2.2.2.2.2.1 SX SM hI (0 : Int32) (Or.inl rfl)
    refine z_c2I (As := [.int (0 : Int32)]) (rest := []) X0 hK hE hDX hA hPX hPM hXM hS (cx_image l D K cy ax SX _ _ _ hfx) (cwV 1 hts (z_gV wt_5_64 wt_5_65 wt_5_66 wt_1_1 wt_5_67) rfl rfl rfl ⟨rfl, yd_yX11_image⟩ ⟨Nat.le_of_ble_eq_true rfl, Nat.le_of_ble_eq_true rfl⟩) (va_recv hK hPX (ci := 11) (q0 := 0) rfl (zX_0 cy ax SX)) hl.1 rfl rfl (Nat.le_of_ble_eq_true rfl) dL_law_933 ⟨Nat.le_of_ble_eq_true rfl, Nat.le_of_ble_eq_true rfl⟩ (fun H locs hPX hPM hS => ?_)
    refine lv_aload_n hx hb dL_law_936 rfl (lv_at hl 2 rfl) ?_
    refine lv_aload_n hx hb dL_law_937 rfl (lv_at hl 0 rfl) ?_
    refine lv_iload_n hx hb dL_law_938 rfl (lv_at hl 3 rfl) ?_
    refine lv_iconst (v := 1) hx hb dL_law_939 (by decide) ?_
    refine lv_iadd hx hb dL_law_940 ?_
    refine va_sld hx hb hX hbl hbA hS (by rw [ex3]; exact lw_ix hL hgo (k := 1) (by decide)) dL_law_941 ?_
    refine lv_if_eq (tgt := 949) hx hb dL_law_942 (by decide) (fun _ => ?_) (fun c9 => absurd c_1 c9)
    refine lv_iconst (v := 0) hx hb dL_law_949 (by decide) ?_
    refine z_c2I (As := [.int (0 : Int32)]) (rest := [.int rr]) X0 hK hE hDM hA hPM hPX (fun i j h1 h2 h => hXM j i h2 h1 h.symm) hS (cm_image l D K cy am SM _ _ _ hfm) (cwV 1 hts (z_gV wt_7_37 wt_7_38 wt_7_39 wt_1_13 wt_7_40) rfl rfl rfl ⟨rfl, yd_yX12_image⟩ ⟨Nat.le_of_ble_eq_true rfl, Nat.le_of_ble_eq_true rfl⟩) (va_recv hK hPM (ci := 12) (q0 := 0) rfl (zM_0 cy am SM)) hl.1 rfl rfl (Nat.le_of_ble_eq_true rfl) dL_law_950 ⟨Nat.le_of_ble_eq_true rfl, Nat.le_of_ble_eq_true rfl⟩ (fun H locs hPM hPX hS => ?_)
    refine lv_icmp_eq (tgt := 981) hx hb dL_law_953 (by decide) (fun _ => ?_) (fun c9 => absurd rfl c9)
    exact hend X1 M1 _ _ _ hI hPX hPM hS hl
  · skip
    refine lv_iconst (v := 1) hx hb dL_law_928 (by decide) ?_
    refine lv_goto (tgt := 933) hx hb dL_law_929 (by decide) ?_
    obtain ⟨rr, X1, M1, hfx, hfm, hI⟩ := hst.2.2.2.2.2.2.2.2.2.2.2.2.2.2.2.2.2.2.2.2.2.2.2.2.2.2.1 SX SM hI (1 : Int32) (Or.inr rfl)
    refine z_c2I (As := [.int (1 : Int32)]) (rest := []) X0 hK hE hDX hA hPX hPM hXM hS (cx_image l D K cy ax SX _ _ _ hfx) (cwV 1 hts (z_gV wt_5_64 wt_5_65 wt_5_66 wt_1_1 wt_5_67) rfl rfl rfl ⟨rfl, yd_yX11_image⟩ ⟨Nat.le_of_ble_eq_true rfl, Nat.le_of_ble_eq_true rfl⟩) (va_recv hK hPX (ci := 11) (q0 := 0) rfl (zX_0 cy ax SX)) hl.1 rfl rfl (Nat.le_of_ble_eq_true rfl) dL_law_933 ⟨Nat.le_of_ble_eq_true rfl, Nat.le_of_ble_eq_true rfl⟩ (fun H locs hPX hPM hS => ?_)
    refine lv_aload_n hx hb dL_law_936 rfl (lv_at hl 2 rfl) ?_
    refine lv_aload_n hx hb dL_law_937 rfl (lv_at hl 0 rfl) ?_
    refine lv_iload_n hx hb dL_law_938 rfl (lv_at hl 3 rfl) ?_
    refine lv_iconst (v := 1) hx hb dL_law_939 (by decide) ?_
    refine lv_iadd hx hb dL_law_940 ?_
    refine va_sld hx hb hX hbl hbA hS (by rw [ex3]; exact lw_ix hL hgo (k := 1) (by decide)) dL_law_941 ?_
    refine lv_if_eq (tgt := 949) hx hb dL_law_942 (by decide) (fun c9 => absurd c9 c_1) (fun _ => ?_)
    refine lv_iconst (v := 1) hx hb dL_law_945 (by decide) ?_
    refine lv_goto (tgt := 950) hx hb dL_law_946 (by decide) ?_
    refine z_c2I (As := [.int (1 : Int32)]) (rest := [.int rr]) X0 hK hE hDM hA hPM hPX (fun i j h1 h2 h => hXM j i h2 h1 h.symm) hS (cm_image l D K cy am SM _ _ _ hfm) (cwV 1 hts (z_gV wt_7_37 wt_7_38 wt_7_39 wt_1_13 wt_7_40) rfl rfl rfl ⟨rfl, yd_yX12_image⟩ ⟨Nat.le_of_ble_eq_true rfl, Nat.le_of_ble_eq_true rfl⟩) (va_recv hK hPM (ci := 12) (q0 := 0) rfl (zM_0 cy am SM)) hl.1 rfl rfl (Nat.le_of_ble_eq_true rfl) dL_law_950 ⟨Nat.le_of_ble_eq_true rfl, Nat.le_of_ble_eq_true rfl⟩ (fun H locs hPM hPX hS => ?_)
    refine lv_icmp_eq (tgt := 981) hx hb dL_law_953 (by decide) (fun _ => ?_) (fun c9 => absurd rfl c9)
    exact hend X1 M1 _ _ _ hI hPX hPM hS hl
set_option maxHeartbeats 4000000 in
set_option maxRecDepth 100000 in
theorem law_case27 {p : Program} {l : Launch} {e : Env} {s : State} {m : MethodId} {below : List Frame} {meth : Method} {c : Code} {D : va_G} {cy : Nat → ClassId} {K : (Nat → Nat) × (Nat → Nat)} {ax am : Nat → Nat} {b L : Nat} {xs : Nat → Int32} (hL : L ≤ 3072) (C0 : lw_At p s m meth c b L xs) (hK : va_K D vwCl (zTy cy) s) (hE : zE K (fun q : Nat => s.heap.size ≤ q) s s.heap) (hDX : ∀ S, va_D (fun q : Nat => s.heap.size ≤ q) (zX cy ax S)) (hDM : ∀ S, va_D (fun q : Nat => s.heap.size ≤ q) (zM cy am S)) (hXM : ∀ i j, i < 142 → j < 18 → ax i ≠ am j) {Inv : zSt → zSt → Prop} (hst : zStep Inv) (i : Nat) (x3 y : Int32) (SX SM : zSt) (H : Heap) (locs : List Loc) (ls : Array Slot) (hgo : i + 6 ≤ L) (ex3 : x3 = nI i) (c_k : y = 27) (hI : Inv SX SM) (hPX : va_P D vwCl (zX cy ax SX) H) (hPM : va_P D vwCl (zM cy am SM) H) (hS : va_S (fun q : Nat => s.heap.size ≤ q) s.heap H locs) (hl : lv_has ls 4 [(0, .ref b), (1, .ref (ax 0)), (2, .ref (am 0)), (3, .int x3)])
    (hend : ∀ (X1 M1 : zSt) (H : Heap) (locs : List Loc) (ls : Array Slot), Inv X1 M1 → va_P D vwCl (zX cy ax X1) H → va_P D vwCl (zM cy am M1) H → va_S (fun q : Nat => s.heap.size ≤ q) s.heap H locs → lv_has ls 4 [(0, .ref b), (1, .ref (ax 0)), (2, .ref (am 0)), (3, .int x3)] → W p l e room_1 s m #[Value.ref b] below meth c H locs 160 13485 (lw_Z below #[Value.ref b] s) (F0 m 981 ls [])) : W p l e room_1 s m #[Value.ref b] below meth c H locs 160 13485 (lw_Z below #[Value.ref b] s) (F0 m 33 ls [.int y]) := by
  obtain ⟨hx, hb, hr, hml, hown, hts0, hX, hbl, hlocks, hgv⟩ := C0
  have hts : ∀ w ∈ (Cond.initialized RL :: zT), w.before #[Value.ref b] s = true := fun w h => (List.mem_cons.mp h).elim (fun q => q ▸ hts0 _ (List.mem_filter.mp wt_1_0).1) (fun q => hts0 w (List.mem_filter.mp q).1)
  have hA : ∀ q : Nat, s.heap.size ≤ q → (fun q : Nat => s.heap.size ≤ q) q := fun _ h => h
  have hbA : ¬ (fun q : Nat => s.heap.size ≤ q) b := Nat.not_le.mpr hbl
  have X0 : CallFix p m c cL_law 4 s #[Value.ref b] (Cond.initialized RL :: zT) RL := ⟨hx, hb, hml, hown, hts⟩
  subst c_k
  refine lv_tableIn (off := 925) (tgt := 958) hx hb dL_law_33 (by decide) (by decide) rfl (by decide) ?_
  refine lv_aload_n hx hb dL_law_958 rfl (lv_at hl 1 rfl) ?_
  refine lv_aload_n hx hb dL_law_959 rfl (lv_at hl 0 rfl) ?_
  refine lv_iload_n hx hb dL_law_960 rfl (lv_at hl 3 rfl) ?_
  refine lv_iconst (v := 1) hx hb dL_law_961 (by decide) ?_
  refine lv_iadd hx hb dL_law_962 ?_
  refine va_sld hx hb hX hbl hbA hS (by rw [ex3]; exact lw_ix hL hgo (k := 1) (by decide)) dL_law_963 ?_
  obtain ⟨rr, X1, M1, hfx, hfm, hI⟩ := hst.2.2.2.2.2.2.2.2.2.2.2.2.2.2.2.2.2.2.2.2.2.2.2.2.2.2.2 SX SM hI (xs (x3 + (1 : Int32)).toNatClampNeg)
  refine z_c2I (As := [.int (xs (x3 + (1 : Int32)).toNatClampNeg)]) (rest := []) X0 hK hE hDX hA hPX hPM hXM hS (cx_look l D K cy ax SX _ _ _ hfx) (cwV 1 hts (z_gV wt_5_85 wt_5_86 wt_5_87 wt_1_1 wt_5_88) rfl rfl rfl ⟨rfl, yd_yX11_look⟩ ⟨Nat.le_of_ble_eq_true rfl, Nat.le_of_ble_eq_true rfl⟩) (va_recv hK hPX (ci := 11) (q0 := 0) rfl (zX_0 cy ax SX)) hl.1 rfl rfl (Nat.le_of_ble_eq_true rfl) dL_law_964 ⟨Nat.le_of_ble_eq_true rfl, Nat.le_of_ble_eq_true rfl⟩ (fun H locs hPX hPM hS => ?_)
  refine lv_aload_n hx hb dL_law_967 rfl (lv_at hl 2 rfl) ?_
  refine lv_aload_n hx hb dL_law_968 rfl (lv_at hl 0 rfl) ?_
  refine lv_iload_n hx hb dL_law_969 rfl (lv_at hl 3 rfl) ?_
  refine lv_iconst (v := 1) hx hb dL_law_970 (by decide) ?_
  refine lv_iadd hx hb dL_law_971 ?_
  refine va_sld hx hb hX hbl hbA hS (by rw [ex3]; exact lw_ix hL hgo (k := 1) (by decide)) dL_law_972 ?_
  refine z_c2I (As := [.int (xs (x3 + (1 : Int32)).toNatClampNeg)]) (rest := [.int rr]) X0 hK hE hDM hA hPM hPX (fun i j h1 h2 h => hXM j i h2 h1 h.symm) hS (cm_look l D K cy am SM _ _ _ hfm) (cwV 1 hts (z_gV wt_7_41 wt_7_42 wt_7_43 wt_1_13 wt_7_44) rfl rfl rfl ⟨rfl, yd_yX12_look⟩ ⟨Nat.le_of_ble_eq_true rfl, Nat.le_of_ble_eq_true rfl⟩) (va_recv hK hPM (ci := 12) (q0 := 0) rfl (zM_0 cy am SM)) hl.1 rfl rfl (Nat.le_of_ble_eq_true rfl) dL_law_973 ⟨Nat.le_of_ble_eq_true rfl, Nat.le_of_ble_eq_true rfl⟩ (fun H locs hPM hPX hS => ?_)
  refine lv_icmp_eq (tgt := 981) hx hb dL_law_976 (by decide) (fun _ => ?_) (fun c9 => absurd rfl c9)
  exact hend X1 M1 _ _ _ hI hPX hPM hS hl
