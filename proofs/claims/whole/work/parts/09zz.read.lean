/-! a text is read token by token: the class judges one, the reference has it at hand -/
def zuk (k : Nat) : Nat := if k = 0 then 301 else if k = 1 then 302 else if k = 2 then 300 else if k ≤ 6 then 254 + k else if k = 20 then 256 else if k ≤ 50 then k + 220 else k - 100
theorem zuk_mk {c : Nat} (h : zTk c) : zuk (zmk c) = c := by
  unfold zTk zSg at h
  rcases h with rfl | rfl | rfl | h | h
  · rfl
  · rfl
  · rfl
  · rcases (show c = 256 ∨ c = 257 ∨ c = 258 ∨ c = 259 ∨ c = 260 ∨ c = 261 ∨ c = 262 ∨ c = 263 ∨ c = 264 ∨ c = 265 ∨ c = 266 ∨ c = 267 ∨ c = 268 ∨ c = 269 ∨ c = 270 by omega) with rfl | rfl | rfl | rfl | rfl | rfl | rfl | rfl | rfl | rfl | rfl | rfl | rfl | rfl | rfl <;> rfl
  · rcases h with rfl | rfl | rfl | rfl | rfl | rfl | rfl | rfl | rfl | rfl <;> rfl
theorem zmk_lt {c : Nat} (h : zTk c) : zmk c < 400 := by
  have := zTk_lt h
  unfold zmk
  repeat' split
  all_goals first | omega | (unfold zTk zSg at h; omega)
theorem zmk_iff {c d : Nat} (h : zTk c) (h2 : zTk d) : nI (zmk c) = nI (zmk d) ↔ c = d := by
  have a := zmk_lt h
  have b := zmk_lt h2
  rw [nI_eq (by omega) (by omega)]
  exact ⟨fun e => by rw [← zuk_mk h, e, zuk_mk h2], fun e => by rw [e]⟩
def ztK (b : Nat → Int32) (t : Nat) (c v p r : Nat → Nat) : Prop := ∀ q, q ≤ t → q ≤ p q ∧ p q ≤ r q ∧ r q ≤ t ∧ zTk (c q) ∧ (c q ≠ 301 → q < r q) ∧ (c q = 300 → v q ≤ 9999) ∧ (∀ S, zAx S b t q → ∃ S' : zSt, fx_Reader_readToken S = some ((), S') ∧ zTx S S' (c q) (v q) (p q) (r q)) ∧ (∀ T, zAm T b t q → ∃ T' : zSt, fm_next0 T = some ((), T') ∧ zTmr T T' (c q) (v q) (p q) (r q))
theorem ztK_ex {b : Nat → Int32} {t : Nat} (ht : t ≤ 400) (hb : ∀ k, 0 ≤ (b k).toInt ∧ (b k).toInt ≤ 255) : ∃ c v p r : Nat → Nat, ztK b t c v p r := by
  have h : ∀ q, ∃ k : Nat × Nat × Nat × Nat, q ≤ t → q ≤ k.2.2.1 ∧ k.2.2.1 ≤ k.2.2.2 ∧ k.2.2.2 ≤ t ∧ zTk k.1 ∧ (k.1 ≠ 301 → q < k.2.2.2) ∧ (k.1 = 300 → k.2.1 ≤ 9999) ∧ (∀ S, zAx S b t q → ∃ S' : zSt, fx_Reader_readToken S = some ((), S') ∧ zTx S S' k.1 k.2.1 k.2.2.1 k.2.2.2) ∧ (∀ T, zAm T b t q → ∃ T' : zSt, fm_next0 T = some ((), T') ∧ zTmr T T' k.1 k.2.1 k.2.2.1 k.2.2.2) := fun q => by
    by_cases hq : q ≤ t
    · obtain ⟨c, v, p, r, H⟩ := ztok ht hb q hq
      exact ⟨(c, v, p, r), fun _ => H⟩
    · exact ⟨(0, 0, 0, 0), fun h => absurd h hq⟩
  exact ⟨fun q => (Classical.choose (h q)).1, fun q => (Classical.choose (h q)).2.1, fun q => (Classical.choose (h q)).2.2.1, fun q => (Classical.choose (h q)).2.2.2, fun q hq => Classical.choose_spec (h q) hq⟩
/-- what holds all the while -/
def ztE (t : Nat) (c v p r : Nat → Nat) (X0 M0 : zSt) : Prop := t ≤ 400 ∧ ∃ b, ztK b t c v p r ∧ X0.1 1 1 = nI t ∧ X0.1 2 = b ∧ M0.1 6 = b ∧ M0.1 0 12 = nI t
/-- the reference, its token at q at hand -/
def ztM (c v p r : Nat → Nat) (M0 T : zSt) (q m dp ln : Nat) : Prop := T.1 0 14 = nI (zmk (c q)) ∧ T.1 0 15 = nI (p q) ∧ (c q = 300 → T.1 0 16 = nI (v q)) ∧ T.1 0 13 = nI (r q) ∧ T.1 0 11 = nI m ∧ T.1 0 20 = nI dp ∧ T.1 0 10 = nI ln ∧ T.1 0 17 = 0 ∧ (∀ k, (k < 10 ∨ k = 12 ∨ k = 19 ∨ 20 < k) → T.1 0 k = M0.1 0 k) ∧ (∀ q, q ≠ 0 → q ≠ 4 → q ≠ 5 → T.1 q = M0.1 q)
/-- the class, with the token at q -/
def ztT (c v p r : Nat → Nat) (S : zSt) (q : Nat) : Prop := S.1 125 12 = nI (r q) ∧ S.1 125 13 = nI (p q) ∧ S.1 125 14 = nI (c q) ∧ (c q = 300 → S.1 125 15 = nI (v q))
theorem ztT_c {c v p r : Nat → Nat} {S S' : zSt} {q : Nat} (H : ztT c v p r S q) (h : ∀ k, 12 ≤ k → S'.1 125 k = S.1 125 k) : ztT c v p r S' q := ⟨by rw [h 12 (by omega)]; exact H.1, by rw [h 13 (by omega)]; exact H.2.1, by rw [h 14 (by omega)]; exact H.2.2.1, fun e => by rw [h 15 (by omega)]; exact H.2.2.2 e⟩
def ztR (i : Nat) (S : zSt) : Option (Int32 × zSt) := fx_Reader_read_L6 (8192 - i) (nI i) S
/-- the fault k, at place pl -/
def ztUx (X0 : zSt) (A : Option (Int32 × zSt)) (k pl : Nat) : Prop := ∃ S' : zSt, A = some (0, S') ∧ S'.1 125 4 = nI k ∧ S'.1 125 5 = nI pl ∧ (∀ c, c ≠ 125 → c ≠ 126 → c ≠ 127 → S'.1 c = X0.1 c) ∧ S'.2 = X0.2
def ztUm (M0 : zSt) (A : Option (Int32 × zSt)) (k pl : Nat) : Prop := ∃ T' : zSt, A = some (0, T') ∧ T'.1 0 17 = nI k ∧ T'.1 0 18 = nI pl ∧ (∀ k, (k < 10 ∨ k = 12 ∨ k = 19 ∨ 20 < k) → T'.1 0 k = M0.1 0 k) ∧ (∀ q, q ≠ 0 → q ≠ 4 → q ≠ 5 → T'.1 q = M0.1 q)
def ztU (X0 M0 : zSt) (A B : Option (Int32 × zSt)) : Prop := ∃ k pl : Nat, ztUx X0 A k pl ∧ ztUm M0 B k pl
section ztr
variable {t : Nat} {c v p r : Nat → Nat} {X0 M0 : zSt}
theorem ztE.t4 (E : ztE t c v p r X0 M0) : t ≤ 400 := E.1
theorem ztE.tk (E : ztE t c v p r X0 M0) {q : Nat} (hq : q ≤ t) : zTk (c q) := by
  obtain ⟨_, b, K, _⟩ := E
  exact (K q hq).2.2.2.1
theorem ztE.c4 (E : ztE t c v p r X0 M0) {q : Nat} (hq : q ≤ t) : c q < 400 := zTk_lt (E.tk hq)
theorem ztE.rt (E : ztE t c v p r X0 M0) {q : Nat} (hq : q ≤ t) : q ≤ r q ∧ r q ≤ t := by
  obtain ⟨_, b, K, _⟩ := E
  have := K q hq
  exact ⟨by omega, this.2.2.1⟩
theorem ztE.ro (E : ztE t c v p r X0 M0) {q : Nat} (hq : q ≤ t) (h : c q ≠ 301) : q < r q := by
  obtain ⟨_, b, K, _⟩ := E
  exact (K q hq).2.2.2.2.1 h
theorem ztE.v9 (E : ztE t c v p r X0 M0) {q : Nat} (hq : q ≤ t) (h : c q = 300) : v q ≤ 9999 := by
  obtain ⟨_, b, K, _⟩ := E
  exact (K q hq).2.2.2.2.2.1 h
theorem ztrd (E : ztE t c v p r X0 M0) {S : zSt} {q i n : Nat} {W : List Nat} {e ao op br ln : Nat} (H : ztY X0 S n W e ao op br ln) (h12 : S.1 125 12 = nI q) (hi : i ≤ q) (hq : q ≤ t) (he : e < 8) (hne : ¬ (c q = 301 ∧ e = 0)) : ∃ S7 : zSt, ztY X0 S7 n W e ao op br ln ∧ ztT c v p r S7 q ∧ S7.1 126 = S.1 126 ∧ (∀ S8, fx_Reader_judge S7 = some (0, S8) → S8.1 125 4 = 0 → ztR i S = ztR (i + 1) S8) ∧ (∀ (k : Nat) (S8 : zSt), 1 ≤ k → k < 10 → fx_Reader_judge S7 = some (nI k, S8) → (∀ c, c ≠ 125 → c ≠ 126 → c ≠ 127 → S8.1 c = X0.1 c) → S8.2 = X0.2 → S8.1 125 13 = nI (p q) → ztUx X0 (ztR i S) k (p q)) := by
  have c4 := E.c4 hq
  obtain ⟨ht, b, K, e1, e2, e3, e4⟩ := E
  obtain ⟨k1, k2, k3, k4, k5, k6, k7, k8⟩ := K q hq
  obtain ⟨S7, s1, s2, s3, s4, s5, s6, s7, s8⟩ := k7 S ⟨by rw [H.o_ 1 (by omega) (by omega) (by omega)]; exact e1, by rw [H.o_ 2 (by omega) (by omega) (by omega)]; exact e2, h12⟩
  have f : ∀ k, k < 12 → S7.1 125 k = S.1 125 k := fun k hk => s6 k (by omega) (by omega) (by omega) (by omega)
  have Y : ztY X0 S7 n W e ao op br ln := ⟨(f 2 (by omega)).trans H.n_, (f 3 (by omega)).trans H.ln_, (f 4 (by omega)).trans H.f_, (f 5 (by omega)).trans H.fp_, (f 7 (by omega)).trans H.w_, (f 8 (by omega)).trans H.e_, (f 9 (by omega)).trans H.ao_, (f 10 (by omega)).trans H.op_, (f 11 (by omega)).trans H.br_, by rw [s7 127 (by omega)]; exact H.W_, fun c a b d => (s7 c a).trans (H.o_ c a b d), s8.trans H.l_⟩
  have run : ztR i S = zbd (fx_Reader_judge S7) fun r_10 S_11 => (if (zpI S_11 125 4 r_10).1 125 4 = 0 then fx_Reader_read_L6 (8192 - (i + 1)) (nI i + 1) (zpI S_11 125 4 r_10) else some (0, zpI (zpI S_11 125 4 r_10) 125 5 ((zpI S_11 125 4 r_10).1 125 13))) := by
    unfold ztR
    obtain ⟨g, hg⟩ : ∃ g, 8192 - i = g + 1 := ⟨8192 - i - 1, by omega⟩
    rw [hg, show 8192 - (i + 1) = g by omega, fx_Reader_read_L6, H.o_ 1 (by omega) (by omega) (by omega), e1, if_neg (nI_nlt (by omega) (by omega)), s1, zbd_s]
    simp only [znm_q]
    rw [s4, Y.e_, show (301 : Int32) = nI 301 from rfl, zif_n (by omega) (by omega)]
    by_cases d : c q = 301
    · rw [if_pos d, show (0 : Int32) = nI 0 from rfl, zif_n (by omega) (by omega), if_neg (fun z => hne ⟨d, z⟩)]
    · rw [if_neg d]
  refine ⟨S7, Y, ⟨s3, s2, s4, s5⟩, s7 126 (by omega), fun S8 j1 j2 => ?_, fun k S8 h1 h9 j1 j2 j3 j4 => ?_⟩
  · rw [run, j1, zbd_s, zpI_id j2, j2, if_pos rfl, nI_1]
    rfl
  · rw [run, j1, zbd_s, zI_at, if_neg (fun z => by have := (nI_eq (a := k) (b := 0) (by omega) (by omega)).mp z; omega)]
    exact ⟨_, rfl, by rw [zI_nk (by omega), zI_at], by rw [zI_at, zI_nk (by omega), j4], fun c a b d => by rw [zI_ne a, zI_ne a]; exact j2 c a b d, j3⟩
theorem fm_nx (E : ztE t c v p r X0 M0) {T : zSt} {q m dp ln : Nat} (H : ztM c v p r M0 T q m dp ln) (hq : q ≤ t) : ∃ T' : zSt, fm_next0 T = some ((), T') ∧ ztM c v p r M0 T' (r q) m dp ln ∧ T'.1 4 = T.1 4 ∧ T'.1 5 = T.1 5 := by
  have l := (E.rt hq).2
  obtain ⟨ht, b, K, e1, e2, e3, e4⟩ := E
  obtain ⟨h1, h2, h3, h4, h5, h6, h7, h8, h9, h10⟩ := H
  obtain ⟨T', s1, s2, s3, s4, s5, s6, s7⟩ := (K (r q) l).2.2.2.2.2.2.2 T ⟨by rw [h9 12 (by omega)]; exact e4, by rw [h10 6 (by omega) (by omega) (by omega)]; exact e3, h4⟩
  have f : ∀ k, (k < 13 ∨ 16 < k) → T'.1 0 k = T.1 0 k := fun k hk => s6 k (by omega) (by omega) (by omega) (by omega)
  exact ⟨T', s1, ⟨s4, s2, s5, s3, (f 11 (by omega)).trans h5, (f 20 (by omega)).trans h6, (f 10 (by omega)).trans h7, (f 17 (by omega)).trans h8, fun k hk => (f k (by omega)).trans (h9 k hk), fun q a b d => (s7 q a).trans (h10 q a b d)⟩, s7 4 (by omega), s7 5 (by omega)⟩
theorem fm_ly {T : zSt} {q m dp ln : Nat} (H : ztM c v p r M0 T q m dp ln) (hm : m ≤ 409) (x y : Int32) : ∃ T' : zSt, fm_lay T x y = some ((), T') ∧ ztM c v p r M0 T' q (m + 1) dp ln ∧ T'.1 4 = T.1 4 ∧ T'.1 5 (2 * m) = x ∧ T'.1 5 (2 * m + 1) = y ∧ (∀ i, i < 2 * m → T'.1 5 i = T.1 5 i) := by
  obtain ⟨h1, h2, h3, h4, h5, h6, h7, h8, h9, h10⟩ := H
  have w2 : (2 : Int32) * nI m = nI (2 * m) := by rw [show (2 : Int32) = nI 2 from rfl, pk_mul]
  refine ⟨zpI (zpI (zpI T 5 (2 * m) x) 5 (2 * m + 1) y) 0 11 (nI (m + 1)), ?_, ⟨?_, ?_, fun z => ?_, ?_, zI_at, ?_, ?_, ?_, fun k hk => ?_, fun q a b d => ?_⟩, ?_, ?_, ?_, fun i hi => ?_⟩
  · unfold fm_lay
    rw [h5, w2, zix_n (show 2 * m < 820 by omega) (by omega), zck_t, znm_q, nI_clamp (by omega), zI_ne (show 0 ≠ 5 by omega), h5, w2, nI_1, zix_n (show 2 * m + 1 < 820 by omega) (by omega), zck_t, znm_q, nI_clamp (by omega), zI_ne (show 0 ≠ 5 by omega), zI_ne (show 0 ≠ 5 by omega), h5, nI_1, znm_q]
  · rw [zI_nk (by omega), zI_ne (by omega), zI_ne (by omega)]; exact h1
  · rw [zI_nk (by omega), zI_ne (by omega), zI_ne (by omega)]; exact h2
  · rw [zI_nk (by omega), zI_ne (by omega), zI_ne (by omega)]; exact h3 z
  · rw [zI_nk (by omega), zI_ne (by omega), zI_ne (by omega)]; exact h4
  · rw [zI_nk (by omega), zI_ne (by omega), zI_ne (by omega)]; exact h6
  · rw [zI_nk (by omega), zI_ne (by omega), zI_ne (by omega)]; exact h7
  · rw [zI_nk (by omega), zI_ne (by omega), zI_ne (by omega)]; exact h8
  · rw [zI_nk (by omega), zI_ne (by omega), zI_ne (by omega)]; exact h9 k hk
  · rw [zI_ne a, zI_ne d, zI_ne d]; exact h10 q a b d
  · rw [zI_ne (by omega), zI_ne (by omega), zI_ne (by omega)]
  · rw [zI_ne (by omega), zI_nk (by omega), zI_at]
  · rw [zI_ne (by omega), zI_at]
  · rw [zI_ne (by omega), zI_nk (by omega), zI_nk (by omega)]
theorem fm_bad_z {T : zSt} {x : Int32} : (zbd (fm_bad T x) fun r S => zck (zbo r) (some (r, S))) = fm_bad T x := by
  unfold fm_bad
  simp only [znm_q]
  rw [zbd_s]
  rfl
theorem fm_bd {T : zSt} {q m dp ln : Nat} (H : ztM c v p r M0 T q m dp ln) (k : Nat) : ztUm M0 (fm_bad T (nI k)) k (p q) := by
  obtain ⟨h1, h2, h3, h4, h5, h6, h7, h8, h9, h10⟩ := H
  unfold fm_bad
  simp only [znm_q]
  exact ⟨_, rfl, by rw [zI_nk (by omega), zI_at], by rw [zI_at, zI_nk (by omega), h2], fun k hk => by rw [zI_nk (by omega), zI_nk (by omega)]; exact h9 k hk, fun q a b d => by rw [zI_ne a, zI_ne a]; exact h10 q a b d⟩
/-- the token at hand is d -/
theorem ztM.is (E : ztE t c v p r X0 M0) {T : zSt} {q m dp ln : Nat} (H : ztM c v p r M0 T q m dp ln) (hq : q ≤ t) (d : Nat) (hd : zTk d) : T.1 0 14 = nI (zmk d) ↔ c q = d := by rw [H.1]; exact zmk_iff (E.tk hq) hd
theorem ztM.dp {T : zSt} {q m dp ln : Nat} (H : ztM c v p r M0 T q m dp ln) (d : Nat) : ztM c v p r M0 (zpI T 0 20 (nI d)) q m d ln := by
  obtain ⟨h1, h2, h3, h4, h5, h6, h7, h8, h9, h10⟩ := H
  exact ⟨(zI_nk (by omega)).trans h1, (zI_nk (by omega)).trans h2, fun z => (zI_nk (by omega)).trans (h3 z), (zI_nk (by omega)).trans h4, (zI_nk (by omega)).trans h5, zI_at, (zI_nk (by omega)).trans h7, (zI_nk (by omega)).trans h8, fun k hk => (zI_nk (by omega)).trans (h9 k hk), fun q a b d => (zI_ne a).trans (h10 q a b d)⟩
theorem ztM.ln {T : zSt} {q m dp ln : Nat} (H : ztM c v p r M0 T q m dp ln) (d : Nat) : ztM c v p r M0 (zpI T 0 10 (nI d)) q m dp d := by
  obtain ⟨h1, h2, h3, h4, h5, h6, h7, h8, h9, h10⟩ := H
  exact ⟨(zI_nk (by omega)).trans h1, (zI_nk (by omega)).trans h2, fun z => (zI_nk (by omega)).trans (h3 z), (zI_nk (by omega)).trans h4, (zI_nk (by omega)).trans h5, (zI_nk (by omega)).trans h6, zI_at, (zI_nk (by omega)).trans h8, fun k hk => (zI_nk (by omega)).trans (h9 k hk), fun q a b d => (zI_ne a).trans (h10 q a b d)⟩
end ztr
