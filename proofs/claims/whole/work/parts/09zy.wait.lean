/-! the reader: what waits, what is emitted -/
def ztB (o : Nat) : Nat := if o = 43 then 5 else if o = 45 then 5 else if o = 60 then 4 else if o = 61 then 4 else if o = 62 then 4 else if o = 258 then 1 else if o = 259 then 2 else if o = 260 then 3 else 6
theorem ztB_le (o : Nat) : ztB o ≤ 6 := by
  unfold ztB
  repeat' split
  all_goals omega
theorem zif_n {α : Type} {c k : Nat} (hc : c < 2 ^ 31) (hk : k < 2 ^ 31) (x y : α) : (if nI c = nI k then x else y) = if c = k then x else y := by
  by_cases z : c = k
  · rw [if_pos z, if_pos ((nI_eq hc hk).mpr z)]
  · rw [if_neg z, if_neg (fun q => z ((nI_eq hc hk).mp q))]
theorem fx_bind_eq {S : zSt} {o : Nat} (ho : o < 400) : fx_Reader_bindingOf S (nI o) = some (nI (ztB o), S) := by
  unfold fx_Reader_bindingOf ztB
  simp only [znm_q]
  rw [show (43 : Int32) = nI 43 from rfl, show (45 : Int32) = nI 45 from rfl, show (60 : Int32) = nI 60 from rfl, show (61 : Int32) = nI 61 from rfl, show (62 : Int32) = nI 62 from rfl, show (258 : Int32) = nI 258 from rfl, show (259 : Int32) = nI 259 from rfl, show (260 : Int32) = nI 260 from rfl]
  rw [zif_n (by omega) (by omega), zif_n (by omega) (by omega), zif_n (by omega) (by omega), zif_n (by omega) (by omega), zif_n (by omega) (by omega), zif_n (by omega) (by omega), zif_n (by omega) (by omega), zif_n (by omega) (by omega)]
  by_cases d1 : o = 43
  · rw [if_pos d1, if_pos d1]; rfl
  rw [if_neg d1, if_neg d1]
  by_cases d2 : o = 45
  · rw [if_pos d2, if_pos d2]; rfl
  rw [if_neg d2, if_neg d2]
  by_cases d3 : o = 60
  · rw [if_pos d3, if_pos d3]; rfl
  rw [if_neg d3, if_neg d3]
  by_cases d4 : o = 61
  · rw [if_pos d4, if_pos d4]; rfl
  rw [if_neg d4, if_neg d4]
  by_cases d5 : o = 62
  · rw [if_pos d5, if_pos d5]; rfl
  rw [if_neg d5, if_neg d5]
  by_cases d6 : o = 258
  · rw [if_pos d6, if_pos d6]; rfl
  rw [if_neg d6, if_neg d6]
  by_cases d7 : o = 259
  · rw [if_pos d7, if_pos d7]; rfl
  rw [if_neg d7, if_neg d7]
  by_cases d8 : o = 260
  · rw [if_pos d8, if_pos d8]; rfl
  rw [if_neg d8, if_neg d8]
  rfl
/-- the list waits, its first on top -/
def ztW (x : Nat → Int32) : List Nat → Prop
  | [] => True
  | o :: W => x W.length = nI o ∧ ztW x W
theorem ztW_c {x y : Nat → Int32} : ∀ {W : List Nat}, (∀ k, k < W.length → y k = x k) → ztW x W → ztW y W
  | [], _, _ => trivial
  | o :: W, h, H => ⟨by rw [h W.length (by rw [List.length_cons]; omega)]; exact H.1, ztW_c (fun k hk => h k (by rw [List.length_cons]; omega)) H.2⟩
/-- the list was emitted from n on -/
def ztN (c : Nat → Int32) : Nat → List Nat → Prop
  | _, [] => True
  | n, o :: P => c n = -nI o ∧ ztN c (n + 1) P
theorem ztN_c {c c' : Nat → Int32} : ∀ {P : List Nat} {n : Nat}, (∀ i, n ≤ i → i < n + P.length → c' i = c i) → ztN c n P → ztN c' n P
  | [], _, _, _ => trivial
  | o :: P, n, h, H => ⟨by rw [h n (by omega) (by rw [List.length_cons]; omega)]; exact H.1, ztN_c (fun i a b => h i (by omega) (by rw [List.length_cons]; omega)) H.2⟩
theorem ztN_app {c : Nat → Int32} {o : Nat} : ∀ {P : List Nat} {n : Nat}, ztN c n (P ++ [o]) → ztN c n P ∧ c (n + P.length) = -nI o
  | [], n, H => ⟨trivial, H.1⟩
  | a :: P, n, H => ⟨⟨H.1, (ztN_app (P := P) H.2).1⟩, by rw [List.length_cons, show n + (P.length + 1) = n + 1 + P.length by omega]; exact (ztN_app (P := P) H.2).2⟩
/-- how many NOTs wait -/
def ztC : List Nat → Nat
  | [] => 0
  | o :: P => (if o = 260 then 1 else 0) + ztC P
theorem ztC_app (o : Nat) : ∀ P : List Nat, ztC (P ++ [o]) = ztC P + (if o = 260 then 1 else 0)
  | [] => by show (if o = 260 then 1 else 0) + 0 = 0 + _; omega
  | a :: P => by show (if a = 260 then 1 else 0) + ztC (P ++ [o]) = (if a = 260 then 1 else 0) + ztC P + _; rw [ztC_app o P]; omega
/-- once what waits is emitted, the code from p on comes to V -/
def ztF (x : Nat → Int32) (p n : Nat) (P : List Nat) (D : Nat) (V : (Nat → Int32) → Int32) : Prop := p < n ∧ ∀ c' : Nat → Int32, (∀ i, p ≤ i → i < n → c' i = x i) → ztN c' n P → n + P.length ≤ 400 → zXe c' p (n + P.length) D V
theorem ztF_c {x y : Nat → Int32} {p n D : Nat} {P : List Nat} {V : (Nat → Int32) → Int32} (h : ∀ i, p ≤ i → i < n → y i = x i) (H : ztF x p n P D V) : ztF y p n P D V := ⟨H.1, fun c' h1 => H.2 c' (fun i a b => by rw [h1 i a b, h i a b])⟩
theorem ztF_d {x : Nat → Int32} {p n D D' : Nat} {P : List Nat} {V : (Nat → Int32) → Int32} (h : D ≤ D') (H : ztF x p n P D V) : ztF x p n P D' V := ⟨H.1, fun c' h1 h2 h3 => zXe_d h (H.2 c' h1 h2 h3)⟩
theorem ztF_0 {x : Nat → Int32} {p n D : Nat} {V : (Nat → Int32) → Int32} (H : zXe x p n D V) : ztF x p n [] D V := ⟨H.1, fun c' h1 _ _ => zXe_c h1 H⟩
theorem ztF_2 {x : Nat → Int32} {p m n d e o : Nat} {P : List Nat} {V W : (Nat → Int32) → Int32} (g : Int32 → Int32 → Int32) (ha : ∀ (S : zSt) (x : Int32) (F : Nat → Int32), fx_Rule_apply S (-(-nI o)) x (W F) = some (g x (W F), S)) (k0 : -nI o < 0) (k1 : ¬ -nI o = -59) (k2 : ¬ -nI o = -257) (k3 : ¬ -nI o = -260) (H : zXe x p m d V) (G : ztF x m n P e W) : ztF x p n (P ++ [o]) (max d (1 + e)) (fun F => g (V F) (W F)) := by
  have l1 := H.1
  have l2 := G.1
  refine ⟨by omega, fun c' h1 h2 h3 => ?_⟩
  rw [List.length_append, List.length_singleton] at h3 ⊢
  obtain ⟨n1, n2⟩ := ztN_app h2
  exact zx2 g ha k0 k1 k2 k3 (zXe_c (fun i a b => h1 i a (by omega)) H) (G.2 c' (fun i a b => h1 i (by omega) b) n1 (by omega)) (show n + P.length < 400 by omega) n2
theorem ztF_1 {x : Nat → Int32} {p n d : Nat} {P : List Nat} {V : (Nat → Int32) → Int32} (G : ztF x p n P d V) : ztF x p n (P ++ [260]) d (fun F => 1 - V F) := by
  refine ⟨G.1, fun c' h1 h2 h3 => ?_⟩
  rw [List.length_append, List.length_singleton] at h3 ⊢
  obtain ⟨n1, n2⟩ := ztN_app h2
  exact zx1 (G.2 c' h1 n1 (by omega)) (show n + P.length < 400 by omega) n2
/-- the class, as it reads -/
def ztY (X0 S : zSt) (n : Nat) (W : List Nat) (e ao op br ln : Nat) : Prop := S.1 125 2 = nI n ∧ S.1 125 3 = nI ln ∧ S.1 125 4 = 0 ∧ S.1 125 5 = -1 ∧ S.1 125 7 = nI W.length ∧ S.1 125 8 = nI e ∧ S.1 125 9 = nI ao ∧ S.1 125 10 = nI op ∧ S.1 125 11 = nI br ∧ ztW (S.1 127) W ∧ (∀ c, c ≠ 125 → c ≠ 126 → c ≠ 127 → S.1 c = X0.1 c) ∧ S.2 = X0.2
section zty
variable {X0 S : zSt} {n : Nat} {W : List Nat} {e ao op br ln : Nat}
theorem ztY.n_ (H : ztY X0 S n W e ao op br ln) : S.1 125 2 = nI n := H.1
theorem ztY.ln_ (H : ztY X0 S n W e ao op br ln) : S.1 125 3 = nI ln := H.2.1
theorem ztY.f_ (H : ztY X0 S n W e ao op br ln) : S.1 125 4 = 0 := H.2.2.1
theorem ztY.fp_ (H : ztY X0 S n W e ao op br ln) : S.1 125 5 = -1 := H.2.2.2.1
theorem ztY.w_ (H : ztY X0 S n W e ao op br ln) : S.1 125 7 = nI W.length := H.2.2.2.2.1
theorem ztY.e_ (H : ztY X0 S n W e ao op br ln) : S.1 125 8 = nI e := H.2.2.2.2.2.1
theorem ztY.ao_ (H : ztY X0 S n W e ao op br ln) : S.1 125 9 = nI ao := H.2.2.2.2.2.2.1
theorem ztY.op_ (H : ztY X0 S n W e ao op br ln) : S.1 125 10 = nI op := H.2.2.2.2.2.2.2.1
theorem ztY.br_ (H : ztY X0 S n W e ao op br ln) : S.1 125 11 = nI br := H.2.2.2.2.2.2.2.2.1
theorem ztY.W_ (H : ztY X0 S n W e ao op br ln) : ztW (S.1 127) W := H.2.2.2.2.2.2.2.2.2.1
theorem ztY.o_ (H : ztY X0 S n W e ao op br ln) : ∀ c, c ≠ 125 → c ≠ 126 → c ≠ 127 → S.1 c = X0.1 c := H.2.2.2.2.2.2.2.2.2.2.1
theorem ztY.l_ (H : ztY X0 S n W e ao op br ln) : S.2 = X0.2 := H.2.2.2.2.2.2.2.2.2.2.2
theorem ztY.se (H : ztY X0 S n W e ao op br ln) (x : Nat) : ztY X0 (zpI S 125 8 (nI x)) n W x ao op br ln := ⟨(zI_nk (by omega)).trans H.n_, (zI_nk (by omega)).trans H.ln_, (zI_nk (by omega)).trans H.f_, (zI_nk (by omega)).trans H.fp_, (zI_nk (by omega)).trans H.w_, zI_at, (zI_nk (by omega)).trans H.ao_, (zI_nk (by omega)).trans H.op_, (zI_nk (by omega)).trans H.br_, by rw [zI_ne (by omega)]; exact H.W_, fun c a b d => (zI_ne a).trans (H.o_ c a b d), H.l_⟩
theorem ztY.sao (H : ztY X0 S n W e ao op br ln) (x : Nat) : ztY X0 (zpI S 125 9 (nI x)) n W e x op br ln := ⟨(zI_nk (by omega)).trans H.n_, (zI_nk (by omega)).trans H.ln_, (zI_nk (by omega)).trans H.f_, (zI_nk (by omega)).trans H.fp_, (zI_nk (by omega)).trans H.w_, (zI_nk (by omega)).trans H.e_, zI_at, (zI_nk (by omega)).trans H.op_, (zI_nk (by omega)).trans H.br_, by rw [zI_ne (by omega)]; exact H.W_, fun c a b d => (zI_ne a).trans (H.o_ c a b d), H.l_⟩
theorem ztY.sop (H : ztY X0 S n W e ao op br ln) (x : Nat) : ztY X0 (zpI S 125 10 (nI x)) n W e ao x br ln := ⟨(zI_nk (by omega)).trans H.n_, (zI_nk (by omega)).trans H.ln_, (zI_nk (by omega)).trans H.f_, (zI_nk (by omega)).trans H.fp_, (zI_nk (by omega)).trans H.w_, (zI_nk (by omega)).trans H.e_, (zI_nk (by omega)).trans H.ao_, zI_at, (zI_nk (by omega)).trans H.br_, by rw [zI_ne (by omega)]; exact H.W_, fun c a b d => (zI_ne a).trans (H.o_ c a b d), H.l_⟩
theorem ztY.sbr (H : ztY X0 S n W e ao op br ln) (x : Nat) : ztY X0 (zpI S 125 11 (nI x)) n W e ao op x ln := ⟨(zI_nk (by omega)).trans H.n_, (zI_nk (by omega)).trans H.ln_, (zI_nk (by omega)).trans H.f_, (zI_nk (by omega)).trans H.fp_, (zI_nk (by omega)).trans H.w_, (zI_nk (by omega)).trans H.e_, (zI_nk (by omega)).trans H.ao_, (zI_nk (by omega)).trans H.op_, zI_at, by rw [zI_ne (by omega)]; exact H.W_, fun c a b d => (zI_ne a).trans (H.o_ c a b d), H.l_⟩
theorem ztY.sln (H : ztY X0 S n W e ao op br ln) (x : Nat) : ztY X0 (zpI S 125 3 (nI x)) n W e ao op br x := ⟨(zI_nk (by omega)).trans H.n_, zI_at, (zI_nk (by omega)).trans H.f_, (zI_nk (by omega)).trans H.fp_, (zI_nk (by omega)).trans H.w_, (zI_nk (by omega)).trans H.e_, (zI_nk (by omega)).trans H.ao_, (zI_nk (by omega)).trans H.op_, (zI_nk (by omega)).trans H.br_, by rw [zI_ne (by omega)]; exact H.W_, fun c a b d => (zI_ne a).trans (H.o_ c a b d), H.l_⟩
theorem ztY.pop {o : Nat} (H : ztY X0 S n (o :: W) e ao op br ln) : ztY X0 (zpI S 125 7 (nI W.length)) n W e ao op br ln := ⟨(zI_nk (by omega)).trans H.n_, (zI_nk (by omega)).trans H.ln_, (zI_nk (by omega)).trans H.f_, (zI_nk (by omega)).trans H.fp_, zI_at, (zI_nk (by omega)).trans H.e_, (zI_nk (by omega)).trans H.ao_, (zI_nk (by omega)).trans H.op_, (zI_nk (by omega)).trans H.br_, by rw [zI_ne (by omega)]; exact H.W_.2, fun c a b d => (zI_ne a).trans (H.o_ c a b d), H.l_⟩
theorem ztY.emit (H : ztY X0 S n W e ao op br ln) (x : Int32) : ztY X0 (zpI (zpI S 126 n x) 125 2 (nI (n + 1))) (n + 1) W e ao op br ln := ⟨zI_at, by rw [zI_nk (by omega), zI_ne (by omega)]; exact H.ln_, by rw [zI_nk (by omega), zI_ne (by omega)]; exact H.f_, by rw [zI_nk (by omega), zI_ne (by omega)]; exact H.fp_, by rw [zI_nk (by omega), zI_ne (by omega)]; exact H.w_, by rw [zI_nk (by omega), zI_ne (by omega)]; exact H.e_, by rw [zI_nk (by omega), zI_ne (by omega)]; exact H.ao_, by rw [zI_nk (by omega), zI_ne (by omega)]; exact H.op_, by rw [zI_nk (by omega), zI_ne (by omega)]; exact H.br_, by rw [zI_ne (by omega), zI_ne (by omega)]; exact H.W_, fun c a b d => by rw [zI_ne a, zI_ne b]; exact H.o_ c a b d, H.l_⟩
theorem ztY.push (H : ztY X0 S n W e ao op br ln) (o : Nat) : ztY X0 (zpI (zpI S 127 W.length (nI o)) 125 7 (nI (W.length + 1))) n (o :: W) e ao op br ln := ⟨by rw [zI_nk (by omega), zI_ne (by omega)]; exact H.n_, by rw [zI_nk (by omega), zI_ne (by omega)]; exact H.ln_, by rw [zI_nk (by omega), zI_ne (by omega)]; exact H.f_, by rw [zI_nk (by omega), zI_ne (by omega)]; exact H.fp_, zI_at, by rw [zI_nk (by omega), zI_ne (by omega)]; exact H.e_, by rw [zI_nk (by omega), zI_ne (by omega)]; exact H.ao_, by rw [zI_nk (by omega), zI_ne (by omega)]; exact H.op_, by rw [zI_nk (by omega), zI_ne (by omega)]; exact H.br_, by rw [zI_ne (by omega)]; exact ⟨zI_at, ztW_c (fun k hk => zI_nk (by omega)) H.W_⟩, fun c a b d => by rw [zI_ne a, zI_ne d]; exact H.o_ c a b d, H.l_⟩
theorem fx_emit_eq (H : ztY X0 S n W e ao op br ln) (hn : n < 400) (x : Int32) : fx_Reader_emit S x = some ((), zpI (zpI S 126 n x) 125 2 (nI (n + 1))) := by
  unfold fx_Reader_emit
  simp only [znm_q]
  rw [H.n_, if_neg (show ¬ (400 : Int32) ≤ nI n from nI_ge (b := 400) hn (by omega)), zix_n hn (by omega), zck_t, nI_clamp (by omega), zI_ne (by omega), H.n_, nI_1]
theorem fx_push_eq (H : ztY X0 S n W e ao op br ln) (hn : W.length < 64) (x : Int32) : fx_Reader_push S x = some ((), zpI (zpI S 127 W.length x) 125 7 (nI (W.length + 1))) := by
  unfold fx_Reader_push
  simp only [znm_q]
  rw [H.w_, if_neg (show ¬ (64 : Int32) ≤ nI W.length from nI_ge (b := 64) hn (by omega)), zix_n hn (by omega), zck_t, nI_clamp (by omega), zI_ne (by omega), H.w_, nI_1]
end zty
/-- what holds others back at binding b -/
def ztS (b : Nat) (W : List Nat) : Prop := W = [] ∨ ∃ (o : Nat) (W1 : List Nat), W = o :: W1 ∧ o < 400 ∧ (o = 40 ∨ ztB o < b)
theorem fx_flush {X0 : zSt} {b : Nat} (hb : b ≤ 6) {W0 : List Nat} {e ao op br ln : Nat} (hW : ztS b W0) : ∀ (P : List Nat) (S : zSt) (n : Nat), ztY X0 S n (P ++ W0) e ao (op + ztC P) br ln → (∀ o, o ∈ P → b ≤ ztB o ∧ o ≠ 40 ∧ o < 400) → n + P.length ≤ 400 → (P ++ W0).length ≤ 64 → ∃ S' : zSt, (∀ (j : zSt → Option (Unit × zSt)) (f : Nat), P.length < f → fx_Reader_emitWaiting_L0 (nI b) j f S = j S') ∧ ztY X0 S' (n + P.length) W0 e ao op br ln ∧ ztN (S'.1 126) n P ∧ (∀ i, i < n → S'.1 126 i = S.1 126 i) ∧ (∀ k, 12 ≤ k → S'.1 125 k = S.1 125 k)
  | [], S, n, H, _, _, h64 => by
    refine ⟨S, fun j f hf => ?_, H, trivial, fun _ _ => rfl, fun _ _ => rfl⟩
    obtain ⟨f, rfl⟩ : ∃ g, f = g + 1 := ⟨f - 1, by rw [List.length_nil] at hf; omega⟩
    rw [fx_Reader_emitWaiting_L0, H.w_]
    rcases hW with rfl | ⟨o, W1, rfl, h4, h5⟩
    · rw [if_pos (by decide)]
    · have hl : ([] ++ o :: W1).length = W1.length + 1 := rfl
      rw [hl] at h64 ⊢
      rw [if_neg (nI_nle (by omega) (by omega)), nI_pred, zix_n (show W1.length < 64 by omega) (by omega), zck_t, nI_clamp (by omega), show S.1 127 W1.length = nI o from H.W_.1, show (40 : Int32) = nI 40 from rfl, zif_n (by omega) (by omega)]
      by_cases h40 : o = 40
      · rw [if_pos h40]
      · have h6 := ztB_le o
        rw [if_neg h40, zck_t, fx_bind_eq h4, zbd_s, if_pos (nI_lt (by omega) (by omega))]
  | o :: P, S, n, H, hP, hn, h64 => by
    obtain ⟨p1, p2, p3⟩ := hP o (List.mem_cons_self ..)
    have hl : (o :: P ++ W0).length = (P ++ W0).length + 1 := rfl
    have hl2 : (o :: P).length = P.length + 1 := rfl
    rw [hl] at h64
    rw [hl2] at hn
    -- behind it
    obtain ⟨A, a1, a2, a3, a4⟩ : ∃ A : zSt, (if nI o = 260 then zpI (zpI S 125 7 (nI (P ++ W0).length)) 125 10 ((zpI S 125 7 (nI (P ++ W0).length)).1 125 10 - 1) else zpI S 125 7 (nI (P ++ W0).length)) = A ∧ ztY X0 A n (P ++ W0) e ao (op + ztC P) br ln ∧ A.1 127 = S.1 127 ∧ (∀ k, 12 ≤ k → A.1 125 k = S.1 125 k) ∧ A.1 126 = S.1 126 := by
      have G := ztY.pop (W := P ++ W0) H
      rw [show (260 : Int32) = nI 260 from rfl, zif_n (by omega) (by omega)]
      by_cases d : o = 260
      · rw [if_pos d, G.op_, show op + ztC (o :: P) = op + ztC P + 1 from by show op + ((if o = 260 then 1 else 0) + ztC P) = _; rw [if_pos d]; omega, nI_pred]
        exact ⟨_, rfl, G.sop _, by rw [zI_ne (by omega), zI_ne (by omega)], fun k hk => by rw [zI_nk (by omega), zI_nk (by omega)], by rw [zI_ne (by omega), zI_ne (by omega)]⟩
      · rw [if_neg d]
        have G' : ztY X0 (zpI S 125 7 (nI (P ++ W0).length)) n (P ++ W0) e ao (op + ztC P) br ln := by
          rw [show op + ztC (o :: P) = op + ztC P from by show op + ((if o = 260 then 1 else 0) + ztC P) = _; rw [if_neg d]; omega] at G
          exact G
        exact ⟨_, rfl, G', by rw [zI_ne (by omega)], fun k hk => by rw [zI_nk (by omega)], by rw [zI_ne (by omega)]⟩
    have E := a2.emit (-nI o)
    obtain ⟨S', s1, s2, s3, s4, s5⟩ := fx_flush hb hW P _ (n + 1) E (fun o ho => hP o (List.mem_cons_of_mem _ ho)) (by omega) (by omega)
    refine ⟨S', fun j f hf => ?_, by rw [hl2, show n + (P.length + 1) = n + 1 + P.length by omega]; exact s2, ⟨by rw [s4 n (by omega), zI_ne (by omega), zI_at], s3⟩, fun i hi => by rw [s4 i (by omega), zI_ne (by omega), zI_nk (by omega), a4.2], fun k hk => by rw [s5 k hk, zI_nk (by omega), zI_ne (by omega), a4.1 k hk]⟩
    obtain ⟨f, rfl⟩ : ∃ g, f = g + 1 := ⟨f - 1, by omega⟩
    rw [hl2] at hf
    have h6 := ztB_le o
    have w0 : S.1 127 (P ++ W0).length = nI o := H.W_.1
    rw [fx_Reader_emitWaiting_L0, H.w_, hl, if_neg (nI_nle (by omega) (by omega)), nI_pred, zix_n (show (P ++ W0).length < 64 by omega) (by omega), zck_t, nI_clamp (by omega), w0, show (40 : Int32) = nI 40 from rfl, zif_n (by omega) (by omega), if_neg p2, zck_t, fx_bind_eq p3, zbd_s, if_neg (nI_nlt (by omega) (by omega))]
    simp only [znm_q]
    rw [H.w_, hl, nI_pred]
    have fin : ∀ B : zSt, B = A → zck (zix (B.1 125 7) 64) (zbd (fx_Reader_emit B (-B.1 127 (B.1 125 7).toNatClampNeg)) fun _ S_13 => fx_Reader_emitWaiting_L0 (nI b) j f S_13) = j S' := fun B hB => by
      rw [hB, a2.w_, zix_n (show (P ++ W0).length < 64 by omega) (by omega), zck_t, nI_clamp (by omega), a3, w0, fx_emit_eq a2 (by omega), zbd_s]
      exact s1 j f (by omega)
    rw [zI_at, zix_n (show (P ++ W0).length < 64 by omega) (by omega), zck_t, zI_ne (show 127 ≠ 125 by omega), nI_clamp (by omega), w0]
    by_cases d : nI o = 260
    · rw [if_pos d] at a1 ⊢
      exact fin _ a1
    · rw [if_neg d] at a1 ⊢
      have := fin _ a1
      rw [zI_at, zI_ne (show 127 ≠ 125 by omega), nI_clamp (by omega), w0, zix_n (show (P ++ W0).length < 64 by omega) (by omega), zck_t] at this
      exact this
theorem fx_waits {X0 : zSt} {b : Nat} (hb : b ≤ 6) {W0 : List Nat} {e ao op br ln : Nat} (hW : ztS b W0) {P : List Nat} {S : zSt} {n : Nat} (H : ztY X0 S n (P ++ W0) e ao (op + ztC P) br ln) (hP : ∀ o, o ∈ P → b ≤ ztB o ∧ o ≠ 40 ∧ o < 400) (hn : n + P.length ≤ 400) (h64 : (P ++ W0).length ≤ 64) : ∃ S' : zSt, fx_Reader_emitWaiting S (nI b) = some ((), S') ∧ ztY X0 S' (n + P.length) W0 e ao op br ln ∧ ztN (S'.1 126) n P ∧ (∀ i, i < n → S'.1 126 i = S.1 126 i) ∧ (∀ k, 12 ≤ k → S'.1 125 k = S.1 125 k) := by
  obtain ⟨S', s1, s2⟩ := fx_flush hb hW P S n H hP hn h64
  refine ⟨S', ?_, s2⟩
  rw [List.length_append] at h64
  unfold fx_Reader_emitWaiting
  rw [znm_q, s1 _ zFU (by unfold zFU; omega)]
theorem fx_takes {X0 : zSt} {o : Nat} {W0 : List Nat} {e ao op br ln : Nat} (ho : o < 400) (hW : ztS (ztB o) W0) {P : List Nat} {S : zSt} {n : Nat} (H : ztY X0 S n (P ++ W0) e ao (op + ztC P) br ln) (h14 : S.1 125 14 = nI o) (hP : ∀ x, x ∈ P → ztB o ≤ ztB x ∧ x ≠ 40 ∧ x < 400) (hn : n + P.length ≤ 400) (h64 : (P ++ W0).length ≤ 64) (h63 : W0.length < 64) (e' : Nat) : ∃ S' : zSt, fx_Reader_takeOperator S (nI e') = some ((), S') ∧ ztY X0 S' (n + P.length) (o :: W0) e' ao op br ln ∧ ztN (S'.1 126) n P ∧ (∀ i, i < n → S'.1 126 i = S.1 126 i) ∧ (∀ k, 12 ≤ k → S'.1 125 k = S.1 125 k) := by
  obtain ⟨A, a1, a2, a3, a4, a5⟩ := fx_waits (ztB_le o) hW H hP hn h64
  refine ⟨zpI (zpI (zpI A 127 W0.length (nI o)) 125 7 (nI (W0.length + 1))) 125 8 (nI e'), ?_, (a2.push o).se e', by rw [zI_ne (by omega), zI_ne (by omega), zI_ne (by omega)]; exact a3, fun i hi => by rw [zI_ne (by omega), zI_ne (by omega), zI_ne (by omega)]; exact a4 i hi, fun k hk => by rw [zI_nk (by omega), zI_nk (by omega), zI_ne (by omega)]; exact a5 k hk⟩
  unfold fx_Reader_takeOperator
  rw [h14, fx_bind_eq ho, zbd_s, a1, zbd_s, a5 14 (by omega), h14, fx_push_eq a2 h63, zbd_s, znm_q]
