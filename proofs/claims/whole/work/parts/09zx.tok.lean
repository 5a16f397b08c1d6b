/-- what the class has behind a token -/
def zTx (S S' : zSt) (c v p r : Nat) : Prop := S'.1 125 13 = nI p ∧ S'.1 125 12 = nI r ∧ S'.1 125 14 = nI c ∧ (c = 300 → S'.1 125 15 = nI v) ∧ (∀ k, k ≠ 12 → k ≠ 13 → k ≠ 14 → k ≠ 15 → S'.1 125 k = S.1 125 k) ∧ (∀ q, q ≠ 125 → S'.1 q = S.1 q) ∧ S'.2 = S.2
def zTmr (T T' : zSt) (c v p r : Nat) : Prop := T'.1 0 15 = nI p ∧ T'.1 0 13 = nI r ∧ T'.1 0 14 = nI (zmk c) ∧ (c = 300 → T'.1 0 16 = nI v) ∧ (∀ k, k ≠ 13 → k ≠ 14 → k ≠ 15 → k ≠ 16 → T'.1 0 k = T.1 0 k) ∧ (∀ q, q ≠ 0 → T'.1 q = T.1 q)
theorem ztok {b : Nat → Int32} {t : Nat} (ht : t ≤ 400) (hb : ∀ k, 0 ≤ (b k).toInt ∧ (b k).toInt ≤ 255) (q : Nat) (hq : q ≤ t) : ∃ c v p r : Nat, q ≤ p ∧ p ≤ r ∧ r ≤ t ∧ zTk c ∧ (c ≠ 301 → q < r) ∧ (c = 300 → v ≤ 9999) ∧ (∀ S, zAx S b t q → ∃ S' : zSt, fx_Reader_readToken S = some ((), S') ∧ zTx S S' c v p r) ∧ (∀ T, zAm T b t q → ∃ T' : zSt, fm_next0 T = some ((), T') ∧ zTmr T T' c v p r) := by
  obtain ⟨p, p1, p2, p3, p4, p5⟩ := zskip (b := b) ht (t - q) q (by omega)
  have px : ∀ S, zAx S b t q → fx_Reader_skipBlanks S = some ((), zpI S 125 12 (nI p)) := fun S hS => by
    unfold fx_Reader_skipBlanks
    rw [znm_q, p4 S zFU _ hS (by unfold zFU; omega)]
  have ax : ∀ S, zAx S b t q → zAx (zpI (zpI S 125 12 (nI p)) 125 13 (nI p)) b t p := fun S hS => ⟨by rw [zI_ne (by omega), zI_ne (by omega)]; exact hS.1, by rw [zI_ne (by omega), zI_ne (by omega)]; exact hS.2.1, by rw [zI_nk (by omega), zI_at]⟩
  have am : ∀ T, zAm T b t q → zAm (zpI (zpI T 0 13 (nI p)) 0 15 (nI p)) b t p := fun T hT => ⟨by rw [zI_nk (by omega), zI_nk (by omega)]; exact hT.1, by rw [zI_ne (by omega), zI_ne (by omega)]; exact hT.2.1, by rw [zI_nk (by omega), zI_at]⟩
  by_cases hpt : p = t
  · -- the end
    refine ⟨301, 0, p, p, p1, Nat.le_refl _, p2, Or.inr (Or.inl rfl), fun h => absurd rfl h, fun h => by omega, fun S hS => ?_, fun T hT => ?_⟩
    · unfold fx_Reader_readToken
      rw [px S hS, zbd_s, zI_at, znm_q, znm_q]
      have h := ax S hS
      rw [h.2.2, h.1, if_neg (nI_nlt (by omega) (by omega)), znm_q]
      exact ⟨_, rfl, by rw [zI_nk (by omega), zI_at], by rw [zI_nk (by omega), zI_nk (by omega), zI_at], zI_at, fun h => by omega, fun k a b c d => by rw [zI_nk c, zI_nk b, zI_nk a], fun q hq => by rw [zI_ne hq, zI_ne hq, zI_ne hq], rfl⟩
    · have h := am T hT
      unfold fm_next0
      rw [znm_q, p5 T zFU _ hT (by unfold zFU; omega), zI_at, znm_q, h.2.2, fm_see_hi h ht (by omega) (by omega), zbd_s, znm_q, if_pos rfl, znm_q]
      exact ⟨_, rfl, by rw [zI_nk (by omega), zI_at], by rw [zI_nk (by omega), zI_nk (by omega), zI_at], zI_at, fun h => by omega, fun k a b c d => by rw [zI_nk b, zI_nk c, zI_nk a], fun q hq => by rw [zI_ne hq, zI_ne hq, zI_ne hq]⟩
  have hp : p < t := by omega
  obtain ⟨nb1, nb2⟩ := p3 hp
  have bm1 : ¬ b p = -1 := fun e => by
    have := (hb p).1
    rw [e, show (-1 : Int32).toInt = -1 from by decide] at this
    omega
  by_cases hL : zLt (b p)
  · -- a word
    obtain ⟨r, r1, r2, r3, r4, r5, r6⟩ := zlets (b := b) ht (t - p) p (by omega)
    have hpr := r4 hp hL
    have n32 : ∀ i, p ≤ i → i < r → ¬ b i = 32 := fun i a c e => by
      have := r3 i a c
      rw [e] at this
      revert this
      unfold zLt
      decide
    -- both, up to the word's end
    have hx : ∀ S, zAx S b t q → fx_Reader_readToken S = (if nI (r - p) ≤ 5 then zbd (fx_Reader_readKeyword_L61 zFU 0 (zpI (zpI (zpI (zpI S 125 12 (nI p)) 125 13 (nI p)) 125 12 (nI r)) 125 14 302)) fun _ S_27 => some ((), S_27) else some ((), zpI (zpI (zpI (zpI S 125 12 (nI p)) 125 13 (nI p)) 125 12 (nI r)) 125 14 302)) := fun S hS => by
      have h := ax S hS
      unfold fx_Reader_readToken fx_Reader_readKeyword
      rw [px S hS, zbd_s, zI_at, znm_q, znm_q, h.2.2, h.1, if_pos (nI_lt hp (by omega)), fx_isLetter_y (by omega) (by rw [h.2.1]; exact hL), zbd_s, z_i1, znm_q, r5 _ zFU _ h (by unfold zFU; omega), znm_q]
      rw [show (zpI (zpI (zpI (zpI S 125 12 (nI p)) 125 13 (nI p)) 125 12 (nI r)) 125 14 302).1 125 12 = nI r from by rw [zI_nk (by omega), zI_at], show (zpI (zpI (zpI (zpI S 125 12 (nI p)) 125 13 (nI p)) 125 12 (nI r)) 125 14 302).1 125 13 = nI p from by rw [zI_nk (by omega), zI_nk (by omega), zI_at], pk_sub (by omega)]
      by_cases c : nI (r - p) ≤ 5
      · rw [if_pos c, if_pos c]
      · rw [if_neg c, if_neg c, zbd_s]
    have hm : ∀ T, zAm T b t q → fm_next0 T = zbd (fm_word (zpI (zpI (zpI T 0 13 (nI p)) 0 15 (nI p)) 0 13 (nI r))) fun r_54 S_55 => some ((), zpI S_55 0 14 r_54) := fun T hT => by
      have h := am T hT
      unfold fm_next0
      rw [znm_q, p5 T zFU _ hT (by unfold zFU; omega), zI_at, znm_q, h.2.2, fm_see_lo h ht hp, zbd_s, znm_q, if_neg bm1, fm_isLetter_y hL, zbd_s, z_i1, znm_q, r6 _ zFU _ h (by unfold zFU; omega)]
      rfl
    have xs : ∀ (S : zSt) (c : Nat), zAx S b t q → zTx S (zpI (zpI (zpI (zpI (zpI S 125 12 (nI p)) 125 13 (nI p)) 125 12 (nI r)) 125 14 302) 125 14 (nI c)) c 0 p r ∨ c = 300 := fun S c hS => by
      by_cases e : c = 300
      · exact Or.inr e
      · exact Or.inl ⟨by rw [zI_nk (by omega), zI_nk (by omega), zI_nk (by omega), zI_at], by rw [zI_nk (by omega), zI_nk (by omega), zI_at], zI_at, fun h => absurd h e, fun k a b c d => by rw [zI_nk c, zI_nk c, zI_nk a, zI_nk b, zI_nk a], fun q hq => by rw [zI_ne hq, zI_ne hq, zI_ne hq, zI_ne hq, zI_ne hq], rfl⟩
    have ms : ∀ (T : zSt) (c : Nat), c ≠ 300 → zTmr T (zpI (zpI (zpI (zpI T 0 13 (nI p)) 0 15 (nI p)) 0 13 (nI r)) 0 14 (nI (zmk c))) c 0 p r := fun T c e => ⟨by rw [zI_nk (by omega), zI_nk (by omega), zI_at], by rw [zI_nk (by omega), zI_at], zI_at, fun h => absurd h e, fun k a b c d => by rw [zI_nk b, zI_nk a, zI_nk c, zI_nk a], fun q hq => by rw [zI_ne hq, zI_ne hq, zI_ne hq, zI_ne hq]⟩
    have wm : ∀ T, zAm T b t q → _ := fun T hT => fm_word_eq (T := zpI (zpI (zpI T 0 13 (nI p)) 0 15 (nI p)) 0 13 (nI r)) (b := b) (p := p) (r := r) (by rw [zI_ne (by omega)]; exact (am T hT).2.1) (by rw [zI_nk (by omega), zI_at]) zI_at (by omega) (by omega)
    by_cases hw : ∃ k, k < 15 ∧ zIs b p r k ∧ ∀ l, l < 15 → l ≠ k → ¬ zIs b p r l
    · obtain ⟨k, k1, k2, k3⟩ := hw
      have l5 := (zkw1 k k1).2
      have rl := k2.1
      refine ⟨256 + k, 0, p, r, p1, by omega, r2, Or.inr (Or.inr (Or.inr (Or.inl (by omega)))), fun _ => by omega, fun h => by omega, fun S hS => ?_, fun T hT => ?_⟩
      · have h := ax S hS
        rw [hx S hS, if_pos (show nI (r - p) ≤ 5 from nI_le (b := 5) (by omega) (by omega)), (fx_kw_eq (S := zpI (zpI (zpI (zpI S 125 12 (nI p)) 125 13 (nI p)) 125 12 (nI r)) 125 14 302) (b := b) (p := p) (r := r) (by rw [zI_ne (by omega), zI_ne (by omega)]; exact h.2.1) (by rw [zI_nk (by omega), zI_nk (by omega), zI_at]) (by rw [zI_nk (by omega), zI_at]) zI_at (by omega) (by omega) (by omega) n32).1 k k1 k2 k3, zbd_s]
        exact ⟨_, rfl, (xs S (256 + k) hS).resolve_right (by omega)⟩
      · rw [hm T hT, (wm T hT).1 k k1 k2 k3, zbd_s]
        exact ⟨_, rfl, ms T (256 + k) (by omega)⟩
    · have hno : ∀ k, k < 15 → ¬ zIs b p r k := by
        rcases zwhich b p r with h | h
        · exact absurd h hw
        · exact h
      refine ⟨302, 0, p, r, p1, by omega, r2, Or.inr (Or.inr (Or.inl rfl)), fun _ => by omega, fun h => by omega, fun S hS => ?_, fun T hT => ?_⟩
      · have h := ax S hS
        have fin : fx_Reader_readToken S = some ((), zpI (zpI (zpI (zpI S 125 12 (nI p)) 125 13 (nI p)) 125 12 (nI r)) 125 14 302) := by
          rw [hx S hS]
          by_cases c5 : r ≤ p + 5
          · rw [if_pos (show nI (r - p) ≤ 5 from nI_le (b := 5) (by omega) (by omega)), (fx_kw_eq (S := zpI (zpI (zpI (zpI S 125 12 (nI p)) 125 13 (nI p)) 125 12 (nI r)) 125 14 302) (b := b) (p := p) (r := r) (by rw [zI_ne (by omega), zI_ne (by omega)]; exact h.2.1) (by rw [zI_nk (by omega), zI_nk (by omega), zI_at]) (by rw [zI_nk (by omega), zI_at]) zI_at (by omega) (by omega) c5 n32).2 hno, zbd_s]
          · rw [if_neg (show ¬ nI (r - p) ≤ 5 from nI_ge (a := 5) (by omega) (by omega))]
        have e := (xs S 302 hS).resolve_right (by omega)
        rw [zpI_id (show (zpI (zpI (zpI (zpI S 125 12 (nI p)) 125 13 (nI p)) 125 12 (nI r)) 125 14 302).1 125 14 = nI 302 from zI_at)] at e
        exact ⟨_, fin, e⟩
      · rw [hm T hT, (wm T hT).2 hno, zbd_s]
        exact ⟨_, rfl, ms T 302 (by omega)⟩
  by_cases hD : zDg (b p)
  · -- a number
    obtain ⟨r, v, r1, r2, r3, r4, r5, r6⟩ := zdigs (b := b) (o := p) ht (t - p) p 0 (by omega) (Nat.le_refl _) (fun _ => by rw [Nat.sub_self]; exact Nat.one_pos)
    have hpr := r3 hp hD
    have hx : ∀ S, zAx S b t q → ∃ S' : zSt, fx_Reader_readToken S = some ((), zpI S' 125 14 (if r ≤ p + 4 then 300 else 302)) ∧ S'.1 125 12 = nI r ∧ S'.1 125 13 = nI p ∧ (r ≤ p + 4 → S'.1 125 15 = nI v) ∧ (∀ k, k ≠ 12 → k ≠ 13 → k ≠ 15 → S'.1 125 k = S.1 125 k) ∧ (∀ q, q ≠ 125 → S'.1 q = S.1 q) ∧ S'.2 = S.2 := fun S hS => by
      have h := ax S hS
      have h' : zAx (zpI (zpI (zpI S 125 12 (nI p)) 125 13 (nI p)) 125 15 0) b t p := ⟨by rw [zI_ne (by omega)]; exact h.1, by rw [zI_ne (by omega)]; exact h.2.1, by rw [zI_nk (by omega)]; exact h.2.2⟩
      obtain ⟨S', s1, s2, s3, s4, s5, s6⟩ := r5 _ zFU h' (fun _ => zI_at) (by unfold zFU; omega)
      have s13 : S'.1 125 13 = nI p := by rw [s4 13 (by omega) (by omega), zI_nk (by omega), zI_at]
      refine ⟨S', ?_, s2, s13, s3, fun k a b c => by rw [s4 k a c, zI_nk c, zI_nk b, zI_nk a], fun q hq => by rw [s5 q hq, zI_ne hq, zI_ne hq, zI_ne hq], by rw [s6]; rfl⟩
      unfold fx_Reader_readToken fx_Reader_readNumber
      rw [px S hS, zbd_s, zI_at, znm_q, znm_q, h.2.2, h.1, if_pos (nI_lt hp (by omega)), fx_isLetter_n (by omega) (by rw [h.2.1]; exact hL), zbd_s, z_i0, h.2.2, fx_isDigit_y (by omega) (by rw [h.2.1]; exact hD), zbd_s, z_i1]
      simp only [znm_q]
      rw [s1, s2, s13, pk_sub (by omega)]
      by_cases c : r ≤ p + 4
      · rw [if_pos (show nI (r - p) ≤ 4 from nI_le (b := 4) (by omega) (by omega)), zbd_s, if_pos c]
      · rw [if_neg (show ¬ nI (r - p) ≤ 4 from nI_ge (a := 4) (by omega) (by omega)), zbd_s, if_neg c]
    have hm : ∀ T, zAm T b t q → ∃ T' : zSt, fm_next0 T = some ((), zpI T' 0 14 (if r ≤ p + 4 then 2 else 1)) ∧ T'.1 0 13 = nI r ∧ T'.1 0 15 = nI p ∧ (r ≤ p + 4 → T'.1 0 16 = nI v) ∧ (∀ k, k ≠ 13 → k ≠ 15 → k ≠ 16 → T'.1 0 k = T.1 0 k) ∧ (∀ q, q ≠ 0 → T'.1 q = T.1 q) := fun T hT => by
      have h := am T hT
      have h' : zAm (zpI (zpI (zpI T 0 13 (nI p)) 0 15 (nI p)) 0 16 0) b t p := ⟨by rw [zI_nk (by omega)]; exact h.1, by rw [zI_ne (by omega)]; exact h.2.1, by rw [zI_nk (by omega)]; exact h.2.2⟩
      obtain ⟨T', s1, s2, s3, s4, s5⟩ := r6 _ zFU h' (by rw [zI_nk (by omega), zI_at]) (fun _ => zI_at) (by unfold zFU; omega)
      have s15 : T'.1 0 15 = nI p := by rw [s4 15 (by omega) (by omega), zI_nk (by omega), zI_at]
      refine ⟨T', ?_, s2, s15, s3, fun k a b c => by rw [s4 k a c, zI_nk c, zI_nk b, zI_nk a], fun q hq => by rw [s5 q hq, zI_ne hq, zI_ne hq, zI_ne hq]⟩
      unfold fm_next0
      rw [znm_q, p5 T zFU _ hT (by unfold zFU; omega), zI_at, znm_q, h.2.2, fm_see_lo h ht hp, zbd_s, znm_q, if_neg bm1, fm_isLetter_n hL, zbd_s, z_i0, fm_isDigit_y hD, zbd_s, z_i1]
      simp only [znm_q]
      rw [s1, s2, s15, pk_sub (by omega)]
      by_cases c : r ≤ p + 4
      · rw [if_neg (show ¬ (5 : Int32) ≤ nI (r - p) from nI_ge (b := 5) (by omega) (by omega)), if_pos c]
      · rw [if_pos (show (5 : Int32) ≤ nI (r - p) from nI_le (a := 5) (by omega) (by omega)), if_neg c]
    by_cases c : r ≤ p + 4
    · refine ⟨300, v, p, r, p1, by omega, r2, Or.inl rfl, fun _ => by omega, fun _ => r4 c, fun S hS => ?_, fun T hT => ?_⟩
      · obtain ⟨S', s1, s2, s3, s4, s5, s6, s7⟩ := hx S hS
        rw [if_pos c] at s1
        exact ⟨_, s1, by rw [zI_nk (by omega)]; exact s3, by rw [zI_nk (by omega)]; exact s2, zI_at, fun _ => by rw [zI_nk (by omega)]; exact s4 c, fun k a b c d => by rw [zI_nk c]; exact s5 k a b d, fun q hq => by rw [zI_ne hq]; exact s6 q hq, s7⟩
      · obtain ⟨T', s1, s2, s3, s4, s5, s6⟩ := hm T hT
        rw [if_pos c] at s1
        exact ⟨_, s1, by rw [zI_nk (by omega)]; exact s3, by rw [zI_nk (by omega)]; exact s2, zI_at, fun _ => by rw [zI_nk (by omega)]; exact s4 c, fun k a b c d => by rw [zI_nk b]; exact s5 k a c d, fun q hq => by rw [zI_ne hq]; exact s6 q hq⟩
    · refine ⟨302, 0, p, r, p1, by omega, r2, Or.inr (Or.inr (Or.inl rfl)), fun _ => by omega, fun h => by omega, fun S hS => ?_, fun T hT => ?_⟩
      · obtain ⟨S', s1, s2, s3, s4, s5, s6, s7⟩ := hx S hS
        rw [if_neg c] at s1
        exact ⟨_, s1, by rw [zI_nk (by omega)]; exact s3, by rw [zI_nk (by omega)]; exact s2, zI_at, fun h => by omega, fun k a b c d => by rw [zI_nk c]; exact s5 k a b d, fun q hq => by rw [zI_ne hq]; exact s6 q hq, s7⟩
      · obtain ⟨T', s1, s2, s3, s4, s5, s6⟩ := hm T hT
        rw [if_neg c] at s1
        exact ⟨_, s1, by rw [zI_nk (by omega)]; exact s3, by rw [zI_nk (by omega)]; exact s2, zI_at, fun h => by omega, fun k a b c d => by rw [zI_nk b]; exact s5 k a c d, fun q hq => by rw [zI_ne hq]; exact s6 q hq⟩
  -- a sign, or what is none
  obtain ⟨c, c1, c2, c3⟩ := z_nat (v := b p) (hb p).1
  have dsg : Decidable (zSg c) := by unfold zSg; infer_instance
  have c256 : c < 256 := by have := (hb p).2; omega
  have hx : ∀ S, zAx S b t q → fx_Reader_readToken S = some ((), zpI (zpI (zpI (zpI S 125 12 (nI p)) 125 13 (nI p)) 125 14 (if zSg c then nI c else 302)) 125 12 (nI (p + 1))) := fun S hS => by
    have h := ax S hS
    obtain ⟨r, r1, r2⟩ := fj_sign (S := zpI (zpI S 125 12 (nI p)) 125 13 (nI p)) c256
    unfold fx_Reader_readToken
    rw [px S hS, zbd_s, zI_at, znm_q, znm_q, h.2.2, h.1, if_pos (nI_lt hp (by omega)), fx_isLetter_n (by omega) (by rw [h.2.1]; exact hL), zbd_s, z_i0, h.2.2, fx_isDigit_n (by omega) (by rw [h.2.1]; exact hD), zbd_s, z_i0, h.2.2, zix_n (show p < 400 by omega) (by omega), zck_t, nI_clamp (by omega), h.2.1, c2, r1, zbd_s]
    simp only [znm_q]
    rw [h.2.2, zix_n (show p < 400 by omega) (by omega), zck_t, nI_clamp (by omega), h.2.1, c2]
    have n12 : ∀ v : Int32, (zpI (zpI (zpI S 125 12 (nI p)) 125 13 (nI p)) 125 14 v).1 125 12 + 1 = nI (p + 1) := fun v => by rw [zI_nk (by omega), zI_nk (by omega), zI_at, nI_1]
    rw [n12, n12]
    by_cases cs : zSg c
    · rw [if_pos (r2.mpr cs), if_pos cs]
    · rw [if_neg (fun z => cs (r2.mp z)), if_neg cs]
  have hm : ∀ T, zAm T b t q → fm_next0 T = some ((), zpI (zpI (zpI (zpI T 0 13 (nI p)) 0 15 (nI p)) 0 13 (nI (p + 1))) 0 14 (if zSg c then nI (100 + c) else 1)) := fun T hT => by
    have h := am T hT
    unfold fm_next0
    rw [znm_q, p5 T zFU _ hT (by unfold zFU; omega), zI_at, znm_q, h.2.2, fm_see_lo h ht hp, zbd_s, znm_q, if_neg bm1, fm_isLetter_n hL, zbd_s, z_i0, fm_isDigit_n hD, zbd_s, z_i0, h.2.2, nI_1]
    simp only [znm_q]
    rw [c2]
    have ne : ∀ k : Nat, k < 256 → (nI c = nI k ↔ c = k) := fun k hk => nI_eq (by omega) (by omega)
    have cc : (100 : Int32) + nI c = nI (100 + c) := by rw [show (100 : Int32) = nI 100 from rfl, nI_add]
    have w1 : ∀ k : Nat, k < 256 → ∀ {α : Type} (x y : α), (if nI c = nI k then x else y) = if c = k then x else y := fun k hk α x y => by
      by_cases z : c = k
      · rw [if_pos z, if_pos ((ne k hk).mpr z)]
      · rw [if_neg z, if_neg (fun q => z ((ne k hk).mp q))]
    rw [cc, show (59 : Int32) = nI 59 from rfl, show (43 : Int32) = nI 43 from rfl, show (45 : Int32) = nI 45 from rfl, show (42 : Int32) = nI 42 from rfl, show (47 : Int32) = nI 47 from rfl, show (40 : Int32) = nI 40 from rfl, show (41 : Int32) = nI 41 from rfl, show (60 : Int32) = nI 60 from rfl, show (61 : Int32) = nI 61 from rfl, show (62 : Int32) = nI 62 from rfl, w1 59 (by omega), w1 43 (by omega), w1 45 (by omega), w1 42 (by omega), w1 47 (by omega), w1 40 (by omega), w1 41 (by omega), w1 60 (by omega), w1 61 (by omega), w1 62 (by omega)]
    have z10 : (if (1 : Int32) = 0 then some ((), zpI (zpI (zpI (zpI T 0 13 (nI p)) 0 15 (nI p)) 0 13 (nI (p + 1))) 0 14 1) else some ((), zpI (zpI (zpI (zpI T 0 13 (nI p)) 0 15 (nI p)) 0 13 (nI (p + 1))) 0 14 (nI (100 + c)))) = some ((), zpI (zpI (zpI (zpI T 0 13 (nI p)) 0 15 (nI p)) 0 13 (nI (p + 1))) 0 14 (nI (100 + c))) := if_neg (by decide)
    unfold zSg
    by_cases d1 : c = 59
    · simp [d1]
    by_cases d2 : c = 43
    · simp [d2]
    by_cases d3 : c = 45
    · simp [d3]
    by_cases d4 : c = 42
    · simp [d4]
    by_cases d5 : c = 47
    · simp [d5]
    by_cases d6 : c = 40
    · simp [d6]
    by_cases d7 : c = 41
    · simp [d7]
    by_cases d8 : c = 60
    · simp [d8]
    by_cases d9 : c = 61
    · simp [d9]
    by_cases d10 : c = 62
    · simp [d10]
    simp [d1, d2, d3, d4, d5, d6, d7, d8, d9, d10]
  by_cases cs : zSg c
  · have cs' : zSg c := cs
    unfold zSg at cs'
    refine ⟨c, 0, p, p + 1, p1, by omega, by omega, Or.inr (Or.inr (Or.inr (Or.inr cs))), fun _ => by omega, fun h => by omega, fun S hS => ?_, fun T hT => ?_⟩
    · rw [hx S hS, if_pos cs]
      exact ⟨_, rfl, by rw [zI_nk (by omega), zI_nk (by omega), zI_at], zI_at, by rw [zI_nk (by omega), zI_at], fun h => by omega, fun k a b c d => by rw [zI_nk a, zI_nk c, zI_nk b, zI_nk a], fun q hq => by rw [zI_ne hq, zI_ne hq, zI_ne hq, zI_ne hq], rfl⟩
    · rw [hm T hT, if_pos cs]
      have em : zmk c = 100 + c := by unfold zmk; rw [if_neg (by omega), if_neg (by omega), if_neg (by omega), if_neg (by omega), if_neg (by omega), if_neg (by omega), if_neg (by omega), if_neg (by omega), if_neg (by omega)]
      exact ⟨_, rfl, by rw [zI_nk (by omega), zI_nk (by omega), zI_at], by rw [zI_nk (by omega), zI_at], by rw [zI_at, em], fun h => by omega, fun k a b c d => by rw [zI_nk b, zI_nk a, zI_nk c, zI_nk a], fun q hq => by rw [zI_ne hq, zI_ne hq, zI_ne hq, zI_ne hq]⟩
  · refine ⟨302, 0, p, p + 1, p1, by omega, by omega, Or.inr (Or.inr (Or.inl rfl)), fun _ => by omega, fun h => by omega, fun S hS => ?_, fun T hT => ?_⟩
    · rw [hx S hS, if_neg cs]
      exact ⟨_, rfl, by rw [zI_nk (by omega), zI_nk (by omega), zI_at], zI_at, by rw [zI_nk (by omega), zI_at]; rfl, fun h => by omega, fun k a b c d => by rw [zI_nk a, zI_nk c, zI_nk b, zI_nk a], fun q hq => by rw [zI_ne hq, zI_ne hq, zI_ne hq, zI_ne hq], rfl⟩
    · rw [hm T hT, if_neg cs]
      exact ⟨_, rfl, by rw [zI_nk (by omega), zI_nk (by omega), zI_at], by rw [zI_nk (by omega), zI_at], by rw [zI_at]; rfl, fun h => by omega, fun k a b c d => by rw [zI_nk b, zI_nk a, zI_nk c, zI_nk a], fun q hq => by rw [zI_ne hq, zI_ne hq, zI_ne hq, zI_ne hq]⟩
