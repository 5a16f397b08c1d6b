/-! signs -/
def zSg (c : Nat) : Prop := c = 59 ∨ c = 43 ∨ c = 45 ∨ c = 42 ∨ c = 47 ∨ c = 40 ∨ c = 41 ∨ c = 60 ∨ c = 61 ∨ c = 62
theorem zsg_y : ∀ c, c < 256 → (∃ i, i < 10 ∧ ((zSB.getD 1 []).getD i 0) = (nI c).toInt8.toInt32) → zSg c := by
  unfold zSg
  decide +kernel
theorem zsg_n : ∀ c, c < 256 → zSg c → ∃ i, i < 10 ∧ ((zSB.getD 1 []).getD i 0) = (nI c).toInt8.toInt32 := by
  unfold zSg
  decide +kernel
theorem fj_lat {ki : Nat} {S : zSt} : fj0_isLatin1 ki S = some (1, S) := by
  unfold fj0_isLatin1
  simp only [znm_q]
  rw [if_neg (by decide), if_pos (by decide), zbo_1, zck_t]
theorem fj_cod {ki : Nat} {S : zSt} : fj0_coder ki S = some (0, S) := by
  unfold fj0_coder
  simp only [znm_q]
  rw [if_neg (by decide), show zby 0 = true from by decide, zck_t]
theorem fj_len {ki l : Nat} {S : zSt} (h : zSL.getD ki 0 = l) (hl : l < 100) : fj0_length ki S = some (nI l, S) := by
  unfold fj0_length
  rw [fj_cod, zbd_s, h]
  have : ∀ l, l < 100 → Int32.ofNat l >>> ((0 : Int32) &&& 31) = nI l := by decide +kernel
  rw [this l hl]
theorem fj_sign {S : zSt} {c : Nat} (hc : c < 256) : ∃ r : Int32, fj0_indexOf 1 S (((nI c).toUInt32 % 65536).toInt32) = some (r, S) ∧ (0 ≤ r ↔ zSg c) := by
  have key : ∀ (f i : Nat), i ≤ 10 → 10 < i + f → (∀ k, k < i → ¬ ((zSB.getD 1 []).getD k 0) = (nI c).toInt8.toInt32) → ∃ r : Int32, fj1_indexOfChar_L7 1 (nI 10) ((nI c).toInt8.toInt32) f (nI i) S = some (r, S) ∧ (0 ≤ r ↔ zSg c) := by
    intro f
    induction f with
    | zero => intro i a b; omega
    | succ f ih =>
      intro i h1 h2 hp
      rw [fj1_indexOfChar_L7]
      by_cases e : i = 10
      · subst e
        rw [if_pos (nI_le (Nat.le_refl _) (by omega))]
        refine ⟨-1, rfl, ⟨fun h => absurd h (by decide), fun h => ?_⟩⟩
        obtain ⟨k, k1, k2⟩ := zsg_n c hc h
        exact absurd k2 (hp k k1)
      · rw [if_neg (nI_ge (by omega) (by omega)), show zSL.getD 1 0 = 10 from rfl, zix_n (by omega) (by omega), zck_t, nI_clamp (by omega)]
        by_cases d : ((zSB.getD 1 []).getD i 0) = (nI c).toInt8.toInt32
        · rw [if_pos d]
          exact ⟨nI i, rfl, ⟨fun _ => zsg_y c hc ⟨i, by omega, d⟩, fun _ => nI_pos' (by omega)⟩⟩
        · rw [if_neg d, znm_q, nI_1]
          exact ih (i + 1) (by omega) (by omega) (fun k hk => by
            by_cases z : k = i
            · rw [z]; exact d
            · exact hp k (by omega))
  obtain ⟨r, r1, r2⟩ := key zFU 0 (by omega) (by unfold zFU; omega) (fun k hk => by omega)
  refine ⟨r, ?_, r2⟩
  have ec : ((nI c).toUInt32 % 65536).toInt32 = nI c := by
    rw [pk_char]
    have : (nI c).toBitVec.toNat = c := by
      show (BitVec.ofNat 32 c).toNat = c
      rw [BitVec.toNat_ofNat, Nat.mod_eq_of_lt (by omega)]
    rw [this, Nat.mod_eq_of_lt (by omega)]
  have ce : fj1_canEncode S (nI c) = some (1, S) := by
    unfold fj1_canEncode
    simp only [znm_q]
    rw [if_neg (nI_pos (by omega)), if_neg (show ¬ (255 : Int32) < nI c from nI_nlt (a := 255) (by omega) (by omega)), zbo_1, zck_t]
  unfold fj0_indexOf fj0_indexOf2 fj1_indexOf fj1_indexOfChar
  rw [ec, fj_lat, zbd_s, znm_q, z_i1, fj_len (l := 10) rfl (by omega), zbd_s, ce, zbd_s, z_i1, znm_q, znm_q, show (if (0 : Int32) < 0 then (0 : Int32) else 0) = 0 from by decide, show (if (Int32.ofNat (zSL.getD 1 0)) < nI 10 then (Int32.ofNat (zSL.getD 1 0)) else nI 10) = nI 10 from by decide, if_pos (by decide), znm_q]
  rw [nI_0] at r1
  rw [r1, zbd_s, zbd_s, zbd_s]
/-! keywords -/
/-- keyword k of the class, and which String of the reference it is -/
def zKi (k : Nat) : Nat := [6, 2, 3, 4, 5, 7, 8, 9, 10, 11, 12, 13, 14, 15, 16].getD k 0
def zKl (k : Nat) : Nat := zSL.getD (zKi k) 0
def zKc (k i : Nat) : Int32 := (zSB.getD (zKi k) []).getD i 0
theorem zkw1 : ∀ k, k < 15 → 1 ≤ zKl k ∧ zKl k ≤ 5 := by decide +kernel
theorem zkw2 : ∀ k, k < 15 → ∀ i, i < 5 → ((((zSB.getD 0 []).getD (5 * k + i) 0) &&& (255 : Int32)).toUInt32 % 65536).toInt32 = (if i < zKl k then zKc k i else 32) ∧ (i < zKl k → ¬ zKc k i = 32) ∧ zbc (((((zSB.getD 0 []).getD (5 * k + i) 0) &&& (255 : Int32)).toUInt32 % 65536).toInt32) = true := by decide +kernel
theorem zkw3 : ∀ k, k < 15 → ∀ i, i < zKl k → ((((zSB.getD (zKi k) []).getD i 0) &&& (255 : Int32)).toUInt32 % 65536).toInt32 = zKc k i ∧ zbc (((((zSB.getD (zKi k) []).getD i 0) &&& (255 : Int32)).toUInt32 % 65536).toInt32) = true := by decide +kernel
theorem zkw4 : ∀ k, k < 15 → ∀ l, l < 15 → (zKl k = zKl l ∧ ∀ i, i < zKl k → zKc k i = zKc l i) → k = l := by decide +kernel
/-- the word from p to r is keyword k -/
def zIs (b : Nat → Int32) (p r k : Nat) : Prop := r = p + zKl k ∧ ∀ i, i < zKl k → b (p + i) = zKc k i
theorem fx_kchar {S : zSt} {k i : Nat} (hk : k < 15) (hi : i < 5) : fj0_charAt 0 S (nI k * 5 + nI i) = some ((if i < zKl k then zKc k i else 32), S) := by
  obtain ⟨e1, _, e3⟩ := zkw2 k hk i hi
  unfold fj0_charAt fj1_charAt fj0_checkIndex fj3_checkIndex
  rw [show nI k * (5 : Int32) + nI i = nI (5 * k + i) from by rw [show (5 : Int32) = nI 5 from rfl, pk_mul, nI_add, Nat.mul_comm], fj_lat, zbd_s, z_i1, znm_q, if_neg (nI_pos (by omega)), show (Int32.ofNat (zSL.getD 0 0)) = nI 75 from rfl, if_pos (nI_lt (by omega) (by omega)), zbd_s, zbd_s, show zSL.getD 0 0 = 75 from rfl, zix_n (by omega) (by omega), zck_t, nI_clamp (by omega), e3, zck_t, zbd_s, e3, zck_t, e1]
theorem fm_kchar {S : zSt} {k i : Nat} (hk : k < 15) (hi : i < zKl k) : fj0_charAt (zKi k) S (nI i) = some (zKc k i, S) := by
  obtain ⟨e1, e3⟩ := zkw3 k hk i hi
  have hl := zkw1 k hk
  unfold fj0_charAt fj1_charAt fj0_checkIndex fj3_checkIndex
  rw [fj_lat, zbd_s, z_i1, znm_q, if_neg (nI_pos (by omega)), show (Int32.ofNat (zSL.getD (zKi k) 0)) = nI (zKl k) from rfl, if_pos (nI_lt hi (by omega)), zbd_s, zbd_s, show zSL.getD (zKi k) 0 = zKl k from rfl, zix_n hi (by omega), zck_t, nI_clamp (by omega), e3, zck_t, zbd_s, e3, zck_t, e1]
theorem fx_isK_eq {S : zSt} {b : Nat → Int32} {p r k : Nat} (hb : S.1 2 = b) (h13 : S.1 125 13 = nI p) (h12 : S.1 125 12 = nI r) (hpr : p ≤ r) (hr : r ≤ 400) (h5 : r ≤ p + 5) (hl : ∀ i, p ≤ i → i < r → ¬ b i = 32) (hk : k < 15) : (zIs b p r k → fx_Reader_isKeyword S (nI k) = some (1, S)) ∧ (¬ zIs b p r k → fx_Reader_isKeyword S (nI k) = some (0, S)) := by
  obtain ⟨l1, l2⟩ := zkw1 k hk
  -- sign i of the word, filled up
  have st : ∀ (f i : Nat), i < 5 → fx_Reader_isKeyword_L2 (nI k) (f + 1) (nI i) S = if (if i < zKl k then zKc k i else 32) = (if p + i < r then b (p + i) else 32) then fx_Reader_isKeyword_L2 (nI k) f (nI (i + 1)) S else some (0, S) := fun f i hi => by
    rw [fx_Reader_isKeyword_L2, if_neg (show ¬ (5 : Int32) ≤ nI i from nI_ge (b := 5) hi (by omega))]
    simp only [znm_q]
    rw [h12, h13, nI_add, fx_kchar hk hi, zbd_s, zbd_s, nI_1]
    by_cases c : p + i < r
    · rw [if_neg (nI_ge c (by omega)), zix_n (by omega) (by omega), zck_t, nI_clamp (by omega), hb, if_pos c]
    · rw [if_pos (nI_le (by omega) (by omega)), if_neg c]
  have fin : ∀ f, fx_Reader_isKeyword_L2 (nI k) (f + 1) (nI 5) S = some (1, S) := fun f => by rw [fx_Reader_isKeyword_L2, if_pos (by decide)]
  have same : zIs b p r k ↔ ∀ i, i < 5 → (if i < zKl k then zKc k i else 32) = (if p + i < r then b (p + i) else 32) := by
    constructor
    · intro ⟨e1, e2⟩ i hi
      by_cases c : i < zKl k
      · rw [if_pos c, if_pos (by omega), e2 i c]
      · rw [if_neg c, if_neg (by omega)]
    · intro h
      have e1 : r = p + zKl k := by
        by_cases c : p + zKl k < r
        · have := h (zKl k) (by omega)
          rw [if_neg (by omega), if_pos c] at this
          exact absurd this.symm (hl _ (by omega) (by omega))
        · by_cases d : r < p + zKl k
          · have := h (r - p) (by omega)
            rw [if_pos (by omega), if_neg (by omega)] at this
            exact absurd this ((zkw2 k hk (r - p) (by omega)).2.1 (by omega))
          · omega
      refine ⟨e1, fun i hi => ?_⟩
      have := h i (by omega)
      rw [if_pos hi, if_pos (by omega)] at this
      exact this.symm
  have key : ∀ (f i : Nat), i ≤ 5 → 5 < i + f → (∀ k', k' < i → (if k' < zKl k then zKc k k' else 32) = (if p + k' < r then b (p + k') else 32)) → (zIs b p r k → fx_Reader_isKeyword_L2 (nI k) f (nI i) S = some (1, S)) ∧ (¬ zIs b p r k → fx_Reader_isKeyword_L2 (nI k) f (nI i) S = some (0, S)) := by
    intro f
    induction f with
    | zero => intro i a b; omega
    | succ f ih =>
      intro i h1 h2 hp
      by_cases e : i = 5
      · subst e
        rw [fin]
        exact ⟨fun _ => rfl, fun q => absurd (same.mpr hp) q⟩
      · rw [st f i (by omega)]
        by_cases c : (if i < zKl k then zKc k i else 32) = (if p + i < r then b (p + i) else 32)
        · rw [if_pos c]
          exact ih (i + 1) (by omega) (by omega) (fun k' hk' => by
            by_cases z : k' = i
            · rw [z]; exact c
            · exact hp k' (by omega))
        · rw [if_neg c]
          exact ⟨fun q => absurd (same.mp q i (by omega)) c, fun _ => rfl⟩
  unfold fx_Reader_isKeyword
  rw [← nI_0]
  exact key zFU 0 (by omega) (by unfold zFU; omega) (fun k' hk' => by omega)
theorem fm_is_eq {T : zSt} {b : Nat → Int32} {p r k : Nat} (hb : T.1 6 = b) (h15 : T.1 0 15 = nI p) (h13 : T.1 0 13 = nI r) (hpr : p ≤ r) (hr : r ≤ 400) (hk : k < 15) : (zIs b p r k → fm_is (zKi k) T = some (1, T)) ∧ (¬ zIs b p r k → fm_is (zKi k) T = some (0, T)) := by
  obtain ⟨l1, l2⟩ := zkw1 k hk
  have len : ∀ Z : zSt, fj0_length (zKi k) Z = some (nI (zKl k), Z) := fun Z => fj_len rfl (show zKl k < 100 by omega)
  have key : ∀ (f i : Nat) (v : Int32), i ≤ zKl k → zKl k < i + f → (v = 0 ∨ v = 1) → (∀ j : Int32 → zSt → Option (Int32 × zSt), fm_is_L24 (zKi k) j (f + 1) 0 (nI i) T = j 0 T) := by
    intro f i v h1 h2 hv j
    rw [fm_is_L24, len, zbd_s]
    by_cases c : nI (zKl k) ≤ nI i
    · rw [if_pos c]
    · rw [if_neg c, if_pos rfl]
  have key1 : ∀ (f i : Nat), i ≤ zKl k → zKl k < i + f → r = p + zKl k → (∀ k', k' < i → b (p + k') = zKc k k') → (∀ j : Int32 → zSt → Option (Int32 × zSt), (zIs b p r k → fm_is_L24 (zKi k) j f 1 (nI i) T = j 1 T) ∧ (¬ zIs b p r k → fm_is_L24 (zKi k) j f 1 (nI i) T = j 0 T)) := by
    intro f
    induction f with
    | zero => intro i a b; omega
    | succ f ih =>
      intro i h1 h2 hr2 hp j
      rw [fm_is_L24, len, zbd_s]
      by_cases e : i = zKl k
      · subst e
        rw [if_pos (nI_le (Nat.le_refl _) (by omega))]
        exact ⟨fun _ => rfl, fun q => absurd ⟨hr2, hp⟩ q⟩
      · rw [if_neg (nI_ge (by omega) (by omega)), if_neg (by decide), h15, nI_add, zix_n (by omega) (by omega), zck_t, fm_kchar hk (by omega), zbd_s]
        simp only [znm_q]
        rw [nI_clamp (by omega), hb, nI_1]
        by_cases c : b (p + i) = zKc k i
        · rw [if_pos c]
          exact ih (i + 1) (by omega) (by omega) hr2 (fun k' hk' => by
            by_cases z : k' = i
            · rw [z]; exact c
            · exact hp k' (by omega)) j
        · rw [if_neg c]
          refine ⟨fun q => absurd (q.2 i (by omega)) c, fun _ => ?_⟩
          obtain ⟨f, rfl⟩ : ∃ g, f = g + 1 := ⟨f - 1, by omega⟩
          rw [fm_is_L24, len, zbd_s]
          by_cases d : nI (zKl k) ≤ nI (i + 1)
          · rw [if_pos d]
          · rw [if_neg d, if_pos rfl]
  unfold fm_is
  rw [len, zbd_s]
  simp only [znm_q]
  rw [h13, h15, pk_sub hpr]
  by_cases c : r - p = zKl k
  · rw [if_pos (by rw [c])]
    have := key1 zFU 0 (by omega) (by unfold zFU; omega) (by omega) (fun k' hk' => by omega) (fun x_6 S_7 => zck (zbo x_6) (some (x_6, S_7)))
    rw [nI_0] at this
    exact ⟨fun q => by rw [this.1 q, zbo_1, zck_t], fun q => by rw [this.2 q, zbo_0, zck_t]⟩
  · rw [if_neg (fun q => c ((nI_eq (by omega) (by omega)).mp q))]
    have := key 8191 0 0 (by omega) (by omega) (Or.inl rfl) (fun x_6 S_7 => zck (zbo x_6) (some (x_6, S_7)))
    rw [nI_0] at this
    have e2 : fm_is_L24 (zKi k) (fun x_6 S_7 => zck (zbo x_6) (some (x_6, S_7))) zFU 0 0 T = some (0, T) := by
      unfold zFU
      rw [this, zbo_0, zck_t]
    exact ⟨fun q => absurd q.1 (by omega), fun _ => e2⟩
