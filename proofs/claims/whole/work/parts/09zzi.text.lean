/-! a text: all its lines -/
section ztall
variable {t : Nat} {c v p r : Nat → Nat} {X0 M0 : zSt}
theorem zrd_end (E : ztE t c v p r X0 M0) {S : zSt} {q i n : Nat} {W : List Nat} {ao op br ln : Nat} (H : ztY X0 S n W 0 ao op br ln) (h12 : S.1 125 12 = nI q) (hi : i ≤ q) (hq : q ≤ t) (hc : c q = 301) : ∃ S7 : zSt, ztR i S = some (1, S7) ∧ ztY X0 S7 n W 0 ao op br ln ∧ S7.1 126 = S.1 126 := by
  obtain ⟨ht, b, K, e1, e2, e3, e4⟩ := E
  obtain ⟨k1, k2, k3, k4, k5, k6, k7, k8⟩ := K q hq
  obtain ⟨S7, s1, s2, s3, s4, s5, s6, s7, s8⟩ := k7 S ⟨by rw [H.o_ 1 (by omega) (by omega) (by omega)]; exact e1, by rw [H.o_ 2 (by omega) (by omega) (by omega)]; exact e2, h12⟩
  have f : ∀ k, k < 12 → S7.1 125 k = S.1 125 k := fun k hk => s6 k (by omega) (by omega) (by omega) (by omega)
  have Y : ztY X0 S7 n W 0 ao op br ln := ⟨(f 2 (by omega)).trans H.n_, (f 3 (by omega)).trans H.ln_, (f 4 (by omega)).trans H.f_, (f 5 (by omega)).trans H.fp_, (f 7 (by omega)).trans H.w_, (f 8 (by omega)).trans H.e_, (f 9 (by omega)).trans H.ao_, (f 10 (by omega)).trans H.op_, (f 11 (by omega)).trans H.br_, by rw [s7 127 (by omega)]; exact H.W_, fun c a b d => (s7 c a).trans (H.o_ c a b d), s8.trans H.l_⟩
  refine ⟨S7, ?_, Y, s7 126 (by omega)⟩
  unfold ztR
  obtain ⟨g, hg⟩ : ∃ g, 8192 - i = g + 1 := ⟨8192 - i - 1, by omega⟩
  rw [hg, fx_Reader_read_L6, H.o_ 1 (by omega) (by omega) (by omega), e1, if_neg (nI_nlt (by omega) (by omega)), s1, zbd_s]
  simp only [znm_q]
  rw [s4, hc, if_pos (by decide), Y.e_, if_pos (by decide)]
theorem zt_lines (E : ztE t c v p r X0 M0) : ∀ (f : Nat) (S T : zSt) (i q n m ao dp ln : Nat), ztY X0 S n [] 0 ao 0 0 ln → S.1 125 12 = nI q → ztM c v p r M0 T q m dp ln → q ≤ t → i ≤ q → n ≤ q → m ≤ q → ln ≤ 16 → ztHd (S.1 126) (T.1 4) (T.1 5) ln n m → t + 1 < q + f → (∃ (k pl : Nat) (T' : zSt), ztUx X0 (ztR i S) k pl ∧ (∀ j, fm_text_L26 j f 1 T = j 0 T') ∧ ztUm M0 (some (0, T')) k pl) ∨ (∃ (S' T' : zSt) (q' n' m' ao' dp' ln' : Nat), ztR i S = some (1, S') ∧ (∀ j, fm_text_L26 j f 1 T = j 1 T') ∧ ztY X0 S' n' [] 0 ao' 0 0 ln' ∧ ztM c v p r M0 T' q' m' dp' ln' ∧ n' ≤ 400 ∧ m' ≤ 400 ∧ ln' ≤ 16 ∧ ztHd (S'.1 126) (T'.1 4) (T'.1 5) ln' n' m') := by
  intro f
  induction f with
  | zero => intro S T i q n m ao dp ln _ _ _ hq _ _ _ _ _ hf; omega
  | succ f ih =>
    intro S T i q n m ao dp ln Y h12 M hq hi hn hm hl H hf
    have t4 := E.t4
    have is : T.1 0 14 = 0 ↔ c q = 301 := ztM.is E M hq 301 (by unfold zTk; omega)
    by_cases d : c q = 301
    · obtain ⟨S7, s1, s2, s3⟩ := zrd_end E Y h12 hi hq d
      refine Or.inr ⟨S7, T, q, n, m, ao, dp, ln, s1, fun j => ?_, s2, M, by omega, by omega, hl, by rw [s3]; exact H⟩
      rw [fm_text_L26, if_neg (by decide), if_pos (is.mpr d)]
    · have nt : ¬ T.1 0 14 = 0 := fun z => d (is.mp z)
      rcases zt_line E Y h12 M hq hi hn hm hl H d with ⟨k, pl, U1, T', e1, U2⟩ | ⟨S', T', i', q', n', m', ao', e1, e2, e3, e4, e5, e6, e7, e8, e9, e10, e11, e12⟩
      · refine Or.inl ⟨k, pl, zpI T' 0 10 (T'.1 0 10 + 0), U1, fun j => ?_, _, rfl, by rw [zI_nk (by omega)]; exact U2.1, by rw [zI_nk (by omega)]; exact U2.2.1, fun k hk => by rw [zI_nk (by omega)]; exact U2.2.2.1 k hk, fun q a b d => by rw [zI_ne a]; exact U2.2.2.2 q a b d⟩
        obtain ⟨g, rfl⟩ : ∃ g, f = g + 1 := ⟨f - 1, by omega⟩
        rw [fm_text_L26, if_neg (by decide), if_neg nt, e1, zbd_s]
        simp only [znm_q]
        rw [if_pos trivial, fm_text_L26, if_pos rfl]
      · have M2 := e5.ln (ln + 1)
        have red : ∀ j, fm_text_L26 j (f + 1) 1 T = fm_text_L26 j f 1 (zpI T' 0 10 (nI (ln + 1))) := fun j => by
          rw [fm_text_L26, if_neg (by decide), if_neg nt, e1, zbd_s]
          simp only [znm_q]
          rw [if_neg (by decide), e5.2.2.2.2.2.2.1, nI_1]
        rw [e2]
        rcases ih S' (zpI T' 0 10 (nI (ln + 1))) i' q' n' m' ao' 0 (ln + 1) e3 e4 M2 e6 e7 e8 e9 (by omega) (by rw [zI_ne (by omega), zI_ne (by omega)]; exact e11) (by omega) with ⟨k, pl, Z, z1, z2, z3⟩ | ⟨S2, T2, q2, n2, m2, a2, d2, l2, z1, z2, z3⟩
        · exact Or.inl ⟨k, pl, Z, z1, fun j => by rw [red]; exact z2 j, z3⟩
        · exact Or.inr ⟨S2, T2, q2, n2, m2, a2, d2, l2, z1, fun j => by rw [red]; exact z2 j, z3⟩
end ztall
theorem fm_cp1 {ln : Nat} (hl : ln ≤ 16) : ∀ (e k : Nat), k + e = ln → ∀ (f : Nat) (T : zSt), T.1 0 10 = nI ln → e < f → ∃ T' : zSt, (∀ j, fm_text_L112 j f (nI k) T = j T') ∧ (∀ q, q ≠ 1 → T'.1 q = T.1 q) ∧ (∀ i, k ≤ i → i < ln → T'.1 1 (600 + i) = T.1 4 (3 * i) ∧ T'.1 1 (620 + i) = T.1 4 (3 * i + 1) ∧ T'.1 1 (640 + i) = T.1 4 (3 * i + 2)) ∧ (∀ i, (i < 600 + k ∨ (616 ≤ i ∧ i < 620 + k) ∨ (636 ≤ i ∧ i < 640 + k) ∨ 656 ≤ i) → T'.1 1 i = T.1 1 i) := by
  intro e
  induction e with
  | zero =>
    intro k hk f T h10 hf
    obtain ⟨f, rfl⟩ : ∃ g, f = g + 1 := ⟨f - 1, by omega⟩
    refine ⟨T, fun j => ?_, fun _ _ => rfl, fun i a b => by omega, fun _ _ => rfl⟩
    rw [fm_text_L112, h10, if_pos (nI_le (by omega) (by omega))]
  | succ e ih =>
    intro k hk f T h10 hf
    obtain ⟨f, rfl⟩ : ∃ g, f = g + 1 := ⟨f - 1, by omega⟩
    obtain ⟨A, a1⟩ : ∃ A, zpI (zpI (zpI T 1 (600 + k) (T.1 4 (3 * k))) 1 (620 + k) (T.1 4 (3 * k + 1))) 1 (640 + k) (T.1 4 (3 * k + 2)) = A := ⟨_, rfl⟩
    have aq : ∀ q, q ≠ 1 → A.1 q = T.1 q := fun q hq => by rw [← a1, zI_ne hq, zI_ne hq, zI_ne hq]
    have ai : ∀ i, i ≠ 600 + k → i ≠ 620 + k → i ≠ 640 + k → A.1 1 i = T.1 1 i := fun i x y z => by rw [← a1, zI_nk z, zI_nk y, zI_nk x]
    obtain ⟨T', t1, t2, t3, t4⟩ := ih (k + 1) (by omega) f A (by rw [aq 0 (by omega)]; exact h10) (by omega)
    refine ⟨T', fun j => ?_, fun q hq => by rw [t2 q hq, aq q hq], fun i a b => ?_, fun i hi => by rw [t4 i (by omega), ai i (by omega) (by omega) (by omega)]⟩
    · rw [fm_text_L112, h10, if_neg (nI_ge (by omega) (by omega))]
      simp only [znm_q]
      rw [zst3, nI_1 (3 * k), show nI (3 * k) + (2 : Int32) = nI (3 * k + 2) from by rw [show (2 : Int32) = nI 2 from rfl, nI_add], show (600 : Int32) + nI k = nI (600 + k) from by rw [show (600 : Int32) = nI 600 from rfl, nI_add], show (620 : Int32) + nI k = nI (620 + k) from by rw [show (620 : Int32) = nI 620 from rfl, nI_add], show (640 : Int32) + nI k = nI (640 + k) from by rw [show (640 : Int32) = nI 640 from rfl, nI_add], zix_n (show 3 * k < 48 by omega) (by omega), zix_n (show 3 * k + 1 < 48 by omega) (by omega), zix_n (show 3 * k + 2 < 48 by omega) (by omega), zix_n (show 600 + k < 1480 by omega) (by omega), zix_n (show 620 + k < 1480 by omega) (by omega), zix_n (show 640 + k < 1480 by omega) (by omega)]
      simp only [zck_q]
      rw [nI_clamp (n := 3 * k) (by omega), nI_clamp (n := 3 * k + 1) (by omega), nI_clamp (n := 3 * k + 2) (by omega), nI_clamp (n := 600 + k) (by omega), nI_clamp (n := 620 + k) (by omega), nI_clamp (n := 640 + k) (by omega), zI_ne (show 4 ≠ 1 by omega), zI_ne (show 4 ≠ 1 by omega), zI_ne (show 4 ≠ 1 by omega), a1, nI_1 k]
      exact t1 j
    · by_cases d : i = k
      · subst d
        refine ⟨?_, ?_, ?_⟩
        · rw [t4 _ (by omega), ← a1, zI_nk (by omega), zI_nk (by omega), zI_at]
        · rw [t4 _ (by omega), ← a1, zI_nk (by omega), zI_at]
        · rw [t4 _ (by omega), ← a1, zI_at]
      · have := t3 i (by omega) b
        rw [aq 4 (by omega)] at this
        exact this
theorem fm_cp2 {m : Nat} (hm : m ≤ 400) : ∀ (e k : Nat), k + e = 2 * m → ∀ (f : Nat) (T : zSt), T.1 0 11 = nI m → e < f → ∃ T' : zSt, fm_text_L186 f (nI k) T = some (T.1 0 10, T') ∧ (∀ q, q ≠ 1 → T'.1 q = T.1 q) ∧ (∀ i, k ≤ i → i < 2 * m → T'.1 1 (660 + i) = T.1 5 i) ∧ (∀ i, i < 660 + k → T'.1 1 i = T.1 1 i) := by
  intro e
  induction e with
  | zero =>
    intro k hk f T h11 hf
    obtain ⟨f, rfl⟩ : ∃ g, f = g + 1 := ⟨f - 1, by omega⟩
    refine ⟨T, ?_, fun _ _ => rfl, fun i a b => by omega, fun _ _ => rfl⟩
    rw [fm_text_L186, h11, show (2 : Int32) * nI m = nI (2 * m) from by rw [show (2 : Int32) = nI 2 from rfl, pk_mul], if_pos (nI_le (by omega) (by omega))]
  | succ e ih =>
    intro k hk f T h11 hf
    obtain ⟨f, rfl⟩ : ∃ g, f = g + 1 := ⟨f - 1, by omega⟩
    obtain ⟨T', t1, t2, t3, t4⟩ := ih (k + 1) (by omega) f (zpI T 1 (660 + k) (T.1 5 k)) (by rw [zI_ne (by omega)]; exact h11) (by omega)
    refine ⟨T', ?_, fun q hq => by rw [t2 q hq, zI_ne hq], fun i a b => ?_, fun i hi => by rw [t4 i (by omega), zI_nk (by omega)]⟩
    · rw [fm_text_L186, h11, show (2 : Int32) * nI m = nI (2 * m) from by rw [show (2 : Int32) = nI 2 from rfl, pk_mul], if_neg (nI_ge (by omega) (by omega)), show (660 : Int32) + nI k = nI (660 + k) from by rw [show (660 : Int32) = nI 660 from rfl, nI_add], zix_n (show k < 820 by omega) (by omega), zck_t, zix_n (show 660 + k < 1480 by omega) (by omega), zck_t, nI_clamp (n := 660 + k) (by omega), nI_clamp (n := k) (by omega), znm_q, nI_1, znm_q, t1, zI_ne (by omega)]
    · by_cases d : i = k
      · subst d
        rw [t4 _ (by omega), zI_at]
      · rw [t3 i (by omega) b, zI_ne (by omega)]
