/-! leavens: small parts -/
theorem fx_lhas_lo {S : zSt} {a : Int32} {n : Nat} (hS : S.1 22 0 = nI n) (h : a < 0 ∨ nI n ≤ a) : fx_Leavens_has S a = some (0, S) := by
  unfold fx_Leavens_has
  simp only [znm]
  by_cases h1 : a < 0
  · rw [if_pos h1, zbo_0, zck_t]
  · rw [if_neg h1, hS, if_pos (h.resolve_left h1), zbo_0, zck_t]
theorem fx_lhas_in {S : zSt} {h n : Nat} (hS : S.1 22 0 = nI n) (hn : n ≤ 60) (hh : h < n) : fx_Leavens_has S (nI h) = some (1, S) := by
  unfold fx_Leavens_has
  simp only [znm]
  rw [if_neg (nI_pos (by omega)), hS, if_neg (nI_ge hh (by omega)), zbo_1, zck_t]
theorem fm_lhas_lo {S : zSt} {a : Int32} {n : Nat} (hS : S.1 1 585 = nI n) (hn : n ≤ 60) (h : a < 0 ∨ nI n ≤ a) : fm_isLeaven S a = some (0, S) := by
  unfold fm_isLeaven
  rw [hS, fm_isIn_lo (h.elim Or.inl (fun q => Or.inr ((z_lt1 (by omega) a).mpr q))), zbd_s, zbo_0, zck_t]
theorem fm_lhas_in {S : zSt} {h n : Nat} (hS : S.1 1 585 = nI n) (hn : n ≤ 60) (hh : h < n) : fm_isLeaven S (nI h) = some (1, S) := by
  unfold fm_isLeaven
  rw [hS, fm_isIn_in (nI_pos (by omega)) (fun q => nI_ge hh (by omega) ((z_lt1 (by omega) _).mp q)), zbd_s, zbo_1, zck_t]
theorem z_lev (h k : Nat) : ((340 : Int32) + (4 : Int32) * nI h) + nI k = nI (340 + 4 * h + k) := by
  rw [show (4 : Int32) = nI 4 from rfl, show (340 : Int32) = nI 340 from rfl, pk_mul, nI_add, nI_add]
theorem fm_ofL_eq {S : zSt} {h k : Nat} (hh : h < 60) (hk : k < 4) : fm_ofLeaven S (nI h) (nI k) = some (S.1 1 (340 + 4 * h + k), S) := by
  unfold fm_ofLeaven
  rw [z_lev, zix_n (by omega) (by omega), zck_t, nI_clamp (by omega)]
/-- a leaven is added: the cells of the class -/
theorem fx_Ladd_eq {S : zSt} {n : Nat} {v1 v2 v3 v4 : Int32} {w : Int64} (hS : S.1 22 0 = nI n) (hn : n < 60) : ∃ X : zSt, fx_Leavens_add S v1 v2 v3 v4 w = some (nI n, X) ∧ X.1 22 0 = nI (n + 1) ∧ X.1 23 = upd (S.1 23) n v1 ∧ X.1 24 = upd (S.1 24) n v2 ∧ X.1 25 = upd (S.1 25) n v3 ∧ X.1 26 = upd (S.1 26) n v4 ∧ X.2 27 = vp_updL (S.2 27) n (w ||| 1 <<< ((nI n).toInt64 &&& 63)) ∧ (∀ q, (q < 22 ∨ 27 ≤ q) → X.1 q = S.1 q) ∧ (∀ q, q ≠ 27 → X.2 q = S.2 q) := by
  have zl : ∀ (S : zSt) (k : Nat) (v : Int64), (zpL S 27 k v).1 = S.1 := fun _ _ _ => rfl
  have zi : ∀ (S : zSt) (q k : Nat) (v : Int32), (zpI S q k v).2 = S.2 := fun _ _ _ _ => rfl
  unfold fx_Leavens_add
  rw [hS, if_pos (show nI n < (60 : Int32) from by rw [show (60 : Int32) = nI 60 from rfl]; exact nI_lt hn (by omega)), zix_n hn (by omega), zck_t]
  simp only [znm]
  simp (disch := omega) only [zI_ne, zl, hS]
  rw [zix_n hn (by omega), zck_t, zck_t, zck_t, zck_t, nI_clamp (by omega)]
  refine ⟨_, congrArg some (Prod.ext (show _ - (1 : Int32) = nI n from ?_) rfl), ?_, ?_, ?_, ?_, ?_, ?_, ?_, ?_⟩
  · rw [zI_at, nI_1, nI_pred]
  · exact zI_at.trans (nI_1 n)
  · simp (disch := omega) only [zI_ne, zl, zI_eq]
  · simp (disch := omega) only [zI_ne, zl, zI_eq]
  · simp (disch := omega) only [zI_ne, zl, zI_eq]
  · simp (disch := omega) only [zI_ne, zl, zI_eq]
  · simp only [zi, zL_eq]
  · intro q hq
    simp (disch := omega) only [zI_ne, zl]
  · intro q hq
    simp (disch := omega) only [zi, zL_ne]
