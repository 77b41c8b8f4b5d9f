/-! worlds: the row saved and brought back -/
theorem m_save {S0 : zM} {K : zM → Option (Int32 × zM)} (h : zLay S0) {n : Nat} (hn : 1004 < n) : ∃ S1 : zM, f_X12_worlds_L41 436 K n 0 S0 = K S1 ∧ zF (fun a _ => a = 451) S0 S1 ∧ ∀ k : Nat, k < 1004 → zi S1 451 k = zi S0 437 k := by
  have r0 : zr S0 436 0 = 437 := h.2.2.2.2.2.1.1
  have l0 : zln S0 437 = 1004 := h.2.2.2.2.2.2.1
  have r49 : zr S0 436 49 = 451 := h.2.2.2.2.2.1.2.2.2.2.2.2.2.2.2.2.2.2.2.2
  have l51 : zln S0 451 = 1004 := h.2.2.2.2.2.2.2.2.2.2.2.2.2.2.2.2.2.2.2.2.1
  refine zloopR (fun f (s : Int32 × zM) => f_X12_worlds_L41 436 K f s.1 s.2) (fun k s => s.1 = nI k ∧ zF (fun a _ => a = 451) S0 s.2 ∧ ∀ j : Nat, j < k → zi s.2 451 j = zi S0 437 j) 1004 (fun o => ∃ S1 : zM, o = K S1 ∧ zF (fun a _ => a = 451) S0 S1 ∧ ∀ k : Nat, k < 1004 → zi S1 451 k = zi S0 437 k) ?_ ?_ n (0, S0) hn ⟨rfl, zF.rf, fun j hj => absurd hj (Nat.not_lt_zero _)⟩
  · rintro k f ⟨x, S⟩ hk ⟨h1, h2, h3⟩
    dsimp only at h1 h2 h3
    subst h1
    refine ⟨(nI (k + 1), zpI S 451 k (zi S 437 k)), ⟨rfl, zF.pI h2 rfl, fun j hj => ?_⟩, ?_⟩
    · dsimp only
      by_cases hjk : j = k
      · subst hjk; rw [mi_eq]; exact h2.i (by omega)
      · rw [mi_ne _ _ (by omega)]; exact h3 j (by omega)
    · show f_X12_worlds_L41b 436 K (f_X12_worlds_L41 436 K f) (nI k) S = _
      unfold f_X12_worlds_L41b
      rw [if_neg (show ¬ (1004 : Int32) ≤ nI k from nI_ge hk (by decide)), h2.r, h2.n, r49, r0, zChk_t (by decide), zChk_t (by decide), l0, l51, zChk_t (zix hk (by omega)), zChk_t (zix hk (by omega)), zLet_d, nI_clamp (by omega), nI_1]
  · rintro f ⟨x, S⟩ ⟨h1, h2, h3⟩
    dsimp only at h1 h2 h3 ⊢
    subst h1
    refine ⟨S, ?_, h2, h3⟩
    show f_X12_worlds_L41b 436 K (f_X12_worlds_L41 436 K f) (nI 1004) S = _
    unfold f_X12_worlds_L41b
    rw [if_pos (show (1004 : Int32) ≤ nI 1004 from Int32.le_refl _)]
theorem m_back {S0 : zM} {K : zM → Option (Int32 × zM)} (h : zLay S0) {n : Nat} (hn : 1004 < n) : ∃ S1 : zM, f_X12_worlds_L226 436 K n 0 S0 = K S1 ∧ zF (fun a k => a = 437 ∧ k < 1004) S0 S1 ∧ ∀ k : Nat, k < 1004 → zi S1 437 k = zi S0 451 k := by
  have r0 : zr S0 436 0 = 437 := h.2.2.2.2.2.1.1
  have l0 : zln S0 437 = 1004 := h.2.2.2.2.2.2.1
  have r49 : zr S0 436 49 = 451 := h.2.2.2.2.2.1.2.2.2.2.2.2.2.2.2.2.2.2.2.2
  have l51 : zln S0 451 = 1004 := h.2.2.2.2.2.2.2.2.2.2.2.2.2.2.2.2.2.2.2.2.1
  refine zloopR (fun f (s : Int32 × zM) => f_X12_worlds_L226 436 K f s.1 s.2) (fun k s => s.1 = nI k ∧ zF (fun a k => a = 437 ∧ k < 1004) S0 s.2 ∧ ∀ j : Nat, j < k → zi s.2 437 j = zi S0 451 j) 1004 (fun o => ∃ S1 : zM, o = K S1 ∧ zF (fun a k => a = 437 ∧ k < 1004) S0 S1 ∧ ∀ k : Nat, k < 1004 → zi S1 437 k = zi S0 451 k) ?_ ?_ n (0, S0) hn ⟨rfl, zF.rf, fun j hj => absurd hj (Nat.not_lt_zero _)⟩
  · rintro k f ⟨x, S⟩ hk ⟨h1, h2, h3⟩
    dsimp only at h1 h2 h3
    subst h1
    refine ⟨(nI (k + 1), zpI S 437 k (zi S 451 k)), ⟨rfl, zF.pI h2 ⟨rfl, hk⟩, fun j hj => ?_⟩, ?_⟩
    · dsimp only
      by_cases hjk : j = k
      · subst hjk; rw [mi_eq]; exact h2.i (by omega)
      · rw [mi_ne _ _ (by omega)]; exact h3 j (by omega)
    · show f_X12_worlds_L226b 436 K (f_X12_worlds_L226 436 K f) (nI k) S = _
      unfold f_X12_worlds_L226b
      rw [if_neg (show ¬ (1004 : Int32) ≤ nI k from nI_ge hk (by decide)), h2.r, h2.n, r49, r0, zChk_t (by decide), zChk_t (by decide), l0, l51, zChk_t (zix hk (by omega)), zChk_t (zix hk (by omega)), zLet_d, nI_clamp (by omega), nI_1]
  · rintro f ⟨x, S⟩ ⟨h1, h2, h3⟩
    dsimp only at h1 h2 h3 ⊢
    subst h1
    refine ⟨S, ?_, h2, h3⟩
    show f_X12_worlds_L226b 436 K (f_X12_worlds_L226 436 K f) (nI 1004) S = _
    unfold f_X12_worlds_L226b
    rw [if_pos (show (1004 : Int32) ≤ nI 1004 from Int32.le_refl _)]
