/-! row -/
theorem x_fill {q a0 : Nat} {K : zM → Option zM} {S0 : zM} (hr : zr S0 a0 0 = q) (hq : q ≠ 0) (hn : zln S0 q = 120) : ∀ n : Nat, 120 < n → ∃ S1 : zM, f_X8_holdRow_L21 a0 K n 0 S0 = K S1 ∧ zF (fun a k => a = q ∧ k < 120) S0 S1 ∧ ∀ j : Nat, j < 120 → zi S1 q j = 0 := by
  intro n hn1
  refine zloopR (fun n (s : Int32 × zM) => f_X8_holdRow_L21 a0 K n s.1 s.2) (fun k s => s.1 = nI k ∧ zF (fun a j => a = q ∧ j < 120) S0 s.2 ∧ ∀ j : Nat, j < k → zi s.2 q j = 0) 120 (fun o => ∃ S1 : zM, o = K S1 ∧ zF (fun a j => a = q ∧ j < 120) S0 S1 ∧ ∀ j : Nat, j < 120 → zi S1 q j = 0) ?_ ?_ n (0, S0) hn1 ⟨rfl, zF.rf, fun j hj => by omega⟩
  · rintro k f ⟨x, S⟩ hk ⟨h1, h2, h3⟩
    dsimp only at h1 h2 h3 ⊢
    subst h1
    refine ⟨(nI (k + 1), zpI S q k 0), ⟨rfl, h2.tr (zF_pI ⟨rfl, hk⟩), fun j hj => ?_⟩, ?_⟩
    · dsimp only
      by_cases hjk : j = k
      · subst hjk; exact mi_eq _ _ _ _
      · rw [mi_ne _ _ (by omega)]; exact h3 j (by omega)
    · show f_X8_holdRow_L21b a0 K (f_X8_holdRow_L21 a0 K f) (nI k) S = _
      unfold f_X8_holdRow_L21b
      rw [if_neg (show ¬ (120 : Int32) ≤ nI k from nI_ge hk (by decide)), h2.r, hr, zChk_t (by omega), h2.n, hn, zChk_t (zix hk (by omega)), zLet_d, nI_clamp (by omega), nI_1]
  · rintro f ⟨x, S⟩ ⟨h1, h2, h3⟩
    dsimp only at h1 h2 h3 ⊢
    subst h1
    refine ⟨S, ?_, h2, h3⟩
    show f_X8_holdRow_L21b a0 K (f_X8_holdRow_L21 a0 K f) (nI 120) S = _
    unfold f_X8_holdRow_L21b
    rw [if_pos (show (120 : Int32) ≤ nI 120 from Int32.le_refl _)]
theorem m_fill {d : Nat} (hd : d < 8) {K : zM → Option (Int32 × zM)} {S0 : zM} (hr : zr S0 436 5 = 442) (hn : zln S0 442 = 960) : ∀ n : Nat, 120 < n → ∃ S1 : zM, f_X12_row_L58 436 (nI d) K n 0 S0 = K S1 ∧ zF (fun a k => a = 442 ∧ 120 * d ≤ k ∧ k < 120 * d + 120) S0 S1 ∧ ∀ j : Nat, j < 120 → zi S1 442 (120 * d + j) = 0 := by
  intro n hn1
  refine zloopR (fun n (s : Int32 × zM) => f_X12_row_L58 436 (nI d) K n s.1 s.2) (fun k s => s.1 = nI k ∧ zF (fun a k => a = 442 ∧ 120 * d ≤ k ∧ k < 120 * d + 120) S0 s.2 ∧ ∀ j : Nat, j < k → zi s.2 442 (120 * d + j) = 0) 120 (fun o => ∃ S1 : zM, o = K S1 ∧ zF (fun a k => a = 442 ∧ 120 * d ≤ k ∧ k < 120 * d + 120) S0 S1 ∧ ∀ j : Nat, j < 120 → zi S1 442 (120 * d + j) = 0) ?_ ?_ n (0, S0) hn1 ⟨rfl, zF.rf, fun j hj => by omega⟩
  · rintro k f ⟨x, S⟩ hk ⟨h1, h2, h3⟩
    dsimp only at h1 h2 h3 ⊢
    subst h1
    refine ⟨(nI (k + 1), zpI S 442 (120 * d + k) 0), ⟨rfl, h2.tr (zF_pI ⟨rfl, by omega, by omega⟩), fun j hj => ?_⟩, ?_⟩
    · dsimp only
      by_cases hjk : j = k
      · subst hjk; exact mi_eq _ _ _ _
      · rw [mi_ne _ _ (by omega)]; exact h3 j (by omega)
    · show f_X12_row_L58b 436 (nI d) K (f_X12_row_L58 436 (nI d) K f) (nI k) S = _
      unfold f_X12_row_L58b
      rw [if_neg (show ¬ (120 : Int32) ≤ nI k from nI_ge hk (by decide)), h2.r, hr, zChk_t (by omega), h2.n, hn, show (120 : Int32) = nI 120 from rfl, nI_mul, nI_add, zChk_t (zix (by omega) (by omega)), zLet_d, nI_clamp (by omega), nI_1]
  · rintro f ⟨x, S⟩ ⟨h1, h2, h3⟩
    dsimp only at h1 h2 h3 ⊢
    subst h1
    refine ⟨S, ?_, h2, h3⟩
    show f_X12_row_L58b 436 (nI d) K (f_X12_row_L58 436 (nI d) K f) (nI 120) S = _
    unfold f_X12_row_L58b
    rw [if_pos (show (120 : Int32) ≤ nI 120 from Int32.le_refl _)]
theorem s_row {S : zM} (h : zInv S) (v1 v2 v3 v4 v5 : Int32) : ∃ S' : zM, zs_32 1 436 v1 v2 v3 v4 v5 S S' ∧ zInv S' := by
  suffices hh : ∃ (S' : zM) (r : Int32) (S1 : zM), f_X11_row 200 S 1 v1 v2 v3 = some (r, S1) ∧ f_X12_row 200 S1 436 v1 v2 v3 = some (r, S') ∧ zInv S' by
    obtain ⟨S', r, S1, q1, q2, q3⟩ := hh
    exact ⟨S', ⟨r, 200, S1, q1, q2⟩, q3⟩
  unfold f_X11_row f_X12_row
  by_cases hv : zU v1 8
  · obtain ⟨d, hd, rfl⟩ := hv.k
    have hL := h.1
    have rd := hL.2.2.2.2.1.2.2.2 d hd
    rw [x_shelfAt hL hd, zB1_s, if_neg (by omega), zwi (n := 3) rfl, m_isShelf, if_pos hv]
    by_cases h2 : zU v2 3
    · rw [if_pos h2, zLet_d, if_neg (by decide)]
      by_cases h3 : v3 ≤ 120
      · rw [if_pos h3]
        by_cases h4 : 0 ≤ v3
        · rw [if_pos h4]
          have hu3 : zU v3 121 := by
            have e1 : (120 : Int32).toInt = 120 := by decide +kernel
            rw [Int32.le_iff_toInt_le, e1] at h3
            rw [Int32.le_iff_toInt_le] at h4
            have e0 : (0 : Int32).toInt = 0 := rfl
            rw [e0] at h4
            exact ⟨h4, by omega⟩
          unfold f_X8_holdRow f_X8_clear
          simp only [zLet_d]
          generalize hA : zpI (zpI (zpI (zpI (zpI (zpR S (420 + 2 * d) 1 0) (420 + 2 * d) 4 0) (420 + 2 * d) 3 0) (420 + 2 * d) 4 1) (420 + 2 * d) 2 v2) (420 + 2 * d) 3 v3 = A
          have hAr : ∀ a k : Nat, ¬ (a = 420 + 2 * d ∧ k = 1) → zr A a k = zr S a k := fun a k ha => by rw [← hA]; exact if_neg ha
          have hA1 : zr A (420 + 2 * d) 1 = 0 := by rw [← hA]; exact if_pos ⟨rfl, rfl⟩
          have hAn : zln A = zln S := by rw [← hA]; rfl
          have hAs : zsz A = zsz S := by rw [← hA]; rfl
          have hAo : ∀ a k : Nat, a ≠ 420 + 2 * d → zi A a k = zi S a k := fun a k ha => by
            rw [← hA, mi_ne _ _ (by omega), mi_ne _ _ (by omega), mi_ne _ _ (by omega), mi_ne _ _ (by omega), mi_ne _ _ (by omega), mi_pR]
          have hA2 : zi A (420 + 2 * d) 2 = v2 := by rw [← hA, mi_ne _ _ (by omega), mi_eq]
          have hA3 : zi A (420 + 2 * d) 3 = v3 := by rw [← hA, mi_eq]
          have hA4 : zi A (420 + 2 * d) 4 = 1 := by rw [← hA, mi_ne _ _ (by omega), mi_ne _ _ (by omega), mi_eq]
          obtain ⟨X, hX, hXf, hXz⟩ := x_fill (K := fun S22 => some S22) (S0 := A) (a0 := 420 + 2 * d) (q := 421 + 2 * d) (by rw [hAr _ _ (by omega)]; exact rd.2.1) (by omega) (by rw [hAn]; exact rd.2.2) 200 (by omega)
          have hLX : zLay X := by
            have hLA : zLay A := hL.c (by omega) (fun a k _ _ h5 _ _ => hAr a k (by omega)) (fun a _ => by rw [hAn])
            exact hLA.fr hXf
          obtain ⟨-, -, -, -, -, ⟨r0, r1, r2, r3, r4, r5, -⟩, ⟨l0, l1, l2, l3, l4, l5, -⟩⟩ := id hLX
          generalize hM : zpI (zpI (zpI X 439 d 2) 440 d v2) 441 d v3 = M
          have hMr : zr M = zr X := by rw [← hM]; rfl
          have hMn : zln M = zln X := by rw [← hM]; rfl
          have hMs : zsz M = zsz X := by rw [← hM]; rfl
          have hMo : ∀ a k : Nat, ¬ (a = 439 ∧ k = d) → ¬ (a = 440 ∧ k = d) → ¬ (a = 441 ∧ k = d) → zi M a k = zi X a k := fun a k h1 h2 h3 => by
            rw [← hM, mi_ne _ _ h3, mi_ne _ _ h2, mi_ne _ _ h1]
          have hM9 : zi M 439 d = 2 := by rw [← hM, mi_ne _ _ (by omega), mi_ne _ _ (by omega), mi_eq]
          have hM0 : zi M 440 d = v2 := by rw [← hM, mi_ne _ _ (by omega), mi_eq]
          have hM1 : zi M 441 d = v3 := by rw [← hM, mi_eq]
          obtain ⟨Y, hY, hYf, hYz⟩ := m_fill hd (K := fun S37 => some ((0 : Int32), S37)) (S0 := M) (by rw [hMr]; exact r5) (by rw [hMn]; exact l5) 200 (by omega)
          refine ⟨Y, 0, X, ?_, ?_, ?_⟩
          · rw [hX, zB1_s]
          · rw [zB1_s, if_neg (by decide), zisI (n := 3) rfl, if_pos h2, if_neg (by decide), if_pos h3, if_pos h4, r2, zChk_t (by decide), l2, zChk_t (zix hd (by omega)), mr_pI, r3, zChk_t (by decide), mln_pI, l3, zChk_t (zix hd (by omega)), mr_pI, mr_pI, r4, zChk_t (by decide), mln_pI, mln_pI, l4, zChk_t (zix hd (by omega)), nI_clamp (by omega), hM]
            exact hY
          · have hYo : ∀ a k : Nat, a ≠ 420 + 2 * d → a ≠ 421 + 2 * d → ¬ (a = 442 ∧ 120 * d ≤ k ∧ k < 120 * d + 120) → ¬ (a = 439 ∧ k = d) → ¬ (a = 440 ∧ k = d) → ¬ (a = 441 ∧ k = d) → zi Y a k = zi S a k := fun a k h1 h2 h3 h4 h5 h6 => by
              rw [hYf.i h3, hMo a k h4 h5 h6, hXf.i (fun hh => h2 hh.1), hAo a k h1]
            have hYs : zsz Y = zsz S := by rw [hYf.s, hMs, hXf.s, hAs]
            have hYr : zr Y = zr A := by rw [hYf.r, hMr, hXf.r]
            have hLY : zLay Y := by
              have : zLay M := by
                unfold zLay at hLX ⊢
                rw [hMr, hMn, hMs]
                exact hLX
              exact this.fr hYf
            refine h.sh hLY (by omega) (fun a k ha => by rw [hYr]; exact hAr a k (by omega)) (fun a k ha => hYo a k (by omega) (by omega) (by omega) (by omega) (by omega) (by omega)) (fun d1 hd1 => ?_)
            by_cases hdd : d1 = d
            · subst hdd
              have f1 : ∀ k : Nat, zi Y (420 + 2 * d1) k = zi A (420 + 2 * d1) k := fun k => by rw [hYf.i (by omega), hMo _ _ (by omega) (by omega) (by omega), hXf.i (by omega)]
              have f2 : ∀ a : Nat, a ≠ 442 → zi Y a d1 = zi M a d1 := fun a ha => hYf.i (fun hh => ha hh.1)
              refine Or.inr (Or.inr ⟨by rw [f2 439 (by omega)]; exact hM9, by rw [f1]; exact hA4, by rw [hYr]; exact hA1, by rw [f1, f2 440 (by omega), hM0]; exact hA2, by rw [f2 440 (by omega), hM0]; exact h2, by rw [f1, f2 441 (by omega), hM1]; exact hA3, by rw [f2 441 (by omega), hM1]; exact hu3, fun k hk => ?_⟩)
              rw [hYz k hk, hYf.i (by omega), hMo _ _ (by omega) (by omega) (by omega), hXz k hk]
              exact ⟨rfl, fun _ => by decide +kernel⟩
            · refine (h.2.2.2.2.2.1 d1 hd1).o (by omega) (by rw [hYr]; exact hAr _ _ (by omega)) (fun a k ha => hYo a k (by omega) (by omega) (by omega) (by omega) (by omega) (by omega)) ?_ ?_ ?_ (fun k hk => ?_) ?_ ?_
              all_goals exact hYo _ _ (by omega) (by omega) (by omega) (by omega) (by omega) (by omega)
        · rw [if_neg h4]
          refine ⟨S, -14, S, rfl, ?_, h⟩
          rw [zB1_s, if_neg (by decide), zisI (n := 3) rfl, if_pos h2, zLet_d, if_neg (by decide), if_pos h3, if_neg h4]
      · rw [if_neg h3]
        refine ⟨S, -1, S, rfl, ?_, h⟩
        rw [zB1_s, if_neg (by decide), zisI (n := 3) rfl, if_pos h2, zLet_d, if_neg (by decide), if_neg h3]
    · rw [if_neg h2, zLet_d, if_pos rfl]
      refine ⟨S, -1, S, rfl, ?_, h⟩
      rw [zB1_s, if_neg (by decide), zisI (n := 3) rfl, if_neg h2, zLet_d, if_pos rfl]
  · rw [x_shelfAt0 hv]
    refine ⟨S, -1, S, rfl, ?_, h⟩
    rw [m_isShelf, if_neg hv]; rfl
