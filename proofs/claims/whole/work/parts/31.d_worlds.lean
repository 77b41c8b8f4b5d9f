/-! worlds: the reference's flaws and marks -/
theorem zSf_x {S : zM} {nd nj nv v : Nat} {g : Nat → Int32} {x : Int32} (h : zRx S g nd nj nv) (hz : zBz g nd nj nv) (hv : v < nv) (hx : zU x 64) : zRx (zpI S 437 (112 + 19 * v + 2) x) (zSf g v x) nd nj nv := by
  have b3 := hz.1.2.2.1
  refine ⟨h.1.pI, fun k => ?_, (zSf_b hz (by omega) hx).s⟩
  by_cases hk : k = 112 + 19 * v + 2
  · subst hk
    rw [mi_eq]
    exact (if_pos rfl).symm
  · rw [mi_ne _ _ (by omega), zSf_o hk]
    exact h.2.1 k
theorem m_flaws {S0 : zM} {nd nj nv : Nat} {g : Nat → Int32} {hh x0 : Int32} {K : Int32 → zM → Option (Int32 × zM)} (h : zRx S0 g nd nj nv) (hz : zBz g nd nj nv) {n : Nat} (hn : 40 < n) : ∃ S1 : zM, f_X12_worlds_L87 436 hh K n x0 0 S0 = K (zSd g hh x0 nv) S1 ∧ zF (fun a k => a = 437 ∧ 112 ≤ k ∧ k < 872) S0 S1 ∧ zRx S1 (zFw g hh x0 nv) nd nj nv := by
  have b3 := h.2.2.1.2.2.1
  refine zloopR (fun f (s : Int32 × Int32 × zM) => f_X12_worlds_L87 436 hh K f s.1 s.2.1 s.2.2) (fun k s => s.1 = zSd g hh x0 k ∧ s.2.1 = nI k ∧ zF (fun a k => a = 437 ∧ 112 ≤ k ∧ k < 872) S0 s.2.2 ∧ zRx s.2.2 (zFw g hh x0 k) nd nj nv) nv (fun o => ∃ S1 : zM, o = K (zSd g hh x0 nv) S1 ∧ zF (fun a k => a = 437 ∧ 112 ≤ k ∧ k < 872) S0 S1 ∧ zRx S1 (zFw g hh x0 nv) nd nj nv) ?_ ?_ n (x0, 0, S0) (by omega) ⟨rfl, rfl, zF.rf, h⟩
  · rintro k f ⟨x, y, S⟩ hk ⟨h1, h2, h3, h4⟩
    dsimp only at h1 h2 h3 h4
    subst h1 h2
    have r0 : zr S 436 0 = 437 := h4.1.2.2.2.2.2.1.1
    have l0 : zln S 437 = 1004 := h4.1.2.2.2.2.2.2.1
    have ev : zi S 437 1003 = nI nv := by rw [h4.2.1]; exact h4.2.2.1.2.2.2.2.2
    have g0 : f_X12_get S 436 (nI k) (0 : Int32) = some (g (112 + 19 * k)) := (m_get h4.1 (v := k) (k := 0) (by omega) (by omega)).trans (congrArg some ((h4.2.1 _).trans (zFw_o k (fun v hv => by omega))))
    have hs1 : zSd g hh x0 (k + 1) = if g (112 + 19 * k) = hh then zLc (zSd g hh x0 k) else zSd g hh x0 k := rfl
    have hs2 : zFw g hh x0 (k + 1) = if g (112 + 19 * k) = hh then zSf (zFw g hh x0 k) k (zFw1 (zSd g hh x0 k)) else zFw g hh x0 k := rfl
    have z2 : (112 : Int32) + 19 * nI k + 2 = nI (112 + 19 * k + 2) := by rw [zq112, zq19, show (2 : Int32) = nI 2 from rfl, nI_mul, nI_add, nI_add]
    have hrun : f_X12_worlds_L87 436 hh K (f + 1) (zSd g hh x0 k) (nI k) S = if g (112 + 19 * k) = hh then f_X12_worlds_L87 436 hh K f (zLc (zSd g hh x0 k)) (nI (k + 1)) (zpI S 437 (112 + 19 * k + 2) (zFw1 (zSd g hh x0 k))) else f_X12_worlds_L87 436 hh K f (zSd g hh x0 k) (nI (k + 1)) S := by
      show f_X12_worlds_L87b 436 hh K (f_X12_worlds_L87 436 hh K f) (zSd g hh x0 k) (nI k) S = _
      unfold f_X12_worlds_L87b
      rw [r0, zChk_t (by decide), l0, zq1003, zChk_t (zix (by omega) (by omega)), nI_clamp (by omega), ev, if_neg (nI_ge hk (by omega)), g0, zB1_s, z2, zChk_t (zix (by omega) (by omega)), zLet_d, nI_clamp (by omega), nI_1]
      rfl
    by_cases q : g (112 + 19 * k) = hh
    · rw [if_pos q] at hrun hs1 hs2
      refine ⟨(zLc (zSd g hh x0 k), nI (k + 1), zpI S 437 (112 + 19 * k + 2) (zFw1 (zSd g hh x0 k))), ⟨hs1.symm, rfl, zF.pI h3 ⟨rfl, by omega, by omega⟩, ?_⟩, hrun⟩
      rw [hs2]
      exact zSf_x h4 (zFw_b hz k (by omega)) hk (zFw1_b _)
    · rw [if_neg q] at hrun hs1 hs2
      exact ⟨(zSd g hh x0 k, nI (k + 1), S), ⟨hs1.symm, rfl, h3, by rw [hs2]; exact h4⟩, hrun⟩
  · rintro f ⟨x, y, S⟩ ⟨h1, h2, h3, h4⟩
    dsimp only at h1 h2 h3 h4 ⊢
    subst h1 h2
    have r0 : zr S 436 0 = 437 := h4.1.2.2.2.2.2.1.1
    have l0 : zln S 437 = 1004 := h4.1.2.2.2.2.2.2.1
    have ev : zi S 437 1003 = nI nv := by rw [h4.2.1]; exact h4.2.2.1.2.2.2.2.2
    refine ⟨S, ?_, h3, h4⟩
    show f_X12_worlds_L87b 436 hh K (f_X12_worlds_L87 436 hh K f) (zSd g hh x0 nv) (nI nv) S = _
    unfold f_X12_worlds_L87b
    rw [r0, zChk_t (by decide), l0, zq1003, zChk_t (zix (by omega) (by omega)), nI_clamp (by omega), ev, if_pos (Int32.le_refl _)]
theorem m_hallMarks {S0 : zM} {nd nj nv : Nat} {g : Nat → Int32} {hh : Int32} {K : zM → Option (Int32 × zM)} (h : zRx S0 g nd nj nv) {n : Nat} (hn : 40 < n) : ∃ S1 : zM, f_X12_worlds_L163 n 436 hh K n 0 S0 = K S1 ∧ zF (fun a j => zQt a j ∨ (a = 437 ∧ 112 ≤ j ∧ j < 872)) S0 S1 ∧ zRx S1 (zMgs (zHp g hh) g nv) nd nj nv := by
  have b3 := h.2.2.1.2.2.1
  refine zloopR (fun f (s : Int32 × zM) => f_X12_worlds_L163 n 436 hh K f s.1 s.2) (fun k s => s.1 = nI k ∧ zF (fun a j => zQt a j ∨ (a = 437 ∧ 112 ≤ j ∧ j < 872)) S0 s.2 ∧ zRx s.2 (zMgs (zHp g hh) g k) nd nj nv) nv (fun o => ∃ S1 : zM, o = K S1 ∧ zF (fun a j => zQt a j ∨ (a = 437 ∧ 112 ≤ j ∧ j < 872)) S0 S1 ∧ zRx S1 (zMgs (zHp g hh) g nv) nd nj nv) ?_ ?_ n (0, S0) (by omega) ⟨rfl, zF.rf, h⟩
  · rintro k f ⟨x, S⟩ hk ⟨h1, h3, h4⟩
    dsimp only at h1 h3 h4
    subst h1
    have r0 : zr S 436 0 = 437 := h4.1.2.2.2.2.2.1.1
    have l0 : zln S 437 = 1004 := h4.1.2.2.2.2.2.2.1
    have ev : zi S 437 1003 = nI nv := by rw [h4.2.1]; exact h4.2.2.1.2.2.2.2.2
    have g0 : f_X12_get S 436 (nI k) (0 : Int32) = some (g (112 + 19 * k)) := (m_get h4.1 (v := k) (k := 0) (by omega) (by omega)).trans (congrArg some ((h4.2.1 _).trans (zMgs_nm (show zNm (112 + 19 * k) by unfold zNm; omega) k (by omega))))
    obtain ⟨T, t1, t2, t3⟩ := m_marksAs h4 hk (n := n) hn
    have hs : zMgs (zHp g hh) g (k + 1) = if zHp g hh k then zMg (zMgs (zHp g hh) g k) k else zMgs (zHp g hh) g k := rfl
    have hrun : f_X12_worlds_L163 n 436 hh K (f + 1) (nI k) S = if g (112 + 19 * k) = hh then f_X12_worlds_L163 n 436 hh K f (nI (k + 1)) T else f_X12_worlds_L163 n 436 hh K f (nI (k + 1)) S := by
      show f_X12_worlds_L163b n 436 hh K (f_X12_worlds_L163 n 436 hh K f) (nI k) S = _
      unfold f_X12_worlds_L163b
      rw [r0, zChk_t (by decide), l0, zq1003, zChk_t (zix (by omega) (by omega)), nI_clamp (by omega), ev, if_neg (nI_ge hk (by omega)), g0, zB1_s, t1, zB1_s, nI_1]
    by_cases q : g (112 + 19 * k) = hh
    · rw [if_pos q] at hrun
      rw [if_pos (show zHp g hh k = true from decide_eq_true q)] at hs
      refine ⟨(nI (k + 1), T), ⟨rfl, h3.tr (t2.mo (fun a j z => ?_)), by rw [hs]; exact t3⟩, hrun⟩
      rcases z with z | z
      · exact Or.inl z
      · exact Or.inr (by omega)
    · rw [if_neg q] at hrun
      rw [if_neg (show ¬ zHp g hh k = true from fun z => q (of_decide_eq_true z))] at hs
      exact ⟨(nI (k + 1), S), ⟨rfl, h3, by rw [hs]; exact h4⟩, hrun⟩
  · rintro f ⟨x, S⟩ ⟨h1, h3, h4⟩
    dsimp only at h1 h3 h4 ⊢
    subst h1
    have r0 : zr S 436 0 = 437 := h4.1.2.2.2.2.2.1.1
    have l0 : zln S 437 = 1004 := h4.1.2.2.2.2.2.2.1
    have ev : zi S 437 1003 = nI nv := by rw [h4.2.1]; exact h4.2.2.1.2.2.2.2.2
    refine ⟨S, ?_, h3, h4⟩
    show f_X12_worlds_L163b n 436 hh K (f_X12_worlds_L163 n 436 hh K f) (nI nv) S = _
    unfold f_X12_worlds_L163b
    rw [r0, zChk_t (by decide), l0, zq1003, zChk_t (zix (by omega) (by omega)), nI_clamp (by omega), ev, if_pos (Int32.le_refl _)]
