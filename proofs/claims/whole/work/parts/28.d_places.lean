/-! total, place, won -/
theorem zPar.di {S : zM} {g g' : Nat → Int32} {nv : Nat} (h : zPar S g g' nv) (hh : Int32) (d : Nat) : zDi g' hh d nv = zDi g hh d nv := zDi_c nv (fun v hv => ⟨(h.2.2 v hv).1, (h.2.2 v hv).2.1⟩)
theorem m_placeNow {S0 : zM} {nd nj nv d : Nat} {g g' : Nat → Int32} {hh : Int32} (h : zRx S0 g nd nj nv) (hz : zBz g nd nj nv) (ht : zTg g) (hp : zPar S0 g g' nv) (hd : d < nd) {n : Nat} (hn : 120 < n) : ∃ S1 : zM, f_X12_placeNow n S0 436 hh (nI d) = some (nI (1 + zAd g' hh (zVl g' 0) d nv nd), S1) ∧ zFx zCq S0 S1 := by
  have b1 := h.2.2.1.1
  obtain ⟨A, a1, a2⟩ := m_totalNow (d := d) (hh := hh) h hz ht hp hn
  unfold f_X12_placeNow
  rw [a1, zB2_s, zLet_d]
  refine zloopR (fun f (s : Int32 × Int32 × zM) => f_X12_placeNow_L13 n 436 hh (nI d) (zTt g' hh (zVl g' 0) d nv) (fun x8 S9 => some (x8, S9)) f s.1 s.2.1 s.2.2) (fun k s => s.1 = nI (1 + zAd g' hh (zVl g' 0) d nv k) ∧ s.2.1 = nI k ∧ zFx zCq S0 s.2.2) nd (fun o => ∃ S1 : zM, o = some (nI (1 + zAd g' hh (zVl g' 0) d nv nd), S1) ∧ zFx zCq S0 S1) ?_ ?_ n (1, 0, A) (by omega) ⟨rfl, rfl, a2⟩
  · rintro k f ⟨x, y, S⟩ hk ⟨h1, h2, h3⟩
    dsimp only at h1 h2 h3
    subst h1 h2
    have hS : zRx S g nd nj nv := h.x h3 (fun k => by unfold zCq; omega)
    have r0 : zr S 436 0 = 437 := hS.1.2.2.2.2.2.1.1
    have l0 : zln S 437 = 1004 := hS.1.2.2.2.2.2.2.1
    have ev : zi S 437 1001 = nI nd := by rw [hS.2.1]; exact hS.2.2.1.2.2.2.1
    obtain ⟨X, x1, x2⟩ := m_totalNow (d := k) (hh := hh) hS hz ht (hp.x h3) hn
    have hA : zAd g' hh (zVl g' 0) d nv (k + 1) = if zDi g' hh k nv = true then (if zTt g' hh (zVl g' 0) k nv ≤ zTt g' hh (zVl g' 0) d nv then zAd g' hh (zVl g' 0) d nv k else zAd g' hh (zVl g' 0) d nv k + 1) else zAd g' hh (zVl g' 0) d nv k := rfl
    have hrun : f_X12_placeNow_L13 n 436 hh (nI d) (zTt g' hh (zVl g' 0) d nv) (fun x8 S9 => some (x8, S9)) (f + 1) (nI (1 + zAd g' hh (zVl g' 0) d nv k)) (nI k) S = if nI k = nI d then f_X12_placeNow_L13 n 436 hh (nI d) (zTt g' hh (zVl g' 0) d nv) (fun x8 S9 => some (x8, S9)) f (nI (1 + zAd g' hh (zVl g' 0) d nv k)) (nI (k + 1)) S else if (if zDi g' hh k nv = true then (1 : Int32) else 0) = 0 then f_X12_placeNow_L13 n 436 hh (nI d) (zTt g' hh (zVl g' 0) d nv) (fun x8 S9 => some (x8, S9)) f (nI (1 + zAd g' hh (zVl g' 0) d nv k)) (nI (k + 1)) S else if lg_cmp (zTt g' hh (zVl g' 0) k nv) (zTt g' hh (zVl g' 0) d nv) ≤ 0 then f_X12_placeNow_L13 n 436 hh (nI d) (zTt g' hh (zVl g' 0) d nv) (fun x8 S9 => some (x8, S9)) f (nI (1 + zAd g' hh (zVl g' 0) d nv k)) (nI (k + 1)) X else f_X12_placeNow_L13 n 436 hh (nI d) (zTt g' hh (zVl g' 0) d nv) (fun x8 S9 => some (x8, S9)) f (nI (1 + zAd g' hh (zVl g' 0) d nv k + 1)) (nI (k + 1)) X := by
      show f_X12_placeNow_L13b n 436 hh (nI d) (zTt g' hh (zVl g' 0) d nv) (fun x8 S9 => some (x8, S9)) (f_X12_placeNow_L13 n 436 hh (nI d) (zTt g' hh (zVl g' 0) d nv) (fun x8 S9 => some (x8, S9)) f) (nI (1 + zAd g' hh (zVl g' 0) d nv k)) (nI k) S = _
      unfold f_X12_placeNow_L13b
      rw [r0, zChk_t (by decide), l0, zq1001, zChk_t (zix (by omega) (by omega)), nI_clamp (by omega), ev, if_neg (nI_ge hk (by omega)), zLet_d, zLet_d, m_dives hS (by omega), zB1_s, x1, zB2_s]
      dsimp only
      rw [nI_1, nI_1, Int32.add_zero, (hp.x h3).di]
    by_cases q0 : k = d
    · subst q0
      rw [if_pos rfl] at hrun
      refine ⟨(nI (1 + zAd g' hh (zVl g' 0) k nv k), nI (k + 1), S), ⟨?_, rfl, h3⟩, hrun⟩
      rw [hA, if_pos (Int64.le_refl _)]
      split <;> rfl
    · rw [if_neg (fun q => q0 (nI_inj q (by omega) (by omega)))] at hrun
      by_cases q : zDi g' hh k nv = true
      · rw [if_pos q, if_neg (show ¬ (1 : Int32) = 0 by decide)] at hrun
        rw [if_pos q] at hA
        by_cases q2 : zTt g' hh (zVl g' 0) k nv ≤ zTt g' hh (zVl g' 0) d nv
        · rw [if_pos ((lg_cmp_le _ _).mpr q2)] at hrun
          rw [if_pos q2] at hA
          exact ⟨(nI (1 + zAd g' hh (zVl g' 0) d nv k), nI (k + 1), X), ⟨by rw [hA], rfl, h3.tr x2⟩, hrun⟩
        · rw [if_neg (fun z => q2 ((lg_cmp_le _ _).mp z))] at hrun
          rw [if_neg q2] at hA
          exact ⟨(nI (1 + zAd g' hh (zVl g' 0) d nv k + 1), nI (k + 1), X), ⟨by rw [hA]; rfl, rfl, h3.tr x2⟩, hrun⟩
      · rw [if_neg q, if_pos rfl] at hrun
        rw [if_neg q] at hA
        exact ⟨(nI (1 + zAd g' hh (zVl g' 0) d nv k), nI (k + 1), S), ⟨by rw [hA], rfl, h3⟩, hrun⟩
  · rintro f ⟨x, y, S⟩ ⟨h1, h2, h3⟩
    dsimp only at h1 h2 h3 ⊢
    subst h1 h2
    have hS : zRx S g nd nj nv := h.x h3 (fun k => by unfold zCq; omega)
    have r0 : zr S 436 0 = 437 := hS.1.2.2.2.2.2.1.1
    have l0 : zln S 437 = 1004 := hS.1.2.2.2.2.2.2.1
    have ev : zi S 437 1001 = nI nd := by rw [hS.2.1]; exact hS.2.2.1.2.2.2.1
    refine ⟨S, ?_, h3⟩
    show f_X12_placeNow_L13b n 436 hh (nI d) (zTt g' hh (zVl g' 0) d nv) (fun x8 S9 => some (x8, S9)) (f_X12_placeNow_L13 n 436 hh (nI d) (zTt g' hh (zVl g' 0) d nv) (fun x8 S9 => some (x8, S9)) f) (nI (1 + zAd g' hh (zVl g' 0) d nv nd)) (nI nd) S = _
    unfold f_X12_placeNow_L13b
    rw [r0, zChk_t (by decide), l0, zq1001, zChk_t (zix (by omega) (by omega)), nI_clamp (by omega), ev, if_pos (Int32.le_refl _)]
theorem m_wonNow {S0 : zM} {nd nj nv : Nat} {g g' : Nat → Int32} {hh : Int32} (h : zRx S0 g nd nj nv) (hz : zBz g nd nj nv) (ht : zTg g) (hp : zPar S0 g g' nv) {n : Nat} (hn : 120 < n) : ∃ S1 : zM, f_X12_wonNow n S0 436 hh = some (zWi (zWn g' hh (zVl g' 0) nv nd), S1) ∧ zFx zCq S0 S1 := by
  have b1 := h.2.2.1.1
  unfold f_X12_wonNow
  rw [zLet_d]
  refine zloopR (fun f (s : Int32 × Int64 × Int32 × zM) => f_X12_wonNow_L8 n 436 hh (fun x1 S2 => some (x1, S2)) f s.1 s.2.1 s.2.2.1 s.2.2.2) (fun k s => s.1 = zWi (zWn g' hh (zVl g' 0) nv k) ∧ (∀ w : Nat, zWn g' hh (zVl g' 0) nv k = some w → s.2.1 = zTt g' hh (zVl g' 0) w nv) ∧ s.2.2.1 = nI k ∧ zFx zCq S0 s.2.2.2) nd (fun o => ∃ S1 : zM, o = some (zWi (zWn g' hh (zVl g' 0) nv nd), S1) ∧ zFx zCq S0 S1) ?_ ?_ n (-4, 0, 0, S0) (by omega) ⟨rfl, (fun w q => by cases q), rfl, zFx.rf⟩
  · rintro k f ⟨x, y, z, S⟩ hk ⟨h1, hy, h2, h3⟩
    dsimp only at h1 h2 h3 hy
    subst h1 h2
    have hS : zRx S g nd nj nv := h.x h3 (fun k => by unfold zCq; omega)
    have r0 : zr S 436 0 = 437 := hS.1.2.2.2.2.2.1.1
    have l0 : zln S 437 = 1004 := hS.1.2.2.2.2.2.2.1
    have ev : zi S 437 1001 = nI nd := by rw [hS.2.1]; exact hS.2.2.1.2.2.2.1
    obtain ⟨X, x1, x2⟩ := m_totalNow (d := k) (hh := hh) hS hz ht (hp.x h3) hn
    have hA : zWn g' hh (zVl g' 0) nv (k + 1) = if zDi g' hh k nv = true then (match zWn g' hh (zVl g' 0) nv k with
    | none => some k
    | some w => if zTt g' hh (zVl g' 0) k nv ≤ zTt g' hh (zVl g' 0) w nv then some w else some k) else zWn g' hh (zVl g' 0) nv k := rfl
    have hrun : f_X12_wonNow_L8 n 436 hh (fun x1 S2 => some (x1, S2)) (f + 1) (zWi (zWn g' hh (zVl g' 0) nv k)) y (nI k) S = if (if zDi g' hh k nv = true then (1 : Int32) else 0) = 0 then f_X12_wonNow_L8 n 436 hh (fun x1 S2 => some (x1, S2)) f (zWi (zWn g' hh (zVl g' 0) nv k)) y (nI (k + 1)) S else if zWi (zWn g' hh (zVl g' 0) nv k) < 0 then f_X12_wonNow_L8 n 436 hh (fun x1 S2 => some (x1, S2)) f (nI k) (zTt g' hh (zVl g' 0) k nv) (nI (k + 1)) X else if 0 < lg_cmp (zTt g' hh (zVl g' 0) k nv) y then f_X12_wonNow_L8 n 436 hh (fun x1 S2 => some (x1, S2)) f (nI k) (zTt g' hh (zVl g' 0) k nv) (nI (k + 1)) X else f_X12_wonNow_L8 n 436 hh (fun x1 S2 => some (x1, S2)) f (zWi (zWn g' hh (zVl g' 0) nv k)) y (nI (k + 1)) X := by
      show f_X12_wonNow_L8b n 436 hh (fun x1 S2 => some (x1, S2)) (f_X12_wonNow_L8 n 436 hh (fun x1 S2 => some (x1, S2)) f) (zWi (zWn g' hh (zVl g' 0) nv k)) y (nI k) S = _
      unfold f_X12_wonNow_L8b
      rw [r0, zChk_t (by decide), l0, zq1001, zChk_t (zix (by omega) (by omega)), nI_clamp (by omega), ev, if_neg (nI_ge hk (by omega)), m_dives hS (by omega), zB1_s, x1, zB2_s, nI_1, zLet_d, (hp.x h3).di]
    by_cases q : zDi g' hh k nv = true
    · rw [if_pos q, if_neg (show ¬ (1 : Int32) = 0 by decide)] at hrun
      rw [if_pos q] at hA
      cases hw : zWn g' hh (zVl g' 0) nv k with
      | none =>
        rw [hw] at hA hrun
        rw [if_pos (show zWi none < 0 by decide)] at hrun
        refine ⟨(nI k, zTt g' hh (zVl g' 0) k nv, nI (k + 1), X), ⟨by rw [hA]; rfl, (fun w q => ?_), rfl, h3.tr x2⟩, ?_⟩
        · rw [hA] at q
          rw [Option.some.inj q]
        · exact hrun
      | some u =>
        have hu := zWn_b k u hw
        have hyu := hy u hw
        rw [hw] at hA hrun
        rw [if_neg (show ¬ zWi (some u) < 0 from nI_pos (by omega)), hyu] at hrun
        dsimp only at hA
        by_cases q2 : zTt g' hh (zVl g' 0) k nv ≤ zTt g' hh (zVl g' 0) u nv
        · rw [if_pos q2] at hA
          rw [if_neg (fun z => (Int64.not_le.mpr ((lg_cmp_gt _ _).mp z)) q2)] at hrun
          refine ⟨(nI u, y, nI (k + 1), X), ⟨by rw [hA]; rfl, (fun w q => ?_), rfl, h3.tr x2⟩, ?_⟩
          · rw [hA] at q
            rw [← Option.some.inj q]
            exact hyu
          · dsimp only
            rw [hyu]
            exact hrun
        · rw [if_neg q2] at hA
          rw [if_pos ((lg_cmp_gt _ _).mpr (Int64.not_le.mp q2))] at hrun
          refine ⟨(nI k, zTt g' hh (zVl g' 0) k nv, nI (k + 1), X), ⟨by rw [hA]; rfl, (fun w q => ?_), rfl, h3.tr x2⟩, ?_⟩
          · rw [hA] at q
            rw [Option.some.inj q]
          · dsimp only
            rw [hyu]
            exact hrun
    · rw [if_neg q, if_pos rfl] at hrun
      rw [if_neg q] at hA
      exact ⟨(zWi (zWn g' hh (zVl g' 0) nv k), y, nI (k + 1), S), ⟨by rw [hA], (fun w q => hy w (by rw [← hA]; exact q)), rfl, h3⟩, hrun⟩
  · rintro f ⟨x, y, z, S⟩ ⟨h1, hy, h2, h3⟩
    dsimp only at h1 h2 h3 ⊢
    subst h1 h2
    have hS : zRx S g nd nj nv := h.x h3 (fun k => by unfold zCq; omega)
    have r0 : zr S 436 0 = 437 := hS.1.2.2.2.2.2.1.1
    have l0 : zln S 437 = 1004 := hS.1.2.2.2.2.2.2.1
    have ev : zi S 437 1001 = nI nd := by rw [hS.2.1]; exact hS.2.2.1.2.2.2.1
    refine ⟨S, ?_, h3⟩
    show f_X12_wonNow_L8b n 436 hh (fun x1 S2 => some (x1, S2)) (f_X12_wonNow_L8 n 436 hh (fun x1 S2 => some (x1, S2)) f) (zWi (zWn g' hh (zVl g' 0) nv nd)) y (nI nd) S = _
    unfold f_X12_wonNow_L8b
    rw [r0, zChk_t (by decide), l0, zq1001, zChk_t (zix (by omega) (by omega)), nI_clamp (by omega), ev, if_pos (Int32.le_refl _)]
