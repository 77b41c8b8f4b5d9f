theorem zF.ps {S X : zM} (x2 : zF (zPs 2) S X) (h : zInv S) {nd nj nv : Nat} (hB : zBs (zi S 437) nd nj nv) : zInv X ∧ zRx X (zi S 437) nd nj nv := by
  have hX : zInv X := h.fr (x2.mo (fun a k q => zPs_scr (Or.inl rfl) q))
  exact ⟨hX, hX.1, fun k => x2.i (by unfold zPs; omega), hB⟩
theorem m_told {X : zM} {nd nj nv : Nat} {g : Nat → Int32} (hX : zInv X) (hR : zRx X g nd nj nv) (hz : zBz g nd nj nv) : ∃ T : zM, f_X12_asTold X 436 = some T ∧ zInv T ∧ zRx T g nd nj nv ∧ zPar T g g nv ∧ zF (fun a k => a = 436 ∧ (k = 29 ∨ k = 30 ∨ k = 31 ∨ k = 32)) X T ∧ zi T 436 29 = -1 ∧ zi T 436 32 = 0 ∧ zi T 436 33 = 0 ∧ zi T 436 30 = g 878 ∧ zi T 436 31 = g 879 := by
  obtain ⟨T, t1, t2, t3, t4, t5, t6⟩ := m_asToldF hX.1
  have e33 : zi T 436 33 = 0 := by rw [t2.i (by omega)]; exact hX.2.2.2.2.2.2
  rw [hR.2.1] at t5 t6
  refine ⟨T, t1, hX.fr (t2.mo (fun a k q => by unfold zScr; omega)), hR.fr t2 (fun k => by omega), ?_, t2, t3, t4, e33, t5, t6⟩
  obtain ⟨hi, hhi, e1⟩ := hz.2.2.2.2.2.1.2.1.k
  obtain ⟨lo, hlo, e2⟩ := hz.2.2.2.2.2.1.2.2.k
  refine ⟨⟨hi, lo, hhi, hlo, t5.trans e1, t6.trans e2, e1, e2⟩, fun _ _ _ => rfl, fun v hv => ⟨rfl, rfl, rfl, rfl, ?_⟩⟩
  rw [t3, t4, e33]
  exact zGa_told
theorem zFx.inv {S S1 : zM} (h : zInv S) (f : zFx zCq S S1) : zInv S1 := h.x (f.mo (fun a k q => by unfold zCq at q; unfold zScr; omega))
theorem s_won {S : zM} (h : zInv S) (v1 v2 v3 v4 v5 : Int32) : ∃ S' : zM, zs_15 1 436 v1 v2 v3 v4 v5 S S' ∧ zInv S' := by
  suffices hh : ∃ (S' : zM) (r : Int32) (S1 : zM), f_X11_won 200 S 1 v1 = some (r, S1) ∧ f_X12_won 200 S1 436 v1 = some (r, S') ∧ zInv S' by
    obtain ⟨S', r, S1, q1, q2, q3⟩ := hh
    exact ⟨S', ⟨r, 200, S1, q1, q2⟩, q3⟩
  obtain ⟨nd, nj, nv, hC, hz, hR⟩ := h.z
  have r0 : zr S 1 0 = 2 := h.1.2.2.2.2.1.1.1
  unfold f_X11_won
  rw [zwi (n := 6) rfl, zLet_d, r0, zChk_t (by decide)]
  by_cases h6 : zU v1 6
  · rw [if_pos h6, if_neg (show ¬ (1 : Int32) = 0 by decide)]
    obtain ⟨X, x1, x2⟩ := x_winner (h := v1) hC hz (n := 200) (by omega)
    obtain ⟨hX, hRX⟩ := x2.ps h hz.s
    obtain ⟨T, t1, t2, t3, t4, -⟩ := m_told hX hRX hz
    obtain ⟨Y, y1, y2⟩ := m_wonNow (hh := v1) t3 hz hC.tg t4 (n := 200) (by omega)
    rw [x1, zB2_s]
    refine ⟨Y, _, X, rfl, ?_, zFx.inv t2 y2⟩
    unfold f_X12_won
    rw [m_isHall, if_pos h6, zB1_s, if_neg (show ¬ (1 : Int32) = 0 by decide), t1, zB1_s, y1, zB2_s]
  · rw [if_neg h6, if_pos rfl]
    refine ⟨S, -1, S, rfl, ?_, h⟩
    unfold f_X12_won
    rw [m_isHall, if_neg h6]; rfl
theorem s_place {S : zM} (h : zInv S) (v1 v2 v3 v4 v5 : Int32) : ∃ S' : zM, zs_14 1 436 v1 v2 v3 v4 v5 S S' ∧ zInv S' := by
  suffices hh : ∃ (S' : zM) (r : Int32) (S1 : zM), f_X11_place 200 S 1 v1 v2 = some (r, S1) ∧ f_X12_place 200 S1 436 v1 v2 = some (r, S') ∧ zInv S' by
    obtain ⟨S', r, S1, q1, q2, q3⟩ := hh
    exact ⟨S', ⟨r, 200, S1, q1, q2⟩, q3⟩
  obtain ⟨nd, nj, nv, hC, hz, hR⟩ := h.z
  obtain ⟨⟨b1, b2, b3⟩, e5, e6, e7⟩ := hC.n
  have r0 : zr S 1 0 = 2 := h.1.2.2.2.2.1.1.1
  unfold f_X11_place
  rw [zwi (n := 6) rfl, zLet_d, r0, zChk_t (by decide), e5, zwi (n := nd) (nI_toInt (by omega)), zLet_d]
  by_cases h6 : zU v1 6
  · rw [if_pos h6, if_neg (show ¬ (1 : Int32) = 0 by decide)]
    by_cases hd : zU v2 nd
    · obtain ⟨d, hd', rfl⟩ := hd.k
      rw [if_pos hd, if_neg (show ¬ (1 : Int32) = 0 by decide)]
      obtain ⟨X, x1, x2⟩ := x_placeOf (h := v1) (by' := 0) hC hz (show d < 8 by omega) (n := 200) (by omega)
      obtain ⟨hX, hRX⟩ := x2.ps h hz.s
      obtain ⟨T, t1, t2, t3, t4, -⟩ := m_told hX hRX hz
      obtain ⟨Y, y1, y2⟩ := m_placeNow (hh := v1) t3 hz hC.tg t4 hd' (n := 200) (by omega)
      rw [x1, zB2_s]
      have hm : f_X12_place 200 X 436 v1 (nI d) = (if (if zDi (zi S 437) v1 d nv = true then (1 : Int32) else 0) = 0 then some (-4, T) else some (nI (1 + zAd (zi S 437) v1 (zVl (zi S 437) 0) d nv nd), Y)) := by
        unfold f_X12_place
        rw [m_isHall, if_pos h6, zB1_s, if_neg (show ¬ (1 : Int32) = 0 by decide), m_isDiver hX.1 (show nd ≤ 40 by omega) (by rw [hRX.2.1]; exact hz.1.2.2.2.1), if_pos hd, zB1_s, if_neg (show ¬ (1 : Int32) = 0 by decide), t1, zB1_s, m_dives t3 (by omega), zB1_s, y1, zB2_s]
      by_cases q : zDi (zi S 437) v1 d nv = true
      · rw [if_pos q, if_neg (show ¬ (1 : Int32) = 0 by decide)] at hm
        rw [if_pos q]
        exact ⟨Y, _, X, rfl, hm, zFx.inv t2 y2⟩
      · rw [if_neg q, if_pos rfl] at hm
        rw [if_neg q]
        exact ⟨T, _, X, rfl, hm, t2⟩
    · rw [if_neg hd, if_pos rfl]
      refine ⟨S, -1, S, rfl, ?_, h⟩
      unfold f_X12_place
      rw [m_isHall, if_pos h6, zB1_s, if_neg (show ¬ (1 : Int32) = 0 by decide), m_isDiver h.1 (show nd ≤ 40 by omega) (hz.1.2.2.2.1), if_neg hd]; rfl
  · rw [if_neg h6, if_pos rfl]
    refine ⟨S, -1, S, rfl, ?_, h⟩
    unfold f_X12_place
    rw [m_isHall, if_neg h6]; rfl
theorem s_total {S : zM} (h : zInv S) (v1 v2 v3 v4 v5 : Int32) : ∃ S' : zM, zs_13 1 436 v1 v2 v3 v4 v5 S S' ∧ zInv S' := by
  suffices hh : ∃ (S' : zM) (r : Int64) (S1 : zM), f_X11_total 200 S 1 v1 v2 = some (r, S1) ∧ f_X12_total 200 S1 436 v1 v2 = some (r, S') ∧ zInv S' by
    obtain ⟨S', r, S1, q1, q2, q3⟩ := hh
    exact ⟨S', ⟨r, 200, S1, q1, q2⟩, q3⟩
  obtain ⟨nd, nj, nv, hC, hz, hR⟩ := h.z
  obtain ⟨⟨b1, b2, b3⟩, e5, e6, e7⟩ := hC.n
  have r0 : zr S 1 0 = 2 := h.1.2.2.2.2.1.1.1
  unfold f_X11_total
  rw [zwi (n := 6) rfl, zLet_d, r0, zChk_t (by decide), e5, zwi (n := nd) (nI_toInt (by omega)), zLet_d]
  by_cases h6 : zU v1 6
  · rw [if_pos h6, if_neg (show ¬ (1 : Int32) = 0 by decide)]
    by_cases hd : zU v2 nd
    · obtain ⟨d, hd', rfl⟩ := hd.k
      have r10 : zr S 2 10 = 13 := hC.2.1.1.2.2.2.2.2.2.2.1
      have l11 : zln S 13 = 8 := hC.2.1.2.2.1.2.2.2.2.2.2.2.2.2.1
      rw [if_pos hd, if_neg (show ¬ (1 : Int32) = 0 by decide)]
      obtain ⟨X, x1, x2, x3⟩ := x_addUp (h := v1) (by' := 0) hC hz (n := 200) (by omega)
      obtain ⟨hX, hRX⟩ := x2.ps h hz.s
      obtain ⟨T, t1, t2, t3, t4, -⟩ := m_told hX hRX hz
      obtain ⟨Y, y1, y2⟩ := m_totalNow (d := d) (hh := v1) t3 hz hC.tg t4 (n := 200) (by omega)
      have x3' : zl X 13 d = zTt (zi S 437) v1 (zVl (zi S 437) 0) d nv := x3 d (by omega)
      rw [x1, zB2_s, zLet_d, x_holds hz.s (show d < 8 by omega), x2.r, x2.n, r0, zChk_t (by decide), r10, zChk_t (by decide), l11, zChk_t (zix (by omega) (by omega)), nI_clamp (by omega), x3']
      have hm : f_X12_total 200 X 436 v1 (nI d) = (if (if zDi (zi S 437) v1 d nv = true then (1 : Int32) else 0) = 0 then some (-4611686018427387904, X) else some (zTt (zi S 437) v1 (zVl (zi S 437) 0) d nv, Y)) := by
        unfold f_X12_total
        rw [m_isHall, if_pos h6, zB1_s, if_neg (show ¬ (1 : Int32) = 0 by decide), m_isDiver hX.1 (show nd ≤ 40 by omega) (by rw [hRX.2.1]; exact hz.1.2.2.2.1), if_pos hd, zB1_s, if_neg (show ¬ (1 : Int32) = 0 by decide), m_dives hRX (by omega), zB1_s, t1, zB1_s, y1, zB2_s]
      by_cases q : zDi (zi S 437) v1 d nv = true
      · rw [if_pos q, if_neg (show ¬ (1 : Int32) = 0 by decide)] at hm
        rw [if_pos q, if_neg (show ¬ (1 : Int32) = 0 by decide)]
        exact ⟨Y, _, X, rfl, hm, zFx.inv t2 y2⟩
      · rw [if_neg q, if_pos rfl] at hm
        rw [if_neg q, if_pos rfl]
        exact ⟨X, _, X, rfl, hm, hX⟩
    · rw [if_neg hd, if_pos rfl]
      refine ⟨S, -4611686018427387904, S, rfl, ?_, h⟩
      unfold f_X12_total
      rw [m_isHall, if_pos h6, zB1_s, if_neg (show ¬ (1 : Int32) = 0 by decide), m_isDiver h.1 (show nd ≤ 40 by omega) (hz.1.2.2.2.1), if_neg hd]; rfl
  · rw [if_neg h6, if_pos rfl]
    refine ⟨S, -4611686018427387904, S, rfl, ?_, h⟩
    unfold f_X12_total
    rw [m_isHall, if_neg h6]; rfl
