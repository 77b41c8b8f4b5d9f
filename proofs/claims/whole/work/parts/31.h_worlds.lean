theorem s_worlds {S : zM} (h : zInv S) (v1 v2 v3 v4 v5 : Int32) : ∃ S' : zM, zs_27 1 436 v1 v2 v3 v4 v5 S S' ∧ zInv S' := by
  suffices hh : ∃ (S' : zM) (r : Int32) (S1 : zM), f_X11_worlds 1100 S 1 v1 v2 v3 = some (r, S1) ∧ f_X12_worlds 1100 S1 436 v1 v2 v3 = some (r, S') ∧ zInv S' by
    obtain ⟨S', r, S1, q1, q2, q3⟩ := hh
    exact ⟨S', ⟨r, 1100, S1, q1, q2⟩, q3⟩
  obtain ⟨nd, nj, nv, hC, hz, hR⟩ := h.z
  have hL := h.1
  have r0 : zr S 1 0 = 2 := hL.2.2.2.2.1.1.1
  have r2 : zr S 1 2 = 270 := hL.2.2.2.2.1.1.2.2.1
  have i1 : (1 : Int64).toInt = 1 := rfl
  have i30 : (30 : Int64).toInt = 30 := rfl
  have j1 : (1 : Int32).toInt = 1 := rfl
  have j30 : (30 : Int32).toInt = 30 := rfl
  have n1 : ¬ (1 : Int32) = 0 := by decide
  unfold f_X11_worlds
  rw [zwi (n := 6) rfl, zLet_d]
  by_cases h6 : zU v1 6
  · rw [if_pos h6, if_neg n1]
    by_cases c3 : 1 ≤ v2.toInt ∧ v2.toInt ≤ 30
    · obtain ⟨N, hN, rfl⟩ := (show zU v2 31 by unfold zU; omega).k
      rw [if_neg (show ¬ nI N < 1 by rw [Int32.lt_iff_toInt_lt]; omega), if_pos (show nI N ≤ (30 : Int32) by rw [Int32.le_iff_toInt_le]; omega), r0, zChk_t (by decide)]
      obtain ⟨X, x1, x2⟩ := x_winner (h := v1) hC hz (n := 1100) (by omega)
      obtain ⟨hX, hRX⟩ := x2.ps h hz.s
      rw [x1, zB2_s]
      cases hw : zWn (zi S 437) v1 (zVl (zi S 437) 0) nv nd with
      | none =>
        obtain ⟨T, t1, t2, t3, t4, -⟩ := m_told hX hRX hz
        obtain ⟨Y, y1, y2⟩ := m_wonNow (hh := v1) t3 hz hC.tg t4 (n := 1100) (by omega)
        rw [hw] at y1
        rw [if_pos (show zWi none = -4 from rfl)]
        refine ⟨Y, -4, X, rfl, ?_, zFx.inv t2 y2⟩
        unfold f_X12_worlds
        rw [m_isHall, if_pos h6, zB1_s, if_neg n1, zisR, i1, i30, if_pos c3, zLet_d, if_neg n1, t1, zB1_s, y1, zB2_s, if_pos (show zWi none = -4 from rfl)]
      | some w =>
        have hwn := zWn_b nd w hw
        have hdi := zWn_di nd w hw
        have hnd := hz.1.1
        have hne : ¬ zWi (some w) = -4 := zU_n4 (n := 8) (show zU (nI w) 8 from zU_n (by omega) (by omega))
        have eX : zi X 437 = zi S 437 := hRX.e
        have hCX : zCx X 2 (zi X 437) nd nj nv := by rw [eX]; exact hC.fr x2
        obtain ⟨M, m1, m2, m3⟩ := hX.mind hCX (n := 1100) (by omega)
        rw [eX] at m3
        have rX0 : zr X 1 0 = 2 := by rw [x2.r]; exact r0
        have rX2 : zr X 1 2 = 270 := by rw [x2.r]; exact r2
        have rM : zr M 1 2 = 270 := (m2.2.2.1 1 2 (by omega)).trans rX2
        obtain ⟨Z, z1, z2⟩ := x_worldsL (N := N) (hh := v1) (x0 := v3) (K := fun (x28 : Int32) (S29 : zM) => some ((x28, S29))) m3 hz rM (by omega) hwn hdi (n := 1100) (by omega)
        have hfZ : zFj X Z := m2.tr (z2.j (fun a k q => q.elim (fun z => zPs_scr (Or.inr rfl) z) zWm_s))
        have hZ : zInv Z := hX.jj hfZ
        have hRZ : zRx Z (zi S 437) nd nj nv := ⟨hZ.1, fun k => (hfZ.2.2.2 437 k (by unfold zScr; omega)).trans (hRX.2.1 k), hz.s⟩
        obtain ⟨T, t1, t2, t3, t4, t5, t6, t7, t8, t9, t10⟩ := m_told hZ hRZ hz
        obtain ⟨Y, y1, y2⟩ := m_wonNow (hh := v1) t3 hz hC.tg t4 (n := 1100) (by omega)
        rw [hw] at y1
        have hY : zInv Y := zFx.inv t2 y2
        have hRY : zRx Y (zi S 437) nd nj nv := t3.x y2 (fun k => by unfold zCq; omega)
        obtain ⟨A, a1, a2, a3⟩ := m_save (K := fun (S26 : zM) => zLet (fun (x30 : Int32) (S31 : zM) => zLet (fun (S34 : zM) => some ((x30, S34))) (fun K36 => f_X12_worlds_L226 436 K36 1100 (0 : Int32) S31)) (fun K33 => f_X12_worlds_L78 1100 436 v1 (nI N) K33 1100 v3 (0 : Int32) (0 : Int32) S26)) hY.1 (n := 1100) (by omega)
        have hRA : zRx A (zi S 437) nd nj nv := hRY.fr a2 (fun k => by omega)
        have eA : ∀ i : Nat, 29 ≤ i → i ≤ 34 → zi A 436 i = zi T 436 i := fun i h1 h2 => by rw [a2.i (by omega), y2.i (by unfold zCq; omega)]
        obtain ⟨B, b1, b2⟩ := m_worldsL (N := N) (hh := v1) (x0 := v3) (K := fun (x30 : Int32) (S31 : zM) => zLet (fun (S34 : zM) => some ((x30, S34))) (fun K36 => f_X12_worlds_L226 436 K36 1100 (0 : Int32) S31)) hRA hz hC.tg (by rw [eA _ (by omega) (by omega)]; exact t6) (by rw [eA _ (by omega) (by omega)]; exact t7) (by rw [eA _ (by omega) (by omega)]; exact t8) (by rw [eA _ (by omega) (by omega)]; exact t9) (by rw [eA _ (by omega) (by omega)]; exact t10) (by omega) hwn hdi (n := 1100) (by omega)
        obtain ⟨C, k1, k2, k3⟩ := m_back (K := fun (S34 : zM) => some ((nI (zWz (zi S 437) v1 v3 nv nd N).1.2, S34))) (hRA.1.x b2) (n := 1100) (by omega)
        have hfin : zInv C := by
          refine hY.x ⟨by rw [k2.s, b2.1, a2.s], by rw [k2.n, b2.2.1, a2.n], fun a k g1 g2 => by rw [k2.r, b2.r g1 g2, a2.r], fun a k hq => ?_⟩
          by_cases ha : a = 437
          · subst ha
            by_cases hk : k < 1004
            · rw [k3 k hk, b2.i (by unfold zWq zQt zCq; omega), a3 k hk]
            · rw [k2.i (by omega), b2.i (by unfold zWq zQt zCq; omega), a2.i (by omega)]
          · rw [k2.i (by omega), b2.i (fun q => hq (by unfold zWq zQt zCq at q; unfold zScr; omega)), a2.i (fun q => hq (by unfold zScr; omega))]
        rw [if_neg hne, rX2, rX0, zChk_t (by decide), zChk_t (by decide), m1, zB1_s, zLet_d, z1]
        refine ⟨C, nI (zWz (zi S 437) v1 v3 nv nd N).1.2, Z, rfl, ?_, hfin⟩
        unfold f_X12_worlds
        rw [m_isHall, if_pos h6, zB1_s, if_neg n1, zisR, i1, i30, if_pos c3, zLet_d, if_neg n1, t1, zB1_s, y1, zB2_s, if_neg hne, zLet_d, a1, zLet_d, b1, zLet_d, k1]
    · refine ⟨S, -1, S, ?_, ?_, h⟩
      · by_cases q : v2 < 1
        · rw [if_pos q]
        · rw [if_neg q, if_neg (show ¬ v2 ≤ (30 : Int32) by rw [Int32.lt_iff_toInt_lt] at q; rw [Int32.le_iff_toInt_le]; omega)]
      · unfold f_X12_worlds
        rw [m_isHall, if_pos h6, zB1_s, if_neg n1, zisR, i1, i30, if_neg c3, zLet_d, if_pos rfl]
  · rw [if_neg h6, if_pos rfl]
    refine ⟨S, -1, S, rfl, ?_, h⟩
    unfold f_X12_worlds
    rw [m_isHall, if_neg h6]; rfl
