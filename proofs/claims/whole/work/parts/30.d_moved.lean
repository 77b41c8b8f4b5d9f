theorem m_moveL {T : zM} {nd nj nv d : Nat} {g : Nat → Int32} {hh v3 : Int32} {K : Int32 → Int32 → zM → Option (Int32 × zM)} (hR : zRx T g nd nj nv) (hz : zBz g nd nj nv) (ht : zTg g) (hd : d < nd) (e29 : zi T 436 29 = -1) (e32 : zi T 436 32 = 0) (e30 : zi T 436 30 = g 878) (e31 : zi T 436 31 = g 879) (e34 : zi T 436 34 = nI d) : ∃ (S1 : zM) (x : Int32), f_X12_moved_L71 200 436 hh (nI d) v3 K 200 (-4) 0 0 T = K (zM2 (zMq (zMp g hh d nv nd) v3 128)) x S1 ∧ (∀ q : Nat × Nat, zMq (zMp g hh d nv nd) v3 128 = some q → x = nI q.1) ∧ zFx (fun a k => zCq a k ∨ (a = 436 ∧ k = 33)) T S1 := by
  have b1 := hz.1.1
  refine zloopR (fun f (s : Int32 × Int32 × Int32 × zM) => f_X12_moved_L71 200 436 hh (nI d) v3 K f s.1 s.2.1 s.2.2.1 s.2.2.2) (fun k s => s.1 = zM2 (zMq (zMp g hh d nv nd) v3 k) ∧ (∀ q : Nat × Nat, zMq (zMp g hh d nv nd) v3 k = some q → s.2.1 = nI q.1) ∧ s.2.2.1 = nI k ∧ zFx (fun a k => zCq a k ∨ (a = 436 ∧ k = 33)) T s.2.2.2) 128 (fun o => ∃ (S1 : zM) (x : Int32), o = K (zM2 (zMq (zMp g hh d nv nd) v3 128)) x S1 ∧ (∀ q : Nat × Nat, zMq (zMp g hh d nv nd) v3 128 = some q → x = nI q.1) ∧ zFx (fun a k => zCq a k ∨ (a = 436 ∧ k = 33)) T S1) ?_ ?_ 200 (-4, 0, 0, T) (by omega) ⟨rfl, (fun q h => by cases h), rfl, zFx.rf⟩
  · rintro k f ⟨x, y, z, S⟩ hk ⟨h1, h2, h3, h4⟩
    dsimp only at h1 h2 h3 h4
    subst h1 h3
    have f33 : zFx (fun a k => zCq a k ∨ (a = 436 ∧ k = 33)) T (zpI S 436 33 (nI k)) := zFx.pI h4 (Or.inr ⟨rfl, rfl⟩)
    have hS : zRx (zpI S 436 33 (nI k)) g nd nj nv := hR.x f33 (fun k => by unfold zCq; omega)
    have hpar : zPar (zpI S 436 33 (nI k)) g (zIm (zUr g d (nI k)) g nv) nv := zUr_par hz (by rw [f33.i (by unfold zCq; omega)]; exact e29) (by rw [f33.i (by unfold zCq; omega)]; exact e32) (mi_eq _ _ _ _) (by rw [f33.i (by unfold zCq; omega)]; exact e34) (by rw [f33.i (by unfold zCq; omega)]; exact e30) (by rw [f33.i (by unfold zCq; omega)]; exact e31)
    obtain ⟨Z, z1, z2⟩ := m_placeNow (hh := hh) hS hz ht hpar hd (n := 200) (by omega)
    rw [zUr_ad hz nd, show 1 + zAd (zIm (zUp g hh d (nI k)) g nv) hh (zVl (zIm (zUp g hh d (nI k)) g nv) 0) d nv nd = zMp g hh d nv nd k from rfl] at z1
    have hZ : zFx (fun a k => zCq a k ∨ (a = 436 ∧ k = 33)) T Z := f33.tr (z2.mo (fun a k q => Or.inl q))
    have hp9 := zMp_b (g := g) (hh := hh) (d := d) (nv := nv) b1 k
    have hs := zMq_s (pl := zMp g hh d nv nd) (v3 := v3) k
    by_cases hb : f_J6_bitCount_0f7a4 (nI k) = v3
    · rw [if_pos hb] at hs
      have hrun : f_X12_moved_L71 200 436 hh (nI d) v3 K (f + 1) (zM2 (zMq (zMp g hh d nv nd) v3 k)) y (nI k) S = if zM2 (zMq (zMp g hh d nv nd) v3 k) < 0 then f_X12_moved_L71 200 436 hh (nI d) v3 K f (nI k) (nI (zMp g hh d nv nd k)) (nI (k + 1)) Z else if nI (zMp g hh d nv nd k) < y then f_X12_moved_L71 200 436 hh (nI d) v3 K f (nI k) (nI (zMp g hh d nv nd k)) (nI (k + 1)) Z else f_X12_moved_L71 200 436 hh (nI d) v3 K f (zM2 (zMq (zMp g hh d nv nd) v3 k)) y (nI (k + 1)) Z := by
        show f_X12_moved_L71b 200 436 hh (nI d) v3 K (f_X12_moved_L71 200 436 hh (nI d) v3 K f) (zM2 (zMq (zMp g hh d nv nd) v3 k)) y (nI k) S = _
        unfold f_X12_moved_L71b
        rw [if_neg (show ¬ (128 : Int32) ≤ nI k from nI_ge hk (by decide)), zbits k hk, zB1_s, if_pos hb, zLet_d, z1, zB2_s, zLet_d, nI_1]
      cases hq : zMq (zMp g hh d nv nd) v3 k with
      | none =>
        rw [hq] at hs hrun
        rw [if_pos (show zM2 none < 0 by decide)] at hrun
        refine ⟨(nI k, nI (zMp g hh d nv nd k), nI (k + 1), Z), ⟨by rw [hs]; rfl, (fun q h => ?_), rfl, hZ⟩, hrun⟩
        rw [hs] at h
        rw [← Option.some.inj h]
      | some q =>
        have hq9 := zMq_b (zMp_b b1) k q hq
        have hy := h2 q hq
        rw [hq] at hs hrun
        rw [if_neg (show ¬ zM2 (some q) < 0 from nI_pos (by omega)), hy] at hrun
        dsimp only at hs
        by_cases hl : q.1 ≤ zMp g hh d nv nd k
        · rw [if_pos hl] at hs
          rw [if_neg (nI_nlt hl (by omega))] at hrun
          refine ⟨(zM2 (some q), nI q.1, nI (k + 1), Z), ⟨by rw [hs], (fun u h => ?_), rfl, hZ⟩, by rw [hy]; exact hrun⟩
          rw [hs] at h
          rw [← Option.some.inj h]
        · rw [if_neg hl] at hs
          rw [if_pos (nI_lt (by omega) (by omega))] at hrun
          refine ⟨(nI k, nI (zMp g hh d nv nd k), nI (k + 1), Z), ⟨by rw [hs]; rfl, (fun u h => ?_), rfl, hZ⟩, by rw [hy]; exact hrun⟩
          rw [hs] at h
          rw [← Option.some.inj h]
    · rw [if_neg hb] at hs
      refine ⟨(zM2 (zMq (zMp g hh d nv nd) v3 k), y, nI (k + 1), S), ⟨by rw [hs], (fun q h => h2 q (by rw [← hs]; exact h)), rfl, h4⟩, ?_⟩
      show f_X12_moved_L71b 200 436 hh (nI d) v3 K (f_X12_moved_L71 200 436 hh (nI d) v3 K f) (zM2 (zMq (zMp g hh d nv nd) v3 k)) y (nI k) S = _
      unfold f_X12_moved_L71b
      rw [if_neg (show ¬ (128 : Int32) ≤ nI k from nI_ge hk (by decide)), zbits k hk, zB1_s, if_neg hb, nI_1]
  · rintro f ⟨x, y, z, S⟩ ⟨h1, h2, h3, h4⟩
    dsimp only at h1 h2 h3 h4 ⊢
    subst h1 h3
    refine ⟨S, y, ?_, h2, h4⟩
    show f_X12_moved_L71b 200 436 hh (nI d) v3 K (f_X12_moved_L71 200 436 hh (nI d) v3 K f) _ _ (nI 128) S = _
    unfold f_X12_moved_L71b
    rw [if_pos (show (128 : Int32) ≤ nI 128 from Int32.le_refl _)]
theorem zbc : f_J6_bitCount_0f7a4 (nI 1) = nI 1 ∧ f_J6_bitCount_0f7a4 (nI 3) = nI 2 ∧ f_J6_bitCount_0f7a4 (nI 7) = nI 3 := by decide +kernel
theorem s_moved {S : zM} (h : zInv S) (v1 v2 v3 v4 v5 : Int32) : ∃ S' : zM, zs_17 1 436 v1 v2 v3 v4 v5 S S' ∧ zInv S' := by
  suffices hh : ∃ (S' : zM) (r : Int32) (S1 : zM), f_X11_moved 200 S 1 v1 v2 v3 v4 = some (r, S1) ∧ f_X12_moved 200 S1 436 v1 v2 v3 v4 = some (r, S') ∧ zInv S' by
    obtain ⟨S', r, S1, q1, q2, q3⟩ := hh
    exact ⟨S', ⟨r, 200, S1, q1, q2⟩, q3⟩
  obtain ⟨nd, nj, nv, hC, hz, hR⟩ := h.z
  obtain ⟨⟨b1, b2, b3⟩, e5, e6, e7⟩ := hC.n
  have r0 : zr S 1 0 = 2 := h.1.2.2.2.2.1.1.1
  have i1 : (1 : Int64).toInt = 1 := rfl
  have i3 : (3 : Int64).toInt = 3 := rfl
  have j1 : (1 : Int32).toInt = 1 := rfl
  have j3 : (3 : Int32).toInt = 3 := rfl
  have n1 : ¬ (1 : Int32) = 0 := by decide
  unfold f_X11_moved
  rw [zwi (n := 6) rfl, zLet_d, r0, zChk_t (by decide), e5, zwi (n := nd) (nI_toInt (by omega)), zLet_d]
  by_cases h6 : zU v1 6
  · rw [if_pos h6, if_neg n1]
    by_cases hd : zU v2 nd
    · rw [if_pos hd, if_neg n1]
      by_cases c3 : 1 ≤ v3.toInt ∧ v3.toInt ≤ 3
      · rw [if_neg (show ¬ v3 < 1 by rw [Int32.lt_iff_toInt_lt]; omega), if_neg (show ¬ (3 : Int32) < v3 by rw [Int32.lt_iff_toInt_lt]; omega), zwi (n := 2) rfl, zLet_d]
        by_cases h4 : zU v4 2
        · obtain ⟨d, hd', rfl⟩ := hd.k
          rw [if_pos h4, if_neg n1, zLet_d]
          by_cases hdi : zDi (zi S 437) v1 d nv = true
          · obtain ⟨X, x1, x2, x3⟩ := x_moveL (v3 := v3) (hh := v1) (K := fun (x20 : Int32) (x21 : Int32) (S22 : zM) => if v4 = 0 then some ((x20, S22)) else some ((x21, S22))) h rfl hz (show d < 8 by omega) hdi (n := 200) (by omega)
            have hRX : zRx X (zi S 437) nd nj nv := ⟨x2.1, fun k => by rw [x3], hz.s⟩
            obtain ⟨T, t1, t2, t3, t4, t5, t6, t7, t8, t9, t10⟩ := m_told x2 hRX hz
            have hU : zF (fun a k => a = 436 ∧ k = 34) T (zpI T 436 34 (nI d)) := zF.pI zF.rf ⟨rfl, rfl⟩
            have hUi : zInv (zpI T 436 34 (nI d)) := t2.fr (hU.mo (fun a k q => by unfold zScr; omega))
            obtain ⟨Y, x, y1, y2, y3⟩ := m_moveL (v3 := v3) (hh := v1) (K := fun (x38 : Int32) (x39 : Int32) (S40 : zM) => zLet (zpI S40 436 33 (0 : Int32)) (fun S43 => if v4 = 0 then some ((x39, S43)) else some ((x38, S43)))) (T := zpI T 436 34 (nI d)) (t3.fr hU (fun k => by omega)) hz hC.tg hd' (by rw [hU.i (by omega)]; exact t6) (by rw [hU.i (by omega)]; exact t7) (by rw [hU.i (by omega)]; exact t9) (by rw [hU.i (by omega)]; exact t10) (mi_eq _ _ _ _)
            have hfin : zInv (zpI Y 436 33 0) := by
              refine hUi.x ⟨y3.1, y3.2.1, fun a k g1 g2 => y3.r g1 g2, fun a k hw => ?_⟩
              by_cases hk : a = 436 ∧ k = 33
              · obtain ⟨rfl, rfl⟩ := hk
                rw [mi_eq, hU.i (by omega), t8]
              · rw [mi_ne _ _ (by omega)]
                exact y3.i (fun q => hw (by
                  rcases q with q | q
                  · unfold zCq at q; unfold zScr; omega
                  · exact absurd q hk))
            have hq : ∃ q : Nat × Nat, zMq (zMp (zi S 437) v1 d nv nd) v3 128 = some q := by
              have hbit : ∃ a : Nat, a < 128 ∧ f_J6_bitCount_0f7a4 (nI a) = v3 := by
                obtain ⟨k, hk, rfl⟩ := (show zU v3 4 by unfold zU; omega).k
                rw [nI_toInt (by omega)] at c3
                have : k = 1 ∨ k = 2 ∨ k = 3 := by omega
                rcases this with rfl | rfl | rfl
                · exact ⟨1, by omega, zbc.1⟩
                · exact ⟨3, by omega, zbc.2.1⟩
                · exact ⟨7, by omega, zbc.2.2⟩
              obtain ⟨a, ha, eb⟩ := hbit
              have := zMq_n (pl := zMp (zi S 437) v1 d nv nd) eb 128 ha
              cases hz : zMq (zMp (zi S 437) v1 d nv nd) v3 128 with
              | none => exact absurd hz this
              | some q => exact ⟨q, rfl⟩
            obtain ⟨q, hq⟩ := hq
            have hx := y2 q hq
            subst hx
            rw [hq] at x1 y1
            rw [x1]
            have hm : f_X12_moved 200 X 436 v1 (nI d) v3 v4 = if v4 = 0 then some (nI q.1, zpI Y 436 33 0) else some (zM2 (some q), zpI Y 436 33 0) := by
              unfold f_X12_moved
              rw [m_isHall, if_pos h6, zB1_s, if_neg n1, m_isDiver x2.1 (show nd ≤ 40 by omega) (by rw [x3]; exact hz.1.2.2.2.1), if_pos hd, zB1_s, if_neg n1, zisR, i1, i3, if_pos c3, zLet_d, if_neg n1, zisI (n := 2) rfl, if_pos h4, zLet_d, if_neg n1, m_dives hRX (by omega), if_pos hdi, zB1_s, if_neg n1, t1, zB1_s, zLet_d, zLet_d, y1, zLet_d]
            by_cases q4 : v4 = 0
            · rw [if_pos q4] at hm ⊢
              exact ⟨_, _, X, rfl, hm, hfin⟩
            · rw [if_neg q4] at hm ⊢
              exact ⟨_, _, X, rfl, hm, hfin⟩
          · obtain ⟨X, x1, x2, x3⟩ := x_moveL0 (v3 := v3) (hh := v1) (K := fun (x20 : Int32) (x21 : Int32) (S22 : zM) => if v4 = 0 then some ((x20, S22)) else some ((x21, S22))) h rfl hz (show d < 8 by omega) hdi (n := 200) (by omega)
            have hRX : zRx X (zi S 437) nd nj nv := ⟨x2.1, fun k => by rw [x3], hz.s⟩
            rw [x1]
            refine ⟨X, -4, X, ?_, ?_, x2⟩
            · split <;> rfl
            · unfold f_X12_moved
              rw [m_isHall, if_pos h6, zB1_s, if_neg n1, m_isDiver x2.1 (show nd ≤ 40 by omega) (by rw [x3]; exact hz.1.2.2.2.1), if_pos hd, zB1_s, if_neg n1, zisR, i1, i3, if_pos c3, zLet_d, if_neg n1, zisI (n := 2) rfl, if_pos h4, zLet_d, if_neg n1, m_dives hRX (by omega), if_neg hdi, zB1_s, if_pos rfl]
        · rw [if_neg h4, if_pos rfl]
          refine ⟨S, -1, S, rfl, ?_, h⟩
          unfold f_X12_moved
          rw [m_isHall, if_pos h6, zB1_s, if_neg n1, m_isDiver h.1 (show nd ≤ 40 by omega) (hz.1.2.2.2.1), if_pos hd, zB1_s, if_neg n1, zisR, i1, i3, if_pos c3, zLet_d, if_neg n1, zisI (n := 2) rfl, if_neg h4, zLet_d, if_pos rfl]
      · refine ⟨S, -1, S, ?_, ?_, h⟩
        · by_cases q : v3 < 1
          · rw [if_pos q]
          · rw [if_neg q, if_pos (show (3 : Int32) < v3 by rw [Int32.lt_iff_toInt_lt] at q ⊢; omega)]
        · unfold f_X12_moved
          rw [m_isHall, if_pos h6, zB1_s, if_neg n1, m_isDiver h.1 (show nd ≤ 40 by omega) (hz.1.2.2.2.1), if_pos hd, zB1_s, if_neg n1, zisR, i1, i3, if_neg c3, zLet_d, if_pos rfl]
    · rw [if_neg hd, if_pos rfl]
      refine ⟨S, -1, S, rfl, ?_, h⟩
      unfold f_X12_moved
      rw [m_isHall, if_pos h6, zB1_s, if_neg n1, m_isDiver h.1 (show nd ≤ 40 by omega) (hz.1.2.2.2.1), if_neg hd]; rfl
  · rw [if_neg h6, if_pos rfl]
    refine ⟨S, -1, S, rfl, ?_, h⟩
    unfold f_X12_moved
    rw [m_isHall, if_neg h6]; rfl
