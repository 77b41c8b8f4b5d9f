/-! diver -/
theorem x_diver {S : zM} (h : zLay S) {a n nd : Nat} (ha : a < 6) (hn : n < 10) (hd : nd < 8) (e : zi S 2 5 = nI nd) : f_X11_diver S 1 (nI a) (nI n) = some (nI nd, zpI (zpI (zpI S 3 nd (nI a)) 4 nd (nI n)) 2 5 (nI (nd + 1))) := by
  obtain ⟨-, ⟨⟨q0, q1, -⟩, -, ⟨l1, l2, -⟩, -⟩, -, -, ⟨⟨r0, -⟩, -⟩, -⟩ := h
  unfold f_X11_diver f_X9_addDiver
  rw [zwi (n := 6) rfl, if_pos (zU_n ha (by omega)), zLet_d, if_neg (by decide), zwi (n := 10) rfl, if_pos (zU_n hn (by omega)), zLet_d, if_neg (by decide), r0, zChk_t (by decide), e, zwi (n := 8) rfl, if_pos (zU_n hd (by omega)), zLet_d, if_neg (by decide), q0, zChk_t (by decide), l1, zChk_t (zix hd (by omega)), zLet_d, mr_pI, q1, zChk_t (by decide), mln_pI, mi_ne _ _ (by omega), e, l2, zChk_t (zix hd (by omega)), zLet_d, nI_clamp (by omega), mi_ne _ _ (by omega), mi_ne _ _ (by omega), e, zLet_d, nI_1, mi_eq, nI_pred, zB2_s]
theorem m_diver {S : zM} (h : zLay S) {a n nd : Nat} (ha : a < 6) (hn : n < 10) (hd : nd < 8) (e : zi S 437 1001 = nI nd) : f_X12_diver S 436 (nI a) (nI n) = some (nI nd, zpI (zpI (zpI S 437 (2 * nd) (nI a)) 437 (2 * nd + 1) (nI n)) 437 1001 (nI (nd + 1))) := by
  obtain ⟨-, -, -, -, -, ⟨r0, -⟩, ⟨l0, -⟩⟩ := h
  have h8 : ¬ nI nd = (8 : Int32) := fun hh => by
    have h2 := congrArg Int32.toInt hh
    rw [nI_toInt (by omega)] at h2
    have h3 : (8 : Int32).toInt = 8 := rfl
    omega
  have e1 : zi (zpI S 437 (2 * nd) (nI a)) 437 1001 = nI nd := by rw [mi_ne _ _ (by omega)]; exact e
  have e2 : zi (zpI (zpI S 437 (2 * nd) (nI a)) 437 (2 * nd + 1) (nI n)) 437 1001 = nI nd := by rw [mi_ne _ _ (by omega)]; exact e1
  unfold f_X12_diver
  simp only [zLet_d, mr_pI, mln_pI, r0, l0, show (1001 : Int32) = nI 1001 from rfl, show (2 : Int32) = nI 2 from rfl, show (1 : Int32) = nI 1 from rfl, nI_clamp (show 1001 < 2 ^ 31 by omega), e, nI_mul, nI_add, nI_clamp (show 2 * nd < 2 ^ 31 by omega), nI_clamp (show 2 * nd + 1 < 2 ^ 31 by omega), e1, e2]
  rw [zisI (n := 6) rfl, if_pos (zU_n ha (by omega)), if_neg (by decide), zisI (n := 10) rfl, if_pos (zU_n hn (by omega)), if_neg (by decide), zChk_t (by decide), zChk_t (zixc (by omega) (by omega)), if_neg h8, zChk_t (zixc (by omega) (by omega)), zChk_t (zixc (by omega) (by omega)), zChk_t (by decide), zChk_t (zixc (by omega) (by omega)), zChk_t (zixc (by omega) (by omega)), zChk_t (by decide), zChk_t (zixc (by omega) (by omega)), zChk_t (zixc (by omega) (by omega)), zChk_t (by decide), zChk_t (zixc (by omega) (by omega)), mi_eq]
  exact congrArg some (Prod.ext (nI_pred nd) rfl)
theorem nI_inj {a b : Nat} (h : nI a = nI b) (ha : a < 2 ^ 31) (hb : b < 2 ^ 31) : a = b := (nI_eq ha hb).mp h
theorem s_diver {S : zM} (h : zInv S) (v1 v2 v3 v4 v5 : Int32) : ∃ S' : zM, zs_0 1 436 v1 v2 v3 v4 v5 S S' ∧ zInv S' := by
  have hL := h.1
  have h2 := h.2.1
  obtain ⟨nd, nj, nv, ⟨b1, b2, b3, b4, b5, b6⟩, c1, c2, c3, c4, c5, c6⟩ := zBd_iff.mp h.2.2.1
  have e5 : zi S 2 5 = nI nd := by rw [← b4]; exact h2.2.2.2.1.1
  by_cases hn : zU v1 6 ∧ zU v2 10
  · obtain ⟨⟨a, ha, rfl⟩, ⟨n, hn1, rfl⟩⟩ := And.intro hn.1.k hn.2.k
    by_cases hd : nd < 8
    · have hL1 : zLay (zpI (zpI (zpI S 3 nd (nI a)) 4 nd (nI n)) 2 5 (nI (nd + 1))) := hL.pI.pI.pI
      have hm := m_diver hL1 ha hn1 hd (by rw [mi_ne _ _ (by omega), mi_ne _ _ (by omega), mi_ne _ _ (by omega)]; exact b4)
      generalize hX : zpI (zpI (zpI S 3 nd (nI a)) 4 nd (nI n)) 2 5 (nI (nd + 1)) = X at hm hL1
      have hXo : ∀ x k : Nat, x ≠ 3 → x ≠ 4 → ¬ (x = 2 ∧ k = 5) → zi X x k = zi S x k := fun x k h1 h2 h3 => by
        rw [← hX, mi_ne _ _ h3, mi_ne _ _ (by omega), mi_ne _ _ (by omega)]
      have hX3 : ∀ k : Nat, zi X 3 k = if k = nd then nI a else zi S 3 k := fun k => by
        rw [← hX, mi_ne _ _ (by omega), mi_ne _ _ (by omega), mi_pI]; simp
      have hX4 : ∀ k : Nat, zi X 4 k = if k = nd then nI n else zi S 4 k := fun k => by
        rw [← hX, mi_ne _ _ (by omega), mi_pI]
        by_cases hk : k = nd
        · rw [if_pos ⟨rfl, hk⟩, if_pos hk]
        · rw [if_neg (by omega), if_neg hk, mi_ne _ _ (by omega)]
      have hX5 : zi X 2 5 = nI (nd + 1) := by rw [← hX, mi_eq]
      have hXr : zr X = zr S := by rw [← hX, mr_pI, mr_pI, mr_pI]
      have hXs : zsz X = zsz S := by rw [← hX, msz_pI, msz_pI, msz_pI]
      generalize hY : zpI (zpI (zpI X 437 (2 * nd) (nI a)) 437 (2 * nd + 1) (nI n)) 437 1001 (nI (nd + 1)) = Y at hm
      have hYo : ∀ x k : Nat, x ≠ 437 → zi Y x k = zi X x k := fun x k h1 => by
        rw [← hY, mi_ne _ _ (by omega), mi_ne _ _ (by omega), mi_ne _ _ (by omega)]
      have hYn : ∀ k : Nat, k ≠ 2 * nd → k ≠ 2 * nd + 1 → k ≠ 1001 → zi Y 437 k = zi S 437 k := fun k h1 h2 h3 => by
        rw [← hY, mi_ne _ _ (by omega), mi_ne _ _ (by omega), mi_ne _ _ (by omega)]; exact hXo 437 k (by omega) (by omega) (by omega)
      have hY1 : zi Y 437 1001 = nI (nd + 1) := by rw [← hY, mi_eq]
      have hY2 : zi Y 437 (2 * nd + 1) = nI n := by rw [← hY, mi_ne _ _ (by omega), mi_eq]
      have hY3 : zi Y 437 (2 * nd) = nI a := by rw [← hY, mi_ne _ _ (by omega), mi_ne _ _ (by omega), mi_eq]
      have hYr : zr Y = zr S := by rw [← hY, mr_pI, mr_pI, mr_pI]; exact hXr
      have hYs : zsz Y = zsz S := by rw [← hY, msz_pI, msz_pI, msz_pI]; exact hXs
      have hLY : zLay Y := by rw [← hY]; exact hL1.pI.pI.pI
      refine ⟨Y, ⟨nI nd, X, by rw [← hX]; exact x_diver hL ha hn1 hd e5, hm⟩, ?_⟩
      have eo : ∀ x k : Nat, x ≠ 3 → x ≠ 4 → x ≠ 437 → ¬ (x = 2 ∧ k = 5) → zi Y x k = zi S x k := fun x k h1 h2 h3 h4 => by rw [hYo x k h3]; exact hXo x k h1 h2 h4
      refine h.now hLY (by omega) (fun x k _ _ => by rw [hYr]) (fun x k hx => eo x k (by omega) (by omega) (by omega) (by omega)) ?_ ?_
      · refine zRep.lay (fun i hi => ?_) (zg2 h2 (fun x k hx => eo x k (by omega) (by omega) (by omega) (by omega)) (fun k hk _ => hYn k (by omega) (by omega) (by omega))) (zg3 h2 (fun x k hx => eo x k (by omega) (by omega) (by omega) (by omega)) (fun k hk _ => hYn k (by omega) (by omega) (by omega))) ⟨?_, ?_, ?_⟩ (zg5 h2 (fun x k hx => eo x k (by omega) (by omega) (by omega) (by omega)) (fun k hk _ => hYn k (by omega) (by omega) (by omega))) (zg6 h2 (by omega) (fun j => by rw [hYr]) (fun x k hx => eo x k (by omega) (by omega) (by omega) (by omega)) (fun k hk _ => hYn k (by omega) (by omega) (by omega)) (hYn 1002 (by omega) (by omega) (by omega))) (zg7 h2 (fun x k hx => eo x k (by omega) (by omega) (by omega) (by omega)) (fun k hk _ => hYn k (by omega) (by omega) (by omega)) (hYn 1003 (by omega) (by omega) (by omega)))
        · show zi Y 3 i = _ ∧ zi Y 4 i = _
          rw [hYo 3 i (by omega), hYo 4 i (by omega), hX3, hX4]
          by_cases hin : i = nd
          · subst hin
            rw [if_pos rfl, if_pos rfl, hY3, hY2]
            exact ⟨rfl, rfl⟩
          · rw [if_neg hin, if_neg hin, hYn _ (by omega) (by omega) (by omega), hYn _ (by omega) (by omega) (by omega)]
            exact h2.1 i hi
        · rw [hYo 2 5 (by omega), hX5, hY1]
        · rw [eo 2 6 (by omega) (by omega) (by omega) (by omega), hYn 1002 (by omega) (by omega) (by omega)]; exact h2.2.2.2.1.2.1
        · rw [eo 2 7 (by omega) (by omega) (by omega) (by omega), hYn 1003 (by omega) (by omega) (by omega)]; exact h2.2.2.2.1.2.2
      · refine zBd_iff.mpr ⟨nd + 1, nj, nv, ⟨by omega, b2, b3, hY1, by rw [hYn 1002 (by omega) (by omega) (by omega)]; exact b5, by rw [hYn 1003 (by omega) (by omega) (by omega)]; exact b6⟩, fun i hi => ?_, c2.g b2 (fun k _ _ => hYn k (by omega) (by omega) (by omega)), c3.g (fun k _ _ => hYn k (by omega) (by omega) (by omega)), c4.g (fun k _ _ => hYn k (by omega) (by omega) (by omega)), c5.g (fun k _ _ => hYn k (by omega) (by omega) (by omega)), fun v hv => ?_⟩
        · by_cases hin : i = nd
          · subst hin
            rw [hY3, hY2]
            exact ⟨zU_n ha (by omega), zU_n hn1 (by omega)⟩
          · rw [hYn _ (by omega) (by omega) (by omega), hYn _ (by omega) (by omega) (by omega)]
            exact c1 i (by omega)
        · obtain ⟨d1, d2, d3, d4, d5, d6, d7⟩ := (c6 v hv).g (g1 := zi Y 437) (fun k _ _ => hYn k (by omega) (by omega) (by omega))
          exact ⟨d1, d2.le (by omega), d3, d4, d5, d6, d7⟩
    · have hd8 : nd = 8 := by omega
      subst hd8
      refine ⟨S, ⟨-2, S, ?_, ?_⟩, h⟩
      · have r0 : zr S 1 0 = 2 := hL.2.2.2.2.1.1.1
        unfold f_X11_diver f_X9_addDiver
        rw [zwi (n := 6) rfl, if_pos hn.1, zLet_d, if_neg (by decide), zwi (n := 10) rfl, if_pos hn.2, zLet_d, if_neg (by decide), r0, zChk_t (by decide), e5, zwi (n := 8) rfl, if_neg (by decide +kernel), zLet_d, if_pos rfl, zB2_s]
      · have r0 : zr S 436 0 = 437 := hL.2.2.2.2.2.1.1
        have l0 : zln S 437 = 1004 := hL.2.2.2.2.2.2.1
        unfold f_X12_diver
        rw [zisI (n := 6) rfl, if_pos hn.1, zLet_d, if_neg (by decide), zisI (n := 10) rfl, if_pos hn.2, zLet_d, if_neg (by decide), r0, zChk_t (by decide), l0, show (1001 : Int32) = nI 1001 from rfl, zChk_t (zix (by omega) (by omega)), nI_clamp (by omega), b4, if_pos (show nI 8 = (8 : Int32) from rfl)]
  · refine ⟨S, ⟨-1, S, ?_, ?_⟩, h⟩
    · unfold f_X11_diver
      rw [zwi (n := 6) rfl, zwi (n := 10) rfl]
      by_cases h1 : zU v1 6
      · have h2 : ¬ zU v2 10 := fun h => hn ⟨h1, h⟩
        rw [if_pos h1, if_neg h2, zLet_d, if_neg (by decide), zLet_d, if_pos rfl]
      · rw [if_neg h1, zLet_d, if_pos rfl]
    · unfold f_X12_diver
      rw [zisI (n := 6) rfl, zisI (n := 10) rfl]
      by_cases h1 : zU v1 6
      · have h2 : ¬ zU v2 10 := fun h => hn ⟨h1, h⟩
        rw [if_pos h1, if_neg h2, zLet_d, if_neg (by decide), zLet_d, if_pos rfl]
      · rw [if_neg h1, zLet_d, if_pos rfl]
