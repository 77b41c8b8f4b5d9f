/-! diver -/
theorem x_diver {S : zM} (h : zLay S) {a n nd : Nat} (ha : a < 6) (hn : n < 10) (hd : nd < 8) (e : zi S 2 5 = nI nd) : f_X11_diver S 1 (nI a) (nI n) = some (nI nd, zpI (zpI (zpI S 3 nd (nI a)) 4 nd (nI n)) 2 5 (nI (nd + 1))) := by
  obtain ⟨-, ⟨⟨q0, q1, -⟩, -, ⟨l1, l2, -⟩, -⟩, -, -, ⟨⟨r0, -⟩, -⟩, -⟩ := h
  unfold f_X11_diver f_X9_addDiver
  rw [zwi (n := 6) rfl, if_pos (zU_n ha (by omega)), zLet_d, if_neg (by decide), zwi (n := 10) rfl, if_pos (zU_n hn (by omega)), zLet_d, if_neg (by decide), r0, zChk_t (by decide), e, zwi (n := 8) rfl, if_pos (zU_n hd (by omega)), zLet_d, if_neg (by decide), q0, zChk_t (by decide), l1, zChk_t (zix hd (by omega)), zLet_d, mr_pI, q1, zChk_t (by decide), mln_pI, mi_ne _ _ (by omega), e, l2, zChk_t (zix hd (by omega)), zLet_d, nI_clamp (by omega), mi_ne _ _ (by omega), mi_ne _ _ (by omega), e, zLet_d, nI_1, mi_eq, nI_pred, zB2_s]
theorem m_diver {S : zM} (h : zLay S) {a n nd : Nat} (ha : a < 6) (hn : n < 10) (hd : nd < 8) (e : zi S 437 1001 = nI nd) : f_X12_diver S 436 (nI a) (nI n) = some (nI nd, zpI (zpI (zpI S 437 (2 * nd) (nI a)) 437 (2 * nd + 1) (nI n)) 437 1001 (nI (nd + 1))) := by
  obtain ⟨-, -, -, -, -, ⟨r0, -⟩, ⟨l0, -⟩⟩ := h
  have h8 : ¬ nI nd = (8 : Int32) := fun hh => by
    have h2 := congrArg Int32.toInt hh
    rw [nI_toInt (by omega)] at h2
    have h3 : (8 : Int32).toInt = 8 := rfl
    omega
  have e1 : zi (zpI S 437 (2 * nd) (nI a)) 437 1001 = nI nd := by rw [mi_ne _ _ (by omega)]; exact e
  have e2 : zi (zpI (zpI S 437 (2 * nd) (nI a)) 437 (2 * nd + 1) (nI n)) 437 1001 = nI nd := by rw [mi_ne _ _ (by omega)]; exact e1
  unfold f_X12_diver
  simp only [zLet_d, mr_pI, mln_pI, r0, l0, show (1001 : Int32) = nI 1001 from rfl, show (2 : Int32) = nI 2 from rfl, show (1 : Int32) = nI 1 from rfl, nI_clamp (show 1001 < 2 ^ 31 by omega), e, nI_mul, nI_add, nI_clamp (show 2 * nd < 2 ^ 31 by omega), nI_clamp (show 2 * nd + 1 < 2 ^ 31 by omega), e1, e2]
  rw [zisI (n := 6) rfl, if_pos (zU_n ha (by omega)), if_neg (by decide), zisI (n := 10) rfl, if_pos (zU_n hn (by omega)), if_neg (by decide), zChk_t (by decide), zChk_t (zixc (by omega) (by omega)), if_neg h8, zChk_t (zixc (by omega) (by omega)), zChk_t (zixc (by omega) (by omega)), zChk_t (by decide), zChk_t (zixc (by omega) (by omega)), zChk_t (zixc (by omega) (by omega)), zChk_t (by decide), zChk_t (zixc (by omega) (by omega)), zChk_t (zixc (by omega) (by omega)), zChk_t (by decide), zChk_t (zixc (by omega) (by omega)), mi_eq]
  exact congrArg some (Prod.ext (nI_pred nd) rfl)
