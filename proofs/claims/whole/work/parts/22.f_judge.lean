/-! what can be asked of a judge: the reference's weight is the class's heft -/
theorem m_weightOf {S : zM} {q j : Nat} (h : zLay S) (hj : j < 12) (hr : zRepJ S q j (zi S 437)) : f_X12_weightOf S 436 (nI j) = some (f_X2_heft S q) := by
  have r0 : zr S 436 0 = 437 := h.2.2.2.2.2.1.1
  have l0 : zln S 437 = 1004 := h.2.2.2.2.2.2.1
  obtain ⟨-, -, -, k1, k2, k3, k4⟩ := hr
  have e1 : (16 : Int32) + 4 * nI j = nI (16 + 4 * j) := by rw [show (16 : Int32) = nI 16 from rfl, show (4 : Int32) = nI 4 from rfl, nI_mul, nI_add]
  have e2 : nI (16 + 4 * j) + 1 = nI (17 + 4 * j) := by rw [nI_1, show 16 + 4 * j + 1 = 17 + 4 * j by omega]
  have e3 : nI (16 + 4 * j) + 2 = nI (18 + 4 * j) := by rw [show (2 : Int32) = nI 2 from rfl, nI_add, show 16 + 4 * j + 2 = 18 + 4 * j by omega]
  have e4 : nI (16 + 4 * j) + 3 = nI (19 + 4 * j) := by rw [show (3 : Int32) = nI 3 from rfl, nI_add, show 16 + 4 * j + 3 = 19 + 4 * j by omega]
  unfold f_X12_weightOf f_X2_heft
  rw [e1, e2, e3, e4, r0, l0, zChk_t (by decide), zChk_t (zix (by omega) (by omega)), zChk_t (zix (by omega) (by omega)), zChk_t (zix (by omega) (by omega)), zChk_t (zix (by omega) (by omega)), zChk_t (zix (by omega) (by omega)), nI_clamp (by omega), nI_clamp (by omega), nI_clamp (by omega), nI_clamp (by omega), k1, k2, k3, k4]
  have s1 : ∀ x : Int32, x + 10 - x = 10 := fun x => by rw [Int32.add_comm, Int32.add_sub_cancel]
  rw [s1, show (10 : Int32) + 7 = 17 from rfl]
  repeat' split
  all_goals rfl
