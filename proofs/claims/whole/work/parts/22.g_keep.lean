/-! keep: the class's part -/
theorem x_keep1 {S : zM} (h : zLay S) {d j nj : Nat} (hd : d < 8) (hj : nj ≤ 12) (ej : zi S 2 6 = nI nj) (hjn : j < nj) (hq : ¬ zr S 11 j = 0) : f_X11_keep S 1 (nI d) 1 (nI j) = some (0, zpR (f_X8_clear S (420 + 2 * d)) (420 + 2 * d) 1 (zr S 11 j)) := by
  have r0 : zr S 1 0 = 2 := h.2.2.2.2.1.1.1
  have hz : zU (1 : Int32) 2 := by decide +kernel
  unfold f_X11_keep
  rw [x_shelfAt h hd, zB1_s, if_neg (by omega), zwi (n := 2) rfl, if_pos hz, zLet_d, if_neg (show ¬ (1 : Int32) = 0 by decide), if_neg (show ¬ (1 : Int32) = 0 by decide), r0, zChk_t (by decide), x_judgeAt h.2.1 hj ej hjn, zB1_s, if_neg hq, zLet_d]
  rfl
theorem x_keep0 {S : zM} (h : zLay S) {d : Nat} (hd : d < 8) {v : Int32} : f_X11_keep S 1 (nI d) 0 v = some (0, f_X8_clear S (420 + 2 * d)) := by
  have hz : zU (0 : Int32) 2 := by decide +kernel
  unfold f_X11_keep
  rw [x_shelfAt h hd, zB1_s, if_neg (by omega), zwi (n := 2) rfl, if_pos hz, zLet_d, if_neg (show ¬ (1 : Int32) = 0 by decide), if_pos rfl, zLet_d]
