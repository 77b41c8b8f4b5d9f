theorem s_seeing {S : zM} (h : zInv S) (v1 v2 v3 v4 v5 : Int32) : ∃ S' : zM, zs_26 1 436 v1 v2 v3 v4 v5 S S' ∧ zInv S' := by
  refine ⟨S, ?_, h⟩
  have e0 : (0 : Int32).toInt = 0 := rfl
  have e7 : (7 : Int32).toInt = 7 := rfl
  have hh : ∃ r : Int32, f_X11_seeing 200 1 v1 v2 v3 = some r ∧ f_X12_seeing 200 436 v1 v2 v3 = some r := by
    by_cases h1 : zU v1 8
    · have g1 : ¬ v1 < 0 := by rw [Int32.lt_iff_toInt_lt, e0]; have := h1.1; omega
      have g2 : ¬ 7 < v1 := by rw [Int32.lt_iff_toInt_lt, e7]; have := h1.2; omega
      by_cases h2 : zU v2 10
      · by_cases h3 : zU v3 2
        · obtain ⟨n, hn, rfl⟩ := h1.k
          obtain ⟨s, hs, rfl⟩ := h2.k
          obtain ⟨w, hw, rfl⟩ := h3.k
          obtain ⟨e1, e2⟩ := seeing_all hs hw hn
          obtain ⟨r, hr⟩ := Option.isSome_iff_exists.mp e1
          exact ⟨r, hr, e2.trans hr⟩
        · refine ⟨-1, ?_, ?_⟩
          · unfold f_X11_seeing
            rw [if_neg g1, if_neg g2, zwi (n := 10) rfl, if_pos h2, zLet_d, if_neg (show ¬ (1 : Int32) = 0 by decide), zwi (n := 2) rfl, if_neg h3, zLet_d, if_pos (show (0 : Int32) = 0 from rfl)]
          · unfold f_X12_seeing
            rw [zisI (n := 8) rfl, if_pos h1, zLet_d, if_neg (show ¬ (1 : Int32) = 0 by decide), zisI (n := 10) rfl, if_pos h2, zLet_d, if_neg (show ¬ (1 : Int32) = 0 by decide), zisI (n := 2) rfl, if_neg h3, zLet_d, if_pos (show (0 : Int32) = 0 from rfl)]
      · refine ⟨-1, ?_, ?_⟩
        · unfold f_X11_seeing
          rw [if_neg g1, if_neg g2, zwi (n := 10) rfl, if_neg h2, zLet_d, if_pos (show (0 : Int32) = 0 from rfl)]
        · unfold f_X12_seeing
          rw [zisI (n := 8) rfl, if_pos h1, zLet_d, if_neg (show ¬ (1 : Int32) = 0 by decide), zisI (n := 10) rfl, if_neg h2, zLet_d, if_pos (show (0 : Int32) = 0 from rfl)]
    · refine ⟨-1, ?_, ?_⟩
      · unfold f_X11_seeing
        by_cases g1 : v1 < 0
        · rw [if_pos g1]
        · have g2 : 7 < v1 := by
            rw [Int32.lt_iff_toInt_lt, e7]
            rw [Int32.lt_iff_toInt_lt, e0] at g1
            by_cases g3 : 7 < v1.toInt
            · exact g3
            · exact absurd ⟨by omega, by omega⟩ h1
          rw [if_neg g1, if_pos g2]
      · unfold f_X12_seeing
        rw [zisI (n := 8) rfl, if_neg h1, zLet_d, if_pos (show (0 : Int32) = 0 from rfl)]
  obtain ⟨r, a1, a2⟩ := hh
  exact ⟨r, 200, a1, a2, rfl⟩
