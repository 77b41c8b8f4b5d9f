theorem seeing_all {s w n : Nat} (hs : s < 10) (hw : w < 2) (hn : n < 8) : (f_X11_seeing 200 1 (nI n) (nI s) (nI w)).isSome = true ∧ f_X12_seeing 200 436 (nI n) (nI s) (nI w) = f_X11_seeing 200 1 (nI n) (nI s) (nI w) := by
  have h1 : s = 0 ∨ s = 1 ∨ s = 2 ∨ s = 3 ∨ s = 4 ∨ s = 5 ∨ s = 6 ∨ s = 7 ∨ s = 8 ∨ s = 9 := by omega
  have h2 : w = 0 ∨ w = 1 := by omega
  rcases h1 with rfl | rfl | rfl | rfl | rfl | rfl | rfl | rfl | rfl | rfl <;> rcases h2 with rfl | rfl
  · exact seeing_0_0 n hn
  · exact seeing_0_1 n hn
  · exact seeing_1_0 n hn
  · exact seeing_1_1 n hn
  · exact seeing_2_0 n hn
  · exact seeing_2_1 n hn
  · exact seeing_3_0 n hn
  · exact seeing_3_1 n hn
  · exact seeing_4_0 n hn
  · exact seeing_4_1 n hn
  · exact seeing_5_0 n hn
  · exact seeing_5_1 n hn
  · exact seeing_6_0 n hn
  · exact seeing_6_1 n hn
  · exact seeing_7_0 n hn
  · exact seeing_7_1 n hn
  · exact seeing_8_0 n hn
  · exact seeing_8_1 n hn
  · exact seeing_9_0 n hn
  · exact seeing_9_1 n hn
