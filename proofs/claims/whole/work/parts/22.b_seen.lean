/-! seen: all cases -/
theorem seen_all : ∀ p : Nat, p < 6 → ∀ c : Nat, c < 7 → ∀ s : Nat, s < 10 → (f_X11_seen 20 1 (nI p) (nI c) (nI s)).isSome = true ∧ f_X12_seen 436 (nI p) (nI c) (nI s) = f_X11_seen 20 1 (nI p) (nI c) (nI s) := by decide +kernel
theorem s_seen {S : zM} (h : zInv S) (v1 v2 v3 v4 v5 : Int32) : ∃ S' : zM, zs_6 1 436 v1 v2 v3 v4 v5 S S' ∧ zInv S' := by
  refine ⟨S, ?_, h⟩
  suffices hh : ∃ r : Int32, f_X11_seen 20 1 v1 v2 v3 = some r ∧ f_X12_seen 436 v1 v2 v3 = some r by
    obtain ⟨r, a1, a2⟩ := hh
    exact ⟨r, 20, a1, a2, rfl⟩
  by_cases h1 : zU v1 6
  · by_cases h2 : zU v2 7
    · by_cases h3 : zU v3 10
      · obtain ⟨p, hp, rfl⟩ := h1.k
        obtain ⟨c, hc, rfl⟩ := h2.k
        obtain ⟨s, hs, rfl⟩ := h3.k
        obtain ⟨e1, e2⟩ := seen_all p hp c hc s hs
        obtain ⟨r, hr⟩ := Option.isSome_iff_exists.mp e1
        exact ⟨r, hr, e2.trans hr⟩
      · unfold f_X11_seen f_X12_seen
        rw [zwi (n := 6) rfl, zwi (n := 7) rfl, zwi (n := 10) rfl, zisI (n := 6) rfl, m_isChair, zisI (n := 10) rfl, if_pos h1, if_pos h2, if_neg h3]
        exact ⟨-1, rfl, rfl⟩
    · unfold f_X11_seen f_X12_seen
      rw [zwi (n := 6) rfl, zwi (n := 7) rfl, zisI (n := 6) rfl, m_isChair, if_pos h1, if_neg h2]
      exact ⟨-1, rfl, rfl⟩
  · unfold f_X11_seen f_X12_seen
    rw [zwi (n := 6) rfl, zisI (n := 6) rfl, if_neg h1]
    exact ⟨-1, rfl, rfl⟩
