/-! year -/
theorem x_year {S : zM} (h : zLay S) {a n : Nat} (ha : a < 6) (hn : n < 41) : f_X11_year S 1 (nI a) (nI n) = some (zi S 5 a, zpI S 5 a (nI n)) := by
  obtain ⟨-, ⟨⟨-, -, r2, -⟩, -, ⟨-, -, l3, -⟩, -⟩, -, -, ⟨⟨r0, -⟩, -⟩, -⟩ := h
  unfold f_X11_year
  rw [zwi (n := 6) rfl, if_pos (zU_n ha (by omega)), zLet_d, if_neg (by decide), zwi (n := 41) rfl, if_pos (zU_n hn (by omega)), zLet_d, if_neg (by decide), r0, zChk_t (by decide), r2, zChk_t (by decide), l3]
  rw [zChk_t (zix ha (by omega)), zChk_t (zix ha (by omega)), zLet_d, nI_clamp (by omega)]
theorem m_year {S : zM} (h : zLay S) {a n : Nat} (ha : a < 6) (hn : n < 41) : f_X12_year S 436 (nI a) (nI n) = some (zi S 437 (64 + a), zpI S 437 (64 + a) (nI n)) := by
  obtain ⟨-, -, -, -, -, ⟨r0, -⟩, ⟨l0, -⟩⟩ := h
  unfold f_X12_year f_X12_isHall f_X12_becomes
  rw [zisI (n := 6) rfl, if_pos (zU_n ha (by omega)), zLet_d, zChk_t (Or.inr rfl), zB1_s, if_neg (by decide), zisI (n := 41) rfl, if_pos (zU_n hn (by omega)), zLet_d, if_neg (by decide), r0, zChk_t (by decide), l0, show (64 : Int32) = nI 64 from rfl, nI_add]
  rw [zChk_t (zix (by omega) (by omega)), zChk_t (zix (by omega) (by omega)), zLet_d, nI_clamp (by omega), zB2_s]
theorem x_year0 {S : zM} {v1 v2 : Int32} (hn : ¬ (zU v1 6 ∧ zU v2 41)) : f_X11_year S 1 v1 v2 = some (-1, S) := by
  unfold f_X11_year
  rw [zwi (n := 6) rfl, zwi (n := 41) rfl]
  by_cases h1 : zU v1 6
  · have h2 : ¬ zU v2 41 := fun h => hn ⟨h1, h⟩
    rw [if_pos h1, if_neg h2]; rfl
  · rw [if_neg h1]; rfl
theorem m_year0 {S : zM} {v1 v2 : Int32} (hn : ¬ (zU v1 6 ∧ zU v2 41)) : f_X12_year S 436 v1 v2 = some (-1, S) := by
  unfold f_X12_year f_X12_isHall
  rw [zisI (n := 6) rfl, zisI (n := 41) rfl]
  by_cases h1 : zU v1 6
  · have h2 : ¬ zU v2 41 := fun h => hn ⟨h1, h⟩
    rw [if_pos h1, if_neg h2]; rfl
  · rw [if_neg h1]; rfl
theorem s_year {S : zM} (h : zInv S) (v1 v2 v3 v4 v5 : Int32) : ∃ S' : zM, zs_2 1 436 v1 v2 v3 v4 v5 S S' ∧ zInv S' := by
  by_cases hn : zU v1 6 ∧ zU v2 41
  · obtain ⟨⟨a, ha, rfl⟩, ⟨n, hn1, rfl⟩⟩ := And.intro hn.1.k hn.2.k
    have hL := h.1
    have hL1 : zLay (zpI S 5 a (nI n)) := hL
    refine ⟨zpI (zpI S 5 a (nI n)) 437 (64 + a) (nI n), ⟨zi S 5 a, _, x_year hL ha hn1, ?_⟩, ?_⟩
    · rw [m_year hL1 ha hn1, mi_pI, if_neg (by omega), h.2.1.2.1 a ha]
    · have eg : ∀ k : Nat, zi (zpI (zpI S 5 a (nI n)) 437 (64 + a) (nI n)) 437 k = if k = 64 + a then nI n else zi S 437 k := fun k => by
        rw [mi_pI, mi_pI]
        simp
      have eo : ∀ x k : Nat, x ≠ 5 → x ≠ 437 → zi (zpI (zpI S 5 a (nI n)) 437 (64 + a) (nI n)) x k = zi S x k := fun x k h1 h2 => by
        rw [mi_pI, mi_pI, if_neg (by omega), if_neg (by omega)]
      have e5 : ∀ k : Nat, zi (zpI (zpI S 5 a (nI n)) 437 (64 + a) (nI n)) 5 k = if k = a then nI n else zi S 5 k := fun k => by
        rw [mi_pI, mi_pI]
        simp
      have en : ∀ k : Nat, k ≠ 64 + a → zi (zpI (zpI S 5 a (nI n)) 437 (64 + a) (nI n)) 437 k = zi S 437 k := fun k hk => by rw [eg, if_neg hk]
      have hs : zsz S ≤ zsz (zpI (zpI S 5 a (nI n)) 437 (64 + a) (nI n)) := Nat.le_refl _
      have hr : ∀ x k : Nat, zr (zpI (zpI S 5 a (nI n)) 437 (64 + a) (nI n)) x k = zr S x k := fun _ _ => rfl
      have hl1 : zLay (zpI (zpI S 5 a (nI n)) 437 (64 + a) (nI n)) := hL
      generalize zpI (zpI S 5 a (nI n)) 437 (64 + a) (nI n) = S1 at *
      have h2 := h.2.1
      refine h.now hl1 hs (fun x k _ _ => hr x k) (fun x k hx => eo x k (by omega) (by omega)) ?_ ?_
      · refine zRep.lay (zg1 h2 (fun x k hx => eo x k (by omega) (by omega)) (fun k hk => en k (by omega))) (fun i hi => ?_) (zg3 h2 (fun x k hx => eo x k (by omega) (by omega)) (fun k hk _ => en k (by omega))) (zg4 h2 (fun x k hx => eo x k (by omega) (by omega)) (fun k hk _ => en k (by omega))) (zg5 h2 (fun x k hx => eo x k (by omega) (by omega)) (fun k hk _ => en k (by omega))) (zg6 h2 hs (fun j => hr _ _) (fun x k hx => eo x k (by omega) (by omega)) (fun k hk _ => en k (by omega)) (en _ (by omega))) (zg7 h2 (fun x k hx => eo x k (by omega) (by omega)) (fun k hk _ => en k (by omega)) (en _ (by omega)))
        show zi S1 5 i = _
        rw [e5, eg]
        by_cases hia : i = a
        · rw [if_pos hia, if_pos (by omega)]
        · rw [if_neg hia, if_neg (by omega)]; exact h2.2.1 i hi
      · obtain ⟨nd, nj, nv, ⟨b1, b2, b3, b4, b5, b6⟩, c1, c2, c3, c4, c5, c6⟩ := zBd_iff.mp h.2.2.1
        refine zBd_iff.mpr ⟨nd, nj, nv, ⟨b1, b2, b3, by rw [en 1001 (by omega)]; exact b4, by rw [en 1002 (by omega)]; exact b5, by rw [en 1003 (by omega)]; exact b6⟩, c1.g b1 (fun k _ => en k (by omega)), c2.g b2 (fun k _ _ => en k (by omega)), fun i hi => ?_, c4.g (fun k _ _ => en k (by omega)), c5.g (fun k _ _ => en k (by omega)), fun v hv => (c6 v hv).g (fun k _ _ => en k (by omega))⟩
        rw [eg]
        by_cases hia : i = a
        · rw [if_pos (by omega)]; exact zU_n hn1 (by omega)
        · rw [if_neg (by omega)]; exact c3 i hi
  · exact ⟨S, ⟨-1, S, x_year0 hn, m_year0 hn⟩, h⟩
