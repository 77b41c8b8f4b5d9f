/-! put -/
theorem m_wrongRow {S : zM} (h : zLay S) {d : Nat} (hd : d < 8) {of : Int32} : f_X12_wrongRow S 436 (nI d) of = some (if zi S 439 d = 0 then -11 else if zi S 439 d = 2 then (if of < 0 then 0 else if zi S 440 d = of then 0 else -12) else -12) := by
  obtain ⟨-, -, -, -, -, ⟨-, -, r2, r3, -⟩, ⟨-, -, l2, l3, -⟩⟩ := h
  unfold f_X12_wrongRow
  rw [m_isShelf, if_pos (zU_n hd (by omega)), zB1_s, if_neg (by decide), r2, zChk_t (by decide), l2, zChk_t (zix hd (by omega)), zChk_t (zix hd (by omega)), r3, zChk_t (by decide), l3, zChk_t (zix hd (by omega)), nI_clamp (by omega)]
  split
  · rfl
  · split
    · split
      · rfl
      · split <;> rfl
    · rfl
theorem m_wrongRow0 {S : zM} {v of : Int32} (hv : ¬ zU v 8) : f_X12_wrongRow S 436 v of = some (-1) := by
  unfold f_X12_wrongRow
  rw [m_isShelf, if_neg hv]; rfl
def zlow (s v : Int32) : Int32 := if s = 0 then Int8.toInt32 (Int32.toInt8 v) else if s = 1 then Int16.toInt32 (Int32.toInt16 v) else v
theorem m_put {S : zM} (h : zLay S) {d i n : Nat} (hd : d < 8) (hn : n ≤ 120) (hi : i < n) (hk : zi S 439 d = 2) (he : zi S 441 d = nI n) {v : Int32} : f_X12_put S 436 (nI d) (nI i) v = some (0, zpI S 442 (120 * d + i) (zlow (zi S 440 d) v)) := by
  have hw := m_wrongRow h hd (of := -1)
  obtain ⟨-, -, -, -, -, ⟨-, -, r2, r3, r4, r5, -⟩, ⟨-, -, l2, l3, l4, l5, -⟩⟩ := h
  unfold f_X12_put
  have hz : (if zi S 439 d = 0 then (-11 : Int32) else if zi S 439 d = 2 then (if (-1 : Int32) < 0 then 0 else if zi S 440 d = -1 then 0 else -12) else -12) = 0 := by rw [hk, if_neg (by decide), if_pos rfl, if_pos (by decide)]
  rw [hz] at hw
  rw [hw, zB1_s, if_pos rfl, r4, zChk_t (by decide), l4, zChk_t (zix hd (by omega)), r3, l3, r5, l5, show (120 : Int32) = nI 120 from rfl, nI_mul, nI_add, nI_clamp (by omega), he, zisN (by omega), if_pos (zU_n hi (by omega)), zLet_d, if_neg (by decide), zChk_t (by decide), zChk_t (by decide), zChk_t (zixc hd (by omega)), zChk_t (zixc hd (by omega)), nI_clamp (by omega)]
  unfold zlow
  split
  · rw [zChk_t (zixc (by omega) (by omega))]; rfl
  · split
    · rw [zChk_t (zixc (by omega) (by omega))]; rfl
    · rw [zChk_t (zixc (by omega) (by omega))]; rfl
theorem m_put1 {S : zM} (h : zLay S) {d n : Nat} (hd : d < 8) (hn : n ≤ 120) (hk : zi S 439 d = 2) (he : zi S 441 d = nI n) {v2 v : Int32} (hu : ¬ zU v2 n) : f_X12_put S 436 (nI d) v2 v = some (-13, S) := by
  have hw := m_wrongRow h hd (of := -1)
  obtain ⟨-, -, -, -, -, ⟨-, -, r2, r3, r4, r5, -⟩, ⟨-, -, l2, l3, l4, l5, -⟩⟩ := h
  unfold f_X12_put
  have hz : (if zi S 439 d = 0 then (-11 : Int32) else if zi S 439 d = 2 then (if (-1 : Int32) < 0 then 0 else if zi S 440 d = -1 then 0 else -12) else -12) = 0 := by rw [hk, if_neg (by decide), if_pos rfl, if_pos (by decide)]
  rw [hz] at hw
  rw [hw, zB1_s, if_pos rfl, r4, zChk_t (by decide), l4, zChk_t (zix hd (by omega)), nI_clamp (by omega), he, zisN (by omega), if_neg hu, zLet_d, if_pos rfl]
theorem s_put {S : zM} (h : zInv S) (v1 v2 v3 v4 v5 : Int32) : ∃ S' : zM, zs_33 1 436 v1 v2 v3 v4 v5 S S' ∧ zInv S' := by
  unfold zs_33
  by_cases hv : zU v1 8
  · obtain ⟨d, hd, rfl⟩ := hv.k
    have hL := h.1
    have hk := h.2.2.2.2.2.1 d hd
    unfold f_X11_put f_X8_refusalAsRow
    rw [x_shelfAt hL hd, zB1_s, if_neg (by omega)]
    rcases hk with ⟨h1, h2, h3⟩ | ⟨h1, h2, h3, -⟩ | ⟨h1, h2, h3, h4, h5, h6, h7, h8⟩
    · rw [h2, h3]
      refine ⟨S, ⟨-11, S, rfl, ?_⟩, h⟩
      unfold f_X12_put
      rw [m_wrongRow hL hd, h1]; rfl
    · rw [h2, if_pos rfl, if_neg (by omega)]
      refine ⟨S, ⟨-12, S, rfl, ?_⟩, h⟩
      unfold f_X12_put
      rw [m_wrongRow hL hd, h1]; rfl
    · obtain ⟨n, hn, e7⟩ := h7.k
      rw [h2, if_neg (by decide), zB1_s, if_pos rfl, h6, e7, zwN (by omega)]
      have rd := hL.2.2.2.2.1.2.2.2 d hd
      by_cases hu : zU v2 n
      · obtain ⟨i, hi, rfl⟩ := hu.k
        have hx : f_X8_lowestBits S (420 + 2 * d) v3 = zlow (zi S 440 d) v3 := by
          unfold f_X8_lowestBits zlow
          rw [h4]
        rw [if_pos hu, zLet_d, if_neg (by decide), rd.2.1, zChk_t (by omega), hx, zLet_d, rd.2.2, zChk_t (zix (by omega) (by omega)), nI_clamp (by omega), zLet_d]
        have hL1 : zLay (zpI S (421 + 2 * d) i (zlow (zi S 440 d) v3)) := hL
        have eo : ∀ a k : Nat, a ≠ 421 + 2 * d → a ≠ 442 → zi (zpI (zpI S (421 + 2 * d) i (zlow (zi S 440 d) v3)) 442 (120 * d + i) (zlow (zi S 440 d) v3)) a k = zi S a k := fun a k ha hb => by
          rw [mi_ne _ _ (by omega), mi_ne _ _ (by omega)]
        have e1 : ∀ a k : Nat, a ≠ 442 → ¬ (a = 421 + 2 * d ∧ k = i) → zi (zpI (zpI S (421 + 2 * d) i (zlow (zi S 440 d) v3)) 442 (120 * d + i) (zlow (zi S 440 d) v3)) a k = zi S a k := fun a k ha hb => by
          rw [mi_ne _ _ (by omega), mi_ne _ _ hb]
        have e2 : ∀ k : Nat, k ≠ 120 * d + i → zi (zpI (zpI S (421 + 2 * d) i (zlow (zi S 440 d) v3)) 442 (120 * d + i) (zlow (zi S 440 d) v3)) 442 k = zi S 442 k := fun k hb => by
          rw [mi_ne _ _ (by omega), mi_ne _ _ (by omega)]
        have e3 : zi (zpI (zpI S (421 + 2 * d) i (zlow (zi S 440 d) v3)) 442 (120 * d + i) (zlow (zi S 440 d) v3)) 442 (120 * d + i) = zlow (zi S 440 d) v3 := mi_eq _ _ _ _
        have e4 : zi (zpI (zpI S (421 + 2 * d) i (zlow (zi S 440 d) v3)) 442 (120 * d + i) (zlow (zi S 440 d) v3)) (421 + 2 * d) i = zlow (zi S 440 d) v3 := by
          rw [mi_ne _ _ (by omega), mi_eq]
        have hl2 : zLay (zpI (zpI S (421 + 2 * d) i (zlow (zi S 440 d) v3)) 442 (120 * d + i) (zlow (zi S 440 d) v3)) := hL
        have hr2 : zr (zpI (zpI S (421 + 2 * d) i (zlow (zi S 440 d) v3)) 442 (120 * d + i) (zlow (zi S 440 d) v3)) = zr S := rfl
        have hs2 : zsz (zpI (zpI S (421 + 2 * d) i (zlow (zi S 440 d) v3)) 442 (120 * d + i) (zlow (zi S 440 d) v3)) = zsz S := rfl
        refine ⟨zpI (zpI S (421 + 2 * d) i (zlow (zi S 440 d) v3)) 442 (120 * d + i) (zlow (zi S 440 d) v3), ⟨0, _, rfl, ?_⟩, ?_⟩
        · rw [m_put hL1 hd (by omega) hi (by rw [mi_ne _ _ (by omega)]; exact h1) (by rw [mi_ne _ _ (by omega)]; exact e7), mi_ne _ _ (show ¬ (440 = 421 + 2 * d ∧ d = i) by omega)]
        · generalize zpI (zpI S (421 + 2 * d) i (zlow (zi S 440 d) v3)) 442 (120 * d + i) (zlow (zi S 440 d) v3) = S1 at *
          refine h.sh hl2 (by omega) (fun a k _ => by rw [hr2]) (fun a k ha => eo a k (by omega) (by omega)) (fun d1 hd1 => ?_)
          by_cases hdd : d1 = d
          · subst hdd
            refine Or.inr (Or.inr ⟨?_, ?_, ?_, ?_, ?_, ?_, ?_, fun k hk => ?_⟩)
            · rw [eo 439 d1 (by omega) (by omega)]; exact h1
            · rw [eo (420 + 2 * d1) 4 (by omega) (by omega)]; exact h2
            · rw [hr2]; exact h3
            · rw [eo (420 + 2 * d1) 2 (by omega) (by omega), eo 440 d1 (by omega) (by omega)]; exact h4
            · rw [eo 440 d1 (by omega) (by omega)]; exact h5
            · rw [eo (420 + 2 * d1) 3 (by omega) (by omega), eo 441 d1 (by omega) (by omega)]; exact h6
            · rw [eo 441 d1 (by omega) (by omega)]; exact h7
            · rw [eo 440 d1 (by omega) (by omega)]
              by_cases hki : k = i
              · subst hki
                rw [e4, e3]
                refine ⟨rfl, fun h0 => ?_⟩
                unfold zlow
                rw [if_pos h0]
                exact zi8 v3
              · rw [e1 _ _ (by omega) (by omega), e2 _ (by omega)]
                exact h8 k hk
          · have hq := h.2.2.2.2.2.1 d1 hd1
            rcases hq with ⟨g1, g2, g3⟩ | ⟨g1, g2, g3, g4, g5, g6⟩ | ⟨g1, g2, g3, g4, g5, g6, g7, g8⟩
            · exact Or.inl ⟨by rw [eo 439 d1 (by omega) (by omega)]; exact g1, by rw [eo (420 + 2 * d1) 4 (by omega) (by omega)]; exact g2, by rw [hr2]; exact g3⟩
            · have eq : ∀ k : Nat, zi S1 (zr S (420 + 2 * d1) 1) k = zi S (zr S (420 + 2 * d1) 1) k := fun k => eo _ k (by omega) (by omega)
              refine Or.inr (Or.inl ⟨by rw [eo 439 d1 (by omega) (by omega)]; exact g1, by rw [eo (420 + 2 * d1) 4 (by omega) (by omega)]; exact g2, by rw [hr2]; exact g3, by rw [hr2, hs2]; exact g4, ?_, ?_⟩)
              · rw [hr2, heft_c eq, eo 443 d1 (by omega) (by omega)]; exact g5
              · rw [hr2, thr_c eq, fail_c eq, eo 444 d1 (by omega) (by omega)]; exact g6
            · refine Or.inr (Or.inr ⟨by rw [eo 439 d1 (by omega) (by omega)]; exact g1, by rw [eo (420 + 2 * d1) 4 (by omega) (by omega)]; exact g2, by rw [hr2]; exact g3, by rw [eo (420 + 2 * d1) 2 (by omega) (by omega), eo 440 d1 (by omega) (by omega)]; exact g4, by rw [eo 440 d1 (by omega) (by omega)]; exact g5, by rw [eo (420 + 2 * d1) 3 (by omega) (by omega), eo 441 d1 (by omega) (by omega)]; exact g6, by rw [eo 441 d1 (by omega) (by omega)]; exact g7, fun k hk => ?_⟩)
              rw [eo 440 d1 (by omega) (by omega), eo (421 + 2 * d1) k (by omega) (by omega), e2 (120 * d1 + k) (by omega)]
              exact g8 k hk
      · rw [if_neg hu, zLet_d, if_pos rfl]
        exact ⟨S, ⟨-13, S, rfl, m_put1 hL hd (by omega) h1 e7 hu⟩, h⟩
  · unfold f_X11_put
    rw [x_shelfAt0 hv]
    refine ⟨S, ⟨-1, S, rfl, ?_⟩, h⟩
    unfold f_X12_put
    rw [m_wrongRow0 hv]; rfl
