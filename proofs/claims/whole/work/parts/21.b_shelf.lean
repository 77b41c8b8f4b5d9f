/-! shelves: weight, toss, element, put -/
theorem x_shelfAt {S : zM} (h : zLay S) {d : Nat} (hd : d < 8) : f_X11_shelfAt S 1 (nI d) = some (420 + 2 * d) := by
  obtain ⟨-, -, -, -, ⟨⟨-, -, -, r3, -, -, -, -, l⟩, -, -, rd⟩, -⟩ := h
  unfold f_X11_shelfAt
  rw [zwi (n := 8) rfl, if_pos (zU_n hd (by omega)), zLet_d, if_neg (by decide), r3, zChk_t (by decide), l, zChk_t (zix hd (by omega)), nI_clamp (by omega), (rd d hd).1]
theorem x_shelfAt0 {S : zM} {v : Int32} (hv : ¬ zU v 8) : f_X11_shelfAt S 1 v = some 0 := by
  unfold f_X11_shelfAt
  rw [zwi (n := 8) rfl, if_neg hv]; rfl
theorem m_isShelf {v : Int32} : f_X12_isShelf v = some (if zU v 8 then 1 else 0) := by
  unfold f_X12_isShelf
  rw [zisI (n := 8) rfl, zLet_d]
  by_cases h : zU v 8
  · rw [if_pos h]; rfl
  · rw [if_neg h]; rfl
theorem m_isHall {v : Int32} : f_X12_isHall v = some (if zU v 6 then 1 else 0) := by
  unfold f_X12_isHall
  rw [zisI (n := 6) rfl, zLet_d]
  by_cases h : zU v 6
  · rw [if_pos h]; rfl
  · rw [if_neg h]; rfl
theorem m_isChair {v : Int32} : f_X12_isChair v = some (if zU v 7 then 1 else 0) := by
  unfold f_X12_isChair
  rw [zisI (n := 7) rfl, zLet_d]
  by_cases h : zU v 7
  · rw [if_pos h]; rfl
  · rw [if_neg h]; rfl
theorem m_wrongKept {S : zM} (h : zLay S) {d : Nat} (hd : d < 8) : f_X12_wrongKept S 436 (nI d) = some (if zi S 439 d = 0 then -11 else if zi S 439 d = 1 then 0 else -12) := by
  obtain ⟨-, -, -, -, -, ⟨-, -, r2, -⟩, ⟨-, -, l2, -⟩⟩ := h
  unfold f_X12_wrongKept
  rw [m_isShelf, if_pos (zU_n hd (by omega)), zB1_s, if_neg (by decide), r2, zChk_t (by decide), l2, zChk_t (zix hd (by omega)), nI_clamp (by omega), zChk_t (zixc hd (by omega))]
  split
  · rfl
  · split <;> rfl
theorem m_wrongKept0 {S : zM} {v : Int32} (hv : ¬ zU v 8) : f_X12_wrongKept S 436 v = some (-1) := by
  unfold f_X12_wrongKept
  rw [m_isShelf, if_neg hv]; rfl
theorem s_weight {S : zM} (h : zInv S) (v1 v2 v3 v4 v5 : Int32) : ∃ S' : zM, zs_36 1 436 v1 v2 v3 v4 v5 S S' ∧ zInv S' := by
  refine ⟨S, ?_, h⟩
  unfold zs_36 f_X11_weight f_X12_weight
  by_cases hv : zU v1 8
  · obtain ⟨d, hd, rfl⟩ := hv.k
    have hL := h.1
    have hk := h.2.2.2.2.2.1 d hd
    rw [x_shelfAt hL hd, m_wrongKept hL hd, zB1_s, zB1_s, if_neg (by omega)]
    obtain ⟨-, -, -, -, -, ⟨-, -, -, -, -, -, r6, -⟩, ⟨-, -, -, -, -, -, l6, -⟩⟩ := hL
    rcases hk with ⟨h1, h2, h3⟩ | ⟨h1, h2, h3, h4, h5, h6⟩ | ⟨h1, h2, h3, -⟩
    · rw [h3, h1, if_pos rfl, if_pos rfl, if_neg (by decide)]
      refine ⟨-11, ?_, rfl, rfl⟩
      unfold f_X8_refusalAsJudge
      rw [h2]; rfl
    · rw [h1, if_neg (by omega), if_pos (show (if (1 : Int32) = 0 then (-11 : Int32) else if (1 : Int32) = 1 then 0 else -12) = 0 by decide), h5, r6, zChk_t (by decide), l6, zChk_t (zix hd (by omega)), nI_clamp (by omega)]
      exact ⟨_, rfl, rfl, rfl⟩
    · rw [h3, h1, if_pos rfl, if_neg (by decide), if_neg (by decide), if_neg (by decide)]
      refine ⟨-12, ?_, rfl, rfl⟩
      unfold f_X8_refusalAsJudge
      rw [h2]; rfl
  · rw [x_shelfAt0 hv, m_wrongKept0 hv]
    exact ⟨-1, rfl, rfl, rfl⟩
theorem zLay.c {S S1 : zM} (h : zLay S) (hs : zsz S ≤ zsz S1) (hr : ∀ a k : Nat, a < 453 → a ≠ 11 → ¬ (420 ≤ a ∧ a < 436 ∧ k = 1) → ¬ (a = 436 ∧ k = 17) → ¬ (a = 405 ∧ k = 1) → zr S1 a k = zr S a k) (hn : ∀ a : Nat, a < 453 → zln S1 a = zln S a) : zLay S1 := by
  unfold zLay zLayS zLayX zLayM at h ⊢
  obtain ⟨h0, ⟨h1, h2, h3, h4⟩, ⟨i1, i2, i3, i4⟩, ⟨j1, j2, j3, j4⟩, ⟨k1, k2, k3, k4⟩, m1, m2⟩ := h
  refine ⟨by omega, ⟨?_, ?_, ?_, fun d hd => ?_⟩, ⟨?_, ?_, ?_, fun d hd => ?_⟩, ⟨?_, ?_, ?_, fun d hd => ?_⟩, ⟨?_, ?_, ?_, fun d hd => ?_⟩, ?_, ?_⟩
  all_goals simp (disch := omega) only [hr, hn]
  · exact h1
  · exact h2
  · exact h3
  · exact h4 d hd
  · exact i1
  · exact i2
  · exact i3
  · exact i4 d hd
  · exact j1
  · exact j2
  · exact j3
  · exact j4 d hd
  · exact k1
  · exact k2
  · exact k3
  · exact k4 d hd
  · exact m1
  · exact m2
theorem zLay.nw {S : zM} {t n : Nat} (h : zLay S) : zLay (znw S t n) :=
  h.c (Nat.le_succ _) (fun a k ha _ _ _ _ => by rw [mr_nw, if_neg (by have := h.1; omega)]) (fun a ha => by rw [mln_nw, if_neg (by have := h.1; omega)])
theorem zInv.nw {S : zM} {t n : Nat} (h : zInv S) : zInv (znw S t n) := by
  have h0 := h.1.1
  have e : ∀ a k : Nat, a < zsz S → zi (znw S t n) a k = zi S a k := fun a k ha => by rw [mi_nw, if_neg (by omega)]
  have er : ∀ a k : Nat, a < zsz S → zr (znw S t n) a k = zr S a k := fun a k ha => by rw [mr_nw, if_neg (by omega)]
  have e437 : zi (znw S t n) 437 = zi S 437 := funext fun k => e _ _ (by omega)
  refine h.now h.1.nw (Nat.le_succ _) (fun a k _ ha => er a k (by omega)) (fun a k ha => e a k (by omega)) ?_ (by rw [e437]; exact h.2.2.1)
  · rw [e437]
    exact h.2.1.fr (Nat.le_succ _) (fun j => er _ _ (by omega)) (fun a k ha => e a k (by omega))
theorem s_toss {S : zM} (h : zInv S) (v1 v2 v3 v4 v5 : Int32) : ∃ S' : zM, zs_37 1 436 v1 v2 v3 v4 v5 S S' ∧ zInv S' := by
  unfold zs_37 f_X11_toss f_X12_toss
  by_cases hv : zU v1 8
  · obtain ⟨d, hd, rfl⟩ := hv.k
    have hL := h.1
    have hk := h.2.2.2.2.2.1 d hd
    rw [x_shelfAt hL hd, zB1_s, if_neg (by omega)]
    have hw : ∀ S1 : zM, zLay S1 → zi S1 439 d = zi S 439 d → zi S1 444 d = zi S 444 d → (zB1 (f_X12_wrongKept S1 436 (nI d)) (fun r2 => if r2 = 0 then zChk (¬ (zr S1 436 7) = 0) (zChk (¬ ((nI d) < 0 ∨ zln S1 (zr S1 436 7) ≤ ((nI d)).toNatClampNeg)) (some (zi S1 (zr S1 436 7) (Int32.toNatClampNeg (nI d))))) else some r2)) = some (if zi S 439 d = 0 then -11 else if zi S 439 d = 1 then zi S 444 d else -12) := by
      intro S1 hL1 e1 e2
      rw [m_wrongKept hL1 hd, zB1_s, e1]
      obtain ⟨-, -, -, -, -, ⟨-, -, -, -, -, -, -, r7, -⟩, ⟨-, -, -, -, -, -, -, l7, -⟩⟩ := hL1
      rw [r7, zChk_t (by decide), l7, zChk_t (zix hd (by omega)), nI_clamp (by omega), e2]
      rcases hk with ⟨h1, -⟩ | ⟨h1, -⟩ | ⟨h1, -⟩
      · rw [h1]; rfl
      · rw [h1]; rfl
      · rw [h1]; rfl
    rcases hk with ⟨h1, h2, h3⟩ | ⟨h1, h2, h3, h4, h5, h6⟩ | ⟨h1, h2, h3, -⟩
    · refine ⟨S, ⟨-11, ?_, ?_⟩, h⟩
      · rw [h3, if_pos rfl]
        unfold f_X8_refusalAsJudge
        rw [h2]; rfl
      · rw [hw S hL rfl rfl, h1]; rfl
    · rw [if_neg (by omega)]
      unfold f_X11_fails
      by_cases ht : zthr S (zr S (420 + 2 * d) 1) = true
      · rw [if_pos ht, zL2_d, if_neg (by decide)]
        have e : ∀ a k : Nat, a < zsz S → zi (znw S 0 0) a k = zi S a k := fun a k ha => by rw [mi_nw, if_neg (by omega)]
        have h0 := hL.1
        rw [if_pos ht] at h6
        refine ⟨znw S 0 0, ⟨zi S 444 d, ?_, ?_⟩, h.nw⟩
        · rw [mr_nw, if_neg (by omega), zChk_t (by omega), zLet_d, fail_c (fun k => e _ k h4), h6]
        · rw [hw _ hL.nw (e _ _ (by omega)) (e _ _ (by omega)), h1]; rfl
      · rw [if_neg ht, zL2_d, if_pos rfl]
        rw [if_neg ht] at h6
        refine ⟨S, ⟨-15, rfl, ?_⟩, h⟩
        rw [hw S hL rfl rfl, h1, h6]; rfl
    · refine ⟨S, ⟨-12, ?_, ?_⟩, h⟩
      · rw [h3, if_pos rfl]
        unfold f_X8_refusalAsJudge
        rw [h2]; rfl
      · rw [hw S hL rfl rfl, h1]; rfl
  · rw [x_shelfAt0 hv]
    exact ⟨S, ⟨-1, rfl, by rw [m_wrongKept0 hv]; rfl⟩, h⟩
