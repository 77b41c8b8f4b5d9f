/-! element, put -/
theorem nI_mul (a b : Nat) : nI a * nI b = nI (a * b) := (Int32.ofNat_mul a b).symm
theorem zsub1 {n : Nat} (h : n < 2 ^ 30) : (Int32.toInt64 (nI n - 1)).toInt = (n : Int) - 1 := by
  rw [Int32.toInt_toInt64, Int32.toInt_sub, nI_toInt (by omega)]
  show ((n : Int) - 1).bmod _ = _
  rw [Int.bmod_eq_of_le (by omega) (by omega)]
theorem zisN {v : Int32} {n : Nat} (h : n < 2 ^ 30) : f_X12_isIn v.toInt64 0 (Int32.toInt64 (nI n - 1)) = if zU v n then 1 else 0 := zisI (zsub1 h)
theorem zwN {v : Int32} {n : Nat} (h : n < 2 ^ 30) : f_X11_within v (nI n) = if zU v n then 1 else 0 := zwi (nI_toInt (by omega))
theorem zi8 (v : Int32) : -128 ≤ Int8.toInt32 (Int32.toInt8 v) ∧ Int8.toInt32 (Int32.toInt8 v) ≤ 127 := by
  rw [Int32.le_iff_toInt_le, Int32.le_iff_toInt_le, Int8.toInt_toInt32]
  have h1 := Int8.le_toInt (Int32.toInt8 v)
  have h2 := Int8.toInt_lt (Int32.toInt8 v)
  have e1 : (-128 : Int32).toInt = -128 := by decide +kernel
  have e2 : (127 : Int32).toInt = 127 := by decide +kernel
  rw [e1, e2]
  omega
theorem x_element {S : zM} (h : zInv S) {v1 v2 : Int32} : ∃ (w : Int32) (q : Int64), f_X11_element S 1 v1 v2 = some (w, q) ∧ (w = 0 ∨ w = 1 ∨ w = 2) ∧
    ∀ S1 : zM, zLay S1 → zi S1 439 = zi S 439 → zi S1 441 = zi S 441 → zi S1 442 = zi S 442 → ∃ q1 : Int64, f_X12_element S1 436 v1 v2 = some (q1, zpI S1 436 9 w) ∧ (w = 0 → q1 = q) := by
  unfold f_X11_element f_X12_element
  by_cases hv : zU v1 8
  · obtain ⟨d, hd, rfl⟩ := hv.k
    have hL := h.1
    have hk := h.2.2.2.2.2.1 d hd
    rw [x_shelfAt hL hd, zB1_s, if_neg (by omega), m_isShelf, if_pos hv]
    unfold f_X8_refusalAsRow
    rcases hk with ⟨h1, h2, h3⟩ | ⟨h1, h2, h3, -⟩ | ⟨h1, h2, h3, h4, h5, h6, h7, h8⟩
    · rw [h2, h3]
      refine ⟨2, 0, rfl, by decide, fun S1 hL1 e1 e2 e3 => ?_⟩
      obtain ⟨-, -, -, -, -, ⟨r0, r1, r2, r3, r4, r5, -⟩, ⟨l0, l1, l2, l3, l4, l5, -⟩⟩ := hL1
      rw [zB1_s, zLet_d, if_neg (by decide), r2, zChk_t (by decide), l2, zChk_t (zix hd (by omega)), zLet_d, nI_clamp (by omega), e1, h1, if_neg (by decide)]
      dsimp only
      rw [zLet_d, mi_eq, if_neg (by decide)]
      exact ⟨0, rfl, fun hh => absurd hh (by decide)⟩
    · rw [h2, if_pos rfl, if_neg (by omega)]
      refine ⟨2, 0, rfl, by decide, fun S1 hL1 e1 e2 e3 => ?_⟩
      obtain ⟨-, -, -, -, -, ⟨r0, r1, r2, r3, r4, r5, -⟩, ⟨l0, l1, l2, l3, l4, l5, -⟩⟩ := hL1
      rw [zB1_s, zLet_d, if_neg (by decide), r2, zChk_t (by decide), l2, zChk_t (zix hd (by omega)), zLet_d, nI_clamp (by omega), e1, h1, if_neg (by decide)]
      dsimp only
      rw [zLet_d, mi_eq, if_neg (by decide)]
      exact ⟨0, rfl, fun hh => absurd hh (by decide)⟩
    · obtain ⟨n, hn, e7⟩ := h7.k
      rw [h2, if_neg (by decide), zB1_s, if_pos rfl, h6, e7, zwN (by omega)]
      obtain ⟨-, -, -, -, ⟨-, -, -, rd⟩, -⟩ := hL
      by_cases hu : zU v2 n
      · obtain ⟨i, hi, rfl⟩ := hu.k
        rw [if_pos hu, zLet_d, if_neg (by decide), (rd d hd).2.1, zChk_t (by omega), (rd d hd).2.2, zChk_t (zix (by omega) (by omega)), nI_clamp (by omega)]
        refine ⟨0, _, rfl, by decide, fun S1 hL1 e1 e2 e3 => ?_⟩
        obtain ⟨-, -, -, -, -, ⟨r0, r1, r2, r3, r4, r5, -⟩, ⟨l0, l1, l2, l3, l4, l5, -⟩⟩ := hL1
        rw [zB1_s, zLet_d, if_neg (by decide), r2, zChk_t (by decide), l2, zChk_t (zix hd (by omega)), zLet_d, nI_clamp (by omega), e1, h1, if_pos rfl, r4, zChk_t (by decide), l4, zChk_t (zixc hd (by omega)), e2, e7, zisN (by omega), if_pos hu, zLet_d, if_neg (by decide)]
        dsimp only
        rw [zLet_d, mi_eq, if_pos rfl, mr_pI, r5, zChk_t (by decide), mln_pI, l5, show (120 : Int32) = nI 120 from rfl, nI_mul, nI_add, zChk_t (zix (by omega) (by omega)), mi_pI, if_neg (by omega), nI_clamp (by omega), e3]
        exact ⟨_, rfl, fun _ => by rw [(h8 i (by omega)).1]⟩
      · rw [if_neg hu, zLet_d, if_pos rfl]
        refine ⟨2, 0, rfl, by decide, fun S1 hL1 e1 e2 e3 => ?_⟩
        obtain ⟨-, -, -, -, -, ⟨r0, r1, r2, r3, r4, r5, -⟩, ⟨l0, l1, l2, l3, l4, l5, -⟩⟩ := hL1
        rw [zB1_s, zLet_d, if_neg (by decide), r2, zChk_t (by decide), l2, zChk_t (zix hd (by omega)), zLet_d, nI_clamp (by omega), e1, h1, if_pos rfl, r4, zChk_t (by decide), l4, zChk_t (zixc hd (by omega)), e2, e7, zisN (by omega), if_neg hu, zLet_d, if_pos rfl]
        dsimp only
        rw [zLet_d, mi_eq, if_neg (by decide)]
        exact ⟨0, rfl, fun hh => absurd hh (by decide)⟩
  · rw [x_shelfAt0 hv, zB1_s, if_pos rfl]
    refine ⟨1, 0, rfl, by decide, fun S1 hL1 e1 e2 e3 => ?_⟩
    rw [m_isShelf, if_neg hv, zB1_s, zLet_d, if_pos rfl]
    dsimp only
    rw [zLet_d, mi_eq, if_neg (by decide)]
    exact ⟨0, rfl, fun hh => absurd hh (by decide)⟩
theorem s_element {S : zM} (h : zInv S) (v1 v2 v3 v4 v5 : Int32) : ∃ S' : zM, zs_34 1 436 452 v1 v2 v3 v4 v5 S S' ∧ zInv S' := by
  obtain ⟨w, q, hx, hw, hm⟩ := x_element h (v1 := v1) (v2 := v2)
  have hL := h.1
  have h0 := hL.1
  by_cases hw0 : w = 0
  · subst hw0
    have hL1 : zLay (zpL S 452 0 q) := hL
    obtain ⟨q1, hq, he⟩ := hm (zpL S 452 0 q) hL1 rfl rfl rfl
    have hn : zln S 452 = 1 := hL.2.2.2.2.2.2.2.2.2.2.2.2.2.2.2.2.2.2.2.2.2
    refine ⟨zpI (zpL S 452 0 q) 436 9 0, ⟨0, q1, zpL S 452 0 q, ?_, hq, ?_, fun _ => ⟨?_, ?_⟩⟩, ?_⟩
    · unfold f_L_element
      rw [hx, zB2_s, if_pos rfl, hn, zChk_t (by decide)]
      rfl
    · unfold f_X12_thrown
      rw [mi_eq]
    · rw [he rfl, ml_pI, ml_eq]
    · show ¬ zln S 452 ≤ 0
      rw [hn]; decide
    · exact h.fr ((zF_pL (by unfold zScr; omega)).tr (zF_pI (by unfold zScr; omega)))
  · have e : ∀ a k : Nat, a < zsz S → zi (znw S 0 0) a k = zi S a k := fun a k ha => by rw [mi_nw, if_neg (by omega)]
    obtain ⟨q1, hq, he⟩ := hm (znw S 0 0) hL.nw (funext fun k => e _ _ (by omega)) (funext fun k => e _ _ (by omega)) (funext fun k => e _ _ (by omega))
    refine ⟨zpI (znw S 0 0) 436 9 w, ⟨w, q1, znw S 0 0, ?_, hq, ?_, fun hh => absurd hh hw0⟩, ?_⟩
    · unfold f_L_element
      rw [hx, zB2_s, if_neg hw0]
    · unfold f_X12_thrown
      rw [mi_eq]
    · exact h.nw.fr (zF_pI (by unfold zScr; omega))
