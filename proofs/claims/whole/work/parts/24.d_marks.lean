/-! marks: the telling on both sides -/
theorem x_marksL {S0 : zM} {v a d s : Nat} {K : zM → Option (Int32 × zM)} (h : zLay S0) (hv : v < 40) (ha : a < 6) (eh : zi S0 (16 + 3 * v) 2 = nI a) (hd : d < 8) (hs : s ≤ 120) (es : zi S0 (420 + 2 * d) 3 = nI s) : ∀ n : Nat, 7 < n → ∃ S1 : zM, f_X11_marks_L56 1 (16 + 3 * v) (420 + 2 * d) K n 0 S0 = K S1 ∧ zF (fun x j => (x = 17 + 3 * v ∨ x = 18 + 3 * v) ∧ j < 7) S0 S1 ∧
      ∀ c : Nat, c < 7 → zi S1 (17 + 3 * v) c = (if c < s then zi S0 (421 + 2 * d) c else -128) ∧ zi S1 (18 + 3 * v) c = (if (if c < s then zi S0 (421 + 2 * d) c else -128) = -128 then -1 else zi S0 6 (a * 7 + c)) := by
  obtain ⟨h0, h1, -, -, ⟨⟨r0, -⟩, -, -, rd⟩, -⟩ := id h
  obtain ⟨-, d2, d3, d4, d5⟩ := h1.2.2.2 v hv
  obtain ⟨-, r8, l8⟩ := rd d hd
  have d2' : zr S0 (16 + 3 * v) 0 = 16 + 3 * v + 1 := by rw [show 16 + 3 * v + 1 = 2 + 15 + 3 * v by omega, show 16 + 3 * v = 2 + 14 + 3 * v by omega]; exact d2
  have d3' : zr S0 (16 + 3 * v) 1 = 16 + 3 * v + 2 := by rw [show 16 + 3 * v + 2 = 2 + 16 + 3 * v by omega, show 16 + 3 * v = 2 + 14 + 3 * v by omega]; exact d3
  have d4' : zln S0 (16 + 3 * v + 1) = 7 := by rw [show 16 + 3 * v + 1 = 2 + 15 + 3 * v by omega]; exact d4
  have d5' : zln S0 (16 + 3 * v + 2) = 7 := by rw [show 16 + 3 * v + 2 = 2 + 16 + 3 * v by omega]; exact d5
  clear d2 d3 d4 d5 rd
  intro n hn
  refine zloopR (fun n (s : Int32 × zM) => f_X11_marks_L56 1 (16 + 3 * v) (420 + 2 * d) K n s.1 s.2) (fun k t => t.1 = nI k ∧ zF (fun x j => (x = 17 + 3 * v ∨ x = 18 + 3 * v) ∧ j < 7) S0 t.2 ∧ ∀ c : Nat, c < k → zi t.2 (17 + 3 * v) c = (if c < s then zi S0 (421 + 2 * d) c else -128) ∧ zi t.2 (18 + 3 * v) c = (if (if c < s then zi S0 (421 + 2 * d) c else -128) = -128 then -1 else zi S0 6 (a * 7 + c))) 7 (fun o => ∃ S1 : zM, o = K S1 ∧ zF (fun x j => (x = 17 + 3 * v ∨ x = 18 + 3 * v) ∧ j < 7) S0 S1 ∧ ∀ c : Nat, c < 7 → zi S1 (17 + 3 * v) c = (if c < s then zi S0 (421 + 2 * d) c else -128) ∧ zi S1 (18 + 3 * v) c = (if (if c < s then zi S0 (421 + 2 * d) c else -128) = -128 then -1 else zi S0 6 (a * 7 + c))) ?_ ?_ n (0, S0) hn ⟨rfl, zF.rf, fun c hc => absurd hc (Nat.not_lt_zero _)⟩
  · rintro k f ⟨x, S⟩ hk ⟨e1, e2, e3⟩
    dsimp only at e1 e2 e3 ⊢
    subst e1
    have hl1 : zLayS (zr S) (zln S) 2 := by rw [e2.r, e2.n]; exact h1
    have hst := x_seatOf hl1 ha hk
    rw [e2.i (show ¬ ((2 + 4 = 17 + 3 * v ∨ 2 + 4 = 18 + 3 * v) ∧ a * 7 + k < 7) by omega)] at hst
    have hst' : f_X9_seatOf S 2 (nI a) (nI k) = some (zi S0 6 (a * 7 + k)) := hst
    have htl : ∀ m : Int32, f_X1_tell S (16 + 3 * v) (nI k) m (zi S0 6 (a * 7 + k)) = some (zpI (zpI S (17 + 3 * v) k m) (18 + 3 * v) k (if m = -128 then -1 else zi S0 6 (a * 7 + k))) := fun m => by
      have q := x_tell (S := S) (q := 16 + 3 * v) (m := m) (w := zi S0 6 (a * 7 + k)) (by rw [e2.r]; exact d2') (by rw [e2.r]; exact d3') (by rw [e2.n]; exact d4') (by rw [e2.n]; exact d5') hk
      rw [show 16 + 3 * v + 1 = 17 + 3 * v by omega, show 16 + 3 * v + 2 = 18 + 3 * v by omega] at q
      exact q
    refine ⟨(nI (k + 1), zpI (zpI S (17 + 3 * v) k (if k < s then zi S0 (421 + 2 * d) k else -128)) (18 + 3 * v) k (if (if k < s then zi S0 (421 + 2 * d) k else -128) = -128 then -1 else zi S0 6 (a * 7 + k))), ⟨rfl, zF.pI (zF.pI e2 ⟨Or.inl rfl, hk⟩) ⟨Or.inr rfl, hk⟩, fun c hc => ?_⟩, ?_⟩
    · dsimp only
      by_cases hck : c = k
      · subst hck
        rw [mi_eq, mi_ne _ _ (by omega), mi_eq]
        exact ⟨rfl, rfl⟩
      · rw [mi_ne _ _ (by omega), mi_ne _ _ (by omega), mi_ne _ _ (by omega), mi_ne _ _ (by omega)]; exact e3 c (by omega)
    · show f_X11_marks_L56b 1 (16 + 3 * v) (420 + 2 * d) K (f_X11_marks_L56 1 (16 + 3 * v) (420 + 2 * d) K f) (nI k) S = _
      unfold f_X11_marks_L56b
      rw [if_neg (show ¬ (7 : Int32) ≤ nI k from nI_ge hk (by decide)), e2.i (show ¬ ((420 + 2 * d = 17 + 3 * v ∨ 420 + 2 * d = 18 + 3 * v) ∧ 3 < 7) by omega), es, e2.i (show ¬ ((16 + 3 * v = 17 + 3 * v ∨ 16 + 3 * v = 18 + 3 * v) ∧ 2 < 7) by omega), eh]
      simp only [nLet]
      rw [e2.r, r0]
      simp only [hst', nB1, htl, nI_1]
      rw [zChk_t (show ¬ 2 = 0 by decide), zChk_t (show ¬ 2 = 0 by decide)]
      by_cases hks : k < s
      · rw [if_neg (nI_ge hks (by omega)), r8, zChk_t (by omega), e2.n, l8, zChk_t (zix (by omega) (by omega)), nI_clamp (by omega), e2.i (by omega), if_pos hks]
      · rw [if_pos (nI_le (by omega) (by omega)), if_neg hks, if_pos trivial, if_pos rfl]
  · rintro f ⟨x, S⟩ ⟨e1, e2, e3⟩
    dsimp only at e1 e2 e3 ⊢
    subst e1
    refine ⟨S, ?_, e2, e3⟩
    show f_X11_marks_L56b 1 (16 + 3 * v) (420 + 2 * d) K (f_X11_marks_L56 1 (16 + 3 * v) (420 + 2 * d) K f) (nI 7) S = _
    unfold f_X11_marks_L56b
    rw [if_pos (show (7 : Int32) ≤ nI 7 from Int32.le_refl _)]
/-- a mark as an element tells it, 0 if it is missing -/
def zEm (e : Nat → Int32) (s c : Nat) : Int32 := if (if c < s then e c else -128) < 0 then 0 else (if c < s then e c else -128) + 1
theorem m_marksL {S0 : zM} {v a d s : Nat} {K : zM → Option (Int32 × zM)} (h : zLay S0) (hv : v < 40) (ha : a < 6) (eh : zi S0 437 (112 + 19 * v) = nI a) (hd : d < 8) (hs : s ≤ 120) (es : zi S0 441 d = nI s) : ∀ n : Nat, 7 < n → ∃ S1 : zM, f_X12_marks_L103 436 (nI v) (nI d) K n 0 S0 = K S1 ∧ zF (fun x j => x = 437 ∧ 112 + 19 * v + 5 ≤ j ∧ j < 112 + 19 * v + 19) S0 S1 ∧
      ∀ c : Nat, c < 7 → zi S1 437 (112 + 19 * v + 5 + c) = zEm (fun k => zi S0 442 (120 * d + k)) s c ∧ zi S1 437 (112 + 19 * v + 12 + c) = (if (if c < s then zi S0 442 (120 * d + c) else -128) < 0 then 0 else zi S0 437 (70 + 7 * a + c)) := by
  have r0 : zr S0 436 0 = 437 := h.2.2.2.2.2.1.1
  have l0 : zln S0 437 = 1004 := h.2.2.2.2.2.2.1
  have r4 : zr S0 436 4 = 441 := h.2.2.2.2.2.1.2.2.2.2.1
  have l4 : zln S0 441 = 8 := h.2.2.2.2.2.2.2.2.2.2.1
  have r5 : zr S0 436 5 = 442 := h.2.2.2.2.2.1.2.2.2.2.2.1
  have l5 : zln S0 442 = 960 := h.2.2.2.2.2.2.2.2.2.2.2.1
  intro n hn
  refine zloopR (fun n (s : Int32 × zM) => f_X12_marks_L103 436 (nI v) (nI d) K n s.1 s.2) (fun k t => t.1 = nI k ∧ zF (fun x j => x = 437 ∧ 112 + 19 * v + 5 ≤ j ∧ j < 112 + 19 * v + 19) S0 t.2 ∧ ∀ c : Nat, c < k → zi t.2 437 (112 + 19 * v + 5 + c) = zEm (fun k => zi S0 442 (120 * d + k)) s c ∧ zi t.2 437 (112 + 19 * v + 12 + c) = (if (if c < s then zi S0 442 (120 * d + c) else -128) < 0 then 0 else zi S0 437 (70 + 7 * a + c))) 7 (fun o => ∃ S1 : zM, o = K S1 ∧ zF (fun x j => x = 437 ∧ 112 + 19 * v + 5 ≤ j ∧ j < 112 + 19 * v + 19) S0 S1 ∧ ∀ c : Nat, c < 7 → zi S1 437 (112 + 19 * v + 5 + c) = zEm (fun k => zi S0 442 (120 * d + k)) s c ∧ zi S1 437 (112 + 19 * v + 12 + c) = (if (if c < s then zi S0 442 (120 * d + c) else -128) < 0 then 0 else zi S0 437 (70 + 7 * a + c))) ?_ ?_ n (0, S0) hn ⟨rfl, zF.rf, fun c hc => absurd hc (Nat.not_lt_zero _)⟩
  · rintro k f ⟨x, S⟩ hk ⟨e1, e2, e3⟩
    dsimp only at e1 e2 e3 ⊢
    subst e1
    have hb : ∀ y : Int32, y = (if k < s then zi S0 442 (120 * d + k) else -128) → f_X12_marks_L103 436 (nI v) (nI d) K (f + 1) (nI k) S = f_X12_marks_L103 436 (nI v) (nI d) K f (nI (k + 1)) (zpI (zpI S 437 (112 + 19 * v + 5 + k) (if y < 0 then 0 else y + 1)) 437 (112 + 19 * v + 12 + k) (if y < 0 then 0 else zi S0 437 (70 + 7 * a + k))) := by
      intro y hy
      show f_X12_marks_L103b 436 (nI v) (nI d) K (f_X12_marks_L103 436 (nI v) (nI d) K f) (nI k) S = _
      have hg : ∀ w : Int32, f_X12_get (zpI S 437 (112 + 19 * v + 5 + k) w) 436 (nI v) 0 = some (nI a) := fun w => by
        rw [show (0 : Int32) = nI 0 from rfl, m_get (h.fr e2).pI hv (by omega), mi_ne _ _ (by omega), e2.i (by omega)]
        exact congrArg some eh
      have ho : ∀ w : Int32, f_X12_onChair (zpI S 437 (112 + 19 * v + 5 + k) w) 436 (nI a) (nI k) = some (zi S0 437 (70 + 7 * a + k) - 1) := fun w => by
        rw [m_onChair (h.fr e2).pI ha hk, mi_ne _ _ (by omega), e2.i (by omega)]
      have q0 : zr S 436 0 = 437 := by rw [e2.r]; exact r0
      have q4 : zr S 436 4 = 441 := by rw [e2.r]; exact r4
      have q5 : zr S 436 5 = 442 := by rw [e2.r]; exact r5
      have m0 : zln S 437 = 1004 := by rw [e2.n]; exact l0
      have m4 : zln S 441 = 8 := by rw [e2.n]; exact l4
      have m5 : zln S 442 = 960 := by rw [e2.n]; exact l5
      have es1 : zi S 441 d = nI s := by rw [e2.i (by omega)]; exact es
      have ee : zi S 442 (120 * d + k) = zi S0 442 (120 * d + k) := e2.i (by omega)
      unfold f_X12_marks_L103b
      simp only [nLet]
      have z12 : (112 : Int32) + 19 * nI v + 12 + nI k = nI (112 + 19 * v + 12 + k) := by rw [zq112, zq19, show (12 : Int32) = nI 12 from rfl, nI_mul, nI_add, nI_add, nI_add]
      have z5 : (112 : Int32) + 19 * nI v + 5 + nI k = nI (112 + 19 * v + 5 + k) := by rw [zq112, zq19, show (5 : Int32) = nI 5 from rfl, nI_mul, nI_add, nI_add, nI_add]
      have z120 : (120 : Int32) * nI d + nI k = nI (120 * d + k) := by rw [zq120, nI_mul, nI_add]
      rw [if_neg (show ¬ (7 : Int32) ≤ nI k from nI_ge hk (by decide)), z12, z5, z120, q0, q4, q5, m0, m4, m5, zChk_t (by decide), zChk_t (zix hd (by omega)), nI_clamp (show d < 2 ^ 31 by omega), es1, nI_clamp (show 112 + 19 * v + 5 + k < 2 ^ 31 by omega), nI_clamp (show 112 + 19 * v + 12 + k < 2 ^ 31 by omega), nI_clamp (show 120 * d + k < 2 ^ 31 by omega), ee, nI_1]
      simp only [mr_pI, mln_pI, q0, m0, hg, ho, nB1, Int32.sub_add_cancel]
      by_cases hks : k < s
      · rw [if_neg (nI_ge hks (by omega)), zChk_t (by decide), zChk_t (zixc (by omega) (by omega)), zChk_t (by decide), zChk_t (zixc (by omega) (by omega)), zChk_t (by decide)]
        rw [if_pos hks] at hy
        rw [← hy]
        by_cases hy0 : y < 0
        · have : ¬ 0 ≤ y := Int32.not_le.mpr hy0
          rw [if_neg this, if_neg this, if_pos hy0, if_pos hy0, zChk_t (zixc (by omega) (by omega)), zChk_t (by decide), zChk_t (zixc (by omega) (by omega))]
        · have : 0 ≤ y := Int32.not_lt.mp hy0
          rw [if_pos this, if_pos this, if_neg hy0, if_neg hy0, zChk_t (zixc (by omega) (by omega))]
      · rw [if_pos (nI_le (by omega) (by omega))]
        rw [if_neg hks] at hy
        subst hy
        rw [if_neg (show ¬ (0 : Int32) ≤ -128 by decide), if_neg (show ¬ (0 : Int32) ≤ -128 by decide), if_pos (show (-128 : Int32) < 0 by decide), if_pos (show (-128 : Int32) < 0 by decide), zChk_t (by decide), zChk_t (zixc (by omega) (by omega)), zChk_t (by decide), zChk_t (zixc (by omega) (by omega))]
    refine ⟨(nI (k + 1), zpI (zpI S 437 (112 + 19 * v + 5 + k) (if (if k < s then zi S0 442 (120 * d + k) else -128) < 0 then 0 else (if k < s then zi S0 442 (120 * d + k) else -128) + 1)) 437 (112 + 19 * v + 12 + k) (if (if k < s then zi S0 442 (120 * d + k) else -128) < 0 then 0 else zi S0 437 (70 + 7 * a + k))), ⟨?_, ?_, ?_⟩, hb _ rfl⟩
    · rfl
    · exact zF.pI (zF.pI e2 ⟨rfl, by omega, by omega⟩) ⟨rfl, by omega, by omega⟩
    · intro c hc
      dsimp only
      by_cases hck : c = k
      · subst hck
        rw [mi_eq, mi_ne _ _ (by omega), mi_eq]
        exact ⟨rfl, rfl⟩
      · rw [mi_ne _ _ (by omega), mi_ne _ _ (by omega), mi_ne _ _ (by omega), mi_ne _ _ (by omega)]; exact e3 c (by omega)
  · rintro f ⟨x, S⟩ ⟨e1, e2, e3⟩
    dsimp only at e1 e2 e3 ⊢
    subst e1
    refine ⟨S, ?_, e2, e3⟩
    show f_X12_marks_L103b 436 (nI v) (nI d) K (f_X12_marks_L103 436 (nI v) (nI d) K f) (nI 7) S = _
    unfold f_X12_marks_L103b
    rw [if_pos (show (7 : Int32) ≤ nI 7 from Int32.le_refl _)]
theorem zEm_b {e : Nat → Int32} {s c : Nat} (h : zOk e s 0 = true) : zU (zEm e s c) 22 ∧ ((if c < s then e c else -128) < 0 ↔ zEm e s c = 0) ∧ (if c < s then e c else -128) = (if zEm e s c = 0 then -128 else zEm e s c - 1) := by
  have key : ∀ y : Int32, (y = -128 ∨ zU y 21) → zU (if y < 0 then 0 else y + 1) 22 ∧ (y < 0 ↔ (if y < 0 then (0 : Int32) else y + 1) = 0) ∧ y = (if (if y < 0 then (0 : Int32) else y + 1) = 0 then -128 else (if y < 0 then (0 : Int32) else y + 1) - 1) := by
    rintro y (rfl | hy)
    · decide +kernel
    · obtain ⟨k, hk, rfl⟩ := hy.k
      have h1 : ¬ nI k < 0 := nI_pos (by omega)
      have h2 : ¬ nI (k + 1) = 0 := nI_ne0 (by omega) (by omega)
      rw [if_neg h1, nI_1, if_neg h2, nI_pred]
      exact ⟨zU_n (by omega) (by omega), ⟨fun q => absurd q h1, fun q => absurd q h2⟩, rfl⟩
  by_cases hc : c < s
  · unfold zEm
    rw [if_pos hc]
    exact key _ (zOk_t h c (by omega) (by omega))
  · unfold zEm
    rw [if_neg hc]
    exact key _ (Or.inl rfl)
theorem s_marks {S : zM} (h : zInv S) (v1 v2 v3 v4 v5 : Int32) : ∃ S' : zM, zs_9 1 436 v1 v2 v3 v4 v5 S S' ∧ zInv S' := by
  suffices hh : ∃ (S' : zM) (r : Int32) (S1 : zM), f_X11_marks 200 S 1 v1 v2 = some (r, S1) ∧ f_X12_marks 200 S1 436 v1 v2 = some (r, S') ∧ zInv S' by
    obtain ⟨S', r, S1, q1, q2, q3⟩ := hh
    exact ⟨S', ⟨r, 200, S1, q1, q2⟩, q3⟩
  have hL := h.1
  have h2 := h.2.1
  have r0 : zr S 1 0 = 2 := hL.2.2.2.2.1.1.1
  obtain ⟨nd, nj, nv, ⟨b1, b2, b3, b4, b5, b6⟩, c1, c2, c3, c4, c5, c6⟩ := zBd_iff.mp h.2.2.1
  have e7 : zi S 2 7 = nI nv := by rw [← b6]; exact h2.2.2.2.1.2.2
  unfold f_X11_marks
  rw [r0, zChk_t (show ¬ 2 = 0 by decide)]
  by_cases hv : zU v1 nv
  · obtain ⟨v, hv1, rfl⟩ := hv.k
    rw [x_diveAt hL.2.1 b3 e7 hv1, zB1_s]
    by_cases hd : zU v2 8
    · obtain ⟨d, hd1, rfl⟩ := hd.k
      rw [x_shelfAt hL hd1, zB1_s, if_neg (show ¬ 2 + 14 + 3 * v = 0 by omega), if_neg (show ¬ 420 + 2 * d = 0 by omega), x_refText h hd1, zB1_s]
      have hm : ∀ S1 : zM, zLay S1 → zi S1 439 = zi S 439 → zi S1 440 = zi S 440 → zi S1 441 = zi S 441 → zi S1 437 1003 = nI nv → f_X12_marks 200 S1 436 (nI v) (nI d) = if zi S 439 d = 0 then some (-11, S1) else if zi S 439 d = 2 then (if zi S 440 d = 0 then (if zi S 441 d ≤ 7 then f_X12_marks_L40 S1 436 (nI d) (f_X12_marks_L103 436 (nI v) (nI d) (fun S19 => zB1 (f_X12_marksOf 200 S19 436 (nI v)) (fun r23 => some (r23, S19))) 200 0 S1) 200 0 else some (-13, S1)) else some (-12, S1)) else some (-12, S1) := by
        intro S1 hL1 e9 e0 e1 ev
        have w4 : zr S1 436 4 = 441 := hL1.2.2.2.2.2.1.2.2.2.2.1
        have n4 : zln S1 441 = 8 := hL1.2.2.2.2.2.2.2.2.2.2.1
        unfold f_X12_marks
        rw [m_isDive hL1 b3 ev, if_pos hv, zB1_s, if_neg (show ¬ (1 : Int32) = 0 by decide), m_wrongRow hL1 hd1, zB1_s, e9, e0, w4, n4, zChk_t (by decide), zChk_t (zix hd1 (by omega)), nI_clamp (by omega), e1, zLet_d, zLet_d]
        by_cases k1 : zi S 439 d = 0
        · rw [if_pos k1, if_pos k1, if_neg (show ¬ (-11 : Int32) = 0 by decide)]
        · rw [if_neg k1, if_neg k1]
          by_cases k2 : zi S 439 d = 2
          · rw [if_pos k2, if_pos k2, if_neg (show ¬ (0 : Int32) < 0 by decide)]
            by_cases k3 : zi S 440 d = 0
            · rw [if_pos k3, if_pos k3, if_pos (show (0 : Int32) = 0 from rfl)]
            · rw [if_neg k3, if_neg k3, if_neg (show ¬ (-12 : Int32) = 0 by decide)]
          · rw [if_neg k2, if_neg k2, if_neg (show ¬ (-12 : Int32) = 0 by decide)]
      by_cases k1 : zi S 439 d = 0
      · rw [if_pos k1, if_neg (show ¬ (-11 : Int32) = 0 by decide)]
        exact ⟨S, -11, S, rfl, by rw [hm S hL rfl rfl rfl b6, if_pos k1], h⟩
      · rw [if_neg k1]
        by_cases k2 : zi S 439 d = 2
        · rw [if_pos k2]
          by_cases k3 : zi S 440 d = 0
          · rw [if_pos k3, if_pos (show (0 : Int32) = 0 from rfl)]
            obtain ⟨-, -, d2, d3, d4, d5, d6⟩ := zKrow h hd1 k2
            obtain ⟨s, hs, es⟩ := d5.k
            have rd := hL.2.2.2.2.1.2.2.2 d hd1
            have es2 : zi S (420 + 2 * d) 3 = nI s := d4.trans es
            rw [x_holdsMarks rd.2.1 (by omega) rd.2.2 (by omega) es2 (by omega), zB1_s]
            have eok : zOk (zi S (421 + 2 * d)) s 0 = zOk (fun k => zi S 442 (120 * d + k)) s 0 := zOk_c (fun i _ hi => (d6 i (by omega)).1)
            rw [eok]
            by_cases k4 : s ≤ 7
            · by_cases k5 : zOk (fun k => zi S 442 (120 * d + k)) s 0 = true
              · rw [if_pos (show (s ≤ 7 ∧ zOk (fun k => zi S 442 (120 * d + k)) s 0 = true) from ⟨k4, k5⟩), if_neg (show ¬ (1 : Int32) = 0 by decide), zLet_d]
                obtain ⟨f2, f3, f4, f5, f6, fm⟩ := h2.2.2.2.2.2.2 v (by rw [b6]; exact nI_lt hv1 (by omega)) (by omega)
                have hb6 := c6 v hv1
                obtain ⟨a, ha, ea⟩ := hb6.1.k
                have f2' : zi S (16 + 3 * v) 2 = nI a := by rw [show 16 + 3 * v = 2 + 14 + 3 * v by omega]; exact f2.trans ea
                obtain ⟨X, hX, hXf, hXm⟩ := x_marksL (K := fun S26 => zB1 (f_X1_marksThere 200 S26 (16 + 3 * v)) (fun r30 => some (r30, S26))) hL (show v < 40 by omega) ha f2' hd1 (show s ≤ 120 by omega) es2 200 (by omega)
                rw [show 2 + 14 + 3 * v = 16 + 3 * v by omega, hX]
                have hLX : zLay X := hL.fr hXf
                have x39 : zi X 439 = zi S 439 := funext fun k => hXf.i (by omega)
                have x40 : zi X 440 = zi S 440 := funext fun k => hXf.i (by omega)
                have x41 : zi X 441 = zi S 441 := funext fun k => hXf.i (by omega)
                have x42 : zi X 442 = zi S 442 := funext fun k => hXf.i (by omega)
                have x37 : zi X 437 = zi S 437 := funext fun k => hXf.i (by omega)
                have hmX := hm X hLX x39 x40 x41 (by rw [x37]; exact b6)
                rw [if_neg k1, if_pos k2, if_pos k3, es, if_pos (show nI s ≤ (7 : Int32) from nI_le (a := s) (b := 7) k4 (by decide)), m_holdsMarks hLX hd1 (show s ≤ 120 by omega) (by rw [x41]; exact es) (by omega), x42, if_pos k5] at hmX
                obtain ⟨Y, hY, hYf, hYm⟩ := m_marksL (K := fun S19 => zB1 (f_X12_marksOf 200 S19 436 (nI v)) (fun r23 => some (r23, S19))) hLX (show v < 40 by omega) ha (by rw [x37]; exact ea) hd1 (show s ≤ 120 by omega) (by rw [x41]; exact es) 200 (by omega)
                rw [hY] at hmX
                rw [x42, x37] at hYm
                have hLY : zLay Y := hLX.fr hYf
                have hEm := fun c => zEm_b (c := c) k5
                have hrow : ∀ c : Nat, c < 7 → zi X (17 + 3 * v) c = if zEm (fun k => zi S 442 (120 * d + k)) s c = 0 then -128 else zEm (fun k => zi S 442 (120 * d + k)) s c - 1 := fun c hc => by
                  rw [(hXm c hc).1, ← (hEm c).2.2]
                  by_cases hcs : c < s
                  · rw [if_pos hcs, if_pos hcs]; exact (d6 c (by omega)).1
                  · rw [if_neg hcs, if_neg hcs]
                have hd40 := hLX.2.1.2.2.2 v (by omega)
                have hxm := x_marksThere (S := X) (q := 16 + 3 * v) (q1 := 17 + 3 * v) (n := 200) (by rw [show 16 + 3 * v = 2 + 14 + 3 * v by omega, show 17 + 3 * v = 2 + 15 + 3 * v by omega]; exact hd40.2.1) (by omega) (by rw [show 17 + 3 * v = 2 + 15 + 3 * v by omega]; exact hd40.2.2.2.1) (by omega)
                have hYo := m_marksOf hLY (v := v) (by omega) (n := 200) (by omega)
                have eCnt : zCnt (fun c => decide (¬ zi Y 437 (112 + 19 * v + 5 + c) ≤ 0)) 7 = zCnt (fun c => decide (¬ zi X (17 + 3 * v) c = -128)) 7 := zCnt_c (fun c hc => by
                  rw [(hYm c hc).1, hrow c hc]
                  exact (decide_eq_decide.mpr (zmk2 (hEm c).1)).symm)
                rw [eCnt] at hYo
                rw [hYo, zB1_s] at hmX
                rw [hxm, zB1_s]
                refine ⟨Y, _, X, rfl, hmX, ?_⟩
                have hMW : ∀ c : Nat, c < 7 → zi Y 437 (112 + 19 * v + 12 + c) = if zEm (fun k => zi S 442 (120 * d + k)) s c = 0 then 0 else zi S 437 (70 + 7 * a + c) := fun c hc => by
                  rw [(hYm c hc).2]
                  by_cases q : (if c < s then zi S 442 (120 * d + c) else -128) < 0
                  · rw [if_pos q, if_pos ((hEm c).2.1.mp q)]
                  · rw [if_neg q, if_neg (fun z => q ((hEm c).2.1.mpr z))]
                have hse : ∀ c : Nat, c < 7 → zi S 6 (a * 7 + c) = zi S 437 (70 + 7 * a + c) - 1 := fun c hc => by
                  have := h2.2.2.1 (a * 7 + c) (by omega)
                  rw [show 70 + (a * 7 + c) = 70 + 7 * a + c by omega] at this
                  exact this
                refine zInv.setM (v := v) (M := zEm (fun k => zi S 442 (120 * d + k)) s) (W := fun c => if zEm (fun k => zi S 442 (120 * d + k)) s c = 0 then 0 else zi S 437 (70 + 7 * a + c)) h (by omega) ((hXf.mo (fun a j q => Or.inl q)).tr (hYf.mo (fun a j q => Or.inr (Or.inl q)))) (fun c hc => ?_) (fun c hc => ?_) (fun c hc => ⟨(hYm c hc).1, hMW c hc⟩) b5 b2 (fun c hc => ⟨(hEm c).1, ?_, fun z => if_pos z⟩) (fun c c1 hc hc1 hne heq => ?_)
                · rw [hYf.i (by omega)]; exact hrow c hc
                · rw [hYf.i (by omega), (hXm c hc).2, hse c hc]
                  have e : (if c < s then zi S (421 + 2 * d) c else -128) = if zEm (fun k => zi S 442 (120 * d + k)) s c = 0 then -128 else zEm (fun k => zi S 442 (120 * d + k)) s c - 1 := ((hXm c hc).1.symm.trans (hrow c hc))
                  rw [e]
                  by_cases q : zEm (fun k => zi S 442 (120 * d + k)) s c = 0
                  · rw [if_pos q, if_pos q, if_pos rfl]; decide
                  · rw [if_neg (fun z => q ((zmk (hEm c).1).1.mp z)), if_neg q]
                · split
                  · exact zU_n (k := 0) (by omega) (by omega)
                  · have := c4.1 (7 * a + c) (by omega)
                    rw [show 70 + (7 * a + c) = 70 + 7 * a + c by omega] at this
                    exact this
                · by_cases q : zEm (fun k => zi S 442 (120 * d + k)) s c = 0
                  · rw [if_pos q]
                  · rw [if_neg q] at heq ⊢
                    by_cases q1 : zEm (fun k => zi S 442 (120 * d + k)) s c1 = 0
                    · rw [if_pos q1] at heq; exact heq
                    · rw [if_neg q1] at heq
                      exact c4.2 a c c1 ha hc hc1 hne heq
              · rw [if_neg (show ¬ (s ≤ 7 ∧ zOk (fun k => zi S 442 (120 * d + k)) s 0 = true) from fun q => k5 q.2), if_pos (show (0 : Int32) = 0 from rfl)]
                refine ⟨S, -13, S, rfl, ?_, h⟩
                rw [hm S hL rfl rfl rfl b6, if_neg k1, if_pos k2, if_pos k3, es, if_pos (show nI s ≤ (7 : Int32) from nI_le (a := s) (b := 7) k4 (by decide)), m_holdsMarks hL hd1 (show s ≤ 120 by omega) es (by omega), if_neg k5]
            · rw [if_neg (show ¬ (s ≤ 7 ∧ zOk (fun k => zi S 442 (120 * d + k)) s 0 = true) from fun q => k4 q.1), if_pos (show (0 : Int32) = 0 from rfl)]
              refine ⟨S, -13, S, rfl, ?_, h⟩
              rw [hm S hL rfl rfl rfl b6, if_neg k1, if_pos k2, if_pos k3, es, if_neg (show ¬ nI s ≤ (7 : Int32) from nI_ge (a := 7) (b := s) (by omega) (by omega))]
          · rw [if_neg k3, if_neg (show ¬ (-12 : Int32) = 0 by decide)]
            exact ⟨S, -12, S, rfl, by rw [hm S hL rfl rfl rfl b6, if_neg k1, if_pos k2, if_neg k3], h⟩
        · rw [if_neg k2, if_neg (show ¬ (-12 : Int32) = 0 by decide)]
          exact ⟨S, -12, S, rfl, by rw [hm S hL rfl rfl rfl b6, if_neg k1, if_neg k2], h⟩
    · rw [x_shelfAt0 hd, zB1_s, if_neg (show ¬ 2 + 14 + 3 * v = 0 by omega), if_pos rfl]
      refine ⟨S, -1, S, rfl, ?_, h⟩
      unfold f_X12_marks
      rw [m_isDive hL b3 b6, if_pos hv, zB1_s, if_neg (show ¬ (1 : Int32) = 0 by decide), m_wrongRow0 hd]; rfl
  · rw [x_diveAt0 b3 e7 hv, zB1_s]
    refine ⟨S, -1, S, ?_, ?_, h⟩
    · by_cases hd : zU v2 8
      · obtain ⟨d, hd1, rfl⟩ := hd.k
        rw [x_shelfAt hL hd1]; rfl
      · rw [x_shelfAt0 hd]; rfl
    · unfold f_X12_marks
      rw [m_isDive hL b3 b6, if_neg hv]; rfl
