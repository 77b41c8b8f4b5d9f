/-! copying a State -/
theorem x1_copyFrom {S : zM} {q0 q1 : Nat} (hr0 : zr S q0 0 = q0 + 1) (hr1 : zr S q0 1 = q0 + 2) (hr2 : zr S q1 0 = q1 + 1) (hr3 : zr S q1 1 = q1 + 2) (n1 : zln S (q0 + 1) = 7) (n2 : zln S (q0 + 2) = 7) (n3 : zln S (q1 + 1) = 7) (n4 : zln S (q1 + 2) = 7) (hne : q0 + 3 ≤ q1 ∨ q1 + 3 ≤ q0) :
    ∃ X : zM, f_X1_copyFrom S q0 q1 = some X ∧ zF (fun a _ => q0 ≤ a ∧ a ≤ q0 + 2) S X ∧ zi X q0 2 = zi S q1 2 ∧ zi X q0 3 = zi S q1 3 ∧ zi X q0 4 = zi S q1 4 ∧ zi X q0 5 = zi S q1 5 ∧ zi X q0 6 = zi S q1 6 ∧ ∀ c : Nat, c < 7 → zi X (q0 + 1) c = zi S (q1 + 1) c ∧ zi X (q0 + 2) c = zi S (q1 + 2) c := by
  have main : ∀ P : zM → Prop, P (zcp (zcp (zpI (zpI (zpI (zpI (zpI S q0 2 (zi S q1 2)) q0 3 (zi S q1 3)) q0 4 (zi S q1 4)) q0 5 (zi S q1 5)) q0 6 (zi S q1 6)) (q1 + 1) 0 (q0 + 1) 0 7) (q1 + 2) 0 (q0 + 2) 0 7) → ∃ X : zM, f_X1_copyFrom S q0 q1 = some X ∧ P X := by
    intro P hP
    refine ⟨_, ?_, hP⟩
    unfold f_X1_copyFrom
    simp only [nLet]
    simp (disch := omega) only [nLet, nB1, nB2, nL2, zcT, zq0, zq1, zq2, zq3, zq4, zq5, zq6, zq7, zq8, zq10, zq12, zq13, zq15, zq16, zq19, zq20, zq21, zq40, zq42, zq64, zq70, zq72, zq100, zq112, zq120, zq200, zq600, zq872, zq878, zq879, zq880, zq1000, zq1001, zq1002, zq1003, zq1004, zq4100, zle_t, zle_f, zlt_t, zlt_f, zeq_t, zeq_f, zNle, zNleT, zNe, not_false_eq_true, not_true_eq_false, false_or, or_false, or_self, true_and, and_true, and_self, ↓reduceIte, nI_clamp, nI_add, nI_mul, nI_sub, mi_eq', mi_ne, ni_pR, ni_pL, nr_pI, nr_pL, mr_eq', mr_ne, nl_pI, nl_pR, ml_eq', ml_ne, nsz_pI, nsz_pR, nsz_pL, nln_pI, nln_pR, nln_pL, mi_nwn, mr_nwn, ml_nwn, mln_nwn, nsz_nw, nr_cp, nl_cp, nsz_cp, nln_cp, ni_cp, ni_cp', hr0, hr1, hr2, hr3, n1, n2, n3, n4]
  refine main _ ⟨?_, ?_, ?_, ?_, ?_, ?_, fun c hc => ⟨?_, ?_⟩⟩
  · refine zF.cp ?_ (fun j _ _ => ⟨by omega, by omega⟩)
    refine zF.cp ?_ (fun j _ _ => ⟨by omega, by omega⟩)
    refine zF.pI ?_ ⟨by omega, by omega⟩
    refine zF.pI ?_ ⟨by omega, by omega⟩
    refine zF.pI ?_ ⟨by omega, by omega⟩
    refine zF.pI ?_ ⟨by omega, by omega⟩
    refine zF.pI ?_ ⟨by omega, by omega⟩
    exact zF.rf
  · simp (disch := omega) only [mi_ne, mi_eq', ni_cp]
  · simp (disch := omega) only [mi_ne, mi_eq', ni_cp]
  · simp (disch := omega) only [mi_ne, mi_eq', ni_cp]
  · simp (disch := omega) only [mi_ne, mi_eq', ni_cp]
  · simp (disch := omega) only [mi_ne, mi_eq', ni_cp]
  · simp (disch := omega) only [mi_ne, ni_cp, ni_cp']
    rw [show 0 + (c - 0) = c by omega]
  · simp (disch := omega) only [mi_ne, ni_cp, ni_cp']
    rw [show 0 + (c - 0) = c by omega]
theorem x6_copyFrom {S : zM} {q0 q1 : Nat} (r1 : zr S q0 0 = q0 + 1) (r2 : zr S q0 3 = q0 + 2) (r3 : zr S q1 0 = q1 + 1) (r4 : zr S q1 3 = q1 + 2) (n1 : zln S (q0 + 1) = 6) (n2 : zln S (q0 + 2) = 120) (n3 : zln S (q1 + 1) = 6) (n4 : zln S (q1 + 2) = 120) (hne : q0 + 3 ≤ q1 ∨ q1 + 3 ≤ q0) :
    ∃ X : zM, f_X6_copyFrom S q0 q1 = some X ∧ zF (fun a _ => q0 ≤ a ∧ a ≤ q0 + 2) S X ∧ zi X q0 1 = zi S q1 1 ∧ zi X q0 2 = zi S q1 2 ∧ zi X q0 4 = zi S q1 4 ∧ (∀ c : Nat, c < 6 → zi X (q0 + 1) c = zi S (q1 + 1) c) ∧ ∀ c : Nat, c < 120 → zi X (q0 + 2) c = zi S (q1 + 2) c := by
  have main : ∀ P : zM → Prop, P (zpI (zcp (zpI (zpI (zcp S (q1 + 1) 0 (q0 + 1) 0 6) q0 1 (zi S q1 1)) q0 2 (zi S q1 2)) (q1 + 2) 0 (q0 + 2) 0 120) q0 4 (zi S q1 4)) → ∃ X : zM, f_X6_copyFrom S q0 q1 = some X ∧ P X := by
    intro P hP
    refine ⟨_, ?_, hP⟩
    unfold f_X6_copyFrom
    simp only [nLet]
    simp (disch := omega) only [nLet, nB1, nB2, nL2, zcT, zq0, zq1, zq2, zq3, zq4, zq5, zq6, zq7, zq8, zq10, zq12, zq13, zq15, zq16, zq19, zq20, zq21, zq40, zq42, zq64, zq70, zq72, zq100, zq112, zq120, zq200, zq600, zq872, zq878, zq879, zq880, zq1000, zq1001, zq1002, zq1003, zq1004, zq4100, zle_t, zle_f, zlt_t, zlt_f, zeq_t, zeq_f, zNle, zNleT, zNe, not_false_eq_true, not_true_eq_false, false_or, or_false, or_self, true_and, and_true, and_self, ↓reduceIte, nI_clamp, nI_add, nI_mul, nI_sub, mi_eq', mi_ne, ni_pR, ni_pL, nr_pI, nr_pL, mr_eq', mr_ne, nl_pI, nl_pR, ml_eq', ml_ne, nsz_pI, nsz_pR, nsz_pL, nln_pI, nln_pR, nln_pL, mi_nwn, mr_nwn, ml_nwn, mln_nwn, nsz_nw, nr_cp, nl_cp, nsz_cp, nln_cp, ni_cp, ni_cp', r1, r2, r3, r4, n1, n2, n3, n4]
  refine main _ ⟨?_, ?_, ?_, ?_, fun c hc => ?_, fun c hc => ?_⟩
  · refine zF.pI ?_ ⟨by omega, by omega⟩
    refine zF.cp ?_ (fun j _ _ => ⟨by omega, by omega⟩)
    refine zF.pI ?_ ⟨by omega, by omega⟩
    refine zF.pI ?_ ⟨by omega, by omega⟩
    refine zF.cp ?_ (fun j _ _ => ⟨by omega, by omega⟩)
    exact zF.rf
  · simp (disch := omega) only [mi_ne, mi_eq', ni_cp]
  · simp (disch := omega) only [mi_ne, mi_eq', ni_cp]
  · simp (disch := omega) only [mi_ne, mi_eq', ni_cp]
  · simp (disch := omega) only [mi_ne, ni_cp, ni_cp']
    rw [show 0 + (c - 0) = c by omega]
  · simp (disch := omega) only [mi_ne, ni_cp, ni_cp']
    rw [show 0 + (c - 0) = c by omega]
/-- the judges of one State come to another -/
theorem x_cpJ {S0 : zM} {b b1 : Nat} {K : zM → Option zM} (h0 : zr S0 b 8 = b + 9) (h1 : zr S0 b1 8 = b1 + 9) (n0 : zln S0 (b + 9) = 12) (n1 : zln S0 (b1 + 9) = 12) (hne : b + 134 ≤ b1 ∨ b1 + 134 ≤ b) : ∀ n : Nat, 12 < n → ∃ S1 : zM, f_X9_copyFrom_L97 b b1 K n 0 S0 = K S1 ∧ zsz S1 = zsz S0 ∧ zln S1 = zln S0 ∧ zi S1 = zi S0 ∧ (∀ a k : Nat, a ≠ b + 9 → zr S1 a k = zr S0 a k) ∧ ∀ j : Nat, j < 12 → zr S1 (b + 9) j = zr S0 (b1 + 9) j := by
  intro n hn
  refine zloopR (fun n (s : Int32 × zM) => f_X9_copyFrom_L97 b b1 K n s.1 s.2) (fun k s => s.1 = nI k ∧ zsz s.2 = zsz S0 ∧ zln s.2 = zln S0 ∧ zi s.2 = zi S0 ∧ (∀ a k : Nat, a ≠ b + 9 → zr s.2 a k = zr S0 a k) ∧ ∀ j : Nat, j < k → zr s.2 (b + 9) j = zr S0 (b1 + 9) j) 12 (fun o => ∃ S1 : zM, o = K S1 ∧ zsz S1 = zsz S0 ∧ zln S1 = zln S0 ∧ zi S1 = zi S0 ∧ (∀ a k : Nat, a ≠ b + 9 → zr S1 a k = zr S0 a k) ∧ ∀ j : Nat, j < 12 → zr S1 (b + 9) j = zr S0 (b1 + 9) j) ?_ ?_ n (0, S0) hn ⟨rfl, rfl, rfl, rfl, fun _ _ _ => rfl, fun j hj => by omega⟩
  · rintro k f ⟨x, S⟩ hk ⟨e1, e2, e3, e4, e5, e6⟩
    dsimp only at e1 e2 e3 e4 e5 e6 ⊢
    subst e1
    refine ⟨(nI (k + 1), zpR S (b + 9) k (zr S0 (b1 + 9) k)), ⟨rfl, e2, e3, e4, fun a i ha => ?_, fun j hj => ?_⟩, ?_⟩
    · rw [mr_ne _ _ (by omega)]; exact e5 a i ha
    · dsimp only
      by_cases hjk : j = k
      · subst hjk; exact mr_eq _ _ _ _
      · rw [mr_ne _ _ (by omega)]; exact e6 j (by omega)
    · show f_X9_copyFrom_L97b b b1 K (f_X9_copyFrom_L97 b b1 K f) (nI k) S = _
      unfold f_X9_copyFrom_L97b
      rw [if_neg (show ¬ (12 : Int32) ≤ nI k from nI_ge hk (by decide)), e5 b 8 (by omega), h0, e5 b1 8 (by omega), h1, zChk_t (by omega), zChk_t (by omega), e3, n1, n0, zChk_t (zix hk (by omega)), zChk_t (zix hk (by omega)), zLet_d, nI_clamp (by omega), nI_1, e5 (b1 + 9) k (by omega)]
  · rintro f ⟨x, S⟩ ⟨e1, e2, e3, e4, e5, e6⟩
    dsimp only at e1 e2 e3 e4 e5 e6 ⊢
    subst e1
    refine ⟨S, ?_, e2, e3, e4, e5, e6⟩
    show f_X9_copyFrom_L97b b b1 K (f_X9_copyFrom_L97 b b1 K f) (nI 12) S = _
    unfold f_X9_copyFrom_L97b
    rw [if_pos (show (12 : Int32) ≤ nI 12 from Int32.le_refl _)]
/-- the dives of one State come to another -/
theorem x_cpD {S0 : zM} {b b1 nv : Nat} {K : zM → Option zM} (hv : nv ≤ 40) (ev : zi S0 b 7 = nI nv) (h0 : zLayS (zr S0) (zln S0) b) (h1 : zLayS (zr S0) (zln S0) b1) (hne : b + 134 ≤ b1 ∨ b1 + 134 ≤ b) : ∀ n : Nat, nv < n → ∃ S1 : zM, f_X9_copyFrom_L123 b b1 K n 0 S0 = K S1 ∧ zF (fun a _ => b + 14 ≤ a ∧ a ≤ b + 133) S0 S1 ∧ ∀ v : Nat, v < nv → ∀ (g : Nat → Int32) (t : Nat), zRepD (zi S0) (b1 + 14 + 3 * v) g t → zRepD (zi S1) (b + 14 + 3 * v) g t := by
  intro n hn
  refine zloopR (fun n (s : Int32 × zM) => f_X9_copyFrom_L123 b b1 K n s.1 s.2) (fun k s => s.1 = nI k ∧ zF (fun a _ => b + 14 ≤ a ∧ a ≤ b + 133) S0 s.2 ∧ ∀ v : Nat, v < k → ∀ (g : Nat → Int32) (t : Nat), zRepD (zi S0) (b1 + 14 + 3 * v) g t → zRepD (zi s.2) (b + 14 + 3 * v) g t) nv (fun o => ∃ S1 : zM, o = K S1 ∧ zF (fun a _ => b + 14 ≤ a ∧ a ≤ b + 133) S0 S1 ∧ ∀ v : Nat, v < nv → ∀ (g : Nat → Int32) (t : Nat), zRepD (zi S0) (b1 + 14 + 3 * v) g t → zRepD (zi S1) (b + 14 + 3 * v) g t) ?_ ?_ n (0, S0) hn ⟨rfl, zF.rf, fun v hv => by omega⟩
  · rintro k f ⟨x, S⟩ hk ⟨e1, e2, e3⟩
    dsimp only at e1 e2 e3 ⊢
    subst e1
    obtain ⟨⟨-, -, -, -, -, -, r9, -⟩, -, ⟨-, -, -, -, -, -, -, -, l10, -⟩, hd⟩ := h0
    obtain ⟨⟨-, -, -, -, -, -, s9, -⟩, -, ⟨-, -, -, -, -, -, -, -, m10, -⟩, hd1⟩ := h1
    obtain ⟨d1, d2, d3, d4, d5⟩ := hd k (by omega)
    obtain ⟨g1, g2, g3, g4, g5⟩ := hd1 k (by omega)
    obtain ⟨X, hX, hXf, x2, x3, x4, x5, x6, xc⟩ := x1_copyFrom (S := S) (q0 := b + 14 + 3 * k) (q1 := b1 + 14 + 3 * k) (by rw [e2.r, d2]; omega) (by rw [e2.r, d3]; omega) (by rw [e2.r, g2]; omega) (by rw [e2.r, g3]; omega) (by rw [e2.n, show b + 14 + 3 * k + 1 = b + 15 + 3 * k by omega]; exact d4) (by rw [e2.n, show b + 14 + 3 * k + 2 = b + 16 + 3 * k by omega]; exact d5) (by rw [e2.n, show b1 + 14 + 3 * k + 1 = b1 + 15 + 3 * k by omega]; exact g4) (by rw [e2.n, show b1 + 14 + 3 * k + 2 = b1 + 16 + 3 * k by omega]; exact g5) (by omega)
    refine ⟨(nI (k + 1), X), ⟨rfl, e2.tr (hXf.mo (fun a i q => ⟨by omega, by omega⟩)), fun v hv1 g t hq => ?_⟩, ?_⟩
    · dsimp only
      by_cases hvk : v = k
      · subst hvk
        have eS : ∀ a i : Nat, b1 + 14 + 3 * v ≤ a → a ≤ b1 + 14 + 3 * v + 2 → zi S a i = zi S0 a i := fun a i h1 h2 => e2.i (by omega)
        obtain ⟨q1, q2, q3, q4, q5, q6⟩ := hq
        refine ⟨by rw [x2, eS _ _ (by omega) (by omega)]; exact q1, by rw [x3, eS _ _ (by omega) (by omega)]; exact q2, by rw [x4, eS _ _ (by omega) (by omega)]; exact q3, by rw [x5, eS _ _ (by omega) (by omega)]; exact q4, by rw [x6, eS _ _ (by omega) (by omega)]; exact q5, fun c hc => ?_⟩
        rw [(xc c hc).1, (xc c hc).2, eS _ _ (by omega) (by omega), eS _ _ (by omega) (by omega)]
        exact q6 c hc
      · exact (e3 v (by omega) g t hq).fr (fun a i h1 h2 => hXf.i (by omega))
    · show f_X9_copyFrom_L123b b b1 K (f_X9_copyFrom_L123 b b1 K f) (nI k) S = _
      unfold f_X9_copyFrom_L123b
      rw [e2.i (by omega), ev, if_neg (nI_ge hk (by omega)), e2.r, e2.n, r9, s9, zChk_t (by omega), l10, zChk_t (zix (by omega) (by omega)), nI_clamp (by omega), d1, g1, zChk_t (by omega), zChk_t (by omega), m10, zChk_t (zixc (by omega) (by omega)), zChk_t (by omega), hX, zB1_s, nI_1]
  · rintro f ⟨x, S⟩ ⟨e1, e2, e3⟩
    dsimp only at e1 e2 e3 ⊢
    subst e1
    refine ⟨S, ?_, e2, e3⟩
    show f_X9_copyFrom_L123b b b1 K (f_X9_copyFrom_L123 b b1 K f) (nI nv) S = _
    unfold f_X9_copyFrom_L123b
    rw [e2.i (by omega), ev, if_pos (Int32.le_refl _)]
