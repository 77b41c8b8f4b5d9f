/-! dive -/
theorem zF.pI {W : Nat → Nat → Prop} {S S1 : zM} (h : zF W S S1) {a k : Nat} {v : Int32} (hw : W a k) : zF W S (zpI S1 a k v) := h.tr (zF_pI hw)
theorem zF.pL {W : Nat → Nat → Prop} {S S1 : zM} (h : zF W S S1) {a k : Nat} {v : Int64} (hw : W a k) : zF W S (zpL S1 a k v) := h.tr (zF_pL hw)
theorem zF.cp {W : Nat → Nat → Prop} {S S1 : zM} (h : zF W S S1) {a0 sp a1 dp n : Nat} (hw : ∀ j : Nat, dp ≤ j → j < dp + n → W a1 j) : zF W S (zcp S1 a0 sp a1 dp n) := h.tr (zF_cp hw)
theorem zEx {α : Type} {K : zM → Option (α × zM)} {o : Option (α × zM)} {Q : zM → Prop} {r : α} {P : zM → Prop} (h : ∃ S1 : zM, o = K S1 ∧ Q S1) (h2 : ∀ S1 : zM, Q S1 → ∃ X : zM, K S1 = some (r, X) ∧ P X) : ∃ X : zM, o = some (r, X) ∧ P X := by
  obtain ⟨S1, e, hq⟩ := h
  rw [e]
  exact h2 S1 hq
theorem zisR {v : Int32} {a b : Int64} : f_X12_isIn v.toInt64 a b = if a.toInt ≤ v.toInt ∧ v.toInt ≤ b.toInt then 1 else 0 := by
  unfold f_X12_isIn
  have h1 : lg_cmp v.toInt64 a < 0 ↔ v.toInt < a.toInt := by
    rw [lg_cmp_lt, Int64.lt_iff_toInt_lt, Int32.toInt_toInt64]
  have h2 : 0 < lg_cmp v.toInt64 b ↔ b.toInt < v.toInt := by
    rw [lg_cmp_gt, Int64.lt_iff_toInt_lt, Int32.toInt_toInt64]
  simp only [h1, h2]
  repeat' split
  all_goals first | rfl | omega
theorem x_tell {S : zM} {q c : Nat} (hr : zr S q 0 = q + 1) (hr1 : zr S q 1 = q + 2) (hn : zln S (q + 1) = 7) (hn1 : zln S (q + 2) = 7) (hc : c < 7) {m w : Int32} : f_X1_tell S q (nI c) m w = some (zpI (zpI S (q + 1) c m) (q + 2) c (if m = -128 then -1 else w)) := by
  unfold f_X1_tell
  by_cases hm : m = -128
  · simp (disch := omega) only [nLet, zcT, zq0, zq7, zle_t, zle_f, zlt_t, zlt_f, zeq_t, zeq_f, zNle, zNleT, zNe, not_false_eq_true, not_true_eq_false, false_or, or_false, or_self, true_and, and_true, and_self, ↓reduceIte, nI_clamp, mi_eq', mi_ne, ni_pR, ni_pL, nr_pI, nr_pL, mr_eq', mr_ne, nl_pI, nl_pR, ml_eq', ml_ne, nsz_pI, nsz_pR, nsz_pL, nln_pI, nln_pR, nln_pL, mi_nwn, mr_nwn, ml_nwn, mln_nwn, nsz_nw, nr_cp, nl_cp, nsz_cp, nln_cp, ni_cp, ni_cp', zw1, hr, hr1, hn, hn1, hm]
  · simp (disch := omega) only [nLet, zcT, zq0, zq7, zle_t, zle_f, zlt_t, zlt_f, zeq_t, zeq_f, zNle, zNleT, zNe, not_false_eq_true, not_true_eq_false, false_or, or_false, or_self, true_and, and_true, and_self, ↓reduceIte, nI_clamp, mi_eq', mi_ne, ni_pR, ni_pL, nr_pI, nr_pL, mr_eq', mr_ne, nl_pI, nl_pR, ml_eq', ml_ne, nsz_pI, nsz_pR, nsz_pL, nln_pI, nln_pR, nln_pL, mi_nwn, mr_nwn, ml_nwn, mln_nwn, nsz_nw, nr_cp, nl_cp, nsz_cp, nln_cp, ni_cp, ni_cp', zw1, hr, hr1, hn, hn1, hm]
theorem x_begin {S0 : zM} {q : Nat} {K : zM → Option zM} (hr : zr S0 q 0 = q + 1) (hr1 : zr S0 q 1 = q + 2) (hn : zln S0 (q + 1) = 7) (hn1 : zln S0 (q + 2) = 7) : ∀ n : Nat, 7 < n → ∃ S1 : zM, f_X1_begin_L39 q K n 0 S0 = K S1 ∧ zF (fun a k => (a = q + 1 ∨ a = q + 2) ∧ k < 7) S0 S1 ∧ ∀ j : Nat, j < 7 → zi S1 (q + 1) j = -128 ∧ zi S1 (q + 2) j = -1 := by
  intro n hn7
  refine zloopR (fun n (s : Int32 × zM) => f_X1_begin_L39 q K n s.1 s.2) (fun k s => s.1 = nI k ∧ zF (fun a j => (a = q + 1 ∨ a = q + 2) ∧ j < 7) S0 s.2 ∧ ∀ j : Nat, j < k → zi s.2 (q + 1) j = -128 ∧ zi s.2 (q + 2) j = -1) 7 (fun o => ∃ S1 : zM, o = K S1 ∧ zF (fun a j => (a = q + 1 ∨ a = q + 2) ∧ j < 7) S0 S1 ∧ ∀ j : Nat, j < 7 → zi S1 (q + 1) j = -128 ∧ zi S1 (q + 2) j = -1) ?_ ?_ n (0, S0) hn7 ⟨rfl, zF.rf, fun j hj => by omega⟩
  · rintro k f ⟨x, S⟩ hk ⟨h1, h2, h3⟩
    dsimp only at h1 h2 h3 ⊢
    subst h1
    refine ⟨(nI (k + 1), zpI (zpI S (q + 1) k (-128)) (q + 2) k (-1)), ⟨rfl, (h2.tr (zF_pI ⟨Or.inl rfl, hk⟩)).tr (zF_pI ⟨Or.inr rfl, hk⟩), fun j hj => ?_⟩, ?_⟩
    · dsimp only
      by_cases hjk : j = k
      · subst hjk
        rw [mi_eq, mi_ne _ _ (by omega), mi_eq]
        exact ⟨rfl, rfl⟩
      · rw [mi_ne _ _ (by omega), mi_ne _ _ (by omega), mi_ne _ _ (by omega), mi_ne _ _ (by omega)]; exact h3 j (by omega)
    · show f_X1_begin_L39b q K (f_X1_begin_L39 q K f) (nI k) S = _
      unfold f_X1_begin_L39b
      rw [if_neg (show ¬ (7 : Int32) ≤ nI k from nI_ge hk (by decide)), x_tell (by rw [h2.r]; exact hr) (by rw [h2.r]; exact hr1) (by rw [h2.n]; exact hn) (by rw [h2.n]; exact hn1) hk, zB1_s, if_pos rfl, nI_1]
  · rintro f ⟨x, S⟩ ⟨h1, h2, h3⟩
    dsimp only at h1 h2 h3 ⊢
    subst h1
    refine ⟨S, ?_, h2, h3⟩
    show f_X1_begin_L39b q K (f_X1_begin_L39 q K f) (nI 7) S = _
    unfold f_X1_begin_L39b
    rw [if_pos (show (7 : Int32) ≤ nI 7 from Int32.le_refl _)]
theorem m_wipe {S0 S : zM} {nv : Nat} (hv : nv < 40) (e : zi S (zr S 436 0) (Int32.toNatClampNeg (1003 : Int32)) = nI nv) {K : zM → Option (Int32 × zM)} (hr : zr S0 436 0 = 437) (hn : zln S0 437 = 1004) : ∀ n : Nat, 19 < n → ∃ S1 : zM, f_X12_dive_L97 S 436 K n 0 S0 = K S1 ∧ zF (fun a k => a = 437 ∧ 112 + 19 * nv ≤ k ∧ k < 112 + 19 * nv + 19) S0 S1 ∧ ∀ j : Nat, j < 19 → zi S1 437 (112 + 19 * nv + j) = 0 := by
  intro n hn1
  refine zloopR (fun n (s : Int32 × zM) => f_X12_dive_L97 S 436 K n s.1 s.2) (fun k s => s.1 = nI k ∧ zF (fun a k => a = 437 ∧ 112 + 19 * nv ≤ k ∧ k < 112 + 19 * nv + 19) S0 s.2 ∧ ∀ j : Nat, j < k → zi s.2 437 (112 + 19 * nv + j) = 0) 19 (fun o => ∃ S1 : zM, o = K S1 ∧ zF (fun a k => a = 437 ∧ 112 + 19 * nv ≤ k ∧ k < 112 + 19 * nv + 19) S0 S1 ∧ ∀ j : Nat, j < 19 → zi S1 437 (112 + 19 * nv + j) = 0) ?_ ?_ n (0, S0) hn1 ⟨rfl, zF.rf, fun j hj => by omega⟩
  · rintro k f ⟨x, T⟩ hk ⟨h1, h2, h3⟩
    dsimp only at h1 h2 h3 ⊢
    subst h1
    refine ⟨(nI (k + 1), zpI T 437 (112 + 19 * nv + k) 0), ⟨rfl, h2.tr (zF_pI ⟨rfl, by omega, by omega⟩), fun j hj => ?_⟩, ?_⟩
    · dsimp only
      by_cases hjk : j = k
      · subst hjk; exact mi_eq _ _ _ _
      · rw [mi_ne _ _ (by omega)]; exact h3 j (by omega)
    · show f_X12_dive_L97b S 436 K (f_X12_dive_L97 S 436 K f) (nI k) T = _
      unfold f_X12_dive_L97b
      rw [if_neg (show ¬ (19 : Int32) ≤ nI k from nI_ge hk (by decide)), e, h2.r, hr, zChk_t (by omega), h2.n, hn, zq112, zq19, nI_mul, nI_add, nI_add, zChk_t (zix (by omega) (by omega)), zLet_d, nI_clamp (by omega), nI_1]
  · rintro f ⟨x, T⟩ ⟨h1, h2, h3⟩
    dsimp only at h1 h2 h3 ⊢
    subst h1
    refine ⟨T, ?_, h2, h3⟩
    show f_X12_dive_L97b S 436 K (f_X12_dive_L97 S 436 K f) (nI 19) T = _
    unfold f_X12_dive_L97b
    rw [if_pos (show (19 : Int32) ≤ nI 19 from Int32.le_refl _)]
theorem zA5 {S : zM} {q : Nat} {v1 v2 v3 v4 v5 : Int32} : zF (fun x _ => x = q) S (zpI (zpI (zpI (zpI (zpI S q 2 v1) q 3 v2) q 4 v3) q 5 v4) q 6 v5) ∧ zi (zpI (zpI (zpI (zpI (zpI S q 2 v1) q 3 v2) q 4 v3) q 5 v4) q 6 v5) q 2 = v1 ∧ zi (zpI (zpI (zpI (zpI (zpI S q 2 v1) q 3 v2) q 4 v3) q 5 v4) q 6 v5) q 3 = v2 ∧ zi (zpI (zpI (zpI (zpI (zpI S q 2 v1) q 3 v2) q 4 v3) q 5 v4) q 6 v5) q 4 = v3 ∧ zi (zpI (zpI (zpI (zpI (zpI S q 2 v1) q 3 v2) q 4 v3) q 5 v4) q 6 v5) q 5 = v4 ∧ zi (zpI (zpI (zpI (zpI (zpI S q 2 v1) q 3 v2) q 4 v3) q 5 v4) q 6 v5) q 6 = v5 := by
  refine ⟨?_, ?_, ?_, ?_, ?_, ?_⟩
  · refine zF.pI ?_ rfl
    refine zF.pI ?_ rfl
    refine zF.pI ?_ rfl
    refine zF.pI ?_ rfl
    refine zF.pI ?_ rfl
    exact zF.rf
  · simp (disch := omega) only [mi_ne, mi_eq']
  · simp (disch := omega) only [mi_ne, mi_eq']
  · simp (disch := omega) only [mi_ne, mi_eq']
  · simp (disch := omega) only [mi_ne, mi_eq']
  · simp (disch := omega) only [mi_eq']
theorem x_dive {S : zM} (h : zLay S) {a i fl t nd nv : Nat} (ha : a < 6) (hi : i < nd) (hd : nd ≤ 8) (hf : fl < 64) (ht : 1000 ≤ t) (ht2 : t < 4100) (ht0 : t % 10 = 0) (hv : nv < 40) (ed : zi S 2 5 = nI nd) (ev : zi S 2 7 = nI nv) :
    ∃ X : zM, f_X11_dive 200 S 1 (nI a) (nI i) (nI fl) (nI t) = some (nI nv, X) ∧ zF (fun x k => (x = 2 ∧ k = 7) ∨ (16 + 3 * nv ≤ x ∧ x ≤ 18 + 3 * nv)) S X ∧ zi X 2 7 = nI (nv + 1) ∧ zi X (16 + 3 * nv) 2 = nI a ∧ zi X (16 + 3 * nv) 3 = nI i ∧ zi X (16 + 3 * nv) 4 = nI fl ∧ zi X (16 + 3 * nv) 5 = nI (t / 10 % 10) ∧ zi X (16 + 3 * nv) 6 = nI (t / 100) ∧
      ∀ c : Nat, c < 7 → zi X (17 + 3 * nv) c = -128 ∧ zi X (18 + 3 * nv) c = -1 := by
  have h0 := h.1
  have r0 : zr S 1 0 = 2 := h.2.2.2.2.1.1.1
  have r9 : zr S 2 9 = 12 := h.2.1.1.2.2.2.2.2.2.1
  have l10 : zln S 12 = 40 := h.2.1.2.2.1.2.2.2.2.2.2.2.2.1
  obtain ⟨d1, d2, d3, d4, d5⟩ := h.2.1.2.2.2 nv hv
  have d1' : zr S 12 nv = 16 + 3 * nv := by rw [show 16 + 3 * nv = 2 + 14 + 3 * nv by omega]; exact d1
  have d2' : zr S (16 + 3 * nv) 0 = 16 + 3 * nv + 1 := by rw [show 16 + 3 * nv + 1 = 2 + 15 + 3 * nv by omega, show 16 + 3 * nv = 2 + 14 + 3 * nv by omega]; exact d2
  have d3' : zr S (16 + 3 * nv) 1 = 16 + 3 * nv + 2 := by rw [show 16 + 3 * nv + 2 = 2 + 16 + 3 * nv by omega, show 16 + 3 * nv = 2 + 14 + 3 * nv by omega]; exact d3
  have d4' : zln S (16 + 3 * nv + 1) = 7 := by rw [show 16 + 3 * nv + 1 = 2 + 15 + 3 * nv by omega]; exact d4
  have d5' : zln S (16 + 3 * nv + 2) = 7 := by rw [show 16 + 3 * nv + 2 = 2 + 16 + 3 * nv by omega]; exact d5
  have d10 : t / 10 < 2 ^ 31 := by omega
  obtain ⟨hAf, hA2⟩ := zA5 (S := S) (q := 16 + 3 * nv) (v1 := nI a) (v2 := nI i) (v3 := nI fl) (v4 := nI (t / 10 % 10)) (v5 := nI (t / 100))
  generalize hA : zpI (zpI (zpI (zpI (zpI S (16 + 3 * nv) 2 (nI a)) (16 + 3 * nv) 3 (nI i)) (16 + 3 * nv) 4 (nI fl)) (16 + 3 * nv) 5 (nI (t / 10 % 10))) (16 + 3 * nv) 6 (nI (t / 100)) = A at hAf hA2
  obtain ⟨B, hB, hBf, hBz⟩ := x_begin (S0 := A) (q := 16 + 3 * nv) (K := fun S26 => some S26) (by rw [hAf.r]; exact d2') (by rw [hAf.r]; exact d3') (by rw [hAf.n]; exact d4') (by rw [hAf.n]; exact d5') 200 (by omega)
  have hbg : f_X1_begin 200 S (16 + 3 * nv) (nI a) (nI i) (nI fl) (nI t) = some B := by
    unfold f_X1_begin
    simp (disch := omega) only [nLet, zq10, zq100, nI_div, nI_mul, nI_sub, zNmod]
    rw [hA]
    exact hB
  have hB7 : zi B 2 7 = nI nv := by rw [hBf.i (by omega), hAf.i (by omega)]; exact ev
  refine ⟨zpI B 2 7 (nI (nv + 1)), ?_, ?_, mi_eq _ _ _ _, ?_⟩
  · unfold f_X11_dive f_X9_addDive
    simp (disch := omega) only [nLet, nB1, nB2, nL2, zcT, zq0, zq1, zq2, zq3, zq4, zq5, zq6, zq7, zq8, zq10, zq12, zq13, zq15, zq16, zq19, zq20, zq21, zq40, zq42, zq64, zq70, zq72, zq100, zq112, zq120, zq200, zq600, zq872, zq878, zq879, zq880, zq1000, zq1001, zq1002, zq1003, zq1004, zq4100, zle_t, zle_f, zlt_t, zlt_f, zeq_t, zeq_f, zNle, zNleT, zNe, not_false_eq_true, not_true_eq_false, false_or, or_false, or_self, true_and, and_true, and_self, ↓reduceIte, nI_clamp, nI_add, nI_mul, nI_sub, mi_eq', mi_ne, ni_pR, ni_pL, nr_pI, nr_pL, mr_eq', mr_ne, nl_pI, nl_pR, ml_eq', ml_ne, nsz_pI, nsz_pR, nsz_pL, nln_pI, nln_pR, nln_pL, mi_nwn, mr_nwn, ml_nwn, mln_nwn, nsz_nw, nr_cp, nl_cp, nsz_cp, nln_cp, ni_cp, ni_cp', nI_div, zNmod, r0, r9, l10, ed, ev, zw1, d1', hbg, hB7]
    rw [show nv + 1 - 1 = nv by omega]
  · exact zF.pI ((hAf.mo (fun x k q => Or.inr (by omega))).tr (hBf.mo (fun x k q => Or.inr (by omega)))) (Or.inl ⟨rfl, rfl⟩)
  · have e : ∀ k : Nat, zi (zpI B 2 7 (nI (nv + 1))) (16 + 3 * nv) k = zi A (16 + 3 * nv) k := fun k => by rw [mi_ne _ _ (by omega), hBf.i (by omega)]
    refine ⟨by rw [e]; exact hA2.1, by rw [e]; exact hA2.2.1, by rw [e]; exact hA2.2.2.1, by rw [e]; exact hA2.2.2.2.1, by rw [e]; exact hA2.2.2.2.2, fun c hc => ?_⟩
    rw [mi_ne _ _ (by omega), mi_ne _ _ (by omega), show 17 + 3 * nv = 16 + 3 * nv + 1 by omega, show 18 + 3 * nv = 16 + 3 * nv + 2 by omega]
    exact hBz c hc
theorem m_dive {S : zM} (h : zLay S) {a i fl t nd nv : Nat} (ha : a < 6) (hi : i < nd) (hd : nd ≤ 8) (hf : fl < 64) (ht : 1000 ≤ t) (ht2 : t < 4100) (ht0 : t % 10 = 0) (hv : nv < 40) (ed : zi S 437 1001 = nI nd) (ev : zi S 437 1003 = nI nv) :
    ∃ X : zM, f_X12_dive 200 S 436 (nI a) (nI i) (nI fl) (nI t) = some (nI nv, X) ∧ zF (fun x k => x = 437 ∧ (k = 1003 ∨ (112 + 19 * nv ≤ k ∧ k < 131 + 19 * nv))) S X ∧ zi X 437 1003 = nI (nv + 1) ∧ zi X 437 (112 + 19 * nv) = nI a ∧ zi X 437 (112 + 19 * nv + 1) = nI i ∧ zi X 437 (112 + 19 * nv + 2) = nI fl ∧ zi X 437 (112 + 19 * nv + 3) = nI (t / 10 % 10) ∧ zi X 437 (112 + 19 * nv + 4) = nI (t / 100) ∧
      ∀ j : Nat, 5 ≤ j → j < 19 → zi X 437 (112 + 19 * nv + j) = 0 := by
  have hdv := m_isDiver h (show nd ≤ 40 by omega) ed (v := nI i)
  rw [if_pos (zU_n hi (by omega))] at hdv
  have r0 : zr S 436 0 = 437 := h.2.2.2.2.2.1.1
  have l0 : zln S 437 = 1004 := h.2.2.2.2.2.2.1
  have ev' : zi S (zr S 436 0) (Int32.toNatClampNeg (1003 : Int32)) = nI nv := by rw [r0, zq1003, nI_clamp (by omega)]; exact ev
  have d10 : t / 10 < 2 ^ 31 := by omega
  have g1 : (1000 : Int64).toInt ≤ (nI t).toInt ∧ (nI t).toInt ≤ (4099 : Int64).toInt := by
    have e1 : (1000 : Int64).toInt = 1000 := by decide +kernel
    have e2 : (4099 : Int64).toInt = 4099 := by decide +kernel
    rw [e1, e2, nI_toInt (by omega)]
    omega
  have main : ∀ P : zM → Prop, (∀ S1 : zM, zF (fun a k => a = 437 ∧ 112 + 19 * nv ≤ k ∧ k < 112 + 19 * nv + 19) S S1 → (∀ j : Nat, j < 19 → zi S1 437 (112 + 19 * nv + j) = 0) → P (zpI (zpI (zpI (zpI (zpI (zpI S1 437 (112 + 19 * nv) (nI a)) 437 (112 + 19 * nv + 1) (nI i)) 437 (112 + 19 * nv + 2) (nI fl)) 437 (112 + 19 * nv + 3) (nI (t / 10 % 10))) 437 (112 + 19 * nv + 4) (nI (t / 100))) 437 1003 (nI (nv + 1)))) → ∃ X : zM, f_X12_dive 200 S 436 (nI a) (nI i) (nI fl) (nI t) = some (nI nv, X) ∧ P X := by
    intro P hP
    unfold f_X12_dive
    rw [m_isHall, if_pos (zU_n ha (by omega)), zisI (n := 64) rfl, if_pos (zU_n hf (by omega)), zisR, if_pos g1]
    simp (disch := omega) only [nLet, nB1, nB2, nL2, zcT, zq0, zq1, zq2, zq3, zq4, zq5, zq6, zq7, zq8, zq10, zq12, zq13, zq15, zq16, zq19, zq20, zq21, zq40, zq42, zq64, zq70, zq72, zq100, zq112, zq120, zq200, zq600, zq872, zq878, zq879, zq880, zq1000, zq1001, zq1002, zq1003, zq1004, zq4100, zle_t, zle_f, zlt_t, zlt_f, zeq_t, zeq_f, zNle, zNleT, zNe, not_false_eq_true, not_true_eq_false, false_or, or_false, or_self, true_and, and_true, and_self, ↓reduceIte, nI_clamp, nI_add, nI_mul, nI_sub, mi_eq', mi_ne, ni_pR, ni_pL, nr_pI, nr_pL, mr_eq', mr_ne, nl_pI, nl_pR, ml_eq', ml_ne, nsz_pI, nsz_pR, nsz_pL, nln_pI, nln_pR, nln_pL, mi_nwn, mr_nwn, ml_nwn, mln_nwn, nsz_nw, nr_cp, nl_cp, nsz_cp, nln_cp, ni_cp, ni_cp', nI_div, zNmod, hdv, r0, l0, ev]
    refine zEx (m_wipe hv ev' r0 l0 200 (by omega)) ?_
    rintro S1 ⟨hf1, hz⟩
    have q0 : zr S1 436 0 = 437 := by rw [hf1.r]; exact r0
    have q1 : zln S1 437 = 1004 := by rw [hf1.n]; exact l0
    have q2 : zi S1 437 1003 = nI nv := by rw [hf1.i (by omega)]; exact ev
    refine ⟨_, ?_, hP S1 hf1 hz⟩
    simp (disch := omega) only [nLet, nB1, nB2, nL2, zcT, zq0, zq1, zq2, zq3, zq4, zq5, zq6, zq7, zq8, zq10, zq12, zq13, zq15, zq16, zq19, zq20, zq21, zq40, zq42, zq64, zq70, zq72, zq100, zq112, zq120, zq200, zq600, zq872, zq878, zq879, zq880, zq1000, zq1001, zq1002, zq1003, zq1004, zq4100, zle_t, zle_f, zlt_t, zlt_f, zeq_t, zeq_f, zNle, zNleT, zNe, not_false_eq_true, not_true_eq_false, false_or, or_false, or_self, true_and, and_true, and_self, ↓reduceIte, nI_clamp, nI_add, nI_mul, nI_sub, mi_eq', mi_ne, ni_pR, ni_pL, nr_pI, nr_pL, mr_eq', mr_ne, nl_pI, nl_pR, ml_eq', ml_ne, nsz_pI, nsz_pR, nsz_pL, nln_pI, nln_pR, nln_pL, mi_nwn, mr_nwn, ml_nwn, mln_nwn, nsz_nw, nr_cp, nl_cp, nsz_cp, nln_cp, ni_cp, ni_cp', nI_div, zNmod, q0, q1, q2]
    rw [show nv + 1 - 1 = nv by omega]
  refine main _ (fun S1 hf1 hz => ⟨?_, mi_eq _ _ _ _, ?_⟩)
  · exact zF.pI (zF.pI (zF.pI (zF.pI (zF.pI (zF.pI (hf1.mo (fun x k q => ⟨q.1, Or.inr (by omega)⟩)) ⟨rfl, Or.inr (by omega)⟩) ⟨rfl, Or.inr (by omega)⟩) ⟨rfl, Or.inr (by omega)⟩) ⟨rfl, Or.inr (by omega)⟩) ⟨rfl, Or.inr (by omega)⟩) ⟨rfl, Or.inl rfl⟩
  · refine ⟨?_, ?_, ?_, ?_, ?_, fun j h5 h19 => ?_⟩
    · simp (disch := omega) only [mi_ne, mi_eq']
    · simp (disch := omega) only [mi_ne, mi_eq']
    · simp (disch := omega) only [mi_ne, mi_eq']
    · simp (disch := omega) only [mi_ne, mi_eq']
    · simp (disch := omega) only [mi_ne, mi_eq']
    · simp (disch := omega) only [mi_ne]
      exact hz j h19
theorem dive_bad {S : zM} (h : zLay S) {nd : Nat} (hd : nd ≤ 8) (ed : zi S 437 1001 = nI nd) (ed2 : zi S 2 5 = nI nd) {v1 v2 v3 v4 : Int32} (hn : ¬ (zU v1 6 ∧ zU v2 nd ∧ zU v3 64 ∧ (1000 ≤ v4.toInt ∧ v4.toInt < 4100) ∧ v4 - v4 / 10 * 10 = 0)) :
    f_X11_dive 200 S 1 v1 v2 v3 v4 = some (-1, S) ∧ f_X12_dive 200 S 436 v1 v2 v3 v4 = some (-1, S) := by
  have r0 : zr S 1 0 = 2 := h.2.2.2.2.1.1.1
  have e1 : (1000 : Int64).toInt = 1000 := by decide +kernel
  have e2 : (4099 : Int64).toInt = 4099 := by decide +kernel
  have e3 : (1000 : Int32).toInt = 1000 := by decide +kernel
  have e4 : (4100 : Int32).toInt = 4100 := by decide +kernel
  unfold f_X11_dive f_X12_dive
  rw [zwi (v := v1) (n := 6) rfl, m_isHall, r0, zChk_t (show ¬ 2 = 0 by decide), ed2, zwN (by omega), m_isDiver h (by omega) ed, zwi (v := v3) (n := 64) rfl, zisI (v := v3) (n := 64) rfl, zisR, e1, e2]
  by_cases h1 : zU v1 6
  · rw [if_pos h1]
    by_cases h2 : zU v2 nd
    · rw [if_pos h2]
      by_cases h3 : zU v3 64
      · rw [if_pos h3]
        by_cases h4 : 1000 ≤ v4.toInt ∧ v4.toInt < 4100
        · have h5 : ¬ v4 - v4 / 10 * 10 = 0 := fun e => hn ⟨h1, h2, h3, h4, e⟩
          have g1 : ¬ v4 < 1000 := by rw [Int32.lt_iff_toInt_lt, e3]; omega
          have g2 : ¬ 4100 ≤ v4 := by rw [Int32.le_iff_toInt_le, e4]; omega
          rw [if_pos (show 1000 ≤ v4.toInt ∧ v4.toInt ≤ 4099 by omega), if_neg g1, if_neg g2]
          simp only [nLet, nB1]
          rw [if_neg h5, if_neg h5]
          refine ⟨rfl, ?_⟩
          by_cases h6 : (40 : Int32) < v4 / 100
          · rw [if_pos h6]; rfl
          · rw [if_neg h6]; rfl
        · rw [if_neg (show ¬ (1000 ≤ v4.toInt ∧ v4.toInt ≤ 4099) by omega)]
          refine ⟨?_, rfl⟩
          by_cases g1 : v4 < 1000
          · rw [if_pos g1]; rfl
          · have g2 : 4100 ≤ v4 := by
              rw [Int32.lt_iff_toInt_lt, e3] at g1
              rw [Int32.le_iff_toInt_le, e4]
              omega
            rw [if_neg g1, if_pos g2]; rfl
      · rw [if_neg h3]; exact ⟨rfl, rfl⟩
    · rw [if_neg h2]; exact ⟨rfl, rfl⟩
  · rw [if_neg h1]; exact ⟨rfl, rfl⟩
theorem s_dive {S : zM} (h : zInv S) (v1 v2 v3 v4 v5 : Int32) : ∃ S' : zM, zs_4 1 436 v1 v2 v3 v4 v5 S S' ∧ zInv S' := by
  have hL := h.1
  have h2 := h.2.1
  have r0 : zr S 1 0 = 2 := hL.2.2.2.2.1.1.1
  have r4 : zr S 436 0 = 437 := hL.2.2.2.2.2.1.1
  have l4 : zln S 437 = 1004 := hL.2.2.2.2.2.2.1
  obtain ⟨nd, nj, nv, ⟨b1, b2, b3, b4, b5, b6⟩, c1, c2, c3, c4, c5, c6⟩ := zBd_iff.mp h.2.2.1
  have e5 : zi S 2 5 = nI nd := by rw [← b4]; exact h2.2.2.2.1.1
  have e7 : zi S 2 7 = nI nv := by rw [← b6]; exact h2.2.2.2.1.2.2
  suffices hh : ∃ (S' : zM) (r : Int32) (S1 : zM), f_X11_dive 200 S 1 v1 v2 v3 v4 = some (r, S1) ∧ f_X12_dive 200 S1 436 v1 v2 v3 v4 = some (r, S') ∧ zInv S' by
    obtain ⟨S', r, S1, q1, q2, q3⟩ := hh
    exact ⟨S', ⟨r, 200, S1, q1, q2⟩, q3⟩
  by_cases hn : zU v1 6 ∧ zU v2 nd ∧ zU v3 64 ∧ (1000 ≤ v4.toInt ∧ v4.toInt < 4100) ∧ v4 - v4 / 10 * 10 = 0
  · obtain ⟨hn1, hn2, hn3, hn4, hn5⟩ := hn
    obtain ⟨a, ha, rfl⟩ := hn1.k
    obtain ⟨i, hi, rfl⟩ := hn2.k
    obtain ⟨fl, hf, rfl⟩ := hn3.k
    obtain ⟨t, ht2, rfl⟩ := (show zU v4 4100 from ⟨by omega, hn4.2⟩).k
    have ht : 1000 ≤ t := by
      have := hn4.1
      rw [nI_toInt (by omega)] at this
      omega
    have ht0 : t % 10 = 0 := by
      rw [zq10, nI_mod (by omega) (by omega)] at hn5
      exact nI_inj hn5 (by omega) (by omega)
    by_cases hv : nv < 40
    · obtain ⟨X, hx, hXf, x1, x2, x3, x4, x5, x6, x7⟩ := x_dive hL ha hi b1 hf ht ht2 ht0 hv e5 e7
      have hLX : zLay X := hL.fr hXf
      obtain ⟨Y, hy, hYf, y1, y2, y3, y4, y5, y6, y7⟩ := m_dive hLX ha hi b1 hf ht ht2 ht0 hv (by rw [hXf.i (by omega)]; exact b4) (by rw [hXf.i (by omega)]; exact b6)
      have hLY : zLay Y := hLX.fr hYf
      have eo : ∀ x k : Nat, ¬ (x = 2 ∧ k = 7) → ¬ (16 + 3 * nv ≤ x ∧ x ≤ 18 + 3 * nv) → x ≠ 437 → zi Y x k = zi S x k := fun x k h1 h2 h3 => by
        rw [hYf.i (by omega), hXf.i (by omega)]
      have en : ∀ k : Nat, k ≠ 1003 → ¬ (112 + 19 * nv ≤ k ∧ k < 131 + 19 * nv) → zi Y 437 k = zi S 437 k := fun k h1 h2 => by
        rw [hYf.i (by omega), hXf.i (by omega)]
      have hr : zr Y = zr S := by rw [hYf.r, hXf.r]
      have hs : zsz Y = zsz S := by rw [hYf.s, hXf.s]
      refine ⟨Y, nI nv, X, hx, hy, ?_⟩
      refine h.now hLY (by omega) (fun x k _ _ => by rw [hr]) (fun x k hx => eo x k (by omega) (by omega) (by omega)) ?_ ?_
      · refine zRep.lay (zg1 h2 (fun x k hx => eo x k (by omega) (by omega) (by omega)) (fun k hk => en k (by omega) (by omega))) (zg2 h2 (fun x k hx => eo x k (by omega) (by omega) (by omega)) (fun k hk _ => en k (by omega) (by omega))) (zg3 h2 (fun x k hx => eo x k (by omega) (by omega) (by omega)) (fun k hk _ => en k (by omega) (by omega))) ⟨?_, ?_, ?_⟩ (zg5 h2 (fun x k hx => eo x k (by omega) (by omega) (by omega)) (fun k hk _ => en k (by omega) (by omega))) (zg6 h2 (by omega) (fun j => by rw [hr]) (fun x k hx => eo x k (by omega) (by omega) (by omega)) (fun k hk _ => en k (by omega) (by omega)) (en 1002 (by omega) (by omega))) (fun v hv1 hv2 => ?_)
        · rw [eo 2 5 (by omega) (by omega) (by omega), en 1001 (by omega) (by omega)]; exact h2.2.2.2.1.1
        · rw [eo 2 6 (by omega) (by omega) (by omega), en 1002 (by omega) (by omega)]; exact h2.2.2.2.1.2.1
        · rw [hYf.i (by omega), x1, y1]
        · by_cases hvv : v = nv
          · subst hvv
            have g : ∀ x k : Nat, x ≠ 437 → zi Y x k = zi X x k := fun x k h1 => hYf.i (by omega)
            refine ⟨?_, ?_, ?_, ?_, ?_, fun c hc => ?_⟩
            · rw [show 2 + 14 + 3 * v = 16 + 3 * v by omega, g _ _ (by omega), x2, y2]
            · rw [show 2 + 14 + 3 * v = 16 + 3 * v by omega, g _ _ (by omega), x3, y3]
            · rw [show 2 + 14 + 3 * v = 16 + 3 * v by omega, g _ _ (by omega), x4, y4]
            · rw [show 2 + 14 + 3 * v = 16 + 3 * v by omega, g _ _ (by omega), x5, y5]
            · rw [show 2 + 14 + 3 * v = 16 + 3 * v by omega, g _ _ (by omega), x6, y6]
            · rw [show 2 + 14 + 3 * v + 1 = 17 + 3 * v by omega, show 2 + 14 + 3 * v + 2 = 18 + 3 * v by omega, g (17 + 3 * v) c (by omega), g (18 + 3 * v) c (by omega), (x7 c hc).1, (x7 c hc).2, show 112 + 19 * v + 5 + c = 112 + 19 * v + (5 + c) by omega, show 112 + 19 * v + 12 + c = 112 + 19 * v + (12 + c) by omega, y7 _ (by omega) (by omega), y7 _ (by omega) (by omega)]
              exact ⟨rfl, rfl⟩
          · rw [y1] at hv1
            have hlt : v < nv := by
              have := (nI_ltI (show v < 2 ^ 31 by omega) (show nv + 1 < 2 ^ 31 by omega)).mp hv1
              omega
            exact ((h2.2.2.2.2.2.2 v (by rw [b6]; exact nI_lt hlt (by omega)) hv2).fr (fun a k h1 h2 => eo a k (by omega) (by omega) (by omega))).g (fun k h1 h2 => en k (by omega) (by omega))
      · refine zBd_iff.mpr ⟨nd, nj, nv + 1, ⟨b1, b2, by omega, by rw [en 1001 (by omega) (by omega)]; exact b4, by rw [en 1002 (by omega) (by omega)]; exact b5, y1⟩, c1.g b1 (fun k _ => en k (by omega) (by omega)), c2.g b2 (fun k _ _ => en k (by omega) (by omega)), c3.g (fun k _ _ => en k (by omega) (by omega)), c4.g (fun k _ _ => en k (by omega) (by omega)), c5.g (fun k _ _ => en k (by omega) (by omega)), fun v hv1 => ?_⟩
        by_cases hvv : v = nv
        · subst hvv
          have z : ∀ j : Nat, 5 ≤ j → j < 19 → zi Y 437 (112 + 19 * v + j) = nI 0 := y7
          refine ⟨by rw [y2]; exact zU_n ha (by omega), by rw [y3]; exact zU_n hi (by omega), by rw [y4]; exact zU_n hf (by omega), by rw [y5]; exact zU_n (by omega) (by omega), by rw [y6]; exact zU_n (by omega) (by omega), fun c hc => ?_, fun c c1 hc hc1 hne heq => ?_⟩
          · rw [show 112 + 19 * v + 5 + c = 112 + 19 * v + (5 + c) by omega, show 112 + 19 * v + 12 + c = 112 + 19 * v + (12 + c) by omega, z _ (by omega) (by omega), z _ (by omega) (by omega)]
            exact ⟨zU_n (by omega) (by omega), zU_n (by omega) (by omega), fun _ => rfl⟩
          · rw [show 112 + 19 * v + 12 + c = 112 + 19 * v + (12 + c) by omega, z _ (by omega) (by omega)]; rfl
        · exact (c6 v (by omega)).g (fun k _ _ => en k (by omega) (by omega))
    · have hv40 : nv = 40 := by omega
      subst hv40
      refine ⟨S, -2, S, ?_, ?_, h⟩
      · unfold f_X11_dive f_X9_addDive
        simp (disch := omega) only [nLet, nB1, nB2, nL2, zcT, zq0, zq1, zq2, zq3, zq4, zq5, zq6, zq7, zq8, zq10, zq12, zq13, zq15, zq16, zq19, zq20, zq21, zq40, zq42, zq64, zq70, zq72, zq100, zq112, zq120, zq200, zq600, zq872, zq878, zq879, zq880, zq1000, zq1001, zq1002, zq1003, zq1004, zq4100, zle_t, zle_f, zlt_t, zlt_f, zeq_t, zeq_f, zNle, zNleT, zNe, not_false_eq_true, not_true_eq_false, false_or, or_false, or_self, true_and, and_true, and_self, ↓reduceIte, nI_clamp, nI_add, nI_mul, nI_sub, mi_eq', mi_ne, ni_pR, ni_pL, nr_pI, nr_pL, mr_eq', mr_ne, nl_pI, nl_pR, ml_eq', ml_ne, nsz_pI, nsz_pR, nsz_pL, nln_pI, nln_pR, nln_pL, mi_nwn, mr_nwn, ml_nwn, mln_nwn, nsz_nw, nr_cp, nl_cp, nsz_cp, nln_cp, ni_cp, ni_cp', nI_div, zNmod, r0, e5, e7, zw1, zw0]
      · have hdv := m_isDiver hL (show nd ≤ 40 by omega) b4 (v := nI i)
        rw [if_pos hn2] at hdv
        have g1 : (1000 : Int64).toInt ≤ (nI t).toInt ∧ (nI t).toInt ≤ (4099 : Int64).toInt := by
          have e1 : (1000 : Int64).toInt = 1000 := by decide +kernel
          have e2 : (4099 : Int64).toInt = 4099 := by decide +kernel
          rw [e1, e2, nI_toInt (by omega)]
          omega
        unfold f_X12_dive
        rw [m_isHall, if_pos hn1, zisI (n := 64) rfl, if_pos hn3, zisR, if_pos g1]
        simp (disch := omega) only [nLet, nB1, nB2, nL2, zcT, zq0, zq1, zq2, zq3, zq4, zq5, zq6, zq7, zq8, zq10, zq12, zq13, zq15, zq16, zq19, zq20, zq21, zq40, zq42, zq64, zq70, zq72, zq100, zq112, zq120, zq200, zq600, zq872, zq878, zq879, zq880, zq1000, zq1001, zq1002, zq1003, zq1004, zq4100, zle_t, zle_f, zlt_t, zlt_f, zeq_t, zeq_f, zNle, zNleT, zNe, not_false_eq_true, not_true_eq_false, false_or, or_false, or_self, true_and, and_true, and_self, ↓reduceIte, nI_clamp, nI_add, nI_mul, nI_sub, mi_eq', mi_ne, ni_pR, ni_pL, nr_pI, nr_pL, mr_eq', mr_ne, nl_pI, nl_pR, ml_eq', ml_ne, nsz_pI, nsz_pR, nsz_pL, nln_pI, nln_pR, nln_pL, mi_nwn, mr_nwn, ml_nwn, mln_nwn, nsz_nw, nr_cp, nl_cp, nsz_cp, nln_cp, ni_cp, ni_cp', nI_div, zNmod, hdv, r4, l4, b6]
  · obtain ⟨g1, g2⟩ := dive_bad hL b1 b4 e5 hn
    exact ⟨S, -1, S, g1, g2, h⟩
