/-! keep -/
theorem zU01 : zU (0 : Int32) 2 ∧ zU (1 : Int32) 2 := by decide +kernel
theorem m_keep0 {S : zM} (h : zLay S) {d : Nat} (hd : d < 8) {v : Int32} : f_X12_keep S 436 (nI d) 0 v = some (0, zpI S 439 d 0) := by
  have r2 : zr S 436 2 = 439 := h.2.2.2.2.2.1.2.2.1
  have l2 : zln S 439 = 8 := h.2.2.2.2.2.2.2.2.1
  unfold f_X12_keep
  rw [m_isShelf, if_pos (zU_n hd (by omega)), zisI (n := 2) rfl, if_pos zU01.1]
  simp (disch := omega) only [nLet, nB1, nB2, nL2, zcT, zq0, zq1, zq2, zq3, zq4, zq5, zq6, zq7, zq8, zq10, zq12, zq13, zq15, zq16, zq19, zq20, zq21, zq40, zq42, zq64, zq70, zq72, zq100, zq112, zq120, zq200, zq600, zq872, zq878, zq879, zq880, zq1000, zq1001, zq1002, zq1003, zq1004, zq4100, zle_t, zle_f, zlt_t, zlt_f, zeq_t, zeq_f, zNle, zNleT, zNe, not_false_eq_true, not_true_eq_false, false_or, or_false, or_self, true_and, and_true, and_self, ↓reduceIte, nI_clamp, nI_add, nI_mul, nI_sub, mi_eq', mi_ne, ni_pR, ni_pL, nr_pI, nr_pL, mr_eq', mr_ne, nl_pI, nl_pR, ml_eq', ml_ne, nsz_pI, nsz_pR, nsz_pL, nln_pI, nln_pR, nln_pL, mi_nwn, mr_nwn, ml_nwn, mln_nwn, nsz_nw, nr_cp, nl_cp, nsz_cp, nln_cp, ni_cp, ni_cp', r2, l2]
/-- what a judge's toss answers -/
def zToss (S : zM) (q : Nat) : Int32 := if zthr S q = true then f_X2_failureNumber S q else -15
theorem m_keep1 {S : zM} (h : zLay S) {d j nj q : Nat} (hd : d < 8) (hj : nj ≤ 12) (ej : zi S 437 1002 = nI nj) (hjn : j < nj) (hq : zRepJ S q j (zi S 437)) (hb : zU (zi S 437 (16 + 4 * j)) 8) :
    f_X12_keep S 436 (nI d) 1 (nI j) = some (0, zpI (zpI (zpI S 439 d 1) 443 d (f_X2_heft S q)) 444 d (zToss S q)) := by
  have hjj := m_isJudge h (show nj ≤ 40 by omega) ej (v := nI j)
  rw [if_pos (zU_n hjn (by omega))] at hjj
  have hw : f_X12_weightOf (zpI S 439 d (nI 1)) 436 (nI j) = some (f_X2_heft S q) := by
    have e : ∀ k : Nat, zi (zpI S 439 d (nI 1)) q k = zi S q k := fun k => mi_ne _ _ (by have := hq.1; omega)
    have e2 : ∀ k : Nat, zi (zpI S 439 d (nI 1)) 437 k = zi S 437 k := fun k => mi_ne _ _ (by omega)
    rw [m_weightOf (q := q) h.pI (show j < 12 by omega) ((zRepJ.fr (S1 := zpI S 439 d (nI 1)) hq (Nat.le_refl _) e).g (fun k _ _ => e2 k)), heft_c e]
  obtain ⟨-, -, -, -, -, ⟨r0, r1, r2, -, -, -, r6, r7, -⟩, ⟨l0, l1, l2, -, -, -, l6, l7, -⟩⟩ := h
  obtain ⟨kk, hkk, ekk⟩ := hb.k
  obtain ⟨-, -, k0, k1, k2, k3, k4⟩ := hq
  have g2 : zi S 437 (16 + 4 * j + 2) = zi S q 3 := by rw [show 16 + 4 * j + 2 = 18 + 4 * j by omega]; exact k3.symm
  have g3 : zi S 437 (16 + 4 * j + 3) = zi S q 4 := by rw [show 16 + 4 * j + 3 = 19 + 4 * j by omega]; exact k4.symm
  have k1' : zi S q 1 = nI kk := k1.trans ekk
  have ht : zToss S q = if kk = 1 then -15 else if (kk = 2 ∨ kk = 3) ∧ zi S q 3 = nI 0 then -15 else if kk = 3 then nI j + nI 100 + zi S q 4 else if kk = 7 then nI j + nI 200 else nI j := by
    unfold zToss zthr f_X2_failureNumber
    rw [k1', k0]
    rcases (by omega : kk = 0 ∨ kk = 1 ∨ kk = 2 ∨ kk = 3 ∨ kk = 4 ∨ kk = 5 ∨ kk = 6 ∨ kk = 7) with rfl | rfl | rfl | rfl | rfl | rfl | rfl | rfl
    all_goals by_cases hl : zi S q 3 = nI 0
    all_goals simp (disch := omega) [zq0, zq1, zq2, zq3, zq7, zq100, zq200, zeq_f, hl]
  rw [ht]
  clear ht k1' k1 hb
  unfold f_X12_keep
  rw [m_isShelf, if_pos (zU_n hd (by omega)), zisI (n := 2) rfl, if_pos zU01.2]
  simp only [nLet, nB1, hjj]
  rcases (by omega : kk = 0 ∨ kk = 1 ∨ kk = 2 ∨ kk = 3 ∨ kk = 4 ∨ kk = 5 ∨ kk = 6 ∨ kk = 7) with rfl | rfl | rfl | rfl | rfl | rfl | rfl | rfl
  all_goals by_cases hl : zi S q 3 = nI 0
  all_goals simp (maxSteps := 1000000) (disch := omega) only [nLet, nB1, nB2, nL2, zcT, zq0, zq1, zq2, zq3, zq4, zq5, zq6, zq7, zq8, zq10, zq12, zq13, zq15, zq16, zq19, zq20, zq21, zq40, zq42, zq64, zq70, zq72, zq100, zq112, zq120, zq200, zq600, zq872, zq878, zq879, zq880, zq1000, zq1001, zq1002, zq1003, zq1004, zq4100, zle_t, zle_f, zlt_t, zlt_f, zeq_t, zeq_f, zNle, zNleT, zNe, not_false_eq_true, not_true_eq_false, false_or, or_false, or_self, true_and, and_true, and_self, ↓reduceIte, nI_clamp, nI_add, nI_mul, nI_sub, mi_eq', mi_ne, ni_pR, ni_pL, nr_pI, nr_pL, mr_eq', mr_ne, nl_pI, nl_pR, ml_eq', ml_ne, nsz_pI, nsz_pR, nsz_pL, nln_pI, nln_pR, nln_pL, mi_nwn, mr_nwn, ml_nwn, mln_nwn, nsz_nw, nr_cp, nl_cp, nsz_cp, nln_cp, ni_cp, ni_cp', r0, r2, r6, r7, l0, l2, l6, l7, hjj, hw, g2, g3, ekk, hl, or_true, true_or, or_self, and_false, false_and]
theorem m_keepBad {S : zM} (h : zLay S) {nj : Nat} (hj : nj ≤ 12) (ej : zi S 437 1002 = nI nj) {v1 v2 v3 : Int32} (hn : ¬ (zU v1 8 ∧ zU v2 2 ∧ (v2 = 1 → zU v3 nj))) : f_X12_keep S 436 v1 v2 v3 = some (-1, S) := by
  unfold f_X12_keep
  rw [m_isShelf, zisI (n := 2) rfl]
  by_cases h1 : zU v1 8
  · rw [if_pos h1, zB1_s, if_neg (by decide)]
    by_cases h2 : zU v2 2
    · rw [if_pos h2, zLet_d, if_neg (by decide), zLet_d]
      have h3 : v2 = 1 := by
        by_cases h3 : v2 = 1
        · exact h3
        · exact absurd ⟨h1, h2, fun e => absurd e h3⟩ hn
      subst h3
      have h4 : ¬ zU v3 nj := fun q => hn ⟨h1, h2, fun _ => q⟩
      rw [if_pos rfl, m_isJudge h (by omega) ej, if_neg h4]; rfl
    · rw [if_neg h2]; rfl
  · rw [if_neg h1]; rfl
theorem x_keepBad {S : zM} (h : zLay S) {nj : Nat} (hj : nj ≤ 12) (ej : zi S 2 6 = nI nj) {v1 v2 v3 : Int32} (hn : ¬ (zU v1 8 ∧ zU v2 2 ∧ (v2 = 1 → zU v3 nj))) : f_X11_keep S 1 v1 v2 v3 = some (-1, S) := by
  have r0 : zr S 1 0 = 2 := h.2.2.2.2.1.1.1
  unfold f_X11_keep
  by_cases h1 : zU v1 8
  · obtain ⟨d, hd, rfl⟩ := h1.k
    rw [x_shelfAt h hd, zB1_s, if_neg (by omega), zwi (n := 2) rfl]
    by_cases h2 : zU v2 2
    · have h3 : v2 = 1 := by
        by_cases h3 : v2 = 1
        · exact h3
        · exact absurd ⟨h1, h2, fun e => absurd e h3⟩ hn
      subst h3
      have h4 : ¬ zU v3 nj := fun q => hn ⟨h1, h2, fun _ => q⟩
      rw [if_pos h2, zLet_d, if_neg (show ¬ (1 : Int32) = 0 by decide), if_neg (show ¬ (1 : Int32) = 0 by decide), r0, zChk_t (by decide), x_judgeAt0 hj ej h4]; rfl
    · rw [if_neg h2]; rfl
  · rw [x_shelfAt0 h1]; rfl
theorem s_keep {S : zM} (h : zInv S) (v1 v2 v3 v4 v5 : Int32) : ∃ S' : zM, zs_31 1 436 v1 v2 v3 v4 v5 S S' ∧ zInv S' := by
  have hL := h.1
  have h2 := h.2.1
  obtain ⟨nd, nj, nv, ⟨b1, b2, b3, b4, b5, b6⟩, c1, c2, c3, c4, c5, c6⟩ := zBd_iff.mp h.2.2.1
  have e6 : zi S 2 6 = nI nj := by rw [← b5]; exact h2.2.2.2.1.2.1
  unfold zs_31
  by_cases hn : zU v1 8 ∧ zU v2 2 ∧ (v2 = 1 → zU v3 nj)
  · obtain ⟨hn1, hn2, hn3⟩ := hn
    obtain ⟨d, hd, rfl⟩ := hn1.k
    have hcl : ∀ a i : Nat, a ≠ 420 + 2 * d → zi (f_X8_clear S (420 + 2 * d)) a i = zi S a i := fun a i ha => by
      unfold f_X8_clear
      simp (disch := omega) only [nLet, mi_ne, ni_pR]
    have hc4 : zi (f_X8_clear S (420 + 2 * d)) (420 + 2 * d) 4 = 0 := by
      unfold f_X8_clear
      simp (disch := omega) only [nLet, mi_ne, mi_eq']
    have hcr : ∀ a i : Nat, ¬ (a = 420 + 2 * d ∧ i = 1) → zr (f_X8_clear S (420 + 2 * d)) a i = zr S a i := fun a i ha => by
      unfold f_X8_clear
      simp (disch := omega) only [nLet, nr_pI, mr_ne]
    have hc1 : zr (f_X8_clear S (420 + 2 * d)) (420 + 2 * d) 1 = 0 := by
      unfold f_X8_clear
      simp (disch := omega) only [nLet, nr_pI, mr_eq']
    have hcs : zsz (f_X8_clear S (420 + 2 * d)) = zsz S := by
      unfold f_X8_clear
      simp only [nLet, nsz_pI, nsz_pR]
    have hLc : zLay (f_X8_clear S (420 + 2 * d)) := by
      unfold f_X8_clear
      simp only [nLet]
      exact (hL.pR (a := 420 + 2 * d) (k := 1) (v := 0) (by omega)).pI.pI
    obtain ⟨w, hw, rfl⟩ := hn2.k
    rcases (by omega : w = 0 ∨ w = 1) with rfl | rfl
    · have hx := x_keep0 hL hd (v := v3)
      have hm := m_keep0 hLc hd (v := v3)
      generalize f_X8_clear S (420 + 2 * d) = X at hcl hc4 hcr hc1 hcs hLc hx hm
      refine ⟨zpI X 439 d 0, ⟨0, X, hx, hm⟩, ?_⟩
      refine h.sh hLc.pI (by rw [msz_pI]; omega) (fun a k ha => by rw [mr_pI]; exact hcr a k (by omega)) (fun a k ha => by rw [mi_ne _ _ (by omega)]; exact hcl a k (by omega)) (fun d1 hd1 => ?_)
      by_cases hdd : d1 = d
      · subst hdd
        exact Or.inl ⟨mi_eq _ _ _ _, by rw [mi_ne _ _ (by omega)]; exact hc4, by rw [mr_pI]; exact hc1⟩
      · refine (h.2.2.2.2.2.1 d1 hd1).o (by rw [msz_pI]; omega) (by rw [mr_pI]; exact hcr _ _ (by omega)) (fun a k ha => by rw [mi_ne _ _ (by omega)]; exact hcl a k (by have := hL.1; omega)) ?_ ?_ ?_ (fun k hk => ?_) ?_ ?_
        all_goals rw [mi_ne _ _ (by omega)]; exact hcl _ _ (by omega)
    · obtain ⟨j, hj, rfl⟩ := (hn3 rfl).k
      have hq := h2.2.2.2.2.2.1 j (by rw [b5]; exact nI_lt hj (by omega)) (by omega)
      have hq1 := hq.1
      have hq2 := hq.2.1
      have hx := x_keep1 hL hd b2 e6 hj (by show ¬ zr S (2 + 9) j = 0; omega)
      have hLX := hLc.pR (a := 420 + 2 * d) (k := 1) (v := zr S 11 j) (by omega)
      have e1 : ∀ a i : Nat, a ≠ 420 + 2 * d → zi (zpR (f_X8_clear S (420 + 2 * d)) (420 + 2 * d) 1 (zr S 11 j)) a i = zi S a i := fun a i ha => by rw [mi_pR]; exact hcl a i ha
      have e4 : zi (zpR (f_X8_clear S (420 + 2 * d)) (420 + 2 * d) 1 (zr S 11 j)) (420 + 2 * d) 4 = 0 := by rw [mi_pR]; exact hc4
      have er : ∀ a i : Nat, ¬ (a = 420 + 2 * d ∧ i = 1) → zr (zpR (f_X8_clear S (420 + 2 * d)) (420 + 2 * d) 1 (zr S 11 j)) a i = zr S a i := fun a i ha => by rw [mr_ne _ _ ha]; exact hcr a i ha
      have e5 : zr (zpR (f_X8_clear S (420 + 2 * d)) (420 + 2 * d) 1 (zr S 11 j)) (420 + 2 * d) 1 = zr S 11 j := mr_eq _ _ _ _
      have es : zsz (zpR (f_X8_clear S (420 + 2 * d)) (420 + 2 * d) 1 (zr S 11 j)) = zsz S := by rw [msz_pR]; exact hcs
      generalize zpR (f_X8_clear S (420 + 2 * d)) (420 + 2 * d) 1 (zr S 11 j) = X at hx hLX e1 e4 er e5 es
      have eq : ∀ k : Nat, zi X (zr S 11 j) k = zi S (zr S 11 j) k := fun k => e1 _ k (by show zr S (2 + 9) j ≠ _; omega)
      have hqX : zRepJ X (zr S 11 j) j (zi X 437) := (zRepJ.fr (S1 := X) hq (by omega) eq).g (fun k _ _ => e1 437 k (by omega))
      have hm := m_keep1 hLX hd b2 (by rw [e1 _ _ (by omega)]; exact b5) hj hqX (by rw [e1 _ _ (by omega)]; exact (c2 j hj).1)
      have eh : f_X2_heft X (zr S 11 j) = f_X2_heft S (zr S 11 j) := heft_c eq
      have et : zToss X (zr S 11 j) = zToss S (zr S 11 j) := by unfold zToss; rw [thr_c eq, fail_c eq]
      rw [eh, et] at hm
      generalize hY : zpI (zpI (zpI X 439 d 1) 443 d (f_X2_heft S (zr S 11 j))) 444 d (zToss S (zr S 11 j)) = Y at hm
      have hLY : zLay Y := by rw [← hY]; exact hLX.pI.pI.pI
      have yo : ∀ a i : Nat, a ≠ 420 + 2 * d → ¬ (a = 439 ∧ i = d) → ¬ (a = 443 ∧ i = d) → ¬ (a = 444 ∧ i = d) → zi Y a i = zi S a i := fun a i h1 h2 h3 h4 => by
        rw [← hY]
        simp (disch := omega) only [mi_ne, e1]
      have y4 : zi Y (420 + 2 * d) 4 = 0 := by
        rw [← hY]
        simp (disch := omega) only [mi_ne, e4]
      have y9 : zi Y 439 d = 1 ∧ zi Y 443 d = f_X2_heft S (zr S 11 j) ∧ zi Y 444 d = zToss S (zr S 11 j) := by
        rw [← hY]
        simp (disch := omega) only [mi_ne, mi_eq', and_self]
      have yr : zr Y = zr X := by rw [← hY]; exact funext fun a => funext fun k => by simp only [nr_pI]
      have ys : zsz Y = zsz S := by rw [← hY]; simp only [nsz_pI]; exact es
      refine ⟨Y, ⟨0, X, hx, hm⟩, ?_⟩
      refine h.sh hLY (by omega) (fun a k ha => by rw [yr]; exact er a k (by omega)) (fun a k ha => yo a k (by omega) (by omega) (by omega) (by omega)) (fun d1 hd1 => ?_)
      by_cases hdd : d1 = d
      · subst hdd
        have eq2 : ∀ k : Nat, zi Y (zr S 11 j) k = zi S (zr S 11 j) k := fun k => by
          have h11 : 453 ≤ zr S 11 j := hq1
          exact yo _ k (by omega) (by omega) (by omega) (by omega)
        refine Or.inr (Or.inl ⟨y9.1, y4, ?_, ?_, ?_, ?_⟩)
        · rw [yr, e5]; exact hq1
        · rw [yr, e5, ys]; exact hq2
        · rw [yr, e5, heft_c eq2]; exact y9.2.1.symm
        · rw [yr, e5, thr_c eq2, fail_c eq2]; exact y9.2.2.symm
      · refine (h.2.2.2.2.2.1 d1 hd1).o (by omega) (by rw [yr]; exact er _ _ (by omega)) (fun a k ha => yo a k (by have := hL.1; omega) (by have := hL.1; omega) (by have := hL.1; omega) (by have := hL.1; omega)) ?_ ?_ ?_ (fun k hk => ?_) ?_ ?_
        all_goals exact yo _ _ (by omega) (by omega) (by omega) (by omega)
  · exact ⟨S, ⟨-1, S, x_keepBad hL b2 e6 hn, m_keepBad hL b2 b5 hn⟩, h⟩
