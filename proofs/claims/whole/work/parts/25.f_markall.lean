/-! the reference marks a dive; markAll -/
theorem m_marksAs {S0 : zM} {nd nj nv v : Nat} {g : Nat → Int32} (h : zRx S0 g nd nj nv) (hv : v < nv) {n : Nat} (hn : 40 < n) : ∃ S1 : zM, f_X12_marksAs n S0 436 (nI v) = some S1 ∧ zF (fun a j => zQt a j ∨ (a = 437 ∧ 112 + 19 * v + 5 ≤ j ∧ j < 112 + 19 * v + 19)) S0 S1 ∧ zRx S1 (zMg g v) nd nj nv := by
  have b3 := h.2.2.1.2.2.1
  have b2 := h.2.2.1.2.1
  have hB := h.2.2
  have r0 : zr S0 436 0 = 437 := h.1.2.2.2.2.2.1.1
  have l0 : zln S0 437 = 1004 := h.1.2.2.2.2.2.2.1
  unfold f_X12_marksAs
  rw [zLet_d]
  refine zloopR (fun f (s : Int32 × zM) => f_X12_marksAs_L2 n 436 (nI v) (fun S1 => some S1) f s.1 s.2) (fun k s => s.1 = nI k ∧ zF (fun a j => zQt a j ∨ (a = 437 ∧ 112 + 19 * v + 5 ≤ j ∧ j < 112 + 19 * v + 19)) S0 s.2 ∧ ∀ c : Nat, c < k → zi s.2 437 (112 + 19 * v + 5 + c) = zMm g v c ∧ zi s.2 437 (112 + 19 * v + 12 + c) = zSt g v c) 7 (fun o => ∃ S1 : zM, o = some S1 ∧ zF (fun a j => zQt a j ∨ (a = 437 ∧ 112 + 19 * v + 5 ≤ j ∧ j < 112 + 19 * v + 19)) S0 S1 ∧ zRx S1 (zMg g v) nd nj nv) ?_ ?_ n (0, S0) (by omega) ⟨rfl, zF.rf, fun c hc => absurd hc (Nat.not_lt_zero _)⟩
  · rintro k f ⟨x, S⟩ hk ⟨h1, h2, h3⟩
    dsimp only at h1 h2 h3 ⊢
    subst h1
    have eo : ∀ i : Nat, ¬ (112 + 19 * v + 5 ≤ i ∧ i < 112 + 19 * v + 19) → zi S 437 i = g i := fun i hi => by
      rw [h2.i (by unfold zQt; omega)]; exact h.2.1 i
    have hnm : ∀ i : Nat, zNm i → zi S 437 i = g i := fun i hi => eo i (zNm_t rfl hi (by omega))
    have hR : zRx S (zi S 437) nd nj nv := ⟨h.1.fr h2, fun _ => rfl, hB.nm hnm⟩
    obtain ⟨a, ga, gb⟩ := hR.get0 hv hk
    have est := zSt_c (c := k) hB hv hk hnm
    rw [est] at gb
    have q0 : zr S 436 0 = 437 := by rw [h2.r]; exact r0
    have m0 : zln S 437 = 1004 := by rw [h2.n]; exact l0
    have z12 : (112 : Int32) + 19 * nI v + 12 + nI k = nI (112 + 19 * v + 12 + k) := by rw [zq112, zq19, show (12 : Int32) = nI 12 from rfl, nI_mul, nI_add, nI_add, nI_add]
    have z5 : (112 : Int32) + 19 * nI v + 5 + nI k = nI (112 + 19 * v + 5 + k) := by rw [zq112, zq19, show (5 : Int32) = nI 5 from rfl, nI_mul, nI_add, nI_add, nI_add]
    have hT : ∃ T : zM, zF zQt S T ∧ f_X12_marksAs_L2 n 436 (nI v) (fun S1 => some S1) (f + 1) (nI k) S = f_X12_marksAs_L2 n 436 (nI v) (fun S1 => some S1) f (nI (k + 1)) (zpI (zpI T 437 (112 + 19 * v + 5 + k) (zMm g v k)) 437 (112 + 19 * v + 12 + k) (zSt g v k)) := by
      show ∃ T : zM, zF zQt S T ∧ f_X12_marksAs_L2b n 436 (nI v) (fun S1 => some S1) (f_X12_marksAs_L2 n 436 (nI v) (fun S1 => some S1) f) (nI k) S = _
      unfold f_X12_marksAs_L2b
      rw [if_neg (show ¬ (7 : Int32) ≤ nI k from nI_ge hk (by decide)), ga, zB1_s, gb, zB1_s, zLet_d]
      unfold zMm
      rcases zSt_k hB hv hk with h0 | ⟨h4, h5⟩
      · refine ⟨S, zF.rf, ?_⟩
        rw [h0, if_neg (show ¬ (0 : Int32) ≤ 0 - 1 by decide), if_pos rfl]
        simp (disch := omega) only [nLet, q0, m0, nr_pI, nln_pI, z5, z12, nI_clamp, nI_1, Int32.sub_add_cancel]
        rw [zChk_t (by decide), zChk_t (zixc (by omega) (by omega)), zChk_t (by decide), zChk_t (zixc (by omega) (by omega))]
      · have hne : ¬ zSt g v k = 0 := by rw [h4]; exact nI_ne0 (by omega) (by omega)
        have hne1 : ¬ zSt (zi S 437) v k = 0 := by rw [est]; exact hne
        obtain ⟨T, t1, t2⟩ := m_wd hR hv hk hne1 hn
        rw [zWd_c hB hv hk hne hnm] at t1
        refine ⟨T, t2, ?_⟩
        rw [if_pos (show 0 ≤ zSt g v k - 1 by rw [h4, nI_pred]; exact nI_pos' (by omega)), t1, zB2_s, if_neg hne]
        have p0 : zr T 436 0 = 437 := by rw [t2.r]; exact q0
        have p1 : zln T 437 = 1004 := by rw [t2.n]; exact m0
        simp (disch := omega) only [nLet, q0, m0, p0, p1, nr_pI, nln_pI, z5, z12, nI_clamp, nI_1, Int32.sub_add_cancel]
        rw [zChk_t (by decide), zChk_t (zixc (by omega) (by omega)), zChk_t (by decide), zChk_t (zixc (by omega) (by omega))]
    obtain ⟨T, t2, hrun⟩ := hT
    refine ⟨(nI (k + 1), zpI (zpI T 437 (112 + 19 * v + 5 + k) (zMm g v k)) 437 (112 + 19 * v + 12 + k) (zSt g v k)), ⟨rfl, ?_, fun c hc => ?_⟩, hrun⟩
    · exact zF.pI (zF.pI (h2.tr (t2.mo (fun a j q => Or.inl q))) (Or.inr ⟨rfl, by omega, by omega⟩)) (Or.inr ⟨rfl, by omega, by omega⟩)
    · dsimp only
      by_cases hck : c = k
      · subst hck
        rw [mi_eq, mi_ne _ _ (by omega), mi_eq]
        exact ⟨rfl, rfl⟩
      · rw [mi_ne _ _ (by omega), mi_ne _ _ (by omega), mi_ne _ _ (by omega), mi_ne _ _ (by omega), t2.i (by unfold zQt; omega), t2.i (by unfold zQt; omega)]
        exact h3 c (by omega)
  · rintro f ⟨x, S⟩ ⟨h1, h2, h3⟩
    dsimp only at h1 h2 h3 ⊢
    subst h1
    refine ⟨S, ?_, h2, h.1.fr h2, fun i => ?_, hB.nm (fun i hi => zSetM_o (zNm_t rfl hi (by omega)))⟩
    · show f_X12_marksAs_L2b n 436 (nI v) (fun S1 => some S1) (f_X12_marksAs_L2 n 436 (nI v) (fun S1 => some S1) f) (nI 7) S = _
      unfold f_X12_marksAs_L2b
      rw [if_pos (show (7 : Int32) ≤ nI 7 from Int32.le_refl _)]
    · unfold zMg
      by_cases h1 : 112 + 19 * v + 5 ≤ i ∧ i < 112 + 19 * v + 12
      · obtain ⟨c, rfl⟩ : ∃ c, i = 112 + 19 * v + 5 + c := ⟨i - (112 + 19 * v + 5), by omega⟩
        rw [(h3 c (by omega)).1, zSetM_m (by omega)]
      · by_cases h2' : 112 + 19 * v + 12 ≤ i ∧ i < 112 + 19 * v + 19
        · obtain ⟨c, rfl⟩ : ∃ c, i = 112 + 19 * v + 12 + c := ⟨i - (112 + 19 * v + 12), by omega⟩
          rw [(h3 c (by omega)).2, zSetM_w (by omega)]
        · rw [zSetM_o (by omega), h2.i (by unfold zQt; omega)]
          exact h.2.1 i
theorem zMg_cnt {S : zM} {nd nj nv v : Nat} {g : Nat → Int32} (h : zRx S (zMg g v) nd nj nv) (hv : v < nv) {n : Nat} (hn : 7 < n) : f_X12_marksOf n S 436 (nI v) = some (nI (zCnt (fun c => !decide (zSt g v c = 0)) 7)) := by
  have b3 := h.2.2.1.2.2.1
  rw [m_marksOf h.1 (by omega) hn, h.e, zCnt_c (q := fun c => !decide (zSt g v c = 0)) (fun c hc => ?_)]
  have hb := zMm_b g v c
  unfold zMg
  rw [zSetM_m hc]
  by_cases h0 : zSt g v c = 0
  · rw [hb.2.1.mpr h0]
    simp [h0]
  · have h1 : ¬ zMm g v c ≤ 0 := fun q => h0 (hb.2.1.mp ((zU_le0 hb.1).mp q))
    simp only [h1, h0, not_false_eq_true, decide_true, decide_false, Bool.not_false]
/-- the bounds with marks hold on -/
theorem zBd.mg {g : Nat → Int32} {nd nj nv v : Nat} (h : zBn g nd nj nv ∧ zB1p g nd ∧ zB2p g nj ∧ zB3p g ∧ zB4p g nj ∧ zB5p g ∧ ∀ v : Nat, v < nv → zB6p g nd nj (112 + 19 * v)) (hv : v < nv) : zBn (zMg g v) nd nj nv ∧ zB1p (zMg g v) nd ∧ zB2p (zMg g v) nj ∧ zB3p (zMg g v) ∧ zB4p (zMg g v) nj ∧ zB5p (zMg g v) ∧ ∀ w : Nat, w < nv → zB6p (zMg g v) nd nj (112 + 19 * w) := by
  have hB : zBs g nd nj nv := ⟨h.1, h.2.1, h.2.2.1, h.2.2.2.1, h.2.2.2.2.1, h.2.2.2.2.2.1, fun w hw => (h.2.2.2.2.2.2 w hw).w⟩
  have b3 := h.1.2.2.1
  obtain ⟨a, ha, ea⟩ := (hB.2.2.2.2.2.2 v hv).1.k
  have est : ∀ c : Nat, zSt g v c = g (70 + 7 * a + c) := fun c => by
    unfold zSt
    rw [ea, nI_clamp (by omega)]
  refine zBd.setM h (fun c hc => ⟨(zMm_b g v c).1, ?_, fun q => (zMm_b g v c).2.1.mp q⟩) (fun c c1 hc hc1 hne heq => ?_) (by omega)
  · rw [est]
    have := h.2.2.2.2.1.1 (7 * a + c) (by omega)
    rw [show 70 + (7 * a + c) = 70 + 7 * a + c by omega] at this
    exact this
  · rw [est, est] at heq
    rw [est]
    exact h.2.2.2.2.1.2 a c c1 ha hc hc1 hne heq
/-- dives before k marked, those with p -/
def zMgs (p : Nat → Bool) (g : Nat → Int32) : Nat → (Nat → Int32)
  | 0 => g
  | k + 1 => if p k then zMg (zMgs p g k) k else zMgs p g k
def zMc (p : Nat → Bool) (g : Nat → Int32) : Nat → Nat
  | 0 => 0
  | k + 1 => if p k then zMc p g k + zCnt (fun c => !decide (zSt (zMgs p g k) k c = 0)) 7 else zMc p g k
theorem zMgs_b {p : Nat → Bool} {g : Nat → Int32} {nd nj nv : Nat} (h : zBn g nd nj nv ∧ zB1p g nd ∧ zB2p g nj ∧ zB3p g ∧ zB4p g nj ∧ zB5p g ∧ ∀ v : Nat, v < nv → zB6p g nd nj (112 + 19 * v)) : ∀ k : Nat, k ≤ nv → zBn (zMgs p g k) nd nj nv ∧ zB1p (zMgs p g k) nd ∧ zB2p (zMgs p g k) nj ∧ zB3p (zMgs p g k) ∧ zB4p (zMgs p g k) nj ∧ zB5p (zMgs p g k) ∧ ∀ w : Nat, w < nv → zB6p (zMgs p g k) nd nj (112 + 19 * w) := by
  intro k
  induction k with
  | zero => intro _; exact h
  | succ k ih =>
    intro hk
    have ih' := ih (by omega)
    show zBn (if p k then zMg (zMgs p g k) k else zMgs p g k) nd nj nv ∧ _
    by_cases hp : p k = true
    · have e : zMgs p g (k + 1) = zMg (zMgs p g k) k := if_pos hp
      rw [e, if_pos hp]
      exact zBd.mg ih' (by omega)
    · have e : zMgs p g (k + 1) = zMgs p g k := if_neg hp
      rw [e, if_neg hp]
      exact ih'
/-- the class's round over all dives -/
theorem x_markAllL {S0 : zM} {nd nj nv : Nat} {g : Nat → Int32} (h : zCx S0 2 g nd nj nv) (r0 : zr S0 1 0 = 2) {n : Nat} (hn : 40 < n) : ∃ S1 : zM, f_X11_markAll_L36 n 1 (fun x2 S3 => some (x2, S3)) n 0 0 S0 = some (nI (zMc (fun _ => true) g nv), S1) ∧ zF (fun a j => zPs 2 a j ∨ (16 ≤ a ∧ a ≤ 135)) S0 S1 ∧ zCx S1 2 (zMgs (fun _ => true) g nv) nd nj nv := by
  have b3 := h.2.2.2.1.2.2.1
  refine zloopR (fun f (s : Int32 × Int32 × zM) => f_X11_markAll_L36 n 1 (fun x2 S3 => some (x2, S3)) f s.1 s.2.1 s.2.2) (fun k s => s.1 = nI (zMc (fun _ => true) g k) ∧ s.2.1 = nI k ∧ zF (fun a j => zPs 2 a j ∨ (16 ≤ a ∧ a ≤ 135)) S0 s.2.2 ∧ zCx s.2.2 2 (zMgs (fun _ => true) g k) nd nj nv) nv (fun o => ∃ S1 : zM, o = some (nI (zMc (fun _ => true) g nv), S1) ∧ zF (fun a j => zPs 2 a j ∨ (16 ≤ a ∧ a ≤ 135)) S0 S1 ∧ zCx S1 2 (zMgs (fun _ => true) g nv) nd nj nv) ?_ ?_ n (0, 0, S0) (by omega) ⟨rfl, rfl, zF.rf, h⟩
  · rintro k f ⟨x, y, S⟩ hk ⟨h1, h2, h3, h4⟩
    dsimp only at h1 h2 h3 h4
    subst h1 h2
    obtain ⟨T, t1, t2, t3⟩ := x_markDive h4 hk hn
    refine ⟨(nI (zMc (fun _ => true) g (k + 1)), nI (k + 1), T), ⟨rfl, rfl, h3.tr (t2.mo (fun a j q => ?_)), t3⟩, ?_⟩
    · rcases q with q | q
      · exact Or.inl q
      · exact Or.inr (by omega)
    · show f_X11_markAll_L36b n 1 (fun x2 S3 => some (x2, S3)) (f_X11_markAll_L36 n 1 (fun x2 S3 => some (x2, S3)) f) (nI (zMc (fun _ => true) g k)) (nI k) S = f_X11_markAll_L36 n 1 (fun x2 S3 => some (x2, S3)) f (nI (zMc (fun _ => true) g k + zCnt (fun c => !decide (zSt (zMgs (fun _ => true) g k) k c = 0)) 7)) (nI (k + 1)) T
      unfold f_X11_markAll_L36b
      rw [h3.r, r0, zChk_t (by decide), h4.n.2.2.2, if_neg (nI_ge hk (by omega)), t1, zB2_s, nI_1, nI_add]
  · rintro f ⟨x, y, S⟩ ⟨h1, h2, h3, h4⟩
    dsimp only at h1 h2 h3 h4 ⊢
    subst h1 h2
    refine ⟨S, ?_, h3, h4⟩
    show f_X11_markAll_L36b n 1 (fun x2 S3 => some (x2, S3)) (f_X11_markAll_L36 n 1 (fun x2 S3 => some (x2, S3)) f) (nI (zMc (fun _ => true) g nv)) (nI nv) S = _
    unfold f_X11_markAll_L36b
    rw [h3.r, r0, zChk_t (by decide), h4.n.2.2.2, if_pos (Int32.le_refl _)]
/-- the reference's round: of all dives (which below 0) or of one -/
theorem m_markAllL {S0 : zM} {nd nj nv : Nat} {g : Nat → Int32} {which : Int32} {p : Nat → Bool} (hp : ∀ k : Nat, k < nv → (p k = true ↔ (which < 0 ∨ nI k = which))) (h : zRx S0 g nd nj nv) {n : Nat} (hn : 40 < n) : ∃ S1 : zM, f_X12_markAll_L19 n 436 which (fun x4 S5 => some (x4, S5)) n 0 0 S0 = some (nI (zMc p g nv), S1) ∧ zF (fun a j => zQs a j ∨ (a = 437 ∧ 117 ≤ j ∧ j < 872)) S0 S1 ∧ zRx S1 (zMgs p g nv) nd nj nv := by
  have b3 := h.2.2.1.2.2.1
  refine zloopR (fun f (s : Int32 × Int32 × zM) => f_X12_markAll_L19 n 436 which (fun x4 S5 => some (x4, S5)) f s.1 s.2.1 s.2.2) (fun k s => s.1 = nI (zMc p g k) ∧ s.2.1 = nI k ∧ zF (fun a j => zQs a j ∨ (a = 437 ∧ 117 ≤ j ∧ j < 872)) S0 s.2.2 ∧ zRx s.2.2 (zMgs p g k) nd nj nv) nv (fun o => ∃ S1 : zM, o = some (nI (zMc p g nv), S1) ∧ zF (fun a j => zQs a j ∨ (a = 437 ∧ 117 ≤ j ∧ j < 872)) S0 S1 ∧ zRx S1 (zMgs p g nv) nd nj nv) ?_ ?_ n (0, 0, S0) (by omega) ⟨rfl, rfl, zF.rf, h⟩
  · rintro k f ⟨x, y, S⟩ hk ⟨h1, h2, h3, h4⟩
    dsimp only at h1 h2 h3 h4
    subst h1 h2
    have r0 : zr S 436 0 = 437 := h4.1.2.2.2.2.2.1.1
    have l0 : zln S 437 = 1004 := h4.1.2.2.2.2.2.2.1
    have ev : zi S 437 1003 = nI nv := by rw [h4.2.1]; exact h4.2.2.1.2.2.2.2.2
    have hb : f_X12_markAll_L19 n 436 which (fun x4 S5 => some (x4, S5)) (f + 1) (nI (zMc p g k)) (nI k) S = if p k = true then zB1 (f_X12_marksAs n S 436 (nI k)) (fun S21 => zB1 (f_X12_marksOf n S21 436 (nI k)) (fun r27 => f_X12_markAll_L19 n 436 which (fun x4 S5 => some (x4, S5)) f (nI (zMc p g k) + r27) (nI (k + 1)) S21)) else f_X12_markAll_L19 n 436 which (fun x4 S5 => some (x4, S5)) f (nI (zMc p g k)) (nI (k + 1)) S := by
      show f_X12_markAll_L19b n 436 which (fun x4 S5 => some (x4, S5)) (f_X12_markAll_L19 n 436 which (fun x4 S5 => some (x4, S5)) f) (nI (zMc p g k)) (nI k) S = _
      unfold f_X12_markAll_L19b
      rw [r0, zChk_t (by decide), l0, zq1003, zChk_t (zix (by omega) (by omega)), nI_clamp (by omega), ev, if_neg (nI_ge hk (by omega)), zLet_d, nI_1]
      have hpk := hp k hk
      by_cases hw : which < 0
      · rw [if_pos hw, if_pos (hpk.mpr (Or.inl hw))]
      · rw [if_neg hw]
        by_cases hw2 : nI k = which
        · rw [if_pos hw2, if_pos (hpk.mpr (Or.inr hw2))]
        · rw [if_neg hw2, if_neg (fun q => (hpk.mp q).elim hw hw2)]
    by_cases hpk : p k = true
    · obtain ⟨T, t1, t2', t3⟩ := m_marksAs h4 hk hn
      have t2 : zF (fun a j => zQs a j ∨ (a = 437 ∧ 112 + 19 * k + 5 ≤ j ∧ j < 112 + 19 * k + 19)) S T := t2'.mo (fun a j q => q.elim (fun z => Or.inl z.q) Or.inr)
      have e1 : zMgs p g (k + 1) = zMg (zMgs p g k) k := if_pos hpk
      have e2 : zMc p g (k + 1) = zMc p g k + zCnt (fun c => !decide (zSt (zMgs p g k) k c = 0)) 7 := if_pos hpk
      refine ⟨(nI (zMc p g (k + 1)), nI (k + 1), T), ⟨rfl, rfl, h3.tr (t2.mo (fun a j q => ?_)), by rw [e1]; exact t3⟩, ?_⟩
      · rcases q with q | q
        · exact Or.inl q
        · exact Or.inr (by omega)
      · dsimp only
        rw [hb, if_pos hpk, t1, zB1_s, zMg_cnt t3 hk (by omega), zB1_s, e2, nI_add]
    · have e1 : zMgs p g (k + 1) = zMgs p g k := if_neg hpk
      have e2 : zMc p g (k + 1) = zMc p g k := if_neg hpk
      refine ⟨(nI (zMc p g (k + 1)), nI (k + 1), S), ⟨rfl, rfl, h3, by rw [e1]; exact h4⟩, ?_⟩
      dsimp only
      rw [hb, if_neg hpk, e2]
  · rintro f ⟨x, y, S⟩ ⟨h1, h2, h3, h4⟩
    dsimp only at h1 h2 h3 h4 ⊢
    subst h1 h2
    have r0 : zr S 436 0 = 437 := h4.1.2.2.2.2.2.1.1
    have l0 : zln S 437 = 1004 := h4.1.2.2.2.2.2.2.1
    have ev : zi S 437 1003 = nI nv := by rw [h4.2.1]; exact h4.2.2.1.2.2.2.2.2
    refine ⟨S, ?_, h3, h4⟩
    show f_X12_markAll_L19b n 436 which (fun x4 S5 => some (x4, S5)) (f_X12_markAll_L19 n 436 which (fun x4 S5 => some (x4, S5)) f) (nI (zMc p g nv)) (nI nv) S = _
    unfold f_X12_markAll_L19b
    rw [r0, zChk_t (by decide), l0, zq1003, zChk_t (zix (by omega) (by omega)), nI_clamp (by omega), ev, if_pos (Int32.le_refl _)]
theorem zMgs_1 {g : Nat → Int32} {v : Nat} : ∀ k : Nat, zMgs (fun i => decide (i = v)) g k = if v < k then zMg g v else g := by
  intro k
  induction k with
  | zero => rw [if_neg (Nat.not_lt_zero _)]; rfl
  | succ k ih =>
    show (if decide (k = v) = true then zMg (zMgs (fun i => decide (i = v)) g k) k else zMgs (fun i => decide (i = v)) g k) = _
    rw [ih]
    by_cases h : k = v
    · subst h
      rw [if_pos (by simp), if_neg (by omega), if_pos (by omega)]
    · rw [if_neg (by simp [h])]
      by_cases h2 : v < k
      · rw [if_pos h2, if_pos (by omega)]
      · rw [if_neg h2, if_neg (by omega)]
theorem zMc_1 {g : Nat → Int32} {v : Nat} : ∀ k : Nat, zMc (fun i => decide (i = v)) g k = if v < k then zCnt (fun c => !decide (zSt g v c = 0)) 7 else 0 := by
  intro k
  induction k with
  | zero => rw [if_neg (Nat.not_lt_zero _)]; rfl
  | succ k ih =>
    show (if decide (k = v) = true then zMc (fun i => decide (i = v)) g k + zCnt (fun c => !decide (zSt (zMgs (fun i => decide (i = v)) g k) k c = 0)) 7 else zMc (fun i => decide (i = v)) g k) = _
    rw [ih, zMgs_1]
    by_cases h : k = v
    · subst h
      rw [if_pos (by simp), if_neg (by omega), if_neg (by omega), if_pos (by omega), Nat.zero_add]
    · rw [if_neg (by simp [h])]
      by_cases h2 : v < k
      · rw [if_pos h2, if_pos (by omega)]
      · rw [if_neg h2, if_neg (by omega)]
theorem s_markAll {S : zM} (h : zInv S) (v1 v2 v3 v4 v5 : Int32) : ∃ S' : zM, zs_8 1 436 v1 v2 v3 v4 v5 S S' ∧ zInv S' := by
  suffices hh : ∃ (S' : zM) (r : Int32) (S1 : zM), f_X11_markAll 200 S 1 v1 = some (r, S1) ∧ f_X12_markAll 200 S1 436 v1 = some (r, S') ∧ zInv S' by
    obtain ⟨S', r, S1, q1, q2, q3⟩ := hh
    exact ⟨S', ⟨r, 200, S1, q1, q2⟩, q3⟩
  have r0 : zr S 1 0 = 2 := h.1.2.2.2.2.1.1.1
  obtain ⟨nd, nj, nv, hst⟩ := zBd_all.mp h.2.2.1
  have hC : zCx S 2 (zi S 437) nd nj nv := ⟨Or.inl rfl, h.1.2.1, h.2.1, hst.1, hst.2.1, hst.2.2.1, hst.2.2.2.1, hst.2.2.2.2.1, hst.2.2.2.2.2.1, fun v hv => (hst.2.2.2.2.2.2 v hv).w⟩
  obtain ⟨⟨b1, b2, b3⟩, e5, e6, e7⟩ := hC.n
  have ev : zi S 437 1003 = nI nv := hst.1.2.2.2.2.2
  -- from both sides' runs to the invariant
  have fin : ∀ (X Y : zM) (p : Nat → Bool), zF (fun a j => zPs 2 a j ∨ (16 ≤ a ∧ a ≤ 135)) S X → zCx X 2 (zMgs p (zi S 437) nv) nd nj nv → zF (fun a j => zQs a j ∨ (a = 437 ∧ 117 ≤ j ∧ j < 872)) X Y → zRx Y (zMgs p (zi S 437) nv) nd nj nv → zInv Y := by
    intro X Y p f1 c1 f2 c2
    have c3 : zCx Y 2 (zMgs p (zi S 437) nv) nd nj nv := c1.fo f2 (fun a k q => by unfold zQs at q; omega)
    refine h.now c2.1 (by rw [f2.s, f1.s]; exact Nat.le_refl _) (fun a k _ _ => by rw [f2.r, f1.r]) (fun a k ha => by rw [f2.i (by unfold zQs; omega), f1.i (by unfold zPs; omega)]) (by rw [c2.e]; exact c3.2.2.1) ?_
    rw [c2.e]
    exact zBd_all.mpr ⟨nd, nj, nv, zMgs_b hst nv (Nat.le_refl _)⟩
  unfold f_X11_markAll
  by_cases hw : v1 = -1
  · subst hw
    rw [if_pos rfl, zLet_d]
    obtain ⟨X, x1, x2, x3⟩ := x_markAllL hC r0 (n := 200) (by omega)
    have eX : ∀ k : Nat, zi X 437 k = zi S 437 k := fun k => x2.i (by unfold zPs; omega)
    have hR : zRx X (zi S 437) nd nj nv := ⟨h.1.fr x2, eX, hC.2.2.2⟩
    obtain ⟨Y, y1, y2, y3⟩ := m_markAllL (which := -1) (p := fun _ => true) (fun k hk => ⟨fun _ => Or.inl (by decide), fun _ => rfl⟩) hR (n := 200) (by omega)
    refine ⟨Y, _, X, x1, ?_, fin X Y _ x2 x3 y2 y3⟩
    unfold f_X12_markAll
    rw [zLet_d, zLet_d, if_pos rfl]
    exact y1
  · rw [if_neg hw, r0, zChk_t (by decide), e7, zwN (by omega)]
    by_cases hv : zU v1 nv
    · obtain ⟨v, hv1, rfl⟩ := hv.k
      rw [if_pos hv, zLet_d, if_neg (show ¬ (1 : Int32) = 0 by decide)]
      obtain ⟨X, x1, x2, x3⟩ := x_markDive hC hv1 (n := 200) (by omega)
      rw [x1, zB2_s]
      have x2' : zF (fun a j => zPs 2 a j ∨ (16 ≤ a ∧ a ≤ 135)) S X := x2.mo (fun a j q => by
        rcases q with q | q
        · exact Or.inl q
        · exact Or.inr (by omega))
      have eX : ∀ k : Nat, zi X 437 k = zi S 437 k := fun k => x2'.i (by unfold zPs; omega)
      have hR : zRx X (zi S 437) nd nj nv := ⟨h.1.fr x2, eX, hC.2.2.2⟩
      obtain ⟨Y, y1, y2, y3⟩ := m_markAllL (which := nI v) (p := fun i => decide (i = v)) (fun k hk => by
        constructor
        · intro q
          exact Or.inr (by rw [of_decide_eq_true q])
        · rintro (q | q)
          · exact absurd q (nI_pos (by omega))
          · exact decide_eq_true (nI_inj q (by omega) (by omega))) hR (n := 200) (by omega)
      have em : zMgs (fun i => decide (i = v)) (zi S 437) nv = zMg (zi S 437) v := by rw [zMgs_1, if_pos hv1]
      refine ⟨Y, _, X, rfl, ?_, fin X Y _ x2' (by rw [em]; exact x3) y2 y3⟩
      unfold f_X12_markAll
      rw [zLet_d, zLet_d, if_neg (show ¬ nI v = -1 from fun q => hw q), m_isDive hR.1 b3 (by rw [eX]; exact ev), if_pos hv, zB1_s, if_neg (show ¬ (1 : Int32) = 0 by decide), y1, zMc_1, if_pos hv1]
    · rw [if_neg hv, zLet_d, if_pos (show (0 : Int32) = 0 from rfl)]
      refine ⟨S, -1, S, rfl, ?_, h⟩
      unfold f_X12_markAll
      rw [zLet_d, zLet_d, if_neg hw, m_isDive h.1 b3 ev, if_neg hv, zB1_s, if_pos rfl]
