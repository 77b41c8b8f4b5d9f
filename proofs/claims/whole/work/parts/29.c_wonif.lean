theorem zSetM_f {g M W M1 W1 : Nat → Int32} {t : Nat} (e : ∀ c : Nat, c < 7 → M1 c = M c ∧ W1 c = W c) : zSetM g t M1 W1 = zSetM g t M W := by
  funext k
  unfold zSetM
  by_cases h1 : t + 5 ≤ k ∧ k < t + 12
  · rw [if_pos h1, if_pos h1, (e _ (by omega)).1]
  · rw [if_neg h1, if_neg h1]
    by_cases h2 : t + 12 ≤ k ∧ k < t + 19
    · rw [if_pos h2, if_pos h2, (e _ (by omega)).2]
    · rw [if_neg h2, if_neg h2]
theorem zLn_c {g g1 : Nat → Int32} {v j d : Nat} (hj : j < 12) (hd : d < 8) (ed : g (112 + 19 * v + 1) = nI d) (e : ∀ k : Nat, zNm k → g1 k = g k) : zLn g1 v j = zLn g v j := by
  unfold zLn zDn
  rw [e (112 + 19 * v + 1) (by unfold zNm; omega), ed, nI_clamp (by omega), e (16 + 4 * j) (by unfold zNm; omega), e (17 + 4 * j) (by unfold zNm; omega), e (18 + 4 * j) (by unfold zNm; omega), e (19 + 4 * j) (by unfold zNm; omega), e (2 * d) (by unfold zNm; omega)]
theorem zNl_c {g g1 : Nat → Int32} {nd nj nv v c : Nat} (hB : zBs g nd nj nv) (hv : v < nv) (h2 : zU (g (112 + 19 * v + 12 + c)) (nj + 1)) (e : ∀ k : Nat, zNm k → g1 k = g k) (e5 : g1 (112 + 19 * v + 5 + c) = g (112 + 19 * v + 5 + c)) (e12 : g1 (112 + 19 * v + 12 + c) = g (112 + 19 * v + 12 + c)) : zNl g1 v c = zNl g v c := by
  obtain ⟨d, hd, ed⟩ := (hB.2.2.2.2.2.2 v hv).2.1.k
  obtain ⟨a, ha, ea⟩ := h2.k
  have b1 := hB.1.1
  have b2 := hB.1.2.1
  unfold zNl
  rw [e5, e12, ea, nI_clamp (by omega), zLn_c (d := d) (by omega) (by omega) ed e]
theorem x_takeLeansOff {S0 : zM} {nd nj nv : Nat} {g : Nat → Int32} (h : zCx S0 270 g nd nj nv) (hz : zBz g nd nj nv) {n : Nat} (hn : 40 < n) : ∃ S1 : zM, f_X9_takeLeansOff n S0 270 = some S1 ∧ zF zWm S0 S1 ∧ zCx S1 270 (zIm (zLf g) g nv) nd nj nv := by
  have b3 := h.2.2.2.1.2.2.1
  unfold f_X9_takeLeansOff
  rw [zLet_d]
  refine zloopR (fun f (s : Int32 × zM) => f_X9_takeLeansOff_L2 n 270 (fun S1 => some S1) f s.1 s.2) (fun k s => s.1 = nI k ∧ zF zWm S0 s.2 ∧ zCx s.2 270 (zIm (zLf g) g k) nd nj nv) nv (fun o => ∃ S1 : zM, o = some S1 ∧ zF zWm S0 S1 ∧ zCx S1 270 (zIm (zLf g) g nv) nd nj nv) ?_ ?_ n (0, S0) (by omega) ⟨rfl, zF.rf, h⟩
  · rintro k f ⟨x, S⟩ hk ⟨h1, h2, h3⟩
    dsimp only at h1 h2 h3
    subst h1
    have r9 : zr S 270 9 = 280 := h3.2.1.1.2.2.2.2.2.2.1
    have l10 : zln S 280 = 40 := h3.2.1.2.2.1.2.2.2.2.2.2.2.2.1
    have eg : ∀ i : Nat, 112 + 19 * k ≤ i → zIm (zLf g) g k i = g i := fun i hi => zIm_o k (fun v hv => by omega)
    have h6 := (hz.2.2.2.2.2.2 k hk).2.2.2.2.2.1
    obtain ⟨T, t1, t2, t3⟩ := x_leansD (K := fun S14 => f_X9_takeLeansOff_L2 n 270 (fun S1 => some S1) f (nI k + 1) S14) h3 hk (fun c hc => by rw [eg _ (by omega), eg _ (by omega)]; exact ⟨(h6 c hc).1, (h6 c hc).2.1⟩) hn
    have hset : zSetM (zIm (zLf g) g k) (112 + 19 * k) (zLf (zIm (zLf g) g k) k).1 (zLf (zIm (zLf g) g k) k).2 = zIm (zLf g) g (k + 1) :=
      zSetM_f (fun c hc => ⟨zNl_c hz.s hk (h6 c hc).2.1 (fun i hi => zIm_n (by omega) hi) (eg _ (by omega)) (eg _ (by omega)), eg _ (by omega)⟩)
    rw [hset] at t3
    refine ⟨(nI (k + 1), T), ⟨rfl, h2.tr t2, t3⟩, ?_⟩
    show f_X9_takeLeansOff_L2b n 270 (fun S1 => some S1) (f_X9_takeLeansOff_L2 n 270 (fun S1 => some S1) f) (nI k) S = _
    unfold f_X9_takeLeansOff_L2b
    rw [h3.n.2.2.2, if_neg (nI_ge hk (by omega)), r9, zChk_t (by decide), l10, zChk_t (zix (by omega) (by omega)), zLet_d, t1, nI_1]
  · rintro f ⟨x, S⟩ ⟨h1, h2, h3⟩
    dsimp only at h1 h2 h3 ⊢
    subst h1
    refine ⟨S, ?_, h2, h3⟩
    show f_X9_takeLeansOff_L2b n 270 (fun S1 => some S1) (f_X9_takeLeansOff_L2 n 270 (fun S1 => some S1) f) (nI nv) S = _
    unfold f_X9_takeLeansOff_L2b
    rw [h3.n.2.2.2, if_pos (Int32.le_refl _)]
/-- the bounds of the rows so made -/
theorem zOc_b {g : Nat → Int32} {nd nj nv c0 : Nat} (hz : zBz g nd nj nv) : zBz (zIm (zOc g c0) g nv) nd nj nv := by
  refine zIm_b hz (fun v hv => ?_) nv (Nat.le_refl _)
  have h6 := (hz.2.2.2.2.2.2 v hv).2.2.2.2.2
  refine ⟨fun c hc => ?_, fun c c1 hc hc1 hne => ?_⟩
  · by_cases q : c = c0
    · have e1 : (zOc g c0 v).1 c = 0 := if_pos q
      have e2 : (zOc g c0 v).2 c = 0 := if_pos q
      rw [e1, e2]
      exact ⟨zU_n (k := 0) (by omega) (by omega), zU_n (k := 0) (by omega) (by have := hz.1.2.1; omega), fun _ => rfl⟩
    · have e1 : (zOc g c0 v).1 c = g (112 + 19 * v + 5 + c) := if_neg q
      have e2 : (zOc g c0 v).2 c = g (112 + 19 * v + 12 + c) := if_neg q
      rw [e1, e2]
      exact h6.1 c hc
  · by_cases q : c = c0
    · have e2 : (zOc g c0 v).2 c = 0 := if_pos q
      exact fun _ => e2
    · have e2 : (zOc g c0 v).2 c = g (112 + 19 * v + 12 + c) := if_neg q
      by_cases q1 : c1 = c0
      · have e3 : (zOc g c0 v).2 c1 = 0 := if_pos q1
        rw [e3]
        exact fun z => z
      · have e3 : (zOc g c0 v).2 c1 = g (112 + 19 * v + 12 + c1) := if_neg q1
        rw [e2, e3]
        exact h6.2 c c1 hc hc1 hne
theorem zLf_b {g : Nat → Int32} {nd nj nv : Nat} (hz : zBz g nd nj nv) : zBz (zIm (zLf g) g nv) nd nj nv := by
  refine zIm_b hz (fun v hv => ?_) nv (Nat.le_refl _)
  have h6 := (hz.2.2.2.2.2.2 v hv).2.2.2.2.2
  refine ⟨fun c hc => ?_, fun c c1 hc hc1 hne => h6.2 c c1 hc hc1 hne⟩
  obtain ⟨a1, a2, a3⟩ := h6.1 c hc
  show zU (zNl g v c) 22 ∧ zU (g (112 + 19 * v + 12 + c)) (nj + 1) ∧ (zNl g v c = 0 → g (112 + 19 * v + 12 + c) = 0)
  by_cases q1 : g (112 + 19 * v + 5 + c) = 0
  · have e : zNl g v c = 0 := if_pos q1
    rw [e]
    exact ⟨zU_n (k := 0) (by omega) (by omega), a2, fun _ => a3 q1⟩
  · by_cases q2 : g (112 + 19 * v + 12 + c) = 0
    · have e : zNl g v c = g (112 + 19 * v + 5 + c) := by unfold zNl; rw [if_neg q1, if_pos q2]
      rw [e]
      exact ⟨a1, a2, fun _ => q2⟩
    · obtain ⟨m, l, hm, hl, hj, ej, em, el, en⟩ := zNl_k hz.s a1 a2 q1 q2
      rw [en]
      exact ⟨zU_n (by omega) (by omega), a2, fun z => absurd z (nI_ne0 (by omega) (by omega))⟩
/-- the panels of the rows so made -/
theorem zIm_par {g : Nat → Int32} {nd nj nv : Nat} {F : Nat → (Nat → Int32) × (Nat → Int32)} (hz : zBz g nd nj nv) {U : zM} (e30 : zi U 436 30 = g 878) (e31 : zi U 436 31 = g 879) (hF : ∀ v : Nat, v < nv → zGa (zPe g (zi U 436 29) v) (zMe g (zi U 436 32) (zi U 436 33) (zi U 436 34) v) 7 = zGa (fun c => !decide ((F v).1 c = 0)) (fun c => (F v).1 c - 1) 7) : zPar U g (zIm F g nv) nv := by
  have b3 := hz.1.2.2.1
  obtain ⟨hi, hhi, e1⟩ := hz.2.2.2.2.2.1.2.1.k
  obtain ⟨lo, hlo, e2⟩ := hz.2.2.2.2.2.1.2.2.k
  have en : ∀ k : Nat, zNm k → zIm F g nv k = g k := fun k hk => zIm_n b3 hk
  refine ⟨⟨hi, lo, hhi, hlo, e30.trans e1, e31.trans e2, (en _ (by unfold zNm; omega)).trans e1, (en _ (by unfold zNm; omega)).trans e2⟩, fun k h1 h2 => en k (by unfold zNm; omega), fun v hv => ⟨en _ (by unfold zNm; omega), en _ (by unfold zNm; omega), en _ (by unfold zNm; omega), en _ (by unfold zNm; omega), ?_⟩⟩
  rw [hF v hv]
  unfold zPn
  exact zGa_c (fun c hc => by rw [(zIm_m hc nv hv).1]) (fun c hc _ => by rw [(zIm_m hc nv hv).1])
theorem zOc_par {g : Nat → Int32} {nd nj nv c0 : Nat} (hz : zBz g nd nj nv) (hc0 : c0 < 7) {U : zM} (e29 : zi U 436 29 = nI c0) (e32 : zi U 436 32 = 0) (e33 : zi U 436 33 = 0) (e30 : zi U 436 30 = g 878) (e31 : zi U 436 31 = g 879) : zPar U g (zIm (zOc g c0) g nv) nv := by
  refine zIm_par hz e30 e31 (fun v hv => ?_)
  rw [e29, e32, e33]
  refine zGa_c (fun c hc => ?_) (fun c hc hp => ?_)
  · unfold zPe
    by_cases q : c = c0
    · have e1 : (zOc g c0 v).1 c = 0 := if_pos q
      rw [e1]
      simp [q]
    · have e1 : (zOc g c0 v).1 c = g (112 + 19 * v + 5 + c) := if_neg q
      have : ¬ nI c = nI c0 := fun z => q (nI_inj z (by omega) (by omega))
      rw [e1]
      simp [this]
  · have q : ¬ c = c0 := fun q => by
      unfold zPe at hp
      simp [q] at hp
    have e1 : (zOc g c0 v).1 c = g (112 + 19 * v + 5 + c) := if_neg q
    rw [e1]
    unfold zMe
    rw [zbt0 c hc, if_neg (by decide), if_pos (Or.inl rfl)]
theorem zLf_par {g : Nat → Int32} {nd nj nv : Nat} (hz : zBz g nd nj nv) {U : zM} (e29 : zi U 436 29 = -1) (e32 : zi U 436 32 = 1) (e33 : zi U 436 33 = 0) (e30 : zi U 436 30 = g 878) (e31 : zi U 436 31 = g 879) : zPar U g (zIm (zLf g) g nv) nv := by
  refine zIm_par hz e30 e31 (fun v hv => ?_)
  have h6 := (hz.2.2.2.2.2.2 v hv).2.2.2.2.2
  rw [e29, e32, e33]
  have hpe : ∀ c : Nat, c < 7 → zPe g (-1) v c = !decide (g (112 + 19 * v + 5 + c) = 0) := fun c hc => by
    unfold zPe
    have : ¬ nI c = (-1 : Int32) := fun q => by
      have h0 := nI_pos (show c < 2 ^ 31 by omega)
      rw [q] at h0
      exact h0 (by decide)
    simp [this]
  refine zGa_c (fun c hc => ?_) (fun c hc hp => ?_)
  · rw [hpe c hc]
    show _ = !decide (zNl g v c = 0)
    obtain ⟨a1, a2, a3⟩ := h6.1 c hc
    by_cases q1 : g (112 + 19 * v + 5 + c) = 0
    · have e : zNl g v c = 0 := if_pos q1
      rw [e, q1]
    · by_cases q2 : g (112 + 19 * v + 12 + c) = 0
      · have e : zNl g v c = g (112 + 19 * v + 5 + c) := by unfold zNl; rw [if_neg q1, if_pos q2]
        rw [e]
      · obtain ⟨m, l, hm, hl, hj, ej, em, el, en⟩ := zNl_k hz.s a1 a2 q1 q2
        have : ¬ zNl g v c = 0 := by rw [en]; exact nI_ne0 (by omega) (by omega)
        simp [q1, this]
  · rw [hpe c hc] at hp
    have q1 : ¬ g (112 + 19 * v + 5 + c) = 0 := fun z => by simp [z] at hp
    obtain ⟨a1, a2, a3⟩ := h6.1 c hc
    show _ = zNl g v c - 1
    unfold zMe
    rw [zbt0 c hc, if_neg (by decide)]
    by_cases q2 : g (112 + 19 * v + 12 + c) = 0
    · have e : zNl g v c = g (112 + 19 * v + 5 + c) := by unfold zNl; rw [if_neg q1, if_pos q2]
      rw [e, q2, if_pos (Or.inr (by decide))]
    · obtain ⟨m, l, hm, hl, hj, ej, em, el, en⟩ := zNl_k hz.s a1 a2 q1 q2
      have b2 := hz.1.2.1
      rw [if_neg (fun z => z.elim (by decide) (fun y => by rw [ej] at y; exact nI_pos (by omega) y)), em, el, (zmx m hm l hl).2, en, nI_pred]
