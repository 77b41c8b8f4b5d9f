/-! worlds: the reference's rounds -/
theorem zPar_told {U : zM} {g : Nat → Int32} {nd nj nv : Nat} (hz : zBz g nd nj nv) (e29 : zi U 436 29 = -1) (e32 : zi U 436 32 = 0) (e33 : zi U 436 33 = 0) (e30 : zi U 436 30 = g 878) (e31 : zi U 436 31 = g 879) : zPar U g g nv := by
  obtain ⟨hi, hhi, e1⟩ := hz.2.2.2.2.2.1.2.1.k
  obtain ⟨lo, hlo, e2⟩ := hz.2.2.2.2.2.1.2.2.k
  refine ⟨⟨hi, lo, hhi, hlo, e30.trans e1, e31.trans e2, e1, e2⟩, fun _ _ _ => rfl, fun v hv => ⟨rfl, rfl, rfl, rfl, ?_⟩⟩
  rw [e29, e32, e33]
  exact zGa_told
theorem zTg_c {g g1 : Nat → Int32} (h : zTg g) (e : ∀ k : Nat, 872 ≤ k → k ≤ 1000 → g1 k = g k) : zTg g1 := by
  obtain ⟨n, cd, h1, h2, h3⟩ := h
  exact ⟨n, cd, h1, by rw [e 1000 (by omega) (by omega)]; exact h2, by rw [zTx_c (g := g) (fun k hk => e _ (by omega) (by omega))]; exact h3⟩
theorem zWz_r {g : Nat → Int32} {hh x0 : Int32} {nd nj nv : Nat} (hz : zBz g nd nj nv) {i : Nat} (hi : 872 ≤ i) : ∀ t : Nat, (zWz g hh x0 nv nd t).2 i = g i := by
  have b3 := hz.1.2.2.1
  intro t
  induction t with
  | zero => rfl
  | succ t ih =>
    show zR2 (zWz g hh x0 nv nd t).2 hh (zWz g hh x0 nv nd t).1.1 nv i = g i
    unfold zR2
    rw [zMgs_nm (by unfold zNm; omega) nv b3, zFw_o nv (fun v hv => by omega)]
    exact ih
def zWq (a k : Nat) : Prop := zQt a k ∨ zCq a k ∨ (a = 437 ∧ 112 ≤ k ∧ k < 872)
theorem m_worldsL {S0 : zM} {nd nj nv N e : Nat} {g : Nat → Int32} {hh x0 : Int32} {K : Int32 → zM → Option (Int32 × zM)} (h : zRx S0 g nd nj nv) (hz : zBz g nd nj nv) (ht : zTg g) (e29 : zi S0 436 29 = -1) (e32 : zi S0 436 32 = 0) (e33 : zi S0 436 33 = 0) (e30 : zi S0 436 30 = g 878) (e31 : zi S0 436 31 = g 879) (hN : N ≤ 30) (he : e < nd) (hde : zDi g hh e nv = true) {n : Nat} (hn : 120 < n) : ∃ S1 : zM, f_X12_worlds_L78 n 436 hh (nI N) K n x0 0 0 S0 = K (nI (zWz g hh x0 nv nd N).1.2) S1 ∧ zFx zWq S0 S1 := by
  refine zloopR (fun f (s : Int32 × Int32 × Int32 × zM) => f_X12_worlds_L78 n 436 hh (nI N) K f s.1 s.2.1 s.2.2.1 s.2.2.2) (fun k s => s.1 = (zWz g hh x0 nv nd k).1.1 ∧ s.2.1 = nI (zWz g hh x0 nv nd k).1.2 ∧ s.2.2.1 = nI k ∧ zFx zWq S0 s.2.2.2 ∧ zRx s.2.2.2 (zWz g hh x0 nv nd k).2 nd nj nv) N (fun o => ∃ S1 : zM, o = K (nI (zWz g hh x0 nv nd N).1.2) S1 ∧ zFx zWq S0 S1) ?_ ?_ n (x0, 0, 0, S0) (by omega) ⟨rfl, rfl, rfl, zFx.rf, h⟩
  · rintro k f ⟨x, y, z, S⟩ hk ⟨h1, h2, h3, h4, h5⟩
    dsimp only at h1 h2 h3 h4 h5
    subst h1 h2 h3
    obtain ⟨ok1, ok2⟩ := zWz_ok (hh := hh) (x0 := x0) hz k
    have ok3 : ∀ i : Nat, 872 ≤ i → (zWz g hh x0 nv nd (k + 1)).2 i = g i := fun i hi => zWz_r hz hi (k + 1)
    have hW : zWz g hh x0 nv nd (k + 1) = ((zSd (zWz g hh x0 nv nd k).2 hh (zWz g hh x0 nv nd k).1.1 nv, if zGd (zR2 (zWz g hh x0 nv nd k).2 hh (zWz g hh x0 nv nd k).1.1 nv) hh nv nd = true then (zWz g hh x0 nv nd k).1.2 + 1 else (zWz g hh x0 nv nd k).1.2), zR2 (zWz g hh x0 nv nd k).2 hh (zWz g hh x0 nv nd k).1.1 nv) := rfl
    rw [hW] at ok3
    generalize zWz g hh x0 nv nd k = Z at h5 ok1 ok2 ok3 hW ⊢
    obtain ⟨⟨x, c⟩, r⟩ := Z
    dsimp only at h5 ok1 ok2 ok3 hW ⊢
    have hd2 : zDi (zR2 r hh x nv) hh e nv = true := by
      rw [zDi_c (g := g) nv (fun v hv => ⟨(zR2_f ok1).1.trans (ok2 v).1, (zR2_f ok1).2.trans (ok2 v).2⟩)]
      exact hde
    obtain ⟨w, hw⟩ := zWn_so (val := zVl (zR2 r hh x nv) 0) hd2 nd he
    have hgd : zGd (zR2 r hh x nv) hh nv nd = decide (zAd (zR2 r hh x nv) hh (zVl (zR2 r hh x nv) 1) w nv nd = 0) := by
      unfold zGd
      rw [hw]
    have hb2 : zBz (zR2 r hh x nv) nd nj nv := zR2_b ok1
    have ht2 : zTg (zR2 r hh x nv) := zTg_c ht (fun i h1 _ => ok3 i h1)
    obtain ⟨A, a1, a2, a3⟩ := m_flaws (hh := hh) (x0 := x) (K := fun (x61 : Int32) (S62 : zM) => zLet (fun (S66 : zM) => zB2 (f_X12_isRight n S66 436 hh) (fun r70 S71 => zLet (fun (x77 : Int32) => f_X12_worlds_L78 n 436 hh (nI N) K f x61 (nI c + x77) (nI k + (1 : Int32)) S71) (fun K79 => if r70 = 0 then K79 (0 : Int32) else K79 (1 : Int32)))) (fun K68 => f_X12_worlds_L163 n 436 hh K68 n (0 : Int32) S62)) h5 ok1 (n := n) (by omega)
    obtain ⟨B, c1, c2, c3⟩ := m_hallMarks (hh := hh) (K := fun (S66 : zM) => zB2 (f_X12_isRight n S66 436 hh) (fun r70 S71 => zLet (fun (x77 : Int32) => f_X12_worlds_L78 n 436 hh (nI N) K f (zSd r hh x nv) (nI c + x77) (nI k + (1 : Int32)) S71) (fun K79 => if r70 = 0 then K79 (0 : Int32) else K79 (1 : Int32)))) a3 (n := n) (by omega)
    have c3' : zRx B (zR2 r hh x nv) nd nj nv := c3
    have hFB : zFx zWq S0 B := (h4.tr (a2.mo (fun a j q => Or.inr (Or.inr q))).x).tr (c2.mo (fun a j q => q.elim Or.inl (fun z => Or.inr (Or.inr z)))).x
    have eP : ∀ i : Nat, 29 ≤ i → i ≤ 34 → zi B 436 i = zi S0 436 i := fun i h1 h2 => hFB.i (by unfold zWq zQt zCq; omega)
    have hpar : zPar B (zR2 r hh x nv) (zR2 r hh x nv) nv := zPar_told hb2 (by rw [eP _ (by omega) (by omega)]; exact e29) (by rw [eP _ (by omega) (by omega)]; exact e32) (by rw [eP _ (by omega) (by omega)]; exact e33) (by rw [eP _ (by omega) (by omega), ok3 _ (by omega)]; exact e30) (by rw [eP _ (by omega) (by omega), ok3 _ (by omega)]; exact e31)
    obtain ⟨C, d1, d2⟩ := m_isRight (hh := hh) c3' hb2 ht2 hpar hw hn
    have hFC : zFx zWq S0 C := hFB.tr (d2.mo (fun a j q => Or.inr (Or.inl q)))
    have hRC : zRx C (zR2 r hh x nv) nd nj nv := c3'.x d2 (fun k => by unfold zCq; omega)
    have hrun : f_X12_worlds_L78 n 436 hh (nI N) K (f + 1) x (nI c) (nI k) S = f_X12_worlds_L78 n 436 hh (nI N) K f (zSd r hh x nv) (nI c + (if zAd (zR2 r hh x nv) hh (zVl (zR2 r hh x nv) 1) w nv nd = 0 then 1 else 0)) (nI (k + 1)) C := by
      show f_X12_worlds_L78b n 436 hh (nI N) K (f_X12_worlds_L78 n 436 hh (nI N) K f) x (nI c) (nI k) S = _
      unfold f_X12_worlds_L78b
      rw [if_neg (nI_ge hk (by omega)), zLet_d, a1, zLet_d, c1, d1, zB2_s, zLet_d, nI_1]
      by_cases hg : zAd (zR2 r hh x nv) hh (zVl (zR2 r hh x nv) 1) w nv nd = 0
      · rw [if_pos hg, if_neg (show ¬ (1 : Int32) = 0 by decide)]
      · rw [if_neg hg, if_pos rfl]
    by_cases hg : zAd (zR2 r hh x nv) hh (zVl (zR2 r hh x nv) 1) w nv nd = 0
    · rw [hgd, if_pos (decide_eq_true hg)] at hW
      rw [if_pos hg, nI_1] at hrun
      exact ⟨(zSd r hh x nv, nI (c + 1), nI (k + 1), C), ⟨by rw [hW], by rw [hW], rfl, hFC, by rw [hW]; exact hRC⟩, hrun⟩
    · rw [hgd, if_neg (fun z => hg (of_decide_eq_true z))] at hW
      rw [if_neg hg, Int32.add_zero] at hrun
      exact ⟨(zSd r hh x nv, nI c, nI (k + 1), C), ⟨by rw [hW], by rw [hW], rfl, hFC, by rw [hW]; exact hRC⟩, hrun⟩
  · rintro f ⟨x, y, z, S⟩ ⟨h1, h2, h3, h4, h5⟩
    dsimp only at h1 h2 h3 h4 h5 ⊢
    subst h1 h2 h3
    refine ⟨S, ?_, h4⟩
    show f_X12_worlds_L78b n 436 hh (nI N) K (f_X12_worlds_L78 n 436 hh (nI N) K f) _ _ (nI N) S = _
    unfold f_X12_worlds_L78b
    rw [if_pos (Int32.le_refl _)]
