/-! pairs, pairOdds -/
def zBl (g : Nat → Int32) (nv : Nat) : Nat → Nat → Nat → Nat → Int32 := fun p t l m => if zSf2 g l p 6 0 = true then 0 else if g (17 + 4 * t) = g (17 + 4 * m) then 0 else if zLs g nv p (g (17 + 4 * m)) ≤ 0 then 0 else if zLs g nv l (g (17 + 4 * t)) ≤ 0 then 0 else 1
theorem x_leansTo {S : zM} {p L : Nat} {x : Int32} (r5 : zr S 414 5 = 418) (l5 : zln S 418 = 72) (hp : p < 12) (hL : L < 6) (hx : zi S 418 (6 * p + L) = x) : f_X3_leansTo S 414 (nI p) (nI L) = some (if x ≤ 0 then 0 else 1) := by
  have n10 : ¬ (1 : Int32) = 0 := by decide
  have ei : nI p * (6 : Int32) + nI L = nI (6 * p + L) := by rw [zq6, nI_mul, nI_add, Nat.mul_comm]
  unfold f_X3_leansTo
  rw [zwi (n := 12) rfl, if_pos (zU_n hp (by omega)), zLet_d, if_neg n10, zwi (n := 6) rfl, if_pos (zU_n hL (by omega)), zLet_d, if_neg n10, r5, zChk_t (by decide), ei, l5, zChk_t (zix (by omega) (by omega)), nI_clamp (by omega), hx]
  split <;> rfl
theorem x_btwL {S : zM} {nj nv : Nat} {g : Nat → Int32} (hr : zr S 414 3 = 416 ∧ zr S 414 4 = 417 ∧ zr S 414 5 = 418) (hl : zln S 416 = 12 ∧ zln S 417 = 12 ∧ zln S 418 = 72) (hnj : nj ≤ 12) (hb : zB2p g nj) (h1 : ∀ j : Nat, j < nj → zi S 416 j = g (17 + 4 * j) ∧ zi S 417 j = nI (zHn g j 42)) (h2 : ∀ j l : Nat, j < 12 → l < 6 → zi S 418 (6 * j + l) = zLs g nv j (nI l)) {p t l m : Nat} (hp : p < nj) (ht : t < nj) (hl' : l < nj) (hm : m < nj) : f_X3_between S 414 (nI p) (nI t) (nI l) (nI m) = some (zBl g nv p t l m) := by
  have w1 : ∀ k : Nat, k < nj → f_X11_within (nI k) (12 : Int32) = 1 := fun k hk => by rw [zwi (n := 12) rfl, if_pos (zU_n (by omega) (by omega))]
  have n10 : ¬ (1 : Int32) = 0 := by decide
  obtain ⟨Lt, hLt, et⟩ := (hb t ht).2.1.k
  obtain ⟨Lm, hLm, em⟩ := (hb m hm).2.1.k
  obtain ⟨r3, r4, r5⟩ := hr
  obtain ⟨l3, l4, l5⟩ := hl
  have hA : (nI (zHn g p 42) &&& nI (zHn g l 42) = 0) = (zSf2 g l p 6 0 = false) := propext zHn_and
  have t1 := x_leansTo r5 l5 (show p < 12 by omega) hLm (h2 p Lm (by omega) hLm)
  have t2 := x_leansTo r5 l5 (show l < 12 by omega) hLt (h2 l Lt (by omega) hLt)
  unfold f_X3_between zBl
  rw [w1 t ht, zLet_d, if_neg n10, w1 m hm, zLet_d, if_neg n10, w1 p hp, zLet_d, if_neg n10, w1 l hl', zLet_d, if_neg n10, r3, zChk_t (by decide), l3, zChk_t (zix (by omega) (by omega)), zChk_t (zix (by omega) (by omega)), r4, zChk_t (by decide), l4, zChk_t (zix (by omega) (by omega)), zChk_t (zix (by omega) (by omega)), nI_clamp (show t < 2 ^ 31 by omega), nI_clamp (show m < 2 ^ 31 by omega), nI_clamp (show p < 2 ^ 31 by omega), nI_clamp (show l < 2 ^ 31 by omega), (h1 t ht).1, (h1 m hm).1, (h1 p hp).2, (h1 l hl').2, et, em]
  simp only [nLet, nB1, t1, t2, hA]
  rcases Classical.propComplete (nI Lt = nI Lm) with q1 | q1 <;> rcases Classical.propComplete (zLs g nv p (nI Lm) ≤ 0) with q2 | q2 <;> rcases Classical.propComplete (zLs g nv l (nI Lt) ≤ 0) with q3 | q3 <;> cases zSf2 g l p 6 0 <;> simp only [q1, q2, q3, n10, if_true, if_false, Bool.false_eq_true, Bool.true_eq_false]
theorem zIL_of {S : zM} {nj nv : Nat} {g : Nat → Int32} (h : zLay S) (hnj : nj ≤ 12) (hb : zB2p g nj) (e : zi S 414 2 = nI nj) (h1 : ∀ j : Nat, j < nj → zi S 416 j = g (17 + 4 * j) ∧ zi S 417 j = nI (zHn g j 42)) (h2 : ∀ j l : Nat, j < 12 → l < 6 → zi S 418 (6 * j + l) = zLs g nv j (nI l)) : zIL S nj (zBl g nv) := by
  obtain ⟨r0, r3, r4, r5, l5, l6, l7, l8⟩ := h.2.2.2.2.1.2.2.1.2.2.2.2
  exact ⟨r0, l5, e, fun S1 f p t l m hp ht hl hm => x_btwL ⟨by rw [f.r]; exact r3, by rw [f.r]; exact r4, by rw [f.r]; exact r5⟩ ⟨by rw [f.n]; exact l6, by rw [f.n]; exact l7, by rw [f.n]; exact l8⟩ hnj hb (fun j hj => by rw [f.i (by omega), f.i (by omega)]; exact h1 j hj) (fun j l hj hl => by rw [f.i (by omega)]; exact h2 j l hj hl) hp ht hl hm⟩
/-! the reference -/
def zLw (a k : Nat) : Prop := a = 445 ∨ (a = 436 ∧ (k = 11 ∨ (29 ≤ k ∧ k ≤ 32) ∨ (35 ≤ k ∧ k ≤ 38)))
theorem m_findLean2 {S0 : zM} {nd nj nv j : Nat} {g : Nat → Int32} {land : Int32} (h : zRx S0 g nd nj nv) (hz : zBz g nd nj nv) (hj : j < 12) (em : zi S0 436 33 = 0) {n : Nat} (hn : 40 < n) : ∃ S1 : zM, f_X12_findLean n S0 436 (nI j) land = some S1 ∧ zF zLw S0 S1 ∧ zRl S1 (zTl g j (fun k => decide (g (2 * zDn g k) = land)) nv) := by
  have b3 := h.2.2.1.2.2.1
  unfold f_X12_findLean
  simp only [nLet]
  refine zloopR (fun f (s : Int32 × zM) => f_X12_findLean_L12 n 436 (nI j) land (fun S11 => some S11) f s.1 s.2) (fun k s => s.1 = nI k ∧ zF zLw S0 s.2 ∧ zRl s.2 (zTl g j (fun k => decide (g (2 * zDn g k) = land)) k)) nv (fun o => ∃ S1 : zM, o = some S1 ∧ zF zLw S0 S1 ∧ zRl S1 (zTl g j (fun k => decide (g (2 * zDn g k) = land)) nv)) ?_ ?_ n (0, zpI (zpI S0 436 35 0) 436 36 0) (by omega) ⟨rfl, zF.pI (zF.pI zF.rf (Or.inr ⟨rfl, by decide⟩)) (Or.inr ⟨rfl, by decide⟩), by rw [mi_ne _ _ (by omega), mi_eq]; rfl, by rw [mi_eq]; rfl, fun q => absurd rfl q⟩
  · rintro k f ⟨x, S⟩ hk ⟨h1, h2, h3⟩
    dsimp only at h1 h2 h3 ⊢
    subst h1
    have hS : zRx S g nd nj nv := h.fr h2 (fun k => by unfold zLw; omega)
    have r0 : zr S 436 0 = 437 := hS.1.2.2.2.2.2.1.1
    have l0 : zln S 437 = 1004 := hS.1.2.2.2.2.2.2.1
    have ev : zi S 437 1003 = nI nv := by rw [hS.2.1]; exact hS.2.2.1.2.2.2.2.2
    have hnd := hS.2.2.1.1
    have h6 := hz.2.2.2.2.2.2 k hk
    obtain ⟨d, hd, ed⟩ := h6.2.1.k
    have hdn : zDn g k = d := by
      unfold zDn
      rw [ed]
      exact nI_clamp (by omega)
    have gd : f_X12_get S 436 (nI k) (1 : Int32) = some (nI d) := (m_get (k := 1) hS.1 (by omega) (by omega)).trans (congrArg some ((hS.2.1 _).trans ed))
    have e : zTl g j (fun k => decide (g (2 * zDn g k) = land)) (k + 1) = if decide (g (2 * zDn g k) = land) = true then (match zBy g k j with
      | none => zTl g j (fun k => decide (g (2 * zDn g k) = land)) k
      | some c => zTk (zTl g j (fun k => decide (g (2 * zDn g k) = land)) k) (g (112 + 19 * k + 5 + c) - 1 - zMd g k)) else zTl g j (fun k => decide (g (2 * zDn g k) = land)) k := rfl
    have hb0 : f_X12_findLean_L12 n 436 (nI j) land (fun S11 => some S11) (f + 1) (nI k) S = if g (2 * d) = land then zB2 (f_X12_middleOf n S 436 (nI k)) (fun r30 S31 => f_X12_findLean_L54 436 (nI j) (nI k) r30 (fun S37 => f_X12_findLean_L12 n 436 (nI j) land (fun S11 => some S11) f (nI (k + 1)) S37) n 0 S31) else f_X12_findLean_L12 n 436 (nI j) land (fun S11 => some S11) f (nI (k + 1)) S := by
      show f_X12_findLean_L12b n 436 (nI j) land (fun S11 => some S11) (f_X12_findLean_L12 n 436 (nI j) land (fun S11 => some S11) f) (nI k) S = _
      unfold f_X12_findLean_L12b
      rw [r0, zChk_t (by decide), l0, zq1003, zChk_t (zix (by omega) (by omega)), nI_clamp (by omega), ev, if_neg (nI_ge hk (by omega)), gd, zB1_s, show (2 : Int32) * nI d = nI (2 * d) by rw [show (2 : Int32) = nI 2 from rfl, nI_mul], zChk_t (zix (by omega) (by omega)), nI_clamp (by omega), hS.2.1, nI_1]
      simp only [nLet]
    rw [hb0]
    by_cases hq : g (2 * d) = land
    · rw [if_pos hq]
      obtain ⟨T, t1, t2⟩ := m_middleOf hS hz hk (show zi S 436 33 = 0 by rw [h2.i (by unfold zLw; omega)]; exact em) (n := n) (by omega)
      have hT : zRx T g nd nj nv := hS.fr t2 (fun k => by omega)
      rw [t1, zB2_s, m_leanL hT hz hk hj (by omega)]
      have h3T : zRl T (zTl g j (fun k => decide (g (2 * zDn g k) = land)) k) := by
        obtain ⟨u0, u1, u2⟩ := h3
        exact ⟨by rw [t2.i (by omega)]; exact u0, by rw [t2.i (by omega)]; exact u1, fun q => by rw [t2.i (by omega), t2.i (by omega)]; exact u2 q⟩
      have hST : zF zLw S0 T := h2.tr (t2.mo (fun a i q => by unfold zLw; omega))
      rw [if_pos (show decide (g (2 * zDn g k) = land) = true by rw [hdn]; exact decide_eq_true hq)] at e
      cases hzb : zBy g k j with
      | none =>
        refine ⟨(nI (k + 1), T), ⟨rfl, hST, ?_⟩, rfl⟩
        rw [e, hzb]; exact h3T
      | some c =>
        have hs := zBy_s h6 hj hzb
        have hp := zPn_pos hs.1 hs.2.2.1
        rw [if_neg (by omega)]
        refine ⟨(nI (k + 1), zUl T (g (112 + 19 * k + 5 + c) - 1 - zMd g k)), ⟨rfl, hST.tr ((zUl_f T _).mo (fun a i q => by unfold zLw; omega)), ?_⟩, rfl⟩
        rw [e, hzb]
        have hnT := zTl_n (g := g) (j := j) (q := fun k => decide (g (2 * zDn g k) = land)) k
        exact zUl_r h3T (by omega)
    · rw [if_neg hq]
      refine ⟨(nI (k + 1), S), ⟨rfl, h2, ?_⟩, rfl⟩
      rw [e, if_neg (show ¬ decide (g (2 * zDn g k) = land) = true by rw [hdn]; simp [hq])]; exact h3
  · rintro f ⟨x, S⟩ ⟨h1, h2, h3⟩
    dsimp only at h1 h2 h3 ⊢
    subst h1
    have hS : zRx S g nd nj nv := h.fr h2 (fun k => by unfold zLw; omega)
    have r0 : zr S 436 0 = 437 := hS.1.2.2.2.2.2.1.1
    have l0 : zln S 437 = 1004 := hS.1.2.2.2.2.2.2.1
    have ev : zi S 437 1003 = nI nv := by rw [hS.2.1]; exact hS.2.2.1.2.2.2.2.2
    refine ⟨S, ?_, h2, h3⟩
    show f_X12_findLean_L12b n 436 (nI j) land (fun S11 => some S11) (f_X12_findLean_L12 n 436 (nI j) land (fun S11 => some S11) f) (nI nv) S = _
    unfold f_X12_findLean_L12b
    rw [r0, zChk_t (by decide), l0, zq1003, zChk_t (zix (by omega) (by omega)), nI_clamp (by omega), ev, if_pos (Int32.le_refl _)]
theorem m_sumsJ {S0 : zM} {nd nj nv j : Nat} {g : Nat → Int32} {K : zM → Option zM} (h : zRx S0 g nd nj nv) (hz : zBz g nd nj nv) (hj : j < 12) (em : zi S0 436 33 = 0) {n : Nat} (hn : 40 < n) : ∃ S1 : zM, f_X12_findSums_L35 n 436 (nI j) K n 0 S0 = K S1 ∧ zF (fun a k => zLw a k ∨ (a = 446 ∧ 6 * j ≤ k)) S0 S1 ∧ ∀ l : Nat, l < 6 → zi S1 446 (6 * j + l) = zLs g nv j (nI l) := by
  refine zloopR (fun f (s : Int32 × zM) => f_X12_findSums_L35 n 436 (nI j) K f s.1 s.2) (fun c s => s.1 = nI c ∧ zF (fun a k => zLw a k ∨ (a = 446 ∧ 6 * j ≤ k)) S0 s.2 ∧ ∀ l : Nat, l < c → zi s.2 446 (6 * j + l) = zLs g nv j (nI l)) 6 (fun o => ∃ S1 : zM, o = K S1 ∧ zF (fun a k => zLw a k ∨ (a = 446 ∧ 6 * j ≤ k)) S0 S1 ∧ ∀ l : Nat, l < 6 → zi S1 446 (6 * j + l) = zLs g nv j (nI l)) ?_ ?_ n (0, S0) (by omega) ⟨rfl, zF.rf, fun j hj => absurd hj (Nat.not_lt_zero _)⟩
  · rintro c f ⟨y, S⟩ hc ⟨i1, i2, i3⟩
    dsimp only at i1 i2 i3
    subst i1
    have hS : zRx S g nd nj nv := h.fr i2 (fun k => by unfold zLw; omega)
    obtain ⟨A, a1, a2, a3, -⟩ := m_findLean2 (land := nI c) hS hz hj (by rw [i2.i (by unfold zLw; omega)]; exact em) hn
    obtain ⟨hr, hl⟩ := hS.1.2.2.2.2.2
    have r9 : zr A 436 39 = 446 := by rw [a2.r]; exact hr.2.2.2.2.2.2.2.2.2.1
    have l9 : zln A 446 = 72 := by rw [a2.n]; exact hl.2.2.2.2.2.2.2.2.2.1
    refine ⟨(nI (c + 1), zpI A 446 (6 * j + c) (zi A 436 35)), ⟨rfl, zF.pI (i2.tr (a2.mo (fun a k q => Or.inl q))) (Or.inr ⟨rfl, by omega⟩), fun l hl => ?_⟩, ?_⟩
    · dsimp only
      by_cases e : l = c
      · subst e
        rw [mi_eq, a3]; rfl
      · rw [mi_ne _ _ (by omega), a2.i (by unfold zLw; omega)]
        exact i3 l (by omega)
    · show f_X12_findSums_L35b n 436 (nI j) K (f_X12_findSums_L35 n 436 (nI j) K f) (nI c) S = _
      unfold f_X12_findSums_L35b
      rw [if_neg (show ¬ (6 : Int32) ≤ nI c from nI_ge (b := 6) hc (by omega)), a1, zB1_s, r9, zChk_t (by decide), l9, show (6 : Int32) * nI j + nI c = nI (6 * j + c) by rw [zq6, nI_mul, nI_add], zChk_t (zix (by omega) (by omega)), nI_clamp (show 6 * j + c < 2 ^ 31 by omega), zLet_d, nI_1]
  · rintro f ⟨y, S⟩ ⟨i1, i2, i3⟩
    dsimp only at i1 i2 i3 ⊢
    subst i1
    refine ⟨S, ?_, i2, i3⟩
    show f_X12_findSums_L35b n 436 (nI j) K (f_X12_findSums_L35 n 436 (nI j) K f) (nI 6) S = _
    unfold f_X12_findSums_L35b
    rw [if_pos (show (6 : Int32) ≤ nI 6 by decide)]
theorem m_togJ {S0 : zM} {nd nj nv j : Nat} {g : Nat → Int32} {K : zM → Option zM} (h : zRx S0 g nd nj nv) (hj : j < nj) {n : Nat} (hn : 40 < n) : ∃ S1 : zM, f_X12_findSums_L70 n 436 (nI j) K n 0 S0 = K S1 ∧ zF (fun a k => a = 448 ∧ 12 * j ≤ k) S0 S1 ∧ ∀ k : Nat, k < nj → zi S1 448 (12 * j + k) = if zSf2 g j k 6 0 = true then 1 else 0 := by
  have hnj := h.2.2.1.2.1
  refine zloopR (fun f (s : Int32 × zM) => f_X12_findSums_L70 n 436 (nI j) K f s.1 s.2) (fun c s => s.1 = nI c ∧ zF (fun a k => a = 448 ∧ 12 * j ≤ k) S0 s.2 ∧ ∀ k : Nat, k < c → zi s.2 448 (12 * j + k) = if zSf2 g j k 6 0 = true then 1 else 0) nj (fun o => ∃ S1 : zM, o = K S1 ∧ zF (fun a k => a = 448 ∧ 12 * j ≤ k) S0 S1 ∧ ∀ k : Nat, k < nj → zi S1 448 (12 * j + k) = if zSf2 g j k 6 0 = true then 1 else 0) ?_ ?_ n (0, S0) (by omega) ⟨rfl, zF.rf, fun j hj => absurd hj (Nat.not_lt_zero _)⟩
  · rintro c f ⟨y, S⟩ hc ⟨i1, i2, i3⟩
    dsimp only at i1 i2 i3
    subst i1
    have hS : zRx S g nd nj nv := h.fr i2 (fun k => by omega)
    have hs := m_sits (j := j) (k := c) hS.1 hS.2.1 (n := n) (by omega)
    obtain ⟨hr, hl⟩ := hS.1.2.2.2.2.2
    have r0 : zr S 436 0 = 437 := hr.1
    have l0 : zln S 437 = 1004 := hl.1
    have r1 : zr S 436 41 = 448 := hr.2.2.2.2.2.2.2.2.2.2.2.1
    have l1 : zln S 448 = 144 := hl.2.2.2.2.2.2.2.2.2.2.2.1
    have ej : zi S 437 1002 = nI nj := by rw [hS.2.1]; exact hS.2.2.1.2.2.2.2.1
    refine ⟨(nI (c + 1), zpI S 448 (12 * j + c) (if zSf2 g j c 6 0 = true then 1 else 0)), ⟨rfl, zF.pI i2 ⟨rfl, by omega⟩, fun l hl => ?_⟩, ?_⟩
    · dsimp only
      by_cases e : l = c
      · subst e
        rw [mi_eq]
      · rw [mi_ne _ _ (by omega)]
        exact i3 l (by omega)
    · show f_X12_findSums_L70b n 436 (nI j) K (f_X12_findSums_L70 n 436 (nI j) K f) (nI c) S = _
      unfold f_X12_findSums_L70b
      rw [r0, zChk_t (by decide), l0, zq1002, zChk_t (zix (by omega) (by omega)), nI_clamp (show 1002 < 2 ^ 31 by omega), ej, if_neg (nI_ge hc (by omega)), r1, zChk_t (by decide), hs, zB1_s, l1, show (12 : Int32) * nI j + nI c = nI (12 * j + c) by rw [zq12, nI_mul, nI_add], zChk_t (zix (by omega) (by omega)), zChk_t (show (if zSf2 g j c 6 0 = true then (1 : Int32) else 0) = 0 ∨ (if zSf2 g j c 6 0 = true then (1 : Int32) else 0) = 1 by split; exact Or.inr rfl; exact Or.inl rfl), nI_clamp (show 12 * j + c < 2 ^ 31 by omega), zLet_d, nI_1]
  · rintro f ⟨y, S⟩ ⟨i1, i2, i3⟩
    dsimp only at i1 i2 i3 ⊢
    subst i1
    have hS : zRx S g nd nj nv := h.fr i2 (fun k => by omega)
    obtain ⟨hr, hl⟩ := hS.1.2.2.2.2.2
    have r0 : zr S 436 0 = 437 := hr.1
    have l0 : zln S 437 = 1004 := hl.1
    have ej : zi S 437 1002 = nI nj := by rw [hS.2.1]; exact hS.2.2.1.2.2.2.2.1
    refine ⟨S, ?_, i2, i3⟩
    show f_X12_findSums_L70b n 436 (nI j) K (f_X12_findSums_L70 n 436 (nI j) K f) (nI nj) S = _
    unfold f_X12_findSums_L70b
    rw [r0, zChk_t (by decide), l0, zq1002, zChk_t (zix (by omega) (by omega)), nI_clamp (show 1002 < 2 ^ 31 by omega), ej, if_pos (Int32.le_refl _)]
def zWf (a k : Nat) : Prop := zLw a k ∨ a = 446 ∨ a = 447 ∨ a = 448
def zSu (S : zM) (g : Nat → Int32) (nj nv N : Nat) : Prop := ∀ j : Nat, j < N → zi S 447 j = g (17 + 4 * j) ∧ (∀ l : Nat, l < 6 → zi S 446 (6 * j + l) = zLs g nv j (nI l)) ∧ ∀ k : Nat, k < nj → zi S 448 (12 * j + k) = if zSf2 g j k 6 0 = true then 1 else 0
theorem m_findSums {S0 : zM} {nd nj nv : Nat} {g : Nat → Int32} (h : zRx S0 g nd nj nv) (hz : zBz g nd nj nv) (em : zi S0 436 33 = 0) {n : Nat} (hn : 40 < n) : ∃ S1 : zM, f_X12_findSums n S0 436 = some S1 ∧ zF zWf S0 S1 ∧ zSu S1 g nj nv nj := by
  have hnj := h.2.2.1.2.1
  unfold f_X12_findSums
  rw [zLet_d]
  refine zloopR (fun f (s : Int32 × zM) => f_X12_findSums_L2 n 436 (fun S1 => some S1) f s.1 s.2) (fun c s => s.1 = nI c ∧ zF zWf S0 s.2 ∧ zSu s.2 g nj nv c) nj (fun o => ∃ S1 : zM, o = some S1 ∧ zF zWf S0 S1 ∧ zSu S1 g nj nv nj) ?_ ?_ n (0, S0) (by omega) ⟨rfl, zF.rf, fun j hj => absurd hj (Nat.not_lt_zero _)⟩
  · rintro c f ⟨y, S⟩ hc ⟨i1, i2, i3⟩
    dsimp only at i1 i2 i3
    subst i1
    have hS : zRx S g nd nj nv := h.fr i2 (fun k => by unfold zWf zLw; omega)
    obtain ⟨hr, hl⟩ := hS.1.2.2.2.2.2
    have r0 : zr S 436 0 = 437 := hr.1
    have l0 : zln S 437 = 1004 := hl.1
    have r7 : zr S 436 40 = 447 := hr.2.2.2.2.2.2.2.2.2.2.1
    have l7 : zln S 447 = 12 := hl.2.2.2.2.2.2.2.2.2.2.1
    have ej : zi S 437 1002 = nI nj := by rw [hS.2.1]; exact hS.2.2.1.2.2.2.2.1
    have g1 : zF (fun a k => a = 447 ∧ k = c) S (zpI S 447 c (g (17 + 4 * c))) := zF_pI ⟨rfl, rfl⟩
    have h1 : zRx (zpI S 447 c (g (17 + 4 * c))) g nd nj nv := hS.fr g1 (fun k => by omega)
    obtain ⟨A, a1, a2, a3⟩ := m_sumsJ (K := fun S23 => f_X12_findSums_L70 n 436 (nI c) (fun S27 => f_X12_findSums_L2 n 436 (fun S1 => some S1) f (nI c + (1 : Int32)) S27) n (0 : Int32) S23) h1 hz (show c < 12 by omega) (by rw [mi_ne _ _ (by omega), i2.i (by unfold zWf zLw; omega)]; exact em) hn
    have hA : zRx A g nd nj nv := h1.fr a2 (fun k => by unfold zLw; omega)
    obtain ⟨B, b1, b2, b3⟩ := m_togJ (K := fun S27 => f_X12_findSums_L2 n 436 (fun S1 => some S1) f (nI c + (1 : Int32)) S27) hA hc hn
    have fB : zF zWf S B := ((g1.mo (V := zWf) (fun a k q => by unfold zWf; omega)).tr (a2.mo (fun a k q => by unfold zWf; rcases q with q | q; exact Or.inl q; exact Or.inr (Or.inl q.1)))).tr (b2.mo (fun a k q => by unfold zWf; omega))
    refine ⟨(nI (c + 1), B), ⟨rfl, i2.tr fB, fun j hj => ?_⟩, ?_⟩
    · dsimp only
      by_cases e : j = c
      · subst e
        refine ⟨by rw [b2.i (by omega), a2.i (by unfold zLw; omega), mi_eq], fun l hl => by rw [b2.i (by omega)]; exact a3 l hl, b3⟩
      · obtain ⟨x1, x2, x3⟩ := i3 j (by omega)
        refine ⟨by rw [b2.i (by omega), a2.i (by unfold zLw; omega), mi_ne _ _ (by omega)]; exact x1, fun l hl => by rw [b2.i (by omega), a2.i (by unfold zLw; omega), mi_ne _ _ (by omega)]; exact x2 l hl, fun k hk => by rw [b2.i (by omega), a2.i (by unfold zLw; omega), mi_ne _ _ (by omega)]; exact x3 k hk⟩
    · show f_X12_findSums_L2b n 436 (fun S1 => some S1) (f_X12_findSums_L2 n 436 (fun S1 => some S1) f) (nI c) S = _
      unfold f_X12_findSums_L2b
      rw [r0, zChk_t (by decide), l0, zq1002, zChk_t (zix (by omega) (by omega)), nI_clamp (show 1002 < 2 ^ 31 by omega), ej, if_neg (nI_ge hc (by omega)), r7, zChk_t (by decide), show (16 : Int32) + (4 : Int32) * nI c + (1 : Int32) = nI (17 + 4 * c) by rw [zq4, nI_mul, zq16, nI_add, nI_1, show 16 + 4 * c + 1 = 17 + 4 * c by omega], zChk_t (zix (by omega) (by omega)), l7, zChk_t (zix (by omega) (by omega)), nI_clamp (show 17 + 4 * c < 2 ^ 31 by omega), nI_clamp (show c < 2 ^ 31 by omega), hS.2.1]
      simp only [nLet]
      rw [a1, b1, nI_1]
  · rintro f ⟨y, S⟩ ⟨i1, i2, i3⟩
    dsimp only at i1 i2 i3 ⊢
    subst i1
    have hS : zRx S g nd nj nv := h.fr i2 (fun k => by unfold zWf zLw; omega)
    obtain ⟨hr, hl⟩ := hS.1.2.2.2.2.2
    have r0 : zr S 436 0 = 437 := hr.1
    have l0 : zln S 437 = 1004 := hl.1
    have ej : zi S 437 1002 = nI nj := by rw [hS.2.1]; exact hS.2.2.1.2.2.2.2.1
    refine ⟨S, ?_, i2, i3⟩
    show f_X12_findSums_L2b n 436 (fun S1 => some S1) (f_X12_findSums_L2 n 436 (fun S1 => some S1) f) (nI nj) S = _
    unfold f_X12_findSums_L2b
    rw [r0, zChk_t (by decide), l0, zq1002, zChk_t (zix (by omega) (by omega)), nI_clamp (show 1002 < 2 ^ 31 by omega), ej, if_pos (Int32.le_refl _)]
theorem m_pairsIn {S : zM} {nj nv i : Nat} {g : Nat → Int32} {D : Nat → Nat} (h : zLay S) (hnj : nj ≤ 12) (hb : zB2p g nj) (h1 : ∀ j l : Nat, j < nj → l < 6 → zi S 446 (6 * j + l) = zLs g nv j (nI l)) (h2 : ∀ j k : Nat, j < nj → k < nj → zi S 448 (12 * j + k) = if zSf2 g j k 6 0 = true then 1 else 0) (hD : ∀ j : Nat, j < nj → D j < nj ∧ zi S 447 j = g (17 + 4 * D j)) (hi : i < nj) {x : Int32} {K : Int32 → Option Int32} {n : Nat} (hn : 40 < n) : f_X12_pairsNow_L18 S 436 (nI i) K n x 0 = K (x + zGn (zBl g nv) D i) := by
  obtain ⟨hr, hl⟩ := h.2.2.2.2.2
  have r7 : zr S 436 40 = 447 := hr.2.2.2.2.2.2.2.2.2.2.1
  have l7 : zln S 447 = 12 := hl.2.2.2.2.2.2.2.2.2.2.1
  have r8 : zr S 436 41 = 448 := hr.2.2.2.2.2.2.2.2.2.2.2.1
  have l8 : zln S 448 = 144 := hl.2.2.2.2.2.2.2.2.2.2.2.1
  have r6 : zr S 436 39 = 446 := hr.2.2.2.2.2.2.2.2.2.1
  have l6 : zln S 446 = 72 := hl.2.2.2.2.2.2.2.2.2.1
  have key := zloop (fun f (s : Int32 × Int32) => f_X12_pairsNow_L18 S 436 (nI i) K f s.1 s.2) (fun k => (x + zSum (fun j => zBl g nv j (D j) i (D i)) k, nI k)) i (res := K (x + zGn (zBl g nv) D i)) (fun k f hk => ?_) (fun f => ?_) n (by omega)
  · have e : x + zSum (fun j => zBl g nv j (D j) i (D i)) 0 = x := Int32.add_zero x
    have key' : f_X12_pairsNow_L18 S 436 (nI i) K n (x + zSum (fun j => zBl g nv j (D j) i (D i)) 0) (nI 0) = K (x + zGn (zBl g nv) D i) := key
    rw [e] at key'
    exact key'
  · obtain ⟨dk, ek⟩ := hD k (by omega)
    obtain ⟨di, ei⟩ := hD i hi
    obtain ⟨Lk, hLk, gk⟩ := (hb (D k) dk).2.1.k
    obtain ⟨Li, hLi, gi⟩ := (hb (D i) di).2.1.k
    have s1 := h1 i Lk hi hLk
    have s2 := h1 k Li (by omega) hLi
    have s3 := h2 i k hi (by omega)
    rw [gk] at ek
    rw [gi] at ei
    have n10 : ¬ (1 : Int32) = 0 := by decide
    show f_X12_pairsNow_L18b S 436 (nI i) K (f_X12_pairsNow_L18 S 436 (nI i) K f) (x + zSum (fun j => zBl g nv j (D j) i (D i)) k) (nI k) = f_X12_pairsNow_L18 S 436 (nI i) K f (x + (zSum (fun j => zBl g nv j (D j) i (D i)) k + zBl g nv k (D k) i (D i))) (nI (k + 1))
    rw [← Int32.add_assoc]
    generalize x + zSum (fun j => zBl g nv j (D j) i (D i)) k = acc
    unfold f_X12_pairsNow_L18b zBl
    rw [if_neg (nI_ge hk (by omega)), r7, zChk_t (by decide), l7, zChk_t (zix (by omega) (by omega)), zChk_t (zix (by omega) (by omega)), nI_clamp (show i < 2 ^ 31 by omega), nI_clamp (show k < 2 ^ 31 by omega), ei, ek, gi, gk, nI_1, r8, r6, l8, l6, show (12 : Int32) * nI i + nI k = nI (12 * i + k) by rw [zq12, nI_mul, nI_add], show (6 : Int32) * nI i + nI Lk = nI (6 * i + Lk) by rw [zq6, nI_mul, nI_add], show (6 : Int32) * nI k + nI Li = nI (6 * k + Li) by rw [zq6, nI_mul, nI_add], nI_clamp (show 12 * i + k < 2 ^ 31 by omega), nI_clamp (show 6 * i + Lk < 2 ^ 31 by omega), nI_clamp (show 6 * k + Li < 2 ^ 31 by omega), s1, s2, s3]
    rw [zLet_d, zLet_d, zChk_t (show ¬ 448 = 0 by decide), zChk_t (show ¬ (nI (12 * i + k) < 0 ∨ 144 ≤ 12 * i + k) from zixc (by omega) (by omega)), zChk_t (show ¬ 446 = 0 by decide), zChk_t (show ¬ (nI k < 0 ∨ 12 ≤ k) from zixc (by omega) (by omega)), zChk_t (show ¬ (nI (6 * i + Lk) < 0 ∨ 72 ≤ 6 * i + Lk) from zixc (by omega) (by omega)), zChk_t (show ¬ (nI i < 0 ∨ 12 ≤ i) from zixc (by omega) (by omega)), zChk_t (show ¬ (nI (6 * k + Li) < 0 ∨ 72 ≤ 6 * k + Li) from zixc (by omega) (by omega))]
    simp only [eq_comm (a := nI Li) (b := nI Lk)]
    rcases Classical.propComplete (nI Lk = nI Li) with q1 | q1 <;> rcases Classical.propComplete (zLs g nv i (nI Lk) ≤ 0) with q2 | q2 <;> rcases Classical.propComplete (zLs g nv k (nI Li) ≤ 0) with q3 | q3 <;> cases zSf2 g i k 6 0 <;> simp only [q1, q2, q3, n10, if_true, if_false, Bool.false_eq_true, Bool.true_eq_false]
  · show f_X12_pairsNow_L18b S 436 (nI i) K (f_X12_pairsNow_L18 S 436 (nI i) K f) (x + zSum (fun j => zBl g nv j (D j) i (D i)) i) (nI i) = _
    unfold f_X12_pairsNow_L18b
    rw [if_pos (Int32.le_refl _)]
    rfl
theorem m_pairsNow {S : zM} {nj nv : Nat} {g : Nat → Int32} {D : Nat → Nat} (h : zLay S) (hnj : nj ≤ 12) (hb : zB2p g nj) (ej : zi S 437 1002 = nI nj) (h1 : ∀ j l : Nat, j < nj → l < 6 → zi S 446 (6 * j + l) = zLs g nv j (nI l)) (h2 : ∀ j k : Nat, j < nj → k < nj → zi S 448 (12 * j + k) = if zSf2 g j k 6 0 = true then 1 else 0) (hD : ∀ j : Nat, j < nj → D j < nj ∧ zi S 447 j = g (17 + 4 * D j)) {n : Nat} (hn : 40 < n) : f_X12_pairsNow n S 436 = some (zAl (zBl g nv) D nj) := by
  obtain ⟨hr, hl⟩ := id h.2.2.2.2.2
  have r0 : zr S 436 0 = 437 := hr.1
  have l0 : zln S 437 = 1004 := hl.1
  unfold f_X12_pairsNow
  rw [zLet_d]
  refine zloop (fun f (s : Int32 × Int32) => f_X12_pairsNow_L4 n S 436 (fun x1 => some x1) f s.1 s.2) (fun k => (zAl (zBl g nv) D k, nI k)) nj (fun k f hk => ?_) (fun f => ?_) n (by omega)
  · show f_X12_pairsNow_L4b n S 436 (fun x1 => some x1) (f_X12_pairsNow_L4 n S 436 (fun x1 => some x1) f) (zAl (zBl g nv) D k) (nI k) = f_X12_pairsNow_L4 n S 436 (fun x1 => some x1) f (zAl (zBl g nv) D k + zGn (zBl g nv) D k) (nI (k + 1))
    unfold f_X12_pairsNow_L4b
    rw [r0, zChk_t (by decide), l0, zq1002, zChk_t (zix (by omega) (by omega)), nI_clamp (show 1002 < 2 ^ 31 by omega), ej, if_neg (nI_ge hk (by omega)), zLet_d, m_pairsIn h hnj hb h1 h2 hD hk hn, nI_1]
  · show f_X12_pairsNow_L4b n S 436 (fun x1 => some x1) (f_X12_pairsNow_L4 n S 436 (fun x1 => some x1) f) (zAl (zBl g nv) D nj) (nI nj) = _
    unfold f_X12_pairsNow_L4b
    rw [r0, zChk_t (by decide), l0, zq1002, zChk_t (zix (by omega) (by omega)), nI_clamp (show 1002 < 2 ^ 31 by omega), ej, if_pos (Int32.le_refl _)]
theorem zJL_of {S : zM} {nj nv : Nat} {g : Nat → Int32} (h : zLay S) (hg : ∀ k : Nat, zi S 437 k = g k) (hnj : nj ≤ 12) (hb : zB2p g nj) (ej : g 1002 = nI nj) (hs : zSu S g nj nv nj) {n : Nat} (hn : 40 < n) : zJL n S nj (fun t => g (17 + 4 * t)) (zBl g nv) := by
  obtain ⟨hr, hl⟩ := id h.2.2.2.2.2
  have r7 : zr S 436 40 = 447 := hr.2.2.2.2.2.2.2.2.2.2.1
  have l7 : zln S 447 = 12 := hl.2.2.2.2.2.2.2.2.2.2.1
  refine ⟨⟨hr.1, r7, hl.1, l7, by rw [hg]; exact ej⟩, fun t _ => hg _, fun S1 f D hD => ?_⟩
  exact m_pairsNow (h.fr f) hnj hb (by rw [f.i (by omega), hg]; exact ej) (fun j l hj hl => by rw [f.i (by omega)]; exact (hs j hj).2.1 l hl) (fun j k hj hk => by rw [f.i (by omega)]; exact (hs j hj).2.2 k hk) hD hn
theorem zWf_s {a k : Nat} (h : zWf a k) : zScr a k := by
  unfold zWf zLw at h
  unfold zScr
  omega
theorem zWl_s {a k : Nat} (h : zWl a k) : zScr a k := by
  unfold zWl at h
  unfold zScr
  omega
theorem s_pairs {S : zM} (h : zInv S) (v1 v2 v3 v4 v5 : Int32) : ∃ S' : zM, zs_19 1 436 v1 v2 v3 v4 v5 S S' ∧ zInv S' := by
  suffices hh : ∃ (S' : zM) (r : Int32) (S1 : zM), f_X11_pairs 200 S 1 = some (r, S1) ∧ f_X12_pairs 200 S1 436 = some (r, S') ∧ zInv S' by
    obtain ⟨S', r, S1, q1, q2, q3⟩ := hh
    exact ⟨S', ⟨r, 200, S1, q1, q2⟩, q3⟩
  obtain ⟨nd, nj, nv, hC, hz, hR⟩ := h.z
  obtain ⟨⟨b1, b2, b3⟩, e5, e6, e7⟩ := hC.n
  have hL := h.1
  have r0 : zr S 1 0 = 2 := hL.2.2.2.2.1.1.1
  have r6 : zr S 1 6 = 414 := hL.2.2.2.2.1.1.2.2.2.2.2.2.1
  obtain ⟨X, x1, x2, x3, x4, x5⟩ := x_takeL hL hC hz (n := 200) (by omega)
  have hX : zInv X := h.fr (x2.mo (fun a k q => zWl_s q))
  have eX : ∀ k : Nat, zi X 437 k = zi S 437 k := fun k => x2.i (by unfold zWl; omega)
  have hRX : zRx X (zi S 437) nd nj nv := ⟨hX.1, eX, hC.2.2.2⟩
  obtain ⟨Y, y1, y2, y3⟩ := m_findSums hRX hz hX.2.2.2.2.2.2 (n := 200) (by omega)
  have hY : zInv Y := hX.fr (y2.mo (fun a k q => zWf_s q))
  have eY : ∀ k : Nat, zi Y 437 k = zi S 437 k := fun k => by rw [y2.i (by unfold zWf zLw; omega)]; exact eX k
  unfold f_X11_pairs
  rw [r6, zChk_t (by decide), r0, zChk_t (by decide), x1, zB1_s, x2.r, r6, zChk_t (by decide), xL_asIt (zIL_of hX.1 b2 hz.2.2.1 x3 x4 x5) (by omega) (by omega), zB1_s]
  refine ⟨Y, _, X, rfl, ?_, hY⟩
  unfold f_X12_pairs
  rw [y1, zB1_s, m_pairsNow (D := fun j => j) hY.1 b2 hz.2.2.1 (by rw [eY]; exact hz.1.2.2.2.2.1) (fun j l hj hl => (y3 j hj).2.1 l hl) (fun j k hj hk => (y3 j hj).2.2 k hk) (fun j hj => ⟨hj, (y3 j hj).1⟩) (by omega), zB1_s]
theorem s_pairOdds {S : zM} (h : zInv S) (v1 v2 v3 v4 v5 : Int32) : ∃ S' : zM, zs_20 1 436 v1 v2 v3 v4 v5 S S' ∧ zInv S' := by
  suffices hh : ∃ (S' : zM) (r : Int32) (S1 : zM), f_X11_pairOdds 200 S 1 v1 = some (r, S1) ∧ f_X12_pairOdds 200 S1 436 v1 = some (r, S') ∧ zInv S' by
    obtain ⟨S', r, S1, q1, q2, q3⟩ := hh
    exact ⟨S', ⟨r, 200, S1, q1, q2⟩, q3⟩
  obtain ⟨nd, nj, nv, hC, hz, hR⟩ := h.z
  obtain ⟨⟨b1, b2, b3⟩, e5, e6, e7⟩ := hC.n
  have hL := h.1
  have r0 : zr S 1 0 = 2 := hL.2.2.2.2.1.1.1
  have r6 : zr S 1 6 = 414 := hL.2.2.2.2.1.1.2.2.2.2.2.2.1
  have n10 : ¬ (1 : Int32) = 0 := by decide
  have ej := hz.1.2.2.2.2.1
  unfold f_X11_pairOdds
  rw [zwi (n := 2) rfl]
  by_cases hw : zU v1 2
  · rw [if_pos hw, zLet_d, if_neg n10, r0, zChk_t (by decide), e6]
    by_cases h7 : nj ≤ 7
    · obtain ⟨X, x1, x2, x3, x4, x5⟩ := x_takeL hL hC hz (n := 200) (by omega)
      have hX : zInv X := h.fr (x2.mo (fun a k q => zWl_s q))
      have hIL := zIL_of hX.1 b2 hz.2.2.1 x3 x4 x5
      have hm2 : ∀ Z : zM, zF (fun a k => a = 415 ∨ (a = 414 ∧ k = 1)) X Z → ∃ Y : zM, f_X12_pairOdds 200 Z 436 v1 = some (if v1 = 0 then zWy (zBl (zi S 437) nv) nj (zAl (zBl (zi S 437) nv) (fun j => j) nj) nj 0 (fun j => j) else nI (zFa nj), Y) ∧ zInv Y := by
        intro Z f
        have hZ : zInv Z := hX.fr (f.mo (fun a k q => by unfold zScr; omega))
        have eZ : ∀ k : Nat, zi Z 437 k = zi S 437 k := fun k => by rw [f.i (by omega), x2.i (by unfold zWl; omega)]
        obtain ⟨Y, y1, y2, y3⟩ := m_findSums ⟨hZ.1, eZ, hC.2.2.2⟩ hz hZ.2.2.2.2.2.2 (n := 200) (by omega)
        have hY : zInv Y := hZ.fr (y2.mo (fun a k q => zWf_s q))
        have eY : ∀ k : Nat, zi Y 437 k = zi S 437 k := fun k => by rw [y2.i (by unfold zWf zLw; omega)]; exact eZ k
        have y4 := zJL_of hY.1 eY b2 hz.2.2.1 ej y3 (n := 200) (by omega)
        have g1 : zF (fun a k => a = 436 ∧ (k = 42 ∨ k = 43)) Y (zpI (zpI Y 436 42 0) 436 43 0) := (zF_pI ⟨rfl, Or.inl rfl⟩).tr (zF_pI ⟨rfl, Or.inr rfl⟩)
        have hJ := y4.fr (g1.mo (fun a k q => Or.inr q))
        have hnow := y4.2.2 _ (g1.mo (fun a k q => Or.inr q)) (fun j => j) (fun j hj => ⟨hj, by rw [mi_ne _ _ (by omega), mi_ne _ _ (by omega)]; exact (y3 j hj).1⟩)
        obtain ⟨V, k1, k2, k3, k4⟩ := mL_ways (w := zAl (zBl (zi S 437) nv) (fun j => j) nj) h7 (n := 200) (by omega) nj 9 0 _ 0 (fun j => j) (by omega) (by omega) hJ (fun j hj => absurd hj (Nat.not_lt_zero _))
        have k1' : f_X12_deals 200 9 (zpI (zpI Y 436 42 0) 436 43 0) 436 (0 : Int32) (0 : Int32) (zAl (zBl (zi S 437) nv) (fun j => j) nj) = some V := k1
        rw [mi_ne _ _ (by omega), mi_eq, Int32.zero_add, zLv_0 h7] at k3
        rw [mi_eq, Int32.zero_add] at k4
        refine ⟨V, ?_, hY.fr ((g1.mo (fun a k q => by unfold zScr; omega)).tr (k2.mo (fun a k q => by unfold zScr; omega)))⟩
        obtain ⟨hr, hl⟩ := id hZ.1.2.2.2.2.2
        unfold f_X12_pairOdds
        rw [zisI (n := 2) rfl, if_pos hw, zLet_d, if_neg n10, hr.1, zChk_t (by decide), hl.1, zq1002, zChk_t (zix (by omega) (by omega)), nI_clamp (show 1002 < 2 ^ 31 by omega), eZ, ej, if_pos (show nI nj ≤ (7 : Int32) from nI_le (b := 7) h7 (by omega)), y1, zB1_s, zLet_d, zLet_d, hnow, zB1_s, k1', zB1_s, k3, k4]
        by_cases q : v1 = 0
        · rw [if_pos q, if_pos q]
        · rw [if_neg q, if_neg q]
      rw [if_pos (show nI nj ≤ (7 : Int32) from nI_le (b := 7) h7 (by omega)), r6, zChk_t (by decide), x1, zB1_s]
      by_cases q : v1 = 0
      · obtain ⟨Z, z1, z2⟩ := xL_good hIL h7 (n := 200) (by omega)
        obtain ⟨Y, y1, y2⟩ := hm2 Z z2
        rw [if_pos q, x2.r, r6, zChk_t (by decide), z1, zB2_s]
        rw [if_pos q] at y1
        exact ⟨Y, _, Z, rfl, y1, y2⟩
      · obtain ⟨Y, y1, y2⟩ := hm2 X zF.rf
        rw [if_neg q, x2.r, r6, zChk_t (by decide), xL_all h7 x3 (by omega), zB1_s]
        rw [if_neg q] at y1
        exact ⟨Y, _, X, rfl, y1, y2⟩
    · rw [if_neg (show ¬ nI nj ≤ (7 : Int32) from nI_ge (a := 7) (by omega) (by omega))]
      refine ⟨S, _, S, rfl, ?_, h⟩
      obtain ⟨hr, hl⟩ := id hL.2.2.2.2.2
      unfold f_X12_pairOdds
      rw [zisI (n := 2) rfl, if_pos hw, zLet_d, if_neg n10, hr.1, zChk_t (by decide), hl.1, zq1002, zChk_t (zix (by omega) (by omega)), nI_clamp (show 1002 < 2 ^ 31 by omega), ej, if_neg (show ¬ nI nj ≤ (7 : Int32) from nI_ge (a := 7) (by omega) (by omega))]
  · rw [if_neg hw, zLet_d, if_pos rfl]
    refine ⟨S, _, S, rfl, ?_, h⟩
    unfold f_X12_pairOdds
    rw [zisI (n := 2) rfl, if_neg hw, zLet_d, if_pos rfl]
