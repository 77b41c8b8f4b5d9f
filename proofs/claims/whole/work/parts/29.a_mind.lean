/-! the class's third State: a copy of the row, to be changed -/
def zFj (S S1 : zM) : Prop := zsz S1 = zsz S ∧ zln S1 = zln S ∧ (∀ a k : Nat, a ≠ 279 → zr S1 a k = zr S a k) ∧ ∀ a k : Nat, ¬ zScr a k → zi S1 a k = zi S a k
theorem zFj.tr {S S1 S2 : zM} (h : zFj S S1) (h2 : zFj S1 S2) : zFj S S2 :=
  ⟨h2.1.trans h.1, h2.2.1.trans h.2.1, fun a k q => (h2.2.2.1 a k q).trans (h.2.2.1 a k q), fun a k q => (h2.2.2.2 a k q).trans (h.2.2.2 a k q)⟩
theorem zF.j {W : Nat → Nat → Prop} {S S1 : zM} (h : zF W S S1) (hW : ∀ a k : Nat, W a k → zScr a k) : zFj S S1 :=
  ⟨h.s, h.n, fun a k _ => by rw [h.r], fun a k q => h.i (fun w => q (hW a k w))⟩
theorem zInv.jj {S S1 : zM} (h : zInv S) (f : zFj S S1) : zInv S1 := by
  obtain ⟨h1, h2, h3, h4, h5, h6, h7⟩ := h
  have e : ∀ a : Nat, a ≠ 10 ∧ a ≠ 13 ∧ a ≠ 14 ∧ a ≠ 15 ∧ (a < 270 ∨ 403 < a) ∧ (a < 405 ∨ 419 < a) ∧ a ≠ 436 ∧ (a < 445 ∨ 452 < a) → zi S1 a = zi S a := fun a ha => funext fun k => f.2.2.2 a k (zScr_n ha)
  have e8 : zi S1 436 8 = zi S 436 8 := f.2.2.2 _ _ (by unfold zScr; omega)
  have e33 : zi S1 436 33 = zi S 436 33 := f.2.2.2 _ _ (by unfold zScr; omega)
  have e437 := e 437 (by omega)
  have e438 := e 438 (by omega)
  have e1 := e 1 (by omega)
  have hs : zsz S ≤ zsz S1 := by rw [f.1]; exact Nat.le_refl _
  refine ⟨h1.j (b := 270) (Or.inr (Or.inr rfl)) f.1 f.2.1 (fun a k ha => f.2.2.1 a k ha), ?_, by rw [e437]; exact h3, by rw [e1, e8]; exact h4, ?_, fun d hd => ?_, by rw [e33]; exact h7⟩
  · rw [e437]
    exact h2.fr hs (fun j => f.2.2.1 _ _ (by omega)) (fun a k ha => by rw [e a (by omega)])
  · rw [e1, e438]
    intro hq
    exact ⟨(h5 hq).1.fr hs (fun j => f.2.2.1 _ _ (by omega)) (fun a k ha => by rw [e a (by omega)]), (h5 hq).2⟩
  · exact (h6 d hd).fr hs (f.2.2.1 _ _ (by omega)) (fun a k ha => by rw [e a (by omega)])
theorem zInv.mind {S : zM} (h : zInv S) {nd nj nv : Nat} (hC : zCx S 2 (zi S 437) nd nj nv) {n : Nat} (hn : 40 < n) : ∃ X : zM, f_X9_copyFrom n S 270 2 = some X ∧ zFj S X ∧ zCx X 270 (zi S 437) nd nj nv := by
  have hL := h.1
  obtain ⟨X, hX, xg, xs, xn, xr, xi⟩ := x9_copyFrom (S := S) (b := 270) (b1 := 2) (g := zi S 437) (by omega) (by omega) (by omega) (by omega) hL.2.2.2.1 hL.2.1 (by omega) h.2.1 h.2.2.1 hn
  have hj : zFj S X := ⟨xs, xn, xr, fun a k q => xi a k (fun w => q (by unfold zScr; omega))⟩
  exact ⟨X, hX, hj, Or.inr (Or.inr rfl), (h.jj hj).1.2.2.2.1, xg, hC.2.2.2⟩
theorem zCx.setM {S Y : zM} {b nd nj nv v : Nat} {g M W : Nat → Int32} (h : zCx S b g nd nj nv) (hv : v < nv) (f : zF (fun a j => (a = b + 15 + 3 * v ∨ a = b + 16 + 3 * v) ∧ j < 7) S Y) (hm : ∀ c : Nat, c < 7 → zi Y (b + 15 + 3 * v) c = if M c = 0 then -128 else M c - 1) (hw : ∀ c : Nat, c < 7 → zi Y (b + 16 + 3 * v) c = W c - 1) : zCx Y b (zSetM g (112 + 19 * v) M W) nd nj nv := by
  obtain ⟨h0, h1, h2, h3⟩ := h
  have b3 := h3.1.2.2.1
  exact ⟨h0, by rw [f.r, f.n]; exact h1, h2.setM (by omega) (by omega) f hm hw, h3.nm (fun k hk => zSetM_o (zNm_t rfl hk (by omega)))⟩
/-- the marks of the first k dives set anew -/
def zIm (F : Nat → (Nat → Int32) × (Nat → Int32)) (g : Nat → Int32) : Nat → (Nat → Int32)
  | 0 => g
  | k + 1 => zSetM (zIm F g k) (112 + 19 * k) (F k).1 (F k).2
theorem zIm_o {F : Nat → (Nat → Int32) × (Nat → Int32)} {g : Nat → Int32} {i : Nat} : ∀ k : Nat, (∀ v : Nat, v < k → ¬ (112 + 19 * v + 5 ≤ i ∧ i < 112 + 19 * v + 19)) → zIm F g k i = g i := by
  intro k
  induction k with
  | zero => intro _; rfl
  | succ k ih =>
    intro h
    show zSetM (zIm F g k) (112 + 19 * k) (F k).1 (F k).2 i = _
    rw [zSetM_o (h k (by omega))]
    exact ih (fun v hv => h v (by omega))
theorem zIm_n {F : Nat → (Nat → Int32) × (Nat → Int32)} {g : Nat → Int32} {i k : Nat} (hk : k ≤ 40) (hi : zNm i) : zIm F g k i = g i := zIm_o k (fun v hv => zNm_t rfl hi (by omega))
theorem zIm_m {F : Nat → (Nat → Int32) × (Nat → Int32)} {g : Nat → Int32} {v c : Nat} (hc : c < 7) : ∀ k : Nat, v < k → zIm F g k (112 + 19 * v + 5 + c) = (F v).1 c ∧ zIm F g k (112 + 19 * v + 12 + c) = (F v).2 c := by
  intro k
  induction k with
  | zero => intro h; omega
  | succ k ih =>
    intro h
    show zSetM (zIm F g k) (112 + 19 * k) (F k).1 (F k).2 _ = _ ∧ zSetM (zIm F g k) (112 + 19 * k) (F k).1 (F k).2 _ = _
    by_cases hv : v = k
    · subst hv
      exact ⟨zSetM_m hc, zSetM_w hc⟩
    · rw [zSetM_o (by omega), zSetM_o (by omega)]
      exact ih (by omega)
theorem zIm_b {F : Nat → (Nat → Int32) × (Nat → Int32)} {g : Nat → Int32} {nd nj nv : Nat} (h : zBz g nd nj nv) (hF : ∀ v : Nat, v < nv → (∀ c : Nat, c < 7 → zU ((F v).1 c) 22 ∧ zU ((F v).2 c) (nj + 1) ∧ ((F v).1 c = 0 → (F v).2 c = 0)) ∧ ∀ c c1 : Nat, c < 7 → c1 < 7 → c ≠ c1 → (F v).2 c = (F v).2 c1 → (F v).2 c = 0) : ∀ k : Nat, k ≤ nv → zBz (zIm F g k) nd nj nv := by
  have b3 := h.1.2.2.1
  intro k
  induction k with
  | zero => intro _; exact h
  | succ k ih =>
    intro hk
    exact zBd.setM (ih (by omega)) (hF k (by omega)).1 (hF k (by omega)).2 (by omega)
/-- one chair's marks off -/
def zOc (g : Nat → Int32) (c0 v : Nat) : (Nat → Int32) × (Nat → Int32) := (fun c => if c = c0 then 0 else g (112 + 19 * v + 5 + c), fun c => if c = c0 then 0 else g (112 + 19 * v + 12 + c))
def zWm (a _ : Nat) : Prop := 284 ≤ a ∧ a ≤ 403
theorem x_takeChairOff {S0 : zM} {nd nj nv c0 : Nat} {g : Nat → Int32} (h : zCx S0 270 g nd nj nv) (hc0 : c0 < 7) {n : Nat} (hn : 40 < n) : ∃ S1 : zM, f_X9_takeChairOff n S0 270 (nI c0) = some S1 ∧ zF zWm S0 S1 ∧ zCx S1 270 (zIm (zOc g c0) g nv) nd nj nv := by
  have b3 := h.2.2.2.1.2.2.1
  unfold f_X9_takeChairOff
  rw [zLet_d]
  refine zloopR (fun f (s : Int32 × zM) => f_X9_takeChairOff_L2 270 (nI c0) (fun S1 => some S1) f s.1 s.2) (fun k s => s.1 = nI k ∧ zF zWm S0 s.2 ∧ zCx s.2 270 (zIm (zOc g c0) g k) nd nj nv) nv (fun o => ∃ S1 : zM, o = some S1 ∧ zF zWm S0 S1 ∧ zCx S1 270 (zIm (zOc g c0) g nv) nd nj nv) ?_ ?_ n (0, S0) (by omega) ⟨rfl, zF.rf, h⟩
  · rintro k f ⟨x, S⟩ hk ⟨h1, h2, h3⟩
    dsimp only at h1 h2 h3
    subst h1
    have r9 : zr S 270 9 = 280 := h3.2.1.1.2.2.2.2.2.2.1
    have l10 : zln S 280 = 40 := h3.2.1.2.2.1.2.2.2.2.2.2.2.2.1
    obtain ⟨d1, d2, d3, d4, d5⟩ := h3.2.1.2.2.2 k (by omega)
    have eg : ∀ i : Nat, 112 + 19 * k ≤ i → zIm (zOc g c0) g k i = g i := fun i hi => zIm_o k (fun v hv => by omega)
    obtain ⟨-, -, -, -, -, hD⟩ := h3.d hk
    refine ⟨(nI (k + 1), zpI (zpI S (270 + 14 + 3 * k + 1) c0 (-128)) (270 + 14 + 3 * k + 2) c0 (-1)), ⟨rfl, ?_, ?_⟩, ?_⟩
    · exact zF.pI (zF.pI h2 (by unfold zWm; omega)) (by unfold zWm; omega)
    · refine h3.setM hk (zF.pI (zF.pI zF.rf ⟨by omega, hc0⟩) ⟨by omega, hc0⟩) (fun c hc => ?_) (fun c hc => ?_)
      · by_cases hcc : c = c0
        · subst hcc
          have em : (zOc g c k).1 c = 0 := if_pos rfl
          rw [em, if_pos rfl, mi_ne _ _ (by omega), show 270 + 15 + 3 * k = 270 + 14 + 3 * k + 1 by omega, mi_eq]
        · have := (hD c hc).1
          rw [eg _ (by omega)] at this
          have em : (zOc g c0 k).1 c = g (112 + 19 * k + 5 + c) := if_neg hcc
          rw [em, mi_ne _ _ (by omega), mi_ne _ _ (by omega), show 270 + 15 + 3 * k = 270 + 14 + 3 * k + 1 by omega, this]
      · by_cases hcc : c = c0
        · subst hcc
          have em : (zOc g c k).2 c = 0 := if_pos rfl
          rw [em, show 270 + 16 + 3 * k = 270 + 14 + 3 * k + 2 by omega, mi_eq]
          rfl
        · have := (hD c hc).2
          rw [eg _ (by omega)] at this
          have em : (zOc g c0 k).2 c = g (112 + 19 * k + 12 + c) := if_neg hcc
          rw [em, mi_ne _ _ (by omega), mi_ne _ _ (by omega), show 270 + 16 + 3 * k = 270 + 14 + 3 * k + 2 by omega, this]
    · show f_X9_takeChairOff_L2b 270 (nI c0) (fun S1 => some S1) (f_X9_takeChairOff_L2 270 (nI c0) (fun S1 => some S1) f) (nI k) S = _
      unfold f_X9_takeChairOff_L2b
      rw [h3.n.2.2.2, if_neg (nI_ge hk (by omega)), r9, zChk_t (by decide), l10, zChk_t (zix (by omega) (by omega)), nI_clamp (by omega), d1, zChk_t (by omega), x_tell (q := 270 + 14 + 3 * k) (by omega) (by omega) (by rw [show 270 + 14 + 3 * k + 1 = 270 + 15 + 3 * k by omega]; exact d4) (by rw [show 270 + 14 + 3 * k + 2 = 270 + 16 + 3 * k by omega]; exact d5) hc0, zB1_s, if_pos rfl, nI_1]
  · rintro f ⟨x, S⟩ ⟨h1, h2, h3⟩
    dsimp only at h1 h2 h3 ⊢
    subst h1
    refine ⟨S, ?_, h2, h3⟩
    show f_X9_takeChairOff_L2b 270 (nI c0) (fun S1 => some S1) (f_X9_takeChairOff_L2 270 (nI c0) (fun S1 => some S1) f) (nI nv) S = _
    unfold f_X9_takeChairOff_L2b
    rw [h3.n.2.2.2, if_pos (Int32.le_refl _)]
