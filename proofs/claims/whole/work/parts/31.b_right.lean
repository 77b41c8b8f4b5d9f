/-! is the right one winning: the class -/
def zHp (g : Nat → Int32) (hh : Int32) (k : Nat) : Bool := decide (g (112 + 19 * k) = hh)
theorem zMgs_nm {p : Nat → Bool} {g : Nat → Int32} {i : Nat} (hi : zNm i) : ∀ k : Nat, k ≤ 40 → zMgs p g k i = g i := by
  intro k
  induction k with
  | zero => intro _; rfl
  | succ k ih =>
    intro hk
    show (if p k then zMg (zMgs p g k) k else zMgs p g k) i = g i
    by_cases q : p k = true
    · rw [if_pos q]
      unfold zMg
      rw [zSetM_o (zNm_t rfl hi (by omega))]
      exact ih (by omega)
    · rw [if_neg q]
      exact ih (by omega)
theorem x_rightL {S0 : zM} {nd nj nv : Nat} {g : Nat → Int32} {hh : Int32} {K : zM → Option (Int32 × zM)} (h : zCx S0 270 g nd nj nv) {n : Nat} (hn : 40 < n) : ∃ S1 : zM, f_X9_isRight_L2 n 270 hh K n 0 S0 = K S1 ∧ zF (fun a j => zPs 270 a j ∨ zWm a j) S0 S1 ∧ zCx S1 270 (zMgs (zHp g hh) g nv) nd nj nv := by
  have b3 := h.2.2.2.1.2.2.1
  refine zloopR (fun f (s : Int32 × zM) => f_X9_isRight_L2 n 270 hh K f s.1 s.2) (fun k s => s.1 = nI k ∧ zF (fun a j => zPs 270 a j ∨ zWm a j) S0 s.2 ∧ zCx s.2 270 (zMgs (zHp g hh) g k) nd nj nv) nv (fun o => ∃ S1 : zM, o = K S1 ∧ zF (fun a j => zPs 270 a j ∨ zWm a j) S0 S1 ∧ zCx S1 270 (zMgs (zHp g hh) g nv) nd nj nv) ?_ ?_ n (0, S0) (by omega) ⟨rfl, zF.rf, h⟩
  · rintro k f ⟨x, S⟩ hk ⟨h1, h3, h4⟩
    dsimp only at h1 h3 h4
    subst h1
    have r9 : zr S 270 9 = 280 := h4.2.1.1.2.2.2.2.2.2.1
    have l10 : zln S 280 = 40 := h4.2.1.2.2.1.2.2.2.2.2.2.2.2.1
    obtain ⟨d1, -⟩ := h4.2.1.2.2.2 k (by omega)
    obtain ⟨f2, -⟩ := h4.d hk
    rw [zMgs_nm (show zNm (112 + 19 * k) by unfold zNm; omega) k (by omega)] at f2
    obtain ⟨T, t1, t2, t3⟩ := x_markDive h4 hk hn
    have hs : zMgs (zHp g hh) g (k + 1) = if zHp g hh k then zMg (zMgs (zHp g hh) g k) k else zMgs (zHp g hh) g k := rfl
    have hrun : f_X9_isRight_L2 n 270 hh K (f + 1) (nI k) S = if g (112 + 19 * k) = hh then f_X9_isRight_L2 n 270 hh K f (nI (k + 1)) T else f_X9_isRight_L2 n 270 hh K f (nI (k + 1)) S := by
      show f_X9_isRight_L2b n 270 hh K (f_X9_isRight_L2 n 270 hh K f) (nI k) S = _
      unfold f_X9_isRight_L2b
      rw [h4.n.2.2.2, if_neg (nI_ge hk (by omega)), r9, zChk_t (by decide), l10, zChk_t (zix (by omega) (by omega)), nI_clamp (by omega), d1, zChk_t (by omega), f2, t1, zB2_s, nI_1]
    by_cases q : g (112 + 19 * k) = hh
    · rw [if_pos q] at hrun
      rw [if_pos (show zHp g hh k = true from decide_eq_true q)] at hs
      refine ⟨(nI (k + 1), T), ⟨rfl, h3.tr (t2.mo (fun a j z => ?_)), by rw [hs]; exact t3⟩, hrun⟩
      rcases z with z | z
      · exact Or.inl z
      · exact Or.inr (by unfold zWm; omega)
    · rw [if_neg q] at hrun
      rw [if_neg (show ¬ zHp g hh k = true from fun z => q (of_decide_eq_true z))] at hs
      exact ⟨(nI (k + 1), S), ⟨rfl, h3, by rw [hs]; exact h4⟩, hrun⟩
  · rintro f ⟨x, S⟩ ⟨h1, h3, h4⟩
    dsimp only at h1 h3 h4 ⊢
    subst h1
    refine ⟨S, ?_, h3, h4⟩
    show f_X9_isRight_L2b n 270 hh K (f_X9_isRight_L2 n 270 hh K f) (nI nv) S = _
    unfold f_X9_isRight_L2b
    rw [h4.n.2.2.2, if_pos (Int32.le_refl _)]
theorem x_isRight {S0 : zM} {nd nj nv w : Nat} {g : Nat → Int32} {hh : Int32} (h : zCx S0 270 g nd nj nv) (hz : zBz g nd nj nv) (hw : zWn (zMgs (zHp g hh) g nv) hh (zVl (zMgs (zHp g hh) g nv) 0) nv nd = some w) {n : Nat} (hn : 120 < n) : ∃ S1 : zM, f_X9_isRight n S0 270 hh = some (if (if zDi (zMgs (zHp g hh) g nv) hh w nv = true then nI (1 + zAd (zMgs (zHp g hh) g nv) hh (zVl (zMgs (zHp g hh) g nv) 1) w nv nd) else -4) = (1 : Int32) then 1 else 0, S1) ∧ zF (fun a j => zPs 270 a j ∨ zWm a j) S0 S1 ∧ zCx S1 270 (zMgs (zHp g hh) g nv) nd nj nv ∧ zBz (zMgs (zHp g hh) g nv) nd nj nv := by
  have b1 := hz.1.1
  have hb := zMgs_b (p := zHp g hh) hz nv (Nat.le_refl _)
  have hw8 := zWn_b nd w hw
  obtain ⟨A, a1, a2, a3⟩ := x_rightL (hh := hh) (K := fun (S2 : zM) => zB2 (f_X9_winner n S2 270 hh) (fun r6 S7 => zB2 (f_X9_placeOf n S7 270 hh r6 (1 : Int32)) (fun r13 S14 => if r13 = (1 : Int32) then some (((1 : Int32), S14)) else some (((0 : Int32), S14))))) h (n := n) (by omega)
  obtain ⟨B, c1, c2⟩ := x_winner (h := hh) a3 hb hn
  rw [hw] at c1
  have hB := a3.fr c2
  obtain ⟨C, d1, d2⟩ := x_placeOf (h := hh) (by' := 1) hB hb (show w < 8 by omega) hn
  refine ⟨C, ?_, (a2.tr (c2.mo (fun a j q => Or.inl q))).tr (d2.mo (fun a j q => Or.inl q)), hB.fr d2, hb⟩
  unfold f_X9_isRight
  rw [zLet_d, a1, c1, zB2_s, show zWi (some w) = nI w from rfl, d1, zB2_s]
  have e : ∀ r : Int32, (if r = 1 then some ((1 : Int32), C) else some (0, C)) = some (if r = 1 then 1 else 0, C) := by
    intro r
    by_cases q : r = 1
    · rw [if_pos q, if_pos q]
    · rw [if_neg q, if_neg q]
  exact e _
