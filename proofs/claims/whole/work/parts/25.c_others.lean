/-! a State and the row that it holds, with the row's bounds -/
def zBs (g : Nat → Int32) (nd nj nv : Nat) : Prop := zBn g nd nj nv ∧ zB1p g nd ∧ zB2p g nj ∧ zB3p g ∧ zB4p g nj ∧ zB5p g ∧ ∀ v : Nat, v < nv → zB6w g nd (112 + 19 * v)
def zCx (S : zM) (b : Nat) (g : Nat → Int32) (nd nj nv : Nat) : Prop := (b = 2 ∨ b = 136 ∨ b = 270) ∧ zLayS (zr S) (zln S) b ∧ zRep S b g ∧ zBs g nd nj nv
/-- a State's own scratch; the reference's -/
def zPs (b a : Nat) (_ : Nat) : Prop := a = b + 8 ∨ a = b + 11 ∨ a = b + 12 ∨ a = b + 13
def zQs (a k : Nat) : Prop := (a = 436 ∧ k ≠ 8 ∧ k ≠ 33) ∨ (445 ≤ a ∧ a ≤ 451)
def zQt (a k : Nat) : Prop := (a = 436 ∧ k ≠ 8 ∧ ¬ (29 ≤ k ∧ k ≤ 34)) ∨ a = 445
theorem zQt.q {a k : Nat} (h : zQt a k) : zQs a k := by
  unfold zQt at h
  unfold zQs
  omega
theorem zCx.fr {S S1 : zM} {b nd nj nv : Nat} {g : Nat → Int32} (h : zCx S b g nd nj nv) (f : zF (zPs b) S S1) : zCx S1 b g nd nj nv := by
  obtain ⟨h0, h1, h2, h3⟩ := h
  refine ⟨h0, by rw [f.r, f.n]; exact h1, h2.fr (by rw [f.s]; exact Nat.le_refl _) (fun j => by rw [f.r]) (fun a k ha => f.i ?_), h3⟩
  unfold zPs
  omega
theorem zCx.fo {S S1 : zM} {b nd nj nv : Nat} {g : Nat → Int32} (h : zCx S b g nd nj nv) {W : Nat → Nat → Prop} (f : zF W S S1) (hW : ∀ a k : Nat, W a k → ¬ (b ≤ a ∧ a ≤ b + 7) ∧ ¬ (b + 14 ≤ a ∧ a ≤ b + 133) ∧ a < 453) : zCx S1 b g nd nj nv := by
  obtain ⟨h0, h1, h2, h3⟩ := h
  refine ⟨h0, by rw [f.r, f.n]; exact h1, h2.fr (by rw [f.s]; exact Nat.le_refl _) (fun j => by rw [f.r]) (fun a k ha => f.i (fun q => ?_)), h3⟩
  have := hW a k q
  omega
theorem zInv.cx {S : zM} (h : zInv S) : ∃ nd nj nv : Nat, zCx S 2 (zi S 437) nd nj nv := by
  obtain ⟨nd, nj, nv, c0, c1, c2, c3, c4, c5, c6⟩ := zBd_all.mp h.2.2.1
  exact ⟨nd, nj, nv, Or.inl rfl, h.1.2.1, h.2.1, c0, c1, c2, c3, c4, c5, fun v hv => (c6 v hv).w⟩
theorem zCx.n {S : zM} {b nd nj nv : Nat} {g : Nat → Int32} (h : zCx S b g nd nj nv) : (nd ≤ 8 ∧ nj ≤ 12 ∧ nv ≤ 40) ∧ zi S b 5 = nI nd ∧ zi S b 6 = nI nj ∧ zi S b 7 = nI nv := by
  obtain ⟨-, -, h2, ⟨b1, b2, b3, b4, b5, b6⟩, -⟩ := h
  exact ⟨⟨b1, b2, b3⟩, h2.2.2.2.1.1.trans b4, h2.2.2.2.1.2.1.trans b5, h2.2.2.2.1.2.2.trans b6⟩
theorem zCx.d {S : zM} {b nd nj nv : Nat} {g : Nat → Int32} (h : zCx S b g nd nj nv) {v : Nat} (hv : v < nv) : zRepD (zi S) (b + 14 + 3 * v) g (112 + 19 * v) := by
  obtain ⟨-, -, h2, ⟨b1, b2, b3, b4, b5, b6⟩, -⟩ := h
  exact h2.2.2.2.2.2.2 v (by rw [b6]; exact nI_lt hv (by omega)) (by omega)
theorem zCx.b6 {S : zM} {b nd nj nv : Nat} {g : Nat → Int32} (h : zCx S b g nd nj nv) {v : Nat} (hv : v < nv) : zB6w g nd (112 + 19 * v) := h.2.2.2.2.2.2.2.2.2 v hv
theorem zCx.j {S : zM} {b nd nj nv : Nat} {g : Nat → Int32} (h : zCx S b g nd nj nv) {j : Nat} (hj : j < nj) : zRepJ S (zr S (b + 9) j) j g := by
  obtain ⟨-, -, h2, ⟨b1, b2, b3, b4, b5, b6⟩, -⟩ := h
  exact h2.2.2.2.2.2.1 j (by rw [b5]; exact nI_lt hj (by omega)) (by omega)
theorem zCx.mark {S : zM} {b nd nj nv v j c : Nat} {g : Nat → Int32} (h : zCx S b g nd nj nv) (hv : v < nv) (hj : j < nj) (hc : c < 7) {n : Nat} (hn : 40 < n) : f_X9_markOf n S b (zr S (b + 9) j) (nI v) (b + 14 + 3 * v) (nI c) = some (zMk g v c j) := by
  obtain ⟨⟨b1, b2, b3⟩, e5, e6, e7⟩ := h.n
  exact x_markOf (d := 0) h.2.1 b1 e5 h.2.2.1.1 hv b3 e7 (fun w hw => h.d hw) h.2.2.1.2.2.2.2.1.1 (h.j hj) (h.b6 hv) hc hn
/-- the judge's number on a chair -/
def zSj (g : Nat → Int32) (v c : Nat) : Nat := (zSt g v c).toNatClampNeg - 1
theorem zSt_k {g : Nat → Int32} {nd nj nv v c : Nat} (hB : zBs g nd nj nv) (hv : v < nv) (hc : c < 7) : zSt g v c = 0 ∨ (zSt g v c = nI (zSj g v c + 1) ∧ zSj g v c < nj) := by
  obtain ⟨⟨b1, b2, b3, b4, b5, b6⟩, -, -, -, c4, -, c6⟩ := hB
  obtain ⟨a, ha, ea⟩ := (c6 v hv).1.k
  have hu := c4.1 (7 * a + c) (by omega)
  have e : zSt g v c = g (70 + (7 * a + c)) := by
    unfold zSt
    rw [ea, nI_clamp (by omega), show 70 + (7 * a + c) = 70 + 7 * a + c by omega]
  rw [← e] at hu
  obtain ⟨k, hk, ek⟩ := hu.k
  have hS : zSj g v c = k - 1 := by
    unfold zSj
    rw [ek, nI_clamp (by omega)]
  rw [ek, hS]
  rcases Nat.eq_zero_or_pos k with h | h
  · exact Or.inl (by rw [h]; rfl)
  · exact Or.inr ⟨by rw [show k - 1 + 1 = k by omega], by omega⟩
theorem zCx.seat {S : zM} {b nd nj nv v c : Nat} {g : Nat → Int32} (h : zCx S b g nd nj nv) (hv : v < nv) (hc : c < 7) : f_X9_seatOf S b (zi S (b + 14 + 3 * v) 2) (nI c) = some (zSt g v c - 1) := by
  obtain ⟨a, ha, ea⟩ := (h.b6 hv).1.k
  rw [(h.d hv).1, ea, x_seatOf h.2.1 ha hc, h.2.2.1.2.2.1 _ (by omega)]
  unfold zSt
  rw [ea, nI_clamp (by omega), show 70 + (a * 7 + c) = 70 + 7 * a + c by omega]
theorem zCx.judge {S : zM} {b nd nj nv v c : Nat} {g : Nat → Int32} (h : zCx S b g nd nj nv) (hv : v < nv) (hc : c < 7) : f_X9_judgeAt S b (zSt g v c - 1) = some (if zSt g v c = 0 then 0 else zr S (b + 9) (zSj g v c)) := by
  obtain ⟨⟨b1, b2, b3⟩, e5, e6, e7⟩ := h.n
  rcases zSt_k h.2.2.2 hv hc with h0 | ⟨h1, h2⟩
  · rw [h0, if_pos rfl]
    exact x_judgeAt0 b2 e6 (fun q => by have := q.1; revert this; decide +kernel)
  · rw [if_neg (by rw [h1]; exact nI_ne0 (by omega) (by omega)), h1, nI_pred]
    exact x_judgeAt h.2.1 b2 e6 h2
/-- what the others on chairs would mark -/
def zOp (g : Nat → Int32) (v : Nat) : Nat × (Nat → Int32) := zGa (fun c => !decide (zSt g v c = 0) && !decide (g (16 + 4 * zSj g v c) = 5)) (fun c => zMk g v c (zSj g v c)) 7
/-- what the judge on a chair would mark -/
def zWd (g : Nat → Int32) (v c : Nat) : Int32 := if g (16 + 4 * zSj g v c) = 5 then (if (zOp g v).1 = 0 then zMk g v c (zSj g v c) else (zOp g v).2 ((zOp g v).1 / 2)) else zMk g v c (zSj g v c)
theorem x_others {S0 : zM} {b nd nj nv v : Nat} {g : Nat → Int32} (h : zCx S0 b g nd nj nv) (hv : v < nv) {n : Nat} (hn : 40 < n) : ∃ S1 : zM, f_X9_gatherOthers n S0 b (nI v) (b + 14 + 3 * v) = some S1 ∧ zF (zPs b) S0 S1 ∧ zPan S1 (b + 12) 1 (b + 13) (zOp g v).1 (zOp g v).2 := by
  have hb := h.1
  have r11 : zr S0 b 11 = b + 12 := h.2.1.1.2.2.2.2.2.2.2.2
  have r12 : zr S0 (b + 12) 0 = b + 13 := h.2.1.2.1.2.2.2
  have l13 : zln S0 (b + 13) = 7 := h.2.1.2.2.1.2.2.2.2.2.2.2.2.2.2
  unfold f_X9_gatherOthers
  rw [r11, zChk_t (by omega)]
  simp only [nLet]
  refine zloopR (fun f (s : Int32 × zM) => f_X9_gatherOthers_L10 n b (nI v) (b + 14 + 3 * v) (fun S9 => some S9) f s.1 s.2) (fun k s => s.1 = nI k ∧ zF (zPs b) S0 s.2 ∧ zPan s.2 (b + 12) 1 (b + 13) (zGa (fun c => !decide (zSt g v c = 0) && !decide (g (16 + 4 * zSj g v c) = 5)) (fun c => zMk g v c (zSj g v c)) k).1 (zGa (fun c => !decide (zSt g v c = 0) && !decide (g (16 + 4 * zSj g v c) = 5)) (fun c => zMk g v c (zSj g v c)) k).2) 7 (fun o => ∃ S1 : zM, o = some S1 ∧ zF (zPs b) S0 S1 ∧ zPan S1 (b + 12) 1 (b + 13) (zOp g v).1 (zOp g v).2) ?_ ?_ n (0, zpI S0 (b + 12) 1 0) (by omega) ⟨rfl, zF_pI (Or.inr (Or.inr (Or.inl rfl))), mi_eq _ _ _ _, fun j hj => absurd hj (Nat.not_lt_zero _)⟩
  · rintro k f ⟨x, S⟩ hk ⟨h1, h2, h3⟩
    dsimp only at h1 h2 h3 ⊢
    subst h1
    have hS : zCx S b g nd nj nv := h.fr h2
    have hle := zGa_le (fun c => !decide (zSt g v c = 0) && !decide (g (16 + 4 * zSj g v c) = 5)) (fun c => zMk g v c (zSj g v c)) k
    have hno : (!decide (zSt g v k = 0) && !decide (g (16 + 4 * zSj g v k) = 5)) = false → zGa (fun c => !decide (zSt g v c = 0) && !decide (g (16 + 4 * zSj g v c) = 5)) (fun c => zMk g v c (zSj g v c)) (k + 1) = zGa (fun c => !decide (zSt g v c = 0) && !decide (g (16 + 4 * zSj g v c) = 5)) (fun c => zMk g v c (zSj g v c)) k := fun q => if_neg (by simp only [q]; decide)
    have hyes : (!decide (zSt g v k = 0) && !decide (g (16 + 4 * zSj g v k) = 5)) = true → zGa (fun c => !decide (zSt g v c = 0) && !decide (g (16 + 4 * zSj g v c) = 5)) (fun c => zMk g v c (zSj g v c)) (k + 1) = ((zGa (fun c => !decide (zSt g v c = 0) && !decide (g (16 + 4 * zSj g v c) = 5)) (fun c => zMk g v c (zSj g v c)) k).1 + 1, zIns (zGa (fun c => !decide (zSt g v c = 0) && !decide (g (16 + 4 * zSj g v c) = 5)) (fun c => zMk g v c (zSj g v c)) k).2 (zGa (fun c => !decide (zSt g v c = 0) && !decide (g (16 + 4 * zSj g v c) = 5)) (fun c => zMk g v c (zSj g v c)) k).1 (zMk g v k (zSj g v k))) := fun q => if_pos q
    have hb0 : f_X9_gatherOthers_L10 n b (nI v) (b + 14 + 3 * v) (fun S9 => some S9) (f + 1) (nI k) S = zB1 (some (if zSt g v k = 0 then 0 else zr S (b + 9) (zSj g v k))) (fun r23 => if r23 = 0 then f_X9_gatherOthers_L10 n b (nI v) (b + 14 + 3 * v) (fun S9 => some S9) f (nI (k + 1)) S else if (zi S r23 1) = (5 : Int32) then f_X9_gatherOthers_L10 n b (nI v) (b + 14 + 3 * v) (fun S9 => some S9) f (nI (k + 1)) S else zB1 (f_X9_markOf n S b r23 (nI v) (b + 14 + 3 * v) (nI k)) (fun r32 => zB1 (f_X5_add n S (b + 12) r32) (fun S36 => f_X9_gatherOthers_L10 n b (nI v) (b + 14 + 3 * v) (fun S9 => some S9) f (nI (k + 1)) S36))) := by
      show f_X9_gatherOthers_L10b n b (nI v) (b + 14 + 3 * v) (fun S9 => some S9) (f_X9_gatherOthers_L10 n b (nI v) (b + 14 + 3 * v) (fun S9 => some S9) f) (nI k) S = _
      unfold f_X9_gatherOthers_L10b
      rw [if_neg (show ¬ (7 : Int32) ≤ nI k from nI_ge hk (by decide)), hS.seat hv hk, zB1_s, hS.judge hv hk, nI_1, h2.r, r11]
      simp only [zChk_t (show ¬ b + 12 = 0 by omega)]
    rw [hb0, zB1_s]
    rcases zSt_k h.2.2.2 hv hk with h0 | ⟨h4, h5⟩
    · rw [if_pos h0, if_pos rfl]
      refine ⟨(nI (k + 1), S), ⟨rfl, h2, ?_⟩, rfl⟩
      rw [hno (by simp [h0])]; exact h3
    · have hne : ¬ zSt g v k = 0 := by rw [h4]; exact nI_ne0 (by omega) (by have := h.2.2.2.1.2.1; omega)
      have hj := hS.j h5
      have hq0 := hj.1
      rw [if_neg hne, if_neg (show ¬ zr S (b + 9) (zSj g v k) = 0 by omega), hj.2.2.2.1]
      by_cases h6 : g (16 + 4 * zSj g v k) = 5
      · rw [if_pos h6]
        refine ⟨(nI (k + 1), S), ⟨rfl, h2, ?_⟩, rfl⟩
        rw [hno (by simp [h6])]; exact h3
      · rw [if_neg h6, hS.mark hv h5 hk hn, zB1_s]
        obtain ⟨T, g1, g2, g3⟩ := x_add (S := S) (a0 := b + 12) (q := b + 13) (v := zMk g v k (zSj g v k)) (by rw [h2.r]; exact r12) (by rw [h2.n]; exact l13) (by omega) (by omega) (by omega) h3 (n := n) (by omega)
        refine ⟨(nI (k + 1), T), ⟨rfl, h2.tr (g2.mo (fun a j q => ?_)), ?_⟩, ?_⟩
        · unfold zPs; omega
        · rw [hyes (by simp [hne, h6])]; exact g3
        · rw [g1, zB1_s]
  · rintro f ⟨x, S⟩ ⟨h1, h2, h3⟩
    dsimp only at h1 h2 h3 ⊢
    subst h1
    refine ⟨S, ?_, h2, h3⟩
    show f_X9_gatherOthers_L10b n b (nI v) (b + 14 + 3 * v) (fun S9 => some S9) (f_X9_gatherOthers_L10 n b (nI v) (b + 14 + 3 * v) (fun S9 => some S9) f) (nI 7) S = _
    unfold f_X9_gatherOthers_L10b
    rw [if_pos (show (7 : Int32) ≤ nI 7 from Int32.le_refl _)]
/-- what the judge on a chair would mark, or -4 -/
theorem x_wouldMark {S : zM} {b nd nj nv v c : Nat} {g : Nat → Int32} (h : zCx S b g nd nj nv) (hv : v < nv) (hc : c < 7) {n : Nat} (hn : 40 < n) : ∃ S1 : zM, f_X9_wouldMark n S b (nI v) (nI c) = some (if zSt g v c = 0 then -4 else zWd g v c, S1) ∧ zF (zPs b) S S1 := by
  have hb := h.1
  obtain ⟨⟨b1, b2, b3⟩, e5, e6, e7⟩ := h.n
  have r11 : zr S b 11 = b + 12 := h.2.1.1.2.2.2.2.2.2.2.2
  unfold f_X9_wouldMark
  rw [x_diveAt h.2.1 b3 e7 hv, zB1_s, if_neg (by omega), h.seat hv hc, zB1_s, h.judge hv hc, zB1_s]
  rcases zSt_k h.2.2.2 hv hc with h0 | ⟨h4, h5⟩
  · rw [if_pos h0, if_pos rfl, if_pos h0]
    exact ⟨S, rfl, zF.rf⟩
  · have hne : ¬ zSt g v c = 0 := by rw [h4]; exact nI_ne0 (by omega) (by omega)
    have hj := h.j h5
    have hq0 := hj.1
    rw [if_neg hne, if_neg hne, if_neg (show ¬ zr S (b + 9) (zSj g v c) = 0 by omega), zLet_d, hj.2.2.2.1]
    unfold zWd
    by_cases h6 : g (16 + 4 * zSj g v c) = 5
    · rw [if_pos h6, if_pos h6]
      obtain ⟨T, g1, g2, g3⟩ := x_others h hv hn
      have hT := h.fr g2
      have hle : (zOp g v).1 ≤ 7 := zGa_le _ _ 7
      have t11 : zr T b 11 = b + 12 := by rw [g2.r]; exact r11
      refine ⟨T, ?_, g2⟩
      rw [g1, zB1_s, t11, zChk_t (by omega), g3.1]
      by_cases h7 : (zOp g v).1 = 0
      · rw [if_pos h7, if_pos (by rw [h7]; decide +kernel)]
        have hm := hT.mark hv h5 hc hn
        rw [g2.r] at hm
        dsimp only
        rw [hm, zB1_s]
      · rw [if_neg h7, if_neg (nI_nle (by omega) (by omega)), x_middle (S := T) (a := b + 12) (q := b + 13) hT.2.1.2.1.2.2.2 (by omega) hT.2.1.2.2.1.2.2.2.2.2.2.2.2.2.2 hle g3, zB1_s, if_neg h7]
    · rw [if_neg h6, if_neg h6]
      dsimp only
      rw [h.mark hv h5 hc hn, zB1_s]
      exact ⟨S, rfl, zF.rf⟩
