/-! the reference: what the others would mark; would -/
def zRx (S : zM) (g : Nat → Int32) (nd nj nv : Nat) : Prop := zLay S ∧ (∀ k : Nat, zi S 437 k = g k) ∧ zBs g nd nj nv
theorem zRx.fr {S S1 : zM} {nd nj nv : Nat} {g : Nat → Int32} (h : zRx S g nd nj nv) {W : Nat → Nat → Prop} (f : zF W S S1) (hW : ∀ k : Nat, ¬ W 437 k) : zRx S1 g nd nj nv :=
  ⟨h.1.fr f, fun k => by rw [f.i (hW k)]; exact h.2.1 k, h.2.2⟩
theorem zRx.qt {S S1 : zM} {nd nj nv : Nat} {g : Nat → Int32} (h : zRx S g nd nj nv) (f : zF zQt S S1) : zRx S1 g nd nj nv := h.fr f (fun k => by unfold zQt; omega)
theorem zRx.q {S S1 : zM} {nd nj nv : Nat} {g : Nat → Int32} (h : zRx S g nd nj nv) (f : zF zQs S S1) : zRx S1 g nd nj nv := h.fr f (fun k => by unfold zQs; omega)
theorem zRx.e {S : zM} {nd nj nv : Nat} {g : Nat → Int32} (h : zRx S g nd nj nv) : zi S 437 = g := funext h.2.1
theorem zGa_all {p : Nat → Bool} {m : Nat → Int32} {P : Int32 → Prop} : ∀ k : Nat, (∀ c : Nat, c < k → p c = true → P (m c)) → ∀ j : Nat, j < (zGa p m k).1 → P ((zGa p m k).2 j) := by
  intro k
  induction k with
  | zero => intro _ j hj; exact absurd hj (Nat.not_lt_zero _)
  | succ k ih =>
    intro h j hj
    have ih' := ih (fun c hc => h c (by omega))
    have e : zGa p m (k + 1) = if p k then ((zGa p m k).1 + 1, zIns (zGa p m k).2 (zGa p m k).1 (m k)) else zGa p m k := rfl
    by_cases hp : p k = true
    · rw [e, if_pos hp] at hj ⊢
      have hle := zPos_le (zGa p m k).2 (m k) (zGa p m k).1
      have hj' : j < (zGa p m k).1 + 1 := hj
      show P (zIns (zGa p m k).2 (zGa p m k).1 (m k) j)
      unfold zIns
      by_cases h1 : j < zPos (zGa p m k).2 (m k) (zGa p m k).1
      · rw [if_pos h1]; exact ih' j (by omega)
      · rw [if_neg h1]
        by_cases h2 : j = zPos (zGa p m k).2 (m k) (zGa p m k).1
        · rw [if_pos h2]; exact h k (by omega) hp
        · rw [if_neg h2]; exact ih' (j - 1) (by omega)
    · rw [e, if_neg hp] at hj ⊢
      exact ih' j hj
theorem zheld (x : Int32) : zU (f_X12_held x) 21 := by
  unfold f_X12_held
  have e : (20 : Int32).toInt = 20 := rfl
  by_cases h1 : 0 ≤ x
  · rw [if_pos h1]
    by_cases h2 : x ≤ 20
    · rw [if_pos h2]
      rw [Int32.le_iff_toInt_le, zI0] at h1
      rw [Int32.le_iff_toInt_le, e] at h2
      exact ⟨h1, by omega⟩
    · rw [if_neg h2]; decide +kernel
  · rw [if_neg h1]; decide +kernel
theorem zMk_b (g : Nat → Int32) (v c j : Nat) : zU (zMk g v c j) 21 := by
  unfold zMk
  repeat' split
  all_goals exact zheld _
theorem zWd_b (g : Nat → Int32) (v c : Nat) : zU (zWd g v c) 21 := by
  unfold zWd
  by_cases h6 : g (16 + 4 * zSj g v c) = 5
  · rw [if_pos h6]
    by_cases h7 : (zOp g v).1 = 0
    · rw [if_pos h7]; exact zMk_b _ _ _ _
    · rw [if_neg h7]
      exact zGa_all (P := fun x => zU x 21) 7 (fun c _ _ => zMk_b _ _ _ _) _ (show (zOp g v).1 / 2 < (zOp g v).1 by omega)
  · rw [if_neg h6]; exact zMk_b _ _ _ _
theorem zU_n4 {x : Int32} {n : Nat} (h : zU x n) : ¬ x = -4 := by
  intro q
  rw [q] at h
  exact absurd h.1 (by decide +kernel)
theorem zRx.would {S : zM} {nd nj nv v c : Nat} {g : Nat → Int32} (h : zRx S g nd nj nv) (hv : v < nv) (hc : c < 7) (hs : ¬ zSt g v c = 0) {rc : zM → Nat → Int32 → Int32 → Option (Int32 × zM)} {n : Nat} (hn : 40 < n) :
    f_X12_wouldOfO n rc S 436 (nI v) (nI c) = if g (16 + 4 * zSj g v c) = 5 then zB2 (f_X12_middleWould n rc S 436 (nI v)) (fun r99 S100 => if r99 = -4 then some (zMk g v c (zSj g v c), S100) else some (r99, S100)) else some (zMk g v c (zSj g v c), S) := by
  have e := h.e
  have hB := h.2.2
  rcases zSt_k hB hv hc with h0 | ⟨h4, h5⟩
  · exact absurd h0 hs
  · have hB' := hB
    obtain ⟨⟨b1, b2, b3, b4, b5, b6⟩, c1, c2, c3, c4, c5, c6⟩ := hB
    obtain ⟨a, ha, ea⟩ := (c6 v hv).1.k
    have hw := m_wouldOf (S := S) h.1 (v := v) (c := c) (a := a) (j := zSj g v c) (nd := nd) (rc := rc) (n := n) (by omega) (by rw [e]; exact c6 v hv) b1 (by rw [e]; exact c5) (fun w hw => by rw [e]; exact c6 w (by omega)) ha (by rw [e]; exact ea) hc (by omega) (by rw [e, h4, nI_pred]) hn
    rw [e] at hw
    exact hw
theorem zRx.get0 {S : zM} {nd nj nv v c : Nat} {g : Nat → Int32} (h : zRx S g nd nj nv) (hv : v < nv) (hc : c < 7) : ∃ a : Int32, f_X12_get S 436 (nI v) (0 : Int32) = some a ∧ f_X12_onChair S 436 a (nI c) = some (zSt g v c - 1) := by
  have e := h.e
  obtain ⟨⟨b1, b2, b3, b4, b5, b6⟩, c1, c2, c3, c4, c5, c6⟩ := h.2.2
  obtain ⟨a, ha, ea⟩ := (c6 v hv).1.k
  obtain ⟨g1, g2⟩ := m_seat (S := S) h.1 (v := v) (c := c) (a := a) (by omega) ha (by rw [e]; exact ea) hc
  rw [e] at g2
  exact ⟨nI a, g1, g2⟩
theorem m_others {S0 : zM} {nd nj nv v d : Nat} {g : Nat → Int32} (h : zRx S0 g nd nj nv) (hv : v < nv) {n : Nat} (hn : 40 < n) : ∃ S1 : zM, f_X12_middleWould n (f_X12_wouldOf n (d + 1)) S0 436 (nI v) = some (if (zOp g v).1 = 0 then -4 else (zOp g v).2 ((zOp g v).1 / 2), S1) ∧ zF zQt S0 S1 := by
  have r0 : zr S0 436 0 = 437 := h.1.2.2.2.2.2.1.1
  have l0 : zln S0 437 = 1004 := h.1.2.2.2.2.2.2.1
  have r10 : zr S0 436 10 = 445 := h.1.2.2.2.2.2.1.2.2.2.2.2.2.2.2.1
  have l10 : zln S0 445 = 7 := h.1.2.2.2.2.2.2.2.2.2.2.2.2.2.2.1
  have hle7 : (zOp g v).1 ≤ 7 := zGa_le _ _ 7
  unfold f_X12_middleWould
  simp only [nLet]
  refine zloopR (fun f (s : Int32 × zM) => f_X12_middleWould_L7 n (f_X12_wouldOf n (d + 1)) 436 (nI v) (f_X12_wouldOf n (d + 1)) (fun S7 => if (zi S7 436 11) = 0 then some (((-4 : Int32), S7)) else zChk (¬ (zr S7 436 10) = 0) (zChk (¬ (((zi S7 436 11) / (2 : Int32)) < 0 ∨ zln S7 (zr S7 436 10) ≤ (((zi S7 436 11) / (2 : Int32))).toNatClampNeg)) (some (((zi S7 (zr S7 436 10) (Int32.toNatClampNeg ((zi S7 436 11) / (2 : Int32)))), S7))))) f s.1 s.2) (fun k s => s.1 = nI k ∧ zF zQt S0 s.2 ∧ zPan s.2 436 11 445 (zGa (fun c => !decide (zSt g v c = 0) && !decide (g (16 + 4 * zSj g v c) = 5)) (fun c => zMk g v c (zSj g v c)) k).1 (zGa (fun c => !decide (zSt g v c = 0) && !decide (g (16 + 4 * zSj g v c) = 5)) (fun c => zMk g v c (zSj g v c)) k).2) 7 (fun o => ∃ S1 : zM, o = some (if (zOp g v).1 = 0 then -4 else (zOp g v).2 ((zOp g v).1 / 2), S1) ∧ zF zQt S0 S1) ?_ ?_ n (0, zpI S0 436 11 0) (by omega) ⟨rfl, zF_pI (Or.inl ⟨rfl, by decide, by decide⟩), mi_eq _ _ _ _, fun j hj => absurd hj (Nat.not_lt_zero _)⟩
  · rintro k f ⟨x, S⟩ hk ⟨h1, h2, h3⟩
    dsimp only at h1 h2 h3
    subst h1
    have hS : zRx S g nd nj nv := h.qt h2
    have hle := zGa_le (fun c => !decide (zSt g v c = 0) && !decide (g (16 + 4 * zSj g v c) = 5)) (fun c => zMk g v c (zSj g v c)) k
    have hno : (!decide (zSt g v k = 0) && !decide (g (16 + 4 * zSj g v k) = 5)) = false → zGa (fun c => !decide (zSt g v c = 0) && !decide (g (16 + 4 * zSj g v c) = 5)) (fun c => zMk g v c (zSj g v c)) (k + 1) = zGa (fun c => !decide (zSt g v c = 0) && !decide (g (16 + 4 * zSj g v c) = 5)) (fun c => zMk g v c (zSj g v c)) k := fun q => if_neg (by simp only [q]; decide)
    have hyes : (!decide (zSt g v k = 0) && !decide (g (16 + 4 * zSj g v k) = 5)) = true → zGa (fun c => !decide (zSt g v c = 0) && !decide (g (16 + 4 * zSj g v c) = 5)) (fun c => zMk g v c (zSj g v c)) (k + 1) = ((zGa (fun c => !decide (zSt g v c = 0) && !decide (g (16 + 4 * zSj g v c) = 5)) (fun c => zMk g v c (zSj g v c)) k).1 + 1, zIns (zGa (fun c => !decide (zSt g v c = 0) && !decide (g (16 + 4 * zSj g v c) = 5)) (fun c => zMk g v c (zSj g v c)) k).2 (zGa (fun c => !decide (zSt g v c = 0) && !decide (g (16 + 4 * zSj g v c) = 5)) (fun c => zMk g v c (zSj g v c)) k).1 (zMk g v k (zSj g v k))) := fun q => if_pos q
    generalize (fun S7 => if (zi S7 436 11) = 0 then some (((-4 : Int32), S7)) else zChk (¬ (zr S7 436 10) = 0) (zChk (¬ (((zi S7 436 11) / (2 : Int32)) < 0 ∨ zln S7 (zr S7 436 10) ≤ (((zi S7 436 11) / (2 : Int32))).toNatClampNeg)) (some (((zi S7 (zr S7 436 10) (Int32.toNatClampNeg ((zi S7 436 11) / (2 : Int32)))), S7))))) = K
    dsimp only
    obtain ⟨a, ga, gb⟩ := hS.get0 hv hk
    have hb0 : f_X12_middleWould_L7 n (f_X12_wouldOf n (d + 1)) 436 (nI v) (f_X12_wouldOf n (d + 1)) K (f + 1) (nI k) S = if zSt g v k - 1 < 0 then f_X12_middleWould_L7 n (f_X12_wouldOf n (d + 1)) 436 (nI v) (f_X12_wouldOf n (d + 1)) K f (nI (k + 1)) S else zChk (¬ (((16 : Int32) + ((4 : Int32) * (zSt g v k - 1))) < 0 ∨ 1004 ≤ (((16 : Int32) + ((4 : Int32) * (zSt g v k - 1)))).toNatClampNeg)) (if (zi S 437 (Int32.toNatClampNeg ((16 : Int32) + ((4 : Int32) * (zSt g v k - 1))))) = (5 : Int32) then f_X12_middleWould_L7 n (f_X12_wouldOf n (d + 1)) 436 (nI v) (f_X12_wouldOf n (d + 1)) K f (nI (k + 1)) S else zB2 (f_X12_wouldOf n (d + 1) S 436 (nI v) (nI k)) (fun r33 S34 => zB1 (f_X12_comes n S34 436 r33) (fun S40 => f_X12_middleWould_L7 n (f_X12_wouldOf n (d + 1)) 436 (nI v) (f_X12_wouldOf n (d + 1)) K f (nI (k + 1)) S40))) := by
      show f_X12_middleWould_L7b n (f_X12_wouldOf n (d + 1)) 436 (nI v) (f_X12_wouldOf n (d + 1)) K (f_X12_middleWould_L7 n (f_X12_wouldOf n (d + 1)) 436 (nI v) (f_X12_wouldOf n (d + 1)) K f) (nI k) S = _
      unfold f_X12_middleWould_L7b
      rw [if_neg (show ¬ (7 : Int32) ≤ nI k from nI_ge hk (by decide)), ga, zB1_s, gb, zB1_s, nI_1, h2.r, h2.n, r0, l0, zChk_t (show ¬ 437 = 0 by decide)]
    rw [hb0]
    rcases zSt_k h.2.2 hv hk with h0 | ⟨h4, h5⟩
    · rw [h0, if_pos (show (0 : Int32) - 1 < 0 by decide)]
      refine ⟨(nI (k + 1), S), ⟨rfl, h2, ?_⟩, rfl⟩
      rw [hno (by simp [h0])]; exact h3
    · have hj12 := h.2.2.1.2.1
      have hne : ¬ zSt g v k = 0 := by rw [h4]; exact nI_ne0 (by omega) (by omega)
      rw [h4, nI_pred, if_neg (nI_pos (by omega)), zq16, show (4 : Int32) = nI 4 from rfl, nI_mul, nI_add, zChk_t (zix (by omega) (by omega)), nI_clamp (by omega), hS.2.1]
      by_cases h6 : g (16 + 4 * zSj g v k) = 5
      · rw [if_pos h6]
        refine ⟨(nI (k + 1), S), ⟨rfl, h2, ?_⟩, rfl⟩
        rw [hno (by simp [h6])]; exact h3
      · have hw : f_X12_wouldOf n (d + 1) S 436 (nI v) (nI k) = some (zMk g v k (zSj g v k), S) := by
          show f_X12_wouldOfO n (f_X12_wouldOf n d) S 436 (nI v) (nI k) = _
          rw [hS.would hv hk hne hn, if_neg h6]
        rw [if_neg h6, hw, zB2_s]
        obtain ⟨T, g1, g2, g3⟩ := m_comes (S := S) (v := zMk g v k (zSj g v k)) (by rw [h2.r]; exact r10) (by rw [h2.n]; exact l10) (by omega) h3 (n := n) (by omega)
        refine ⟨(nI (k + 1), T), ⟨rfl, h2.tr (g2.mo (fun a j q => ?_)), ?_⟩, ?_⟩
        · unfold zQt; omega
        · rw [hyes (by simp [hne, h6])]; exact g3
        · rw [g1, zB1_s]
  · rintro f ⟨x, S⟩ ⟨h1, h2, h3⟩
    dsimp only at h1 h2 h3 ⊢
    subst h1
    refine ⟨S, ?_, h2⟩
    have h3' : zPan S 436 11 445 (zOp g v).1 (zOp g v).2 := h3
    generalize hK : (fun S7 => if (zi S7 436 11) = 0 then some (((-4 : Int32), S7)) else zChk (¬ (zr S7 436 10) = 0) (zChk (¬ (((zi S7 436 11) / (2 : Int32)) < 0 ∨ zln S7 (zr S7 436 10) ≤ (((zi S7 436 11) / (2 : Int32))).toNatClampNeg)) (some (((zi S7 (zr S7 436 10) (Int32.toNatClampNeg ((zi S7 436 11) / (2 : Int32)))), S7))))) = K
    show f_X12_middleWould_L7b n (f_X12_wouldOf n (d + 1)) 436 (nI v) (f_X12_wouldOf n (d + 1)) K (f_X12_middleWould_L7 n (f_X12_wouldOf n (d + 1)) 436 (nI v) (f_X12_wouldOf n (d + 1)) K f) (nI 7) S = _
    unfold f_X12_middleWould_L7b
    rw [if_pos (show (7 : Int32) ≤ nI 7 from Int32.le_refl _), ← hK]
    dsimp only
    rw [h3'.1, h2.r, h2.n, r10, l10]
    by_cases h7 : (zOp g v).1 = 0
    · rw [h7]; rfl
    · rw [if_neg (nI_ne0 (by omega) (by omega)), zChk_t (by decide), nI_div2 (by omega), zChk_t (zix (by omega) (by omega)), nI_clamp (by omega), if_neg h7, h3'.2 _ (by omega)]
theorem m_wd {S : zM} {nd nj nv v c : Nat} {g : Nat → Int32} (h : zRx S g nd nj nv) (hv : v < nv) (hc : c < 7) (hs : ¬ zSt g v c = 0) {n : Nat} (hn : 40 < n) : ∃ S1 : zM, f_X12_wouldOf n 3 S 436 (nI v) (nI c) = some (zWd g v c, S1) ∧ zF zQt S S1 := by
  show ∃ S1 : zM, f_X12_wouldOfO n (f_X12_wouldOf n 2) S 436 (nI v) (nI c) = some (zWd g v c, S1) ∧ zF zQt S S1
  rw [h.would hv hc hs hn]
  unfold zWd
  by_cases h6 : g (16 + 4 * zSj g v c) = 5
  · rw [if_pos h6, if_pos h6]
    obtain ⟨T, g1, g2⟩ := m_others (d := 1) h hv hn
    refine ⟨T, ?_, g2⟩
    rw [g1, zB2_s]
    by_cases h7 : (zOp g v).1 = 0
    · rw [if_pos h7, if_pos h7, if_pos rfl]
    · rw [if_neg h7, if_neg h7, if_neg (zU_n4 (n := 21) ?_)]
      exact zGa_all (P := fun x => zU x 21) 7 (fun c _ _ => zMk_b _ _ _ _) _ (by show (zOp g v).1 / 2 < (zOp g v).1; omega)
  · rw [if_neg h6, if_neg h6]
    exact ⟨S, rfl, zF.rf⟩
theorem zInv.rx {S : zM} {nd nj nv : Nat} (h : zInv S) (hB : zBs (zi S 437) nd nj nv) : zRx S (zi S 437) nd nj nv := ⟨h.1, fun _ => rfl, hB⟩
theorem zPs_scr {b a k : Nat} (hb : b = 2 ∨ b = 270) (h : zPs b a k) : zScr a k := by
  unfold zPs at h
  unfold zScr
  omega
theorem zQs_scr {a k : Nat} (h : zQs a k) : zScr a k := by
  unfold zQs at h
  unfold zScr
  omega
theorem s_would {S : zM} (h : zInv S) (v1 v2 v3 v4 v5 : Int32) : ∃ S' : zM, zs_7 1 436 v1 v2 v3 v4 v5 S S' ∧ zInv S' := by
  suffices hh : ∃ (S' : zM) (r : Int32) (S1 : zM), f_X11_would 200 S 1 v1 v2 = some (r, S1) ∧ f_X12_would 200 S1 436 v1 v2 = some (r, S') ∧ zInv S' by
    obtain ⟨S', r, S1, q1, q2, q3⟩ := hh
    exact ⟨S', ⟨r, 200, S1, q1, q2⟩, q3⟩
  have r0 : zr S 1 0 = 2 := h.1.2.2.2.2.1.1.1
  obtain ⟨nd, nj, nv, hC⟩ := h.cx
  obtain ⟨⟨b1, b2, b3⟩, e5, e6, e7⟩ := hC.n
  have ev : zi S 437 1003 = nI nv := hC.2.2.2.1.2.2.2.2.2
  unfold f_X11_would
  rw [r0, zChk_t (by decide), e7, zwN (by omega), zwi (n := 7) rfl]
  by_cases hv : zU v1 nv
  · obtain ⟨v, hv1, rfl⟩ := hv.k
    rw [if_pos hv, zLet_d, if_neg (show ¬ (1 : Int32) = 0 by decide)]
    by_cases hc : zU v2 7
    · obtain ⟨c, hc1, rfl⟩ := hc.k
      rw [if_pos hc, zLet_d, if_neg (show ¬ (1 : Int32) = 0 by decide)]
      obtain ⟨X, hx, hXf⟩ := x_wouldMark hC hv1 hc1 (n := 200) (by omega)
      have hX : zInv X := h.fr (hXf.mo (fun a k q => zPs_scr (Or.inl rfl) q))
      have eX : zi X 437 = zi S 437 := funext fun k => hXf.i (by unfold zPs; omega)
      have hR : zRx X (zi S 437) nd nj nv := ⟨hX.1, fun k => by rw [eX], hC.2.2.2⟩
      rw [hx, zB2_s]
      obtain ⟨a, ga, gb⟩ := hR.get0 hv1 hc1
      have hm : f_X12_would 200 X 436 (nI v) (nI c) = if 0 ≤ zSt (zi S 437) v c - 1 then zB2 (f_X12_wouldOf 200 3 X 436 (nI v) (nI c)) (fun r21 S22 => some (r21, S22)) else some (-4, X) := by
        unfold f_X12_would
        rw [m_isDive hX.1 b3 (by rw [eX]; exact ev), if_pos hv, zB1_s, if_neg (show ¬ (1 : Int32) = 0 by decide), m_isChair, if_pos hc, zB1_s, if_neg (show ¬ (1 : Int32) = 0 by decide), ga, zB1_s, gb, zB1_s]
      rcases zSt_k hC.2.2.2 hv1 hc1 with h0 | ⟨h4, h5⟩
      · rw [if_pos h0]
        refine ⟨X, -4, X, rfl, ?_, hX⟩
        rw [hm, h0, if_neg (show ¬ (0 : Int32) ≤ 0 - 1 by decide)]
      · have hne : ¬ zSt (zi S 437) v c = 0 := by rw [h4]; exact nI_ne0 (by omega) (by omega)
        rw [if_neg hne]
        obtain ⟨Y, hy, hYf⟩ := m_wd hR hv1 hc1 hne (n := 200) (by omega)
        refine ⟨Y, _, X, rfl, ?_, hX.fr (hYf.mo (fun a k q => zQs_scr q.q))⟩
        rw [hm, h4, nI_pred, if_pos (nI_pos' (by omega)), hy, zB2_s]
    · rw [if_neg hc, zLet_d, if_pos (show (0 : Int32) = 0 from rfl)]
      refine ⟨S, -1, S, rfl, ?_, h⟩
      unfold f_X12_would
      rw [m_isDive h.1 b3 ev, if_pos hv, zB1_s, if_neg (show ¬ (1 : Int32) = 0 by decide), m_isChair, if_neg hc]; rfl
  · rw [if_neg hv, zLet_d, if_pos (show (0 : Int32) = 0 from rfl)]
    refine ⟨S, -1, S, rfl, ?_, h⟩
    unfold f_X12_would
    rw [m_isDive h.1 b3 ev, if_neg hv]; rfl
