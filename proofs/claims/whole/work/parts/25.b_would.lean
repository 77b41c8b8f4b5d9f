/-- a dive's own bounds, without its marks -/
def zB6w (g : Nat → Int32) (nd t : Nat) : Prop := zU (g t) 6 ∧ zU (g (t + 1)) nd ∧ zU (g (t + 2)) 64 ∧ zU (g (t + 3)) 10 ∧ zU (g (t + 4)) 41
theorem zB6p.w {g : Nat → Int32} {nd nj t : Nat} (h : zB6p g nd nj t) : zB6w g nd t := ⟨h.1, h.2.1, h.2.2.1, h.2.2.2.1, h.2.2.2.2.1⟩
theorem x_markOf {S : zM} {b v d nd nv j q c : Nat} {g : Nat → Int32} (hL : zLayS (zr S) (zln S) b) (hn : nd ≤ 8) (ed : zi S b 5 = nI nd) (hg : ∀ i : Nat, i < 8 → zi S (b + 1) i = g (2 * i) ∧ zi S (b + 2) i = g (2 * i + 1)) (hv : v < nv) (hnv : nv ≤ 40) (ev : zi S b 7 = nI nv) (hD : ∀ w : Nat, w < nv → zRepD (zi S) (b + 14 + 3 * w) g (112 + 19 * w)) (ho : ∀ p : Nat, p < 6 → zi S (b + 6) p = g (872 + p)) (hq : zRepJ S q j g) (hB : zB6w g nd (112 + 19 * v)) (hc : c < 7) {n : Nat} (hn40 : 40 < n) : f_X9_markOf n S b q (nI v) (b + 14 + 3 * v) (nI c) = some (zMk g v c j) := by
  have r4 : zr S b 4 = b + 5 := hL.1.2.2.2.2.1
  have r5 : zr S (b + 5) 0 = b + 6 := hL.2.1.1
  have l6 : zln S (b + 6) = 6 := hL.2.2.1.2.2.2.2.1
  obtain ⟨d, hd, edd⟩ := hB.2.1.k
  obtain ⟨-, f3, f4, f5, -⟩ := hD v hv
  obtain ⟨-, -, -, k1, k2, k3, k4⟩ := hq
  have ed3 : zi S (b + 14 + 3 * v) 3 = nI d := f3.trans edd
  have hdn : zDn g v = d := by
    unfold zDn
    rw [edd]
    exact nI_clamp (by omega)
  have hdr := x_drawnBy (g := g) (v := v) (n := n) hL hn ed hg hd ed3 hv hnv ev (fun w hw => ⟨(hD w hw).1, (hD w hw).2.2.1⟩) ho hn40
  have hld := x_landOf (g := g) hL hn ed hg hd ed3
  unfold f_X9_markOf
  simp only [nLet]
  have hof : ∀ x : Int32, f_X6_offFor n S (b + 5) (g (112 + 19 * v + 2) &&& x) = some (zOff g (g (112 + 19 * v + 2) &&& x) 6) := fun x => x_offFor r5 (by omega) l6 ho (by omega)
  rw [r4, f4, f5, x_partsSeen (show 6 < n by omega)]
  simp only [nB1, hof, hdr, hld, x_markFor, k1, k2, k3, k4]
  rw [zChk_t (show ¬ b + 5 = 0 by omega), zChk_t (show ¬ b + 5 = 0 by omega)]
  unfold zMk zFr
  rw [hdn]
  by_cases h7 : g (16 + 4 * j) = 7
  · have h4 : ¬ g (16 + 4 * j) = 4 := by rw [h7]; decide
    rw [if_pos h7, if_pos h7]
    repeat rw [if_neg h4]
  · rw [if_neg h7, if_neg h7]
    by_cases h4 : g (16 + 4 * j) = 4
    · repeat rw [if_pos h4]
    · repeat rw [if_neg h4]
/-! the reference's side -/
theorem m_lessOff {S : zM} (h : zLay S) {v c s : Nat} {mask w : Int32} (hv : v < 40) (hf : zU (zi S 437 (112 + 19 * v + 2)) 64) (es : zi S 437 (112 + 19 * v + 3) = nI s) (hm : (w = 0 ∧ mask = zPst (nI c) (nI s) 6) ∨ (¬ w = 0 ∧ mask = 7)) (hc : c < 7) (hs : s < 10) {n : Nat} (hn : 6 < n) : f_X12_lessOff n S 436 (nI v) (nI c) w = some (20 - zOff (zi S 437) (zi S 437 (112 + 19 * v + 2) &&& mask) 6) := by
  have hL := h
  have r0 : zr S 436 0 = 437 := h.2.2.2.2.2.1.1
  have l0 : zln S 437 = 1004 := h.2.2.2.2.2.2.1
  unfold f_X12_lessOff
  rw [zLet_d]
  have h20 : (20 : Int32) - zOff (zi S 437) (zi S 437 (112 + 19 * v + 2) &&& mask) 0 = 20 := Int32.sub_zero 20
  suffices key : f_X12_lessOff_L7 S 436 (nI v) (nI c) w (fun x1 => some x1) n (20 - zOff (zi S 437) (zi S 437 (112 + 19 * v + 2) &&& mask) 0) (nI 0) = some (20 - zOff (zi S 437) (zi S 437 (112 + 19 * v + 2) &&& mask) 6) by
    rw [h20] at key; exact key
  refine zloop (fun n (t : Int32 × Int32) => f_X12_lessOff_L7 S 436 (nI v) (nI c) w (fun x1 => some x1) n t.1 t.2) (fun k => (20 - zOff (zi S 437) (zi S 437 (112 + 19 * v + 2) &&& mask) k, nI k)) 6 (fun k f hk => ?_) (fun f => ?_) n hn
  · show f_X12_lessOff_L7b S 436 (nI v) (nI c) w (fun x1 => some x1) (f_X12_lessOff_L7 S 436 (nI v) (nI c) w (fun x1 => some x1) f) (20 - zOff (zi S 437) (zi S 437 (112 + 19 * v + 2) &&& mask) k) (nI k) = f_X12_lessOff_L7 S 436 (nI v) (nI c) w (fun x1 => some x1) f (20 - (zOff (zi S 437) (zi S 437 (112 + 19 * v + 2) &&& mask) k + (if zbt (zi S 437 (112 + 19 * v + 2) &&& mask) k = 0 then 0 else zi S 437 (872 + k)))) (nI (k + 1))
    unfold f_X12_lessOff_L7b
    simp only [nLet]
    have hb := zbit01 hf hk
    rw [if_neg (show ¬ (6 : Int32) ≤ nI k from nI_ge hk (by decide)), show (2 : Int32) = nI 2 from rfl, m_get hL hv (by omega), show f_X12_get S 436 (nI v) (3 : Int32) = some (nI s) from (m_get (k := 3) hL hv (by omega)).trans (congrArg some es), zB1_s, zB1_s, r0, zChk_t (by decide), l0, zq872, nI_add, zChk_t (zix (by omega) (by omega)), nI_clamp (by omega), nI_1, zsub2]
    have hP := zPst_b c hc s hs k hk
    have h7 := z7_b k hk
    rcases hm with ⟨hw, rfl⟩ | ⟨hw, rfl⟩
    · rw [if_pos hw]
      have e0 := zbt_and0 hb hP.1
      by_cases h1 : (zi S 437 (112 + 19 * v + 2) >>> (nI k &&& 31)) &&& 1 = 1
      · rw [if_pos h1]
        by_cases h2 : f_X12_isSeen (nI k) (nI c) (nI s) = 0
        · rw [if_pos h2, if_pos (e0.mpr (fun q => q.2 (hP.2.mpr h2))), Int32.sub_zero]
        · rw [if_neg h2, if_neg (fun q => e0.mp q ⟨h1, fun z => h2 (hP.2.mp z)⟩)]
      · rw [if_neg h1, if_pos (e0.mpr (fun q => h1 q.1)), Int32.sub_zero]
    · rw [if_neg hw]
      have e0 := zbt_and0 hb h7.1
      by_cases h1 : (zi S 437 (112 + 19 * v + 2) >>> (nI k &&& 31)) &&& 1 = 1
      · rw [if_pos h1]
        by_cases h2 : 3 ≤ k
        · rw [if_pos (show (3 : Int32) ≤ nI k from nI_le (a := 3) (b := k) h2 (by omega)), if_pos (e0.mpr (fun q => q.2 (h7.2.mpr h2))), Int32.sub_zero]
        · rw [if_neg (show ¬ (3 : Int32) ≤ nI k from nI_ge (a := k) (b := 3) (by omega) (by omega)), if_neg (fun q => e0.mp q ⟨h1, fun z => h2 (h7.2.mp z)⟩)]
      · rw [if_neg h1, if_pos (e0.mpr (fun q => h1 q.1)), Int32.sub_zero]
  · show f_X12_lessOff_L7b S 436 (nI v) (nI c) w (fun x1 => some x1) (f_X12_lessOff_L7 S 436 (nI v) (nI c) w (fun x1 => some x1) f) (20 - zOff (zi S 437) (zi S 437 (112 + 19 * v + 2) &&& mask) 6) (nI 6) = _
    unfold f_X12_lessOff_L7b
    rw [if_pos (show (6 : Int32) ≤ nI 6 from Int32.le_refl _)]
theorem m_aheadOf {S : zM} (hL : zLay S) {v : Nat} (hv : v < 40) {n : Nat} (hn : 40 < n) : f_X12_aheadOf n S 436 (nI v) = some (match zAh (zi S 437) (zi S 437 (112 + 19 * v)) v with
    | none => -1
    | some e => nI e) := by
  unfold f_X12_aheadOf
  rw [zLet_d]
  have hg : ∀ w : Nat, w < 40 → f_X12_get S 436 (nI w) (0 : Int32) = some (zi S 437 (112 + 19 * w)) := fun w hw => m_get (k := 0) hL hw (by omega)
  have key : ∀ k n : Nat, k ≤ v → k < n → f_X12_aheadOf_L4 S 436 (nI v) (fun x1 => some x1) n (nI k - 1) = some (match zAh (zi S 437) (zi S 437 (112 + 19 * v)) k with
      | none => -1
      | some e => nI e) := by
    intro k
    induction k with
    | zero =>
      intro n _ hn
      obtain ⟨f, rfl⟩ : ∃ f, n = f + 1 := ⟨n - 1, by omega⟩
      show f_X12_aheadOf_L4b S 436 (nI v) (fun x1 => some x1) (f_X12_aheadOf_L4 S 436 (nI v) (fun x1 => some x1) f) (nI 0 - 1) = some (-1)
      unfold f_X12_aheadOf_L4b
      rw [if_pos (show nI 0 - 1 < 0 by decide +kernel)]
      decide +kernel
    | succ k ih =>
      intro n hk hn
      obtain ⟨f, rfl⟩ : ∃ f, n = f + 1 := ⟨n - 1, by omega⟩
      rw [nI_pred]
      show f_X12_aheadOf_L4b S 436 (nI v) (fun x1 => some x1) (f_X12_aheadOf_L4 S 436 (nI v) (fun x1 => some x1) f) (nI k) = some (match (if zi S 437 (112 + 19 * k) = zi S 437 (112 + 19 * v) then some k else zAh (zi S 437) (zi S 437 (112 + 19 * v)) k) with
        | none => -1
        | some e => nI e)
      unfold f_X12_aheadOf_L4b
      rw [if_neg (nI_pos (by omega)), hg k (by omega), hg v hv, zB1_s, zB1_s, show nI k + (-1 : Int32) = nI k - 1 from (Int32.sub_eq_add_neg _ _).symm, ih f (by omega) (by omega)]
      by_cases h1 : zi S 437 (112 + 19 * k) = zi S 437 (112 + 19 * v)
      · rw [if_pos h1, if_pos h1]
      · rw [if_neg h1, if_neg h1]
  exact key v n (Nat.le_refl _) (by omega)
theorem m_worthLt {S : zM} (h : zLay S) {e nd : Nat} (he : e < 40) (hb : zB6w (zi S 437) nd (112 + 19 * e)) (h5 : zB5p (zi S 437)) {n : Nat} (hn : 6 < n) : ∃ w : Int32, f_X12_worth n S 436 (nI e) = some w ∧ (w < 15 ↔ 5 < zOff (zi S 437) (zi S 437 (112 + 19 * e + 2)) 6) := by
  refine ⟨_, m_worth h he hb.2.2.1 hn, ?_⟩
  unfold zWorth
  exact zgood (zOff_b h5.1 _ 6 (by omega))
/-- from a judge's place in the hall: who sits there -/
def zSt (g : Nat → Int32) (v c : Nat) : Int32 := g (70 + 7 * (g (112 + 19 * v)).toNatClampNeg + c)
theorem m_seat {S : zM} (h : zLay S) {v c a : Nat} (hv : v < 40) (ha : a < 6) (ea : zi S 437 (112 + 19 * v) = nI a) (hc : c < 7) : f_X12_get S 436 (nI v) (0 : Int32) = some (nI a) ∧ f_X12_onChair S 436 (nI a) (nI c) = some (zSt (zi S 437) v c - 1) := by
  refine ⟨(m_get (k := 0) h hv (by omega)).trans (congrArg some ea), ?_⟩
  rw [m_onChair h ha hc]
  unfold zSt
  rw [ea, nI_clamp (by omega)]
theorem m_wouldOf {S : zM} (h : zLay S) {v c a j nd : Nat} (hv : v < 40) (hb : zB6w (zi S 437) nd (112 + 19 * v)) (hnd : nd ≤ 8) (h5 : zB5p (zi S 437)) (hahead : ∀ w : Nat, w < v → zB6w (zi S 437) nd (112 + 19 * w)) (ha : a < 6) (ea : zi S 437 (112 + 19 * v) = nI a) (hc : c < 7) (hj : j < 12) (ej : zSt (zi S 437) v c - 1 = nI j) {rc : zM → Nat → Int32 → Int32 → Option (Int32 × zM)} {n : Nat} (hn : 40 < n) :
    f_X12_wouldOfO n rc S 436 (nI v) (nI c) = if zi S 437 (16 + 4 * j) = 5 then zB2 (f_X12_middleWould n rc S 436 (nI v)) (fun r99 S100 => if r99 = -4 then some (zMk (zi S 437) v c j, S100) else some (r99, S100)) else some (zMk (zi S 437) v c j, S) := by
  have r0 : zr S 436 0 = 437 := h.2.2.2.2.2.1.1
  have l0 : zln S 437 = 1004 := h.2.2.2.2.2.2.1
  obtain ⟨g0, g1⟩ := m_seat h hv ha ea hc
  rw [ej] at g1
  obtain ⟨d, hd, ed⟩ := hb.2.1.k
  obtain ⟨s, hs, es⟩ := hb.2.2.2.1.k
  have g2 : f_X12_get S 436 (nI v) (1 : Int32) = some (nI d) := (m_get (k := 1) h hv (by omega)).trans (congrArg some ed)
  have hdn : zDn (zi S 437) v = d := by
    unfold zDn
    rw [ed]
    exact nI_clamp (by omega)
  have hlo := fun (w mask : Int32) (hm : (w = 0 ∧ mask = zPst (nI c) (nI s) 6) ∨ (¬ w = 0 ∧ mask = 7)) => m_lessOff (n := n) h hv hb.2.2.1 es hm hc hs (by omega)
  have hah := m_aheadOf h hv hn
  have z4 : (16 : Int32) + 4 * nI j = nI (16 + 4 * j) := by rw [zq16, show (4 : Int32) = nI 4 from rfl, nI_mul, nI_add]
  have y1 : nI (16 + 4 * j) + 1 = nI (17 + 4 * j) := by rw [nI_1, show 16 + 4 * j + 1 = 17 + 4 * j by omega]
  have y2 : nI (16 + 4 * j) + 2 = nI (18 + 4 * j) := by rw [show (2 : Int32) = nI 2 from rfl, nI_add, show 16 + 4 * j + 2 = 18 + 4 * j by omega]
  have y3 : nI (16 + 4 * j) + 3 = nI (19 + 4 * j) := by rw [show (3 : Int32) = nI 3 from rfl, nI_add, show 16 + 4 * j + 3 = 19 + 4 * j by omega]
  have w2 : (2 : Int32) * nI d = nI (2 * d) := by rw [show (2 : Int32) = nI 2 from rfl, nI_mul]
  have hlo' : f_X12_lessOff n S 436 (nI v) (nI c) (if zi S 437 (16 + 4 * j) = 7 then 1 else 0) = some (zFr (zi S 437) v c j) := by
    unfold zFr
    by_cases h7 : zi S 437 (16 + 4 * j) = 7
    · rw [if_pos h7, if_pos h7]
      exact hlo 1 7 (Or.inr ⟨by decide, rfl⟩)
    · rw [if_neg h7, if_neg h7, es]
      exact hlo 0 _ (Or.inl ⟨rfl, rfl⟩)
  have hev : (if zFr (zi S 437) v c j - zFr (zi S 437) v c j / 2 * 2 = 0 then zFr (zi S 437) v c j else zFr (zi S 437) v c j - 1) = zFr (zi S 437) v c j - (zFr (zi S 437) v c j &&& 1) := by
    unfold zFr
    exact zeven (zOff_b h5.1 _ 6 (by omega))
  have hhalf : (zFr (zi S 437) v c j + zi S 437 (2 * d + 1) / 2) + zDr (zi S 437) v = zFr (zi S 437) v c j + (zi S 437 (2 * d + 1) / 2 + zDr (zi S 437) v) := Int32.add_assoc _ _ _
  unfold f_X12_wouldOfO
  rw [g0, zB1_s, g1, zB1_s, g2, zB1_s, r0, l0, zChk_t (by decide), w2, z4, zChk_t (zix (by omega) (by omega)), zChk_t (zix (by omega) (by omega)), nI_clamp (show 16 + 4 * j < 2 ^ 31 by omega), nI_clamp (show 2 * d < 2 ^ 31 by omega), zLet_d]
  unfold zMk
  rw [hdn]
  by_cases h7 : zi S 437 (16 + 4 * j) = 7
  · have n1 : ¬ zi S 437 (16 + 4 * j) = 1 := by rw [h7]; decide
    have n2 : ¬ zi S 437 (16 + 4 * j) = 2 := by rw [h7]; decide
    have n3 : ¬ zi S 437 (16 + 4 * j) = 3 := by rw [h7]; decide
    have n4 : ¬ zi S 437 (16 + 4 * j) = 4 := by rw [h7]; decide
    have n5 : ¬ zi S 437 (16 + 4 * j) = 5 := by rw [h7]; decide
    rw [if_pos h7] at hlo'
    rw [if_pos h7]
    dsimp only
    rw [hlo', zB1_s, zChk_t (by decide), zChk_t (zixc (by omega) (by omega))]
    repeat rw [if_neg n1]
    repeat rw [if_neg n2]
    repeat rw [if_neg n3]
    repeat rw [if_neg n4]
    repeat rw [if_neg n5]
    rfl
  · rw [if_neg h7] at hlo'
    rw [if_neg h7]
    dsimp only
    rw [hlo', zB1_s, zChk_t (by decide), zChk_t (zixc (by omega) (by omega)), y1, y2, y3]
    by_cases h1 : zi S 437 (16 + 4 * j) = 1
    · have n5 : ¬ zi S 437 (16 + 4 * j) = 5 := by rw [h1]; decide
      repeat rw [if_pos h1]
      rw [if_neg n5, ← hev]
      simp only [nLet]
      split <;> rfl
    · repeat rw [if_neg h1]
      by_cases h2 : zi S 437 (16 + 4 * j) = 2
      · have n5 : ¬ zi S 437 (16 + 4 * j) = 5 := by rw [h2]; decide
        repeat rw [if_pos h2]
        rw [if_neg n5, zChk_t (zix (by omega) (by omega)), nI_clamp (show 17 + 4 * j < 2 ^ 31 by omega), nI_clamp (show 18 + 4 * j < 2 ^ 31 by omega)]
        simp only [nLet]
        rw [zChk_t (zixc (by omega) (by omega))]
        split <;> rfl
      · repeat rw [if_neg h2]
        by_cases h3 : zi S 437 (16 + 4 * j) = 3
        · have n5 : ¬ zi S 437 (16 + 4 * j) = 5 := by rw [h3]; decide
          repeat rw [if_pos h3]
          rw [if_neg n5, zChk_t (zix (by omega) (by omega)), nI_clamp (show 17 + 4 * j < 2 ^ 31 by omega), nI_clamp (show 18 + 4 * j < 2 ^ 31 by omega), nI_clamp (show 19 + 4 * j < 2 ^ 31 by omega)]
          simp only [nLet]
          rw [zChk_t (show ¬ (437 : Nat) = 0 by decide), zChk_t (zixc (show 18 + 4 * j < 1004 by omega) (by omega)), zChk_t (zixc (show 19 + 4 * j < 1004 by omega) (by omega))]
          by_cases p1 : zi S 437 (2 * d) = zi S 437 (17 + 4 * j)
          · rw [if_pos p1, if_pos (Or.inl p1)]
          · rw [if_neg p1]
            by_cases p2 : zi S 437 (2 * d) = zi S 437 (19 + 4 * j)
            · rw [if_pos p2, if_pos (Or.inr p2)]
            · rw [if_neg p2, if_neg (fun q => q.elim p1 p2)]
        · repeat rw [if_neg h3]
          by_cases h4 : zi S 437 (16 + 4 * j) = 4
          · have n5 : ¬ zi S 437 (16 + 4 * j) = 5 := by rw [h4]; decide
            repeat rw [if_pos h4]
            rw [if_neg n5, hah, zB1_s, zB1_s, w2, nI_1, zChk_t (zix (by omega) (by omega)), nI_clamp (show 2 * d + 1 < 2 ^ 31 by omega), ← hhalf]
            simp only [nLet]
            unfold zDr
            cases hz : zAh (zi S 437) (zi S 437 (112 + 19 * v)) v with
            | none =>
              dsimp only
              rw [if_pos (show (-1 : Int32) < 0 by decide)]
            | some e =>
              dsimp only
              have hev2 := zAh_lt hz
              obtain ⟨w, hw, hwl⟩ := m_worthLt (n := n) h (show e < 40 by omega) (hahead e hev2) h5 (by omega)
              rw [if_neg (nI_pos (by omega)), hw, zB1_s]
              by_cases p1 : 5 < zOff (zi S 437) (zi S 437 (112 + 19 * e + 2)) 6
              · rw [if_pos p1, if_pos (hwl.mpr p1)]
              · rw [if_neg p1, if_neg (fun q => p1 (hwl.mp q))]
          · repeat rw [if_neg h4]
            by_cases n5 : zi S 437 (16 + 4 * j) = 5
            · repeat rw [if_pos n5]
              rfl
            · repeat rw [if_neg n5]
              rfl
