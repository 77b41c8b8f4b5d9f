/-! what is counted of a dive: its marks, what is off -/
theorem x_marksThere {S : zM} {q q1 : Nat} (hr : zr S q 0 = q1) (h0 : q1 ≠ 0) (hn : zln S q1 = 7) {n : Nat} (h : 7 < n) : f_X1_marksThere n S q = some (nI (zCnt (fun c => decide (¬ zi S q1 c = -128)) 7)) := by
  unfold f_X1_marksThere
  rw [zLet_d]
  refine zloop (fun n (s : Int32 × Int32) => f_X1_marksThere_L4 S q (fun x1 => some x1) n s.1 s.2) (fun k => (nI (zCnt (fun c => decide (¬ zi S q1 c = -128)) k), nI k)) 7 (fun k f hk => ?_) (fun f => ?_) n h
  · show f_X1_marksThere_L4b S q (fun x1 => some x1) (f_X1_marksThere_L4 S q (fun x1 => some x1) f) (nI (zCnt (fun c => decide (¬ zi S q1 c = -128)) k)) (nI k) = _
    unfold f_X1_marksThere_L4b
    rw [if_neg (show ¬ (7 : Int32) ≤ nI k from nI_ge hk (by decide)), hr, zChk_t h0, hn, zChk_t (zix hk (by omega)), nI_clamp (by omega), nI_1, nI_1]
    by_cases hp : zi S q1 k = -128
    · rw [if_pos hp, show zCnt (fun c => decide (¬ zi S q1 c = -128)) (k + 1) = zCnt (fun c => decide (¬ zi S q1 c = -128)) k from if_neg (by simp [hp])]
    · rw [if_neg hp, show zCnt (fun c => decide (¬ zi S q1 c = -128)) (k + 1) = zCnt (fun c => decide (¬ zi S q1 c = -128)) k + 1 from if_pos (by simp [hp])]
  · show f_X1_marksThere_L4b S q (fun x1 => some x1) (f_X1_marksThere_L4 S q (fun x1 => some x1) f) (nI (zCnt (fun c => decide (¬ zi S q1 c = -128)) 7)) (nI 7) = _
    unfold f_X1_marksThere_L4b
    rw [if_pos (show (7 : Int32) ≤ nI 7 from Int32.le_refl _)]
theorem m_marksOf {S : zM} (h : zLay S) {v : Nat} (hv : v < 40) {n : Nat} (hn : 7 < n) : f_X12_marksOf n S 436 (nI v) = some (nI (zCnt (fun c => decide (¬ zi S 437 (112 + 19 * v + 5 + c) ≤ 0)) 7)) := by
  unfold f_X12_marksOf
  rw [zLet_d]
  refine zloop (fun n (s : Int32 × Int32) => f_X12_marksOf_L4 S 436 (nI v) (fun x1 => some x1) n s.1 s.2) (fun k => (nI (zCnt (fun c => decide (¬ zi S 437 (112 + 19 * v + 5 + c) ≤ 0)) k), nI k)) 7 (fun k f hk => ?_) (fun f => ?_) n hn
  · show f_X12_marksOf_L4b S 436 (nI v) (fun x1 => some x1) (f_X12_marksOf_L4 S 436 (nI v) (fun x1 => some x1) f) (nI (zCnt (fun c => decide (¬ zi S 437 (112 + 19 * v + 5 + c) ≤ 0)) k)) (nI k) = _
    unfold f_X12_marksOf_L4b
    rw [if_neg (show ¬ (7 : Int32) ≤ nI k from nI_ge hk (by decide)), show (5 : Int32) = nI 5 from rfl, nI_add, m_get h hv (by omega), zB1_s, zLet_d, show 112 + 19 * v + (5 + k) = 112 + 19 * v + 5 + k by omega]
    by_cases hp : zi S 437 (112 + 19 * v + 5 + k) ≤ 0
    · rw [if_pos hp, show zCnt (fun c => decide (¬ zi S 437 (112 + 19 * v + 5 + c) ≤ 0)) (k + 1) = zCnt (fun c => decide (¬ zi S 437 (112 + 19 * v + 5 + c) ≤ 0)) k from if_neg (by simp [hp])]
      dsimp only
      rw [nI_1, Int32.add_zero]
    · rw [if_neg hp, show zCnt (fun c => decide (¬ zi S 437 (112 + 19 * v + 5 + c) ≤ 0)) (k + 1) = zCnt (fun c => decide (¬ zi S 437 (112 + 19 * v + 5 + c) ≤ 0)) k + 1 from if_pos (by simp [hp])]
      dsimp only
      rw [nI_1, nI_1]
  · show f_X12_marksOf_L4b S 436 (nI v) (fun x1 => some x1) (f_X12_marksOf_L4 S 436 (nI v) (fun x1 => some x1) f) (nI (zCnt (fun c => decide (¬ zi S 437 (112 + 19 * v + 5 + c) ≤ 0)) 7)) (nI 7) = _
    unfold f_X12_marksOf_L4b
    rw [if_pos (show (7 : Int32) ≤ nI 7 from Int32.le_refl _)]
/-- what is off for the flaws fl -/
def zOff (g : Nat → Int32) (fl : Int32) (k : Nat) : Int32 := zSum (fun p => if ((fl >>> (nI p &&& 31)) &&& 1) = 0 then 0 else g (872 + p)) k
theorem x_offFor {S : zM} {g : Nat → Int32} {q q1 : Nat} (hr : zr S q 0 = q1) (h0 : q1 ≠ 0) (hn : zln S q1 = 6) (hg : ∀ p : Nat, p < 6 → zi S q1 p = g (872 + p)) {fl : Int32} {n : Nat} (h : 6 < n) : f_X6_offFor n S q fl = some (zOff g fl 6) := by
  unfold f_X6_offFor
  rw [zLet_d]
  refine zloop (fun n (s : Int32 × Int32) => f_X6_offFor_L4 S q fl (fun x1 => some x1) n s.1 s.2) (fun k => (zOff g fl k, nI k)) 6 (fun k f hk => ?_) (fun f => ?_) n h
  · show f_X6_offFor_L4b S q fl (fun x1 => some x1) (f_X6_offFor_L4 S q fl (fun x1 => some x1) f) (zOff g fl k) (nI k) = _
    unfold f_X6_offFor_L4b
    rw [if_neg (show ¬ (6 : Int32) ≤ nI k from nI_ge hk (by decide)), hr, zChk_t h0, hn, zChk_t (zix hk (by omega)), nI_clamp (by omega), nI_1, hg k hk]
    show _ = f_X6_offFor_L4 S q fl (fun x1 => some x1) f (zOff g fl k + (if ((fl >>> (nI k &&& 31)) &&& 1) = 0 then 0 else g (872 + k))) (nI (k + 1))
    by_cases hp : ((fl >>> (nI k &&& 31)) &&& 1) = 0
    · rw [if_pos hp, if_pos hp, Int32.add_zero]
    · rw [if_neg hp, if_neg hp]
  · show f_X6_offFor_L4b S q fl (fun x1 => some x1) (f_X6_offFor_L4 S q fl (fun x1 => some x1) f) (zOff g fl 6) (nI 6) = _
    unfold f_X6_offFor_L4b
    rw [if_pos (show (6 : Int32) ≤ nI 6 from Int32.le_refl _)]
/-- one bit of a number of flaws: 0 or 1 -/
theorem zbit01 {fl : Int32} (h : zU fl 64) {p : Nat} (hp : p < 6) : ((fl >>> (nI p &&& 31)) &&& 1) = 0 ∨ ((fl >>> (nI p &&& 31)) &&& 1) = 1 := by
  obtain ⟨k, hk, rfl⟩ := h.k
  have : ∀ k : Nat, k < 64 → ∀ p : Nat, p < 6 → ((nI k >>> (nI p &&& 31)) &&& 1) = 0 ∨ ((nI k >>> (nI p &&& 31)) &&& 1) = 1 := by decide +kernel
  exact this k hk p hp
theorem zsub2 (a b c : Int32) : a - (b + c) = a - b - c := (Int32.sub_sub a b c).symm
/-- a dive's worth -/
def zWorth (g : Nat → Int32) (fl : Int32) : Int32 := zmax 0 (20 - zOff g fl 6)
theorem m_worth {S : zM} (h : zLay S) {v : Nat} (hv : v < 40) (hf : zU (zi S 437 (112 + 19 * v + 2)) 64) {n : Nat} (hn : 6 < n) : f_X12_worth n S 436 (nI v) = some (zWorth (zi S 437) (zi S 437 (112 + 19 * v + 2))) := by
  have hL := h
  obtain ⟨-, -, -, -, -, ⟨r0, -⟩, ⟨l0, -⟩⟩ := h
  unfold f_X12_worth
  rw [zLet_d]
  have h20 : (20 : Int32) - zOff (zi S 437) (zi S 437 (112 + 19 * v + 2)) 0 = 20 := Int32.sub_zero 20
  suffices key : f_X12_worth_L5 S 436 (nI v) (fun x1 => if 0 ≤ x1 then some x1 else some 0) n (20 - zOff (zi S 437) (zi S 437 (112 + 19 * v + 2)) 0) (nI 0) = some (zWorth (zi S 437) (zi S 437 (112 + 19 * v + 2))) by
    rw [h20] at key
    exact key
  refine zloop (fun n (s : Int32 × Int32) => f_X12_worth_L5 S 436 (nI v) (fun x1 => if 0 ≤ x1 then some x1 else some 0) n s.1 s.2) (fun k => (20 - zOff (zi S 437) (zi S 437 (112 + 19 * v + 2)) k, nI k)) 6 (fun k f hk => ?_) (fun f => ?_) n hn
  · show f_X12_worth_L5b S 436 (nI v) (fun x1 => if 0 ≤ x1 then some x1 else some 0) (f_X12_worth_L5 S 436 (nI v) (fun x1 => if 0 ≤ x1 then some x1 else some 0) f) (20 - zOff (zi S 437) (zi S 437 (112 + 19 * v + 2)) k) (nI k) = f_X12_worth_L5 S 436 (nI v) (fun x1 => if 0 ≤ x1 then some x1 else some 0) f (20 - (zOff (zi S 437) (zi S 437 (112 + 19 * v + 2)) k + (if ((zi S 437 (112 + 19 * v + 2) >>> (nI k &&& 31)) &&& 1) = 0 then 0 else zi S 437 (872 + k)))) (nI (k + 1))
    unfold f_X12_worth_L5b
    rw [if_neg (show ¬ (6 : Int32) ≤ nI k from nI_ge hk (by decide)), show (2 : Int32) = nI 2 from rfl, m_get hL hv (by omega), zB1_s, zLet_d, r0, l0, show (872 : Int32) = nI 872 from rfl, nI_add, nI_1]
    rcases zbit01 hf hk with hb | hb
    · rw [if_neg (by rw [hb]; decide), if_pos hb]
      dsimp only
      rw [Int32.add_zero, Int32.sub_zero]
    · rw [if_pos hb, if_neg (by rw [hb]; decide), zChk_t (by decide), zChk_t (zix (by omega) (by omega)), nI_clamp (by omega)]
      dsimp only
      rw [zsub2]
  · show f_X12_worth_L5b S 436 (nI v) (fun x1 => if 0 ≤ x1 then some x1 else some 0) (f_X12_worth_L5 S 436 (nI v) (fun x1 => if 0 ≤ x1 then some x1 else some 0) f) (20 - zOff (zi S 437) (zi S 437 (112 + 19 * v + 2)) 6) (nI 6) = _
    unfold f_X12_worth_L5b zWorth zmax
    rw [if_pos (show (6 : Int32) ≤ nI 6 from Int32.le_refl _)]
    generalize 20 - zOff (zi S 437) (zi S 437 (112 + 19 * v + 2)) 6 = w
    dsimp only
    by_cases h1 : 0 < w
    · rw [if_pos h1, if_pos (Int32.le_of_lt h1)]
    · rw [if_neg h1]
      by_cases h2 : 0 ≤ w
      · rw [if_pos h2, show w = 0 from Int32.le_antisymm (Int32.not_lt.mp h1) h2]
      · rw [if_neg h2]
theorem x_worthOf {S : zM} {b q : Nat} {g : Nat → Int32} (h : zLayS (zr S) (zln S) b) (hg : ∀ p : Nat, p < 6 → zi S (b + 6) p = g (872 + p)) {n : Nat} (hn : 6 < n) : f_X9_worthOf n S b q = some (zWorth g (zi S q 4)) := by
  obtain ⟨⟨-, -, -, -, r4, -⟩, ⟨p0, -⟩, ⟨-, -, -, -, l6, -⟩, -⟩ := h
  unfold f_X9_worthOf
  rw [r4, zChk_t (by omega), x_offFor p0 (by omega) l6 hg hn, zB1_s]
  rfl
theorem zmk2 {x : Int32} (h : zU x 22) : (¬ (if x = 0 then (-128 : Int32) else x - 1) = -128) ↔ ¬ x ≤ 0 := by
  have h1 := (zmk h).1
  obtain ⟨k, hk, rfl⟩ := h.k
  rw [h1]
  constructor
  · intro h2 h3
    exact h2 (Int32.le_antisymm h3 (nI_pos' (by omega)))
  · intro h2 h3
    exact h2 (by rw [h3]; exact Int32.le_refl _)
theorem zBd.v {g : Nat → Int32} (h : zBd g) {nv v : Nat} (hn : nv ≤ 40) (e : g 1003 = nI nv) (hv : v < nv) : ∃ nd nj : Nat, nd ≤ 8 ∧ nj ≤ 12 ∧ g 1001 = nI nd ∧ g 1002 = nI nj ∧ zB6p g nd nj (112 + 19 * v) := by
  obtain ⟨nd, nj, nv1, ⟨b1, b2, b3, b4, b5, b6⟩, -, -, -, -, -, c6⟩ := zBd_iff.mp h
  have := nI_inj (b6.symm.trans e) (by omega) (by omega)
  subst this
  exact ⟨nd, nj, b1, b2, b4, b5, c6 v hv⟩
theorem s_of {S : zM} (h : zInv S) (v1 v2 v3 v4 v5 : Int32) : ∃ S' : zM, zs_5 1 436 v1 v2 v3 v4 v5 S S' ∧ zInv S' := by
  refine ⟨S, ?_, h⟩
  have hL := h.1
  obtain ⟨nv, hn, e⟩ := h.2.2.1.n3
  have hr := h.2.1
  have e7 : zi S 2 7 = nI nv := by rw [← e]; exact hr.2.2.2.1.2.2
  have hl2 := hL.2.1
  have r0 : zr S 1 0 = 2 := hL.2.2.2.2.1.1.1
  suffices hh : ∃ r : Int32, f_X11_of 20 S 1 v1 v2 = some r ∧ f_X12_of 20 S 436 v1 v2 = some r by
    obtain ⟨r, a1, a2⟩ := hh
    exact ⟨r, 20, a1, a2, rfl⟩
  unfold f_X11_of f_X12_of
  rw [r0, zChk_t (by decide), m_isDive hL hn e]
  by_cases hv : zU v1 nv
  · obtain ⟨v, hv1, rfl⟩ := hv.k
    rw [x_diveAt hl2 hn e7 hv1, if_pos hv, zB1_s, zB1_s, if_neg (by omega), if_neg (show ¬ (1 : Int32) = 0 by decide), zisI (n := 7) rfl, zLet_d]
    obtain ⟨f2, f3, f4, f5, f6, fm⟩ := hr.2.2.2.2.2.2 v (by rw [e]; exact nI_lt hv1 (by omega)) (by omega)
    obtain ⟨nd, nj, -, -, -, -, hb⟩ := h.2.2.1.v hn e hv1
    by_cases hc : zU v2 7
    · obtain ⟨k, hk, rfl⟩ := hc.k
      rw [if_pos hc, if_neg (show ¬ (1 : Int32) = 0 by decide)]
      have hne : ∀ a b : Nat, a < 7 → b < 7 → a ≠ b → ¬ nI a = nI b := fun a b ha hb hab hh => hab (nI_inj hh (by omega) (by omega))
      match k, hk with
      | 0, _ =>
        rw [if_pos (show nI 0 = (0 : Int32) from rfl), if_neg (show ¬ (5 : Int32) ≤ nI 0 by decide +kernel), m_get hL (by omega) (by omega), f2]
        exact ⟨_, rfl, rfl⟩
      | 1, _ =>
        rw [if_neg (show ¬ nI 1 = (0 : Int32) by decide +kernel), if_pos (show nI 1 = (1 : Int32) from rfl), if_neg (show ¬ (5 : Int32) ≤ nI 1 by decide +kernel), m_get hL (by omega) (by omega), f3]
        exact ⟨_, rfl, rfl⟩
      | 2, _ =>
        rw [if_neg (show ¬ nI 2 = (0 : Int32) by decide +kernel), if_neg (show ¬ nI 2 = (1 : Int32) by decide +kernel), if_pos (show nI 2 = (2 : Int32) from rfl), if_neg (show ¬ (5 : Int32) ≤ nI 2 by decide +kernel), m_get hL (by omega) (by omega), f4]
        exact ⟨_, rfl, rfl⟩
      | 3, _ =>
        rw [if_neg (show ¬ nI 3 = (0 : Int32) by decide +kernel), if_neg (show ¬ nI 3 = (1 : Int32) by decide +kernel), if_neg (show ¬ nI 3 = (2 : Int32) by decide +kernel), if_pos (show nI 3 = (3 : Int32) from rfl), if_neg (show ¬ (5 : Int32) ≤ nI 3 by decide +kernel), m_get hL (by omega) (by omega), f5]
        exact ⟨_, rfl, rfl⟩
      | 4, _ =>
        rw [if_neg (show ¬ nI 4 = (0 : Int32) by decide +kernel), if_neg (show ¬ nI 4 = (1 : Int32) by decide +kernel), if_neg (show ¬ nI 4 = (2 : Int32) by decide +kernel), if_neg (show ¬ nI 4 = (3 : Int32) by decide +kernel), if_pos (show nI 4 = (4 : Int32) from rfl), if_neg (show ¬ (5 : Int32) ≤ nI 4 by decide +kernel), m_get hL (by omega) (by omega), f6]
        exact ⟨_, rfl, rfl⟩
      | 5, _ =>
        rw [if_neg (show ¬ nI 5 = (0 : Int32) by decide +kernel), if_neg (show ¬ nI 5 = (1 : Int32) by decide +kernel), if_neg (show ¬ nI 5 = (2 : Int32) by decide +kernel), if_neg (show ¬ nI 5 = (3 : Int32) by decide +kernel), if_neg (show ¬ nI 5 = (4 : Int32) by decide +kernel), if_pos (show nI 5 = (5 : Int32) from rfl), if_pos (show (5 : Int32) ≤ nI 5 by decide +kernel), if_pos (show nI 5 = (5 : Int32) from rfl)]
        rw [x_worthOf (g := zi S 437) hl2 hr.2.2.2.2.1.1 (by omega), m_worth hL (by omega) hb.2.2.1 (by omega), f4]
        exact ⟨_, rfl, rfl⟩
      | 6, _ =>
        rw [if_neg (show ¬ nI 6 = (0 : Int32) by decide +kernel), if_neg (show ¬ nI 6 = (1 : Int32) by decide +kernel), if_neg (show ¬ nI 6 = (2 : Int32) by decide +kernel), if_neg (show ¬ nI 6 = (3 : Int32) by decide +kernel), if_neg (show ¬ nI 6 = (4 : Int32) by decide +kernel), if_neg (show ¬ nI 6 = (5 : Int32) by decide +kernel), if_pos (show nI 6 = (6 : Int32) from rfl), if_pos (show (5 : Int32) ≤ nI 6 by decide +kernel), if_neg (show ¬ nI 6 = (5 : Int32) by decide +kernel)]
        have hd := hl2.2.2.2 v (by omega)
        rw [x_marksThere hd.2.1 (by omega) hd.2.2.2.1 (by omega), m_marksOf hL (by omega) (by omega), zCnt_c (q := fun c => decide (¬ zi S 437 (112 + 19 * v + 5 + c) ≤ 0)) (fun c hc => ?_)]
        · exact ⟨_, rfl, rfl⟩
        · have hm1 := (fm c hc).1
          rw [show 2 + 14 + 3 * v + 1 = 2 + 15 + 3 * v by omega] at hm1
          rw [hm1]
          exact decide_eq_decide.mpr (zmk2 (hb.2.2.2.2.2.1 c hc).1)
    · rw [if_neg hc, if_pos rfl]
      have hno : ∀ k : Nat, k < 7 → ¬ v2 = nI k := fun k hk hh => hc (by rw [hh]; exact zU_n hk (by omega))
      rw [if_neg (show ¬ v2 = (0 : Int32) from hno 0 (by omega)), if_neg (show ¬ v2 = (1 : Int32) from hno 1 (by omega)), if_neg (show ¬ v2 = (2 : Int32) from hno 2 (by omega)), if_neg (show ¬ v2 = (3 : Int32) from hno 3 (by omega)), if_neg (show ¬ v2 = (4 : Int32) from hno 4 (by omega)), if_neg (show ¬ v2 = (5 : Int32) from hno 5 (by omega)), if_neg (show ¬ v2 = (6 : Int32) from hno 6 (by omega))]
      exact ⟨-1, rfl, rfl⟩
  · rw [x_diveAt0 hn e7 hv, if_neg hv, zB1_s, zB1_s, if_pos rfl, if_pos rfl]
    exact ⟨-1, rfl, rfl⟩
