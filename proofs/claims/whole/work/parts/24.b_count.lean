/-! what is read of a panel -/
theorem nI_div2 {n : Nat} (h : n < 2 ^ 31) : nI n / (2 : Int32) = nI (n / 2) := nI_div h (by decide)
theorem x_middle {S : zM} {a q n : Nat} {f : Nat → Int32} (hr : zr S a 0 = q) (hq : ¬ q = 0) (hl : zln S q = 7) (hn : n ≤ 7) (hP : zPan S a 1 q n f) : f_X5_middle S a = some (if n = 0 then 0 else f (n / 2)) := by
  unfold f_X5_middle
  rw [hP.1]
  rcases Nat.eq_zero_or_pos n with h | h
  · subst h; rfl
  · rw [if_neg (nI_nle h (by omega)), hr, zChk_t hq, hl, nI_div2 (by omega), zChk_t (zix (by omega) (by omega)), nI_clamp (by omega), hP.2 _ (by omega), if_neg (by omega)]
theorem x_highest {S : zM} {a q n : Nat} {f : Nat → Int32} (hr : zr S a 0 = q) (hq : ¬ q = 0) (hl : zln S q = 7) (hn : n ≤ 7) (hP : zPan S a 1 q n f) : f_X5_highest S a = some (if n = 0 then 0 else f (n - 1)) := by
  unfold f_X5_highest
  rw [hP.1]
  rcases Nat.eq_zero_or_pos n with h | h
  · subst h; rfl
  · rw [if_neg (nI_nle h (by omega)), hr, zChk_t hq, hl, show (1 : Int32) = nI 1 from rfl, nI_sub h, zChk_t (zix (by omega) (by omega)), nI_clamp (by omega), hP.2 _ (by omega), if_neg (by omega)]
theorem x_lowest {S : zM} {a q n : Nat} {f : Nat → Int32} (hr : zr S a 0 = q) (hq : ¬ q = 0) (hl : zln S q = 7) (hn : n ≤ 7) (hP : zPan S a 1 q n f) : f_X5_lowest S a = some (if n = 0 then 0 else f 0) := by
  unfold f_X5_lowest
  rw [hP.1]
  rcases Nat.eq_zero_or_pos n with h | h
  · subst h; rfl
  · rw [if_neg (nI_nle h (by omega)), hr, zChk_t hq, hl, zChk_t (show ¬ ((0 : Int32) < 0 ∨ 7 ≤ ((0 : Int32)).toNatClampNeg) by decide), show Int32.toNatClampNeg (0 : Int32) = 0 from rfl, hP.2 _ (by omega), if_neg (by omega)]
/-- the sum without the lo lowest and the hi highest -/
def zSm (f : Nat → Int32) (n lo hi : Nat) : Int32 := zSum (fun i => f (lo + i)) (n - hi - lo)
theorem x_sumBetween {S : zM} {a q n lo hi : Nat} {f : Nat → Int32} (hr : zr S a 0 = q) (hq : ¬ q = 0) (hl : zln S q = 7) (hn : n ≤ 7) (hP : zPan S a 1 q n f) (h : lo + hi ≤ n) {m : Nat} (hm : 7 < m) : f_X5_sumBetween m S a (nI lo) (nI hi) = some (zSm f n lo hi) := by
  unfold f_X5_sumBetween
  rw [zLet_d]
  refine zloop (fun m (s : Int32 × Int32) => f_X5_sumBetween_L5 S a (nI hi) (fun x1 => some x1) m s.1 s.2) (fun k => (zSum (fun i => f (lo + i)) k, nI (lo + k))) (n - hi - lo) (fun k g hk => ?_) (fun g => ?_) m (by omega)
  · show f_X5_sumBetween_L5b S a (nI hi) (fun x1 => some x1) (f_X5_sumBetween_L5 S a (nI hi) (fun x1 => some x1) g) (zSum (fun i => f (lo + i)) k) (nI (lo + k)) = f_X5_sumBetween_L5 S a (nI hi) (fun x1 => some x1) g (zSum (fun i => f (lo + i)) k + f (lo + k)) (nI (lo + k + 1))
    unfold f_X5_sumBetween_L5b
    rw [hP.1, nI_sub (show hi ≤ n by omega), if_neg (nI_ge (by omega) (by omega)), hr, zChk_t hq, hl, zChk_t (zix (by omega) (by omega)), nI_clamp (by omega), hP.2 _ (by omega), nI_1]
  · show f_X5_sumBetween_L5b S a (nI hi) (fun x1 => some x1) (f_X5_sumBetween_L5 S a (nI hi) (fun x1 => some x1) g) (zSum (fun i => f (lo + i)) (n - hi - lo)) (nI (lo + (n - hi - lo))) = _
    unfold f_X5_sumBetween_L5b
    rw [hP.1, nI_sub (show hi ≤ n by omega), if_pos (nI_le (by omega) (by omega))]
    rfl
/-- the panel of dive v of the row g -/
def zPn (g : Nat → Int32) (v : Nat) : Nat × (Nat → Int32) := zGa (fun c => !decide (g (112 + 19 * v + 5 + c) = 0)) (fun c => g (112 + 19 * v + 5 + c) - 1) 7
theorem zPn_le (g : Nat → Int32) (v : Nat) : (zPn g v).1 ≤ 7 := zGa_le _ _ 7
theorem x_gatherD {S : zM} {b v nd nj : Nat} {g : Nat → Int32} (hL : zLayS (zr S) (zln S) b) (hv : v < 40) (hD : zRepD (zi S) (b + 14 + 3 * v) g (112 + 19 * v)) (hb : zB6p g nd nj (112 + 19 * v)) {n : Nat} (hn : 7 < n) :
    ∃ S1 : zM, f_X5_gather n S (b + 12) (b + 14 + 3 * v) = some S1 ∧ zF (fun a j => (a = b + 13 ∧ j < 7) ∨ (a = b + 12 ∧ j = 1)) S S1 ∧ zPan S1 (b + 12) 1 (b + 13) (zPn g v).1 (zPn g v).2 := by
  have r12 : zr S (b + 12) 0 = b + 13 := hL.2.1.2.2.2
  have l13 : zln S (b + 13) = 7 := hL.2.2.1.2.2.2.2.2.2.2.2.2.2
  obtain ⟨-, d2, -, d4, -⟩ := hL.2.2.2 v hv
  obtain ⟨S1, e, f, p⟩ := x_gather (S0 := S) (a0 := b + 12) (q := b + 13) (a1 := b + 14 + 3 * v) (q1 := b + 15 + 3 * v) r12 l13 (by omega) (by omega) d2 d4 (by omega) ⟨by omega, by omega⟩ hn
  refine ⟨S1, e, f, ?_⟩
  have he : zGa (fun c => !decide (zi S (b + 15 + 3 * v) c = -128)) (fun c => zi S (b + 15 + 3 * v) c) 7 = zPn g v := by
    refine zGa_c (fun c hc => ?_) (fun c hc hp => ?_)
    · have h1 := (hD.2.2.2.2.2 c hc).1
      rw [show b + 14 + 3 * v + 1 = b + 15 + 3 * v by omega] at h1
      rw [h1]
      exact congrArg (fun z => !z) (decide_eq_decide.mpr (zmk (hb.2.2.2.2.2.1 c hc).1).1)
    · have h1 := (hD.2.2.2.2.2 c hc).1
      rw [show b + 14 + 3 * v + 1 = b + 15 + 3 * v by omega] at h1
      have h2 : ¬ zi S (b + 15 + 3 * v) c = -128 := by simpa using hp
      rw [h1] at h2 ⊢
      rw [if_neg (fun q => h2 ((zmk (hb.2.2.2.2.2.1 c hc).1).1.mpr q))]
  rw [he] at p
  exact p
/-! count -/
/-- over the dives before k, what the marks of each are together: one each, or the marks -/
def zMs (g : Nat → Int32) (w : Bool) (v k : Nat) : Int32 := zSum (fun c => if g (112 + 19 * v + 5 + c) = 0 then 0 else if w then 1 else g (112 + 19 * v + 5 + c) - 1) k
def zMt (g : Nat → Int32) (w : Bool) (k : Nat) : Int32 := zSum (fun v => zMs g w v 7) k
theorem m_count3 {S : zM} (h : zLay S) {v : Nat} (hv : v < 40) (hb : ∀ c : Nat, c < 7 → zU (zi S 437 (112 + 19 * v + 5 + c)) 22) {w : Bool} {what x : Int32} (hw : w = decide (what = 3)) {K : Int32 → Option Int32} {n : Nat} (hn : 7 < n) : f_X12_count_L128 S 436 what (nI v) K n x 0 = K (x + zMs (zi S 437) w v 7) := by
  have h0 : x = x + zMs (zi S 437) w v 0 := (Int32.add_zero x).symm
  suffices key : f_X12_count_L128 S 436 what (nI v) K n (x + zMs (zi S 437) w v 0) (nI 0) = K (x + zMs (zi S 437) w v 7) by
    rw [← h0] at key; exact key
  refine zloop (fun n (s : Int32 × Int32) => f_X12_count_L128 S 436 what (nI v) K n s.1 s.2) (fun k => (x + zMs (zi S 437) w v k, nI k)) 7 (fun k f hk => ?_) (fun f => ?_) n hn
  · show f_X12_count_L128b S 436 what (nI v) K (f_X12_count_L128 S 436 what (nI v) K f) (x + zMs (zi S 437) w v k) (nI k) = f_X12_count_L128 S 436 what (nI v) K f (x + (zMs (zi S 437) w v k + (if zi S 437 (112 + 19 * v + 5 + k) = 0 then 0 else if w then 1 else zi S 437 (112 + 19 * v + 5 + k) - 1))) (nI (k + 1))
    have hm : f_X12_markOf S 436 (nI v) (nI k) = some (zi S 437 (112 + 19 * v + 5 + k) - 1) := by
      unfold f_X12_markOf
      rw [show (5 : Int32) = nI 5 from rfl, nI_add, m_get h hv (by omega), zB1_s, show 112 + 19 * v + (5 + k) = 112 + 19 * v + 5 + k by omega]
    unfold f_X12_count_L128b
    rw [if_neg (show ¬ (7 : Int32) ≤ nI k from nI_ge hk (by decide)), hm, zB1_s, zLet_d, zB1_s, nI_1, ← Int32.add_assoc]
    have hz := (zmk (hb k hk)).2
    by_cases h0 : zi S 437 (112 + 19 * v + 5 + k) = 0
    · rw [if_neg (fun q => hz.mp q h0), if_pos h0]
    · rw [if_pos (hz.mpr h0), if_neg h0, hw]
      by_cases h3 : what = 3
      · rw [if_pos h3, if_pos (by simp [h3])]
      · rw [if_neg h3, if_neg (by simp [h3])]
  · show f_X12_count_L128b S 436 what (nI v) K (f_X12_count_L128 S 436 what (nI v) K f) (x + zMs (zi S 437) w v 7) (nI 7) = _
    unfold f_X12_count_L128b
    rw [if_pos (show (7 : Int32) ≤ nI 7 from Int32.le_refl _)]
theorem m_count4 {S : zM} (h : zLay S) {nv : Nat} (hv : nv ≤ 40) (ev : zi S 437 1003 = nI nv) (hb : ∀ v : Nat, v < nv → ∀ c : Nat, c < 7 → zU (zi S 437 (112 + 19 * v + 5 + c)) 22) {w : Bool} {what : Int32} (hw : w = decide (what = 3)) {K : Int32 → Option Int32} {n : Nat} (hn : 40 < n) : f_X12_count_L113 n S 436 what K n 0 0 = K (zMt (zi S 437) w nv) := by
  have r0 : zr S 436 0 = 437 := h.2.2.2.2.2.1.1
  have l0 : zln S 437 = 1004 := h.2.2.2.2.2.2.1
  refine zloop (fun m (s : Int32 × Int32) => f_X12_count_L113 n S 436 what K m s.1 s.2) (fun k => (zMt (zi S 437) w k, nI k)) nv (fun k f hk => ?_) (fun f => ?_) n (by omega)
  · show f_X12_count_L113b n S 436 what K (f_X12_count_L113 n S 436 what K f) (zMt (zi S 437) w k) (nI k) = f_X12_count_L113 n S 436 what K f (zMt (zi S 437) w k + zMs (zi S 437) w k 7) (nI (k + 1))
    unfold f_X12_count_L113b
    rw [r0, l0, zq1003, zChk_t (by decide), zChk_t (zix (by omega) (by omega)), nI_clamp (by omega), ev, if_neg (nI_ge hk (by omega)), zLet_d, m_count3 h (by omega) (hb k hk) hw (by omega), nI_1]
  · show f_X12_count_L113b n S 436 what K (f_X12_count_L113 n S 436 what K f) (zMt (zi S 437) w nv) (nI nv) = _
    unfold f_X12_count_L113b
    rw [r0, l0, zq1003, zChk_t (by decide), zChk_t (zix (by omega) (by omega)), nI_clamp (by omega), ev, if_pos (Int32.le_refl _)]
theorem x_count3 {S : zM} {b nv : Nat} {g : Nat → Int32} (hL : zLayS (zr S) (zln S) b) (hv : nv ≤ 40) (ev : zi S b 7 = nI nv) (hD : ∀ v : Nat, v < nv → zRepD (zi S) (b + 14 + 3 * v) g (112 + 19 * v)) (hb : ∀ v : Nat, v < nv → ∀ c : Nat, c < 7 → zU (g (112 + 19 * v + 5 + c)) 22) {n : Nat} (hn : 40 < n) : f_X9_marksThere n S b = some (zMt g true nv) := by
  unfold f_X9_marksThere
  rw [zLet_d]
  have r9 : zr S b 9 = b + 10 := hL.1.2.2.2.2.2.2.1
  have l10 : zln S (b + 10) = 40 := hL.2.2.1.2.2.2.2.2.2.2.2.1
  refine zloop (fun m (s : Int32 × Int32) => f_X9_marksThere_L4 n S b (fun x1 => some x1) m s.1 s.2) (fun k => (zMt g true k, nI k)) nv (fun k f hk => ?_) (fun f => ?_) n (by omega)
  · show f_X9_marksThere_L4b n S b (fun x1 => some x1) (f_X9_marksThere_L4 n S b (fun x1 => some x1) f) (zMt g true k) (nI k) = f_X9_marksThere_L4 n S b (fun x1 => some x1) f (zMt g true k + zMs g true k 7) (nI (k + 1))
    unfold f_X9_marksThere_L4b
    obtain ⟨d1, d2, d3, d4, d5⟩ := hL.2.2.2 k (by omega)
    rw [ev, if_neg (nI_ge hk (by omega)), r9, zChk_t (by omega), l10, zChk_t (zix (by omega) (by omega)), nI_clamp (by omega), d1, zChk_t (by omega), x_marksThere d2 (by omega) d4 (by omega), zB1_s, nI_1, zCnt_sum]
    rw [show zSum (fun i => if (decide (¬ zi S (b + 15 + 3 * k) i = -128)) = true then (1 : Int32) else 0) 7 = zMs g true k 7 from zSum_c (fun c hc => ?_)]
    have h1 := ((hD k hk).2.2.2.2.2 c hc).1
    rw [show b + 14 + 3 * k + 1 = b + 15 + 3 * k by omega] at h1
    have h2 := (zmk (hb k hk c hc)).1
    rw [h1]
    by_cases h0 : g (112 + 19 * k + 5 + c) = 0
    · rw [if_pos h0]
      simp
      exact h0
    · rw [if_neg h0, if_pos rfl]
      have h3 : ¬ g (112 + 19 * k + 5 + c) - 1 = -128 := fun q => h0 (h2.mp (by rw [if_neg h0]; exact q))
      simp [h3]
      exact h0
  · show f_X9_marksThere_L4b n S b (fun x1 => some x1) (f_X9_marksThere_L4 n S b (fun x1 => some x1) f) (zMt g true nv) (nI nv) = _
    unfold f_X9_marksThere_L4b
    rw [ev, if_pos (Int32.le_refl _)]
theorem x_count4 {S0 : zM} {b nv nd nj : Nat} {g : Nat → Int32} (hb0 : b = 2 ∨ b = 136 ∨ b = 270) (hL : zLayS (zr S0) (zln S0) b) (hv : nv ≤ 40) (ev : zi S0 b 7 = nI nv) (hD : ∀ v : Nat, v < nv → zRepD (zi S0) (b + 14 + 3 * v) g (112 + 19 * v)) (hb : ∀ v : Nat, v < nv → zB6p g nd nj (112 + 19 * v)) {n : Nat} (hn : 40 < n) : ∃ S1 : zM, f_X9_sumOfMarks n S0 b = some (zMt g false nv, S1) ∧ zF (fun a j => a = b + 13 ∨ a = b + 12) S0 S1 := by
  unfold f_X9_sumOfMarks
  rw [zLet_d]
  have r9 : zr S0 b 9 = b + 10 := hL.1.2.2.2.2.2.2.1
  have r11 : zr S0 b 11 = b + 12 := hL.1.2.2.2.2.2.2.2.2
  have r12 : zr S0 (b + 12) 0 = b + 13 := hL.2.1.2.2.2
  have l10 : zln S0 (b + 10) = 40 := hL.2.2.1.2.2.2.2.2.2.2.2.1
  have l13 : zln S0 (b + 13) = 7 := hL.2.2.1.2.2.2.2.2.2.2.2.2.2
  refine zloopR (fun m (s : Int32 × Int32 × zM) => f_X9_sumOfMarks_L4 n b (fun x1 S2 => some (x1, S2)) m s.1 s.2.1 s.2.2) (fun k s => s.1 = zMt g false k ∧ s.2.1 = nI k ∧ zF (fun a j => a = b + 13 ∨ a = b + 12) S0 s.2.2) nv (fun o => ∃ S1 : zM, o = some (zMt g false nv, S1) ∧ zF (fun a j => a = b + 13 ∨ a = b + 12) S0 S1) ?_ ?_ n (0, 0, S0) (by omega) ⟨rfl, rfl, zF.rf⟩
  · rintro k f ⟨x, y, S⟩ hk ⟨h1, h2, h3⟩
    dsimp only at h1 h2 h3 ⊢
    subst h1 h2
    obtain ⟨d1, d2, d3, d4, d5⟩ := hL.2.2.2 k (by omega)
    obtain ⟨T, e, f1, p⟩ := x_gatherD (S := S) (b := b) (v := k) (g := g) (nd := nd) (nj := nj) (by rw [h3.r, h3.n]; exact hL) (by omega) ((hD k hk).fr (fun a i h1 h2 => h3.i (by omega))) (hb k hk) (n := n) (by omega)
    have hs := x_sumBetween (S := T) (a := b + 12) (q := b + 13) (lo := 0) (hi := 0) (by rw [f1.r, h3.r]; exact r12) (by omega) (by rw [f1.n, h3.n]; exact l13) (zPn_le g k) p (by omega) (m := n) (by omega)
    refine ⟨(zMt g false (k + 1), nI (k + 1), T), ⟨rfl, rfl, h3.tr (f1.mo (fun a j q => by omega))⟩, ?_⟩
    show f_X9_sumOfMarks_L4b n b (fun x1 S2 => some (x1, S2)) (f_X9_sumOfMarks_L4 n b (fun x1 S2 => some (x1, S2)) f) (zMt g false k) (nI k) S = f_X9_sumOfMarks_L4 n b (fun x1 S2 => some (x1, S2)) f (zMt g false k + zMs g false k 7) (nI (k + 1)) T
    unfold f_X9_sumOfMarks_L4b
    rw [h3.i (show ¬ (b = b + 13 ∨ b = b + 12) by omega), ev, if_neg (nI_ge hk (by omega)), h3.r, r11, r9, zChk_t (by omega), zChk_t (by omega), h3.n, l10, zChk_t (zix (by omega) (by omega)), nI_clamp (by omega), d1, zChk_t (by omega), e, zB1_s, f1.r, h3.r, r11, zChk_t (by omega), show (0 : Int32) = nI 0 from rfl, hs, zB1_s, nI_1]
    have e1 : zSm (zPn g k).2 (zPn g k).1 0 0 = zMs g false k 7 := by
      unfold zSm
      rw [show (zPn g k).1 - 0 - 0 = (zPn g k).1 by omega, show (fun i => (zPn g k).2 (0 + i)) = (zPn g k).2 from funext fun i => by rw [Nat.zero_add]]
      refine (zGa_sum _ _ 7).trans (zSum_c (fun c hc => ?_))
      by_cases h0 : g (112 + 19 * k + 5 + c) = 0
      · simp [h0]
      · simp [h0]
    rw [e1]
  · rintro f ⟨x, y, S⟩ ⟨h1, h2, h3⟩
    dsimp only at h1 h2 h3 ⊢
    subst h1 h2
    refine ⟨S, ?_, h3⟩
    show f_X9_sumOfMarks_L4b n b (fun x1 S2 => some (x1, S2)) (f_X9_sumOfMarks_L4 n b (fun x1 S2 => some (x1, S2)) f) (zMt g false nv) (nI nv) S = _
    unfold f_X9_sumOfMarks_L4b
    rw [h3.i (show ¬ (b = b + 13 ∨ b = b + 12) by omega), ev, if_pos (Int32.le_refl _)]
theorem x_seats {S : zM} {b : Nat} {g : Nat → Int32} (hL : zLayS (zr S) (zln S) b) (hg : ∀ q : Nat, q < 42 → zi S (b + 4) q = g (70 + q) - 1) {n : Nat} (hn : 42 < n) : f_X9_seatsTaken n S b = some (nI (zCnt (fun q => !decide (g (70 + q) = 0)) 42)) := by
  unfold f_X9_seatsTaken
  rw [zLet_d]
  have r3 : zr S b 3 = b + 4 := hL.1.2.2.2.1
  have l4 : zln S (b + 4) = 42 := hL.2.2.1.2.2.2.1
  refine zloop (fun m (s : Int32 × Int32) => f_X9_seatsTaken_L4 S b (fun x1 => some x1) m s.1 s.2) (fun k => (nI (zCnt (fun q => !decide (g (70 + q) = 0)) k), nI k)) 42 (fun k f hk => ?_) (fun f => ?_) n hn
  · show f_X9_seatsTaken_L4b S b (fun x1 => some x1) (f_X9_seatsTaken_L4 S b (fun x1 => some x1) f) (nI (zCnt (fun q => !decide (g (70 + q) = 0)) k)) (nI k) = f_X9_seatsTaken_L4 S b (fun x1 => some x1) f (nI (if (!decide (g (70 + k) = 0)) = true then zCnt (fun q => !decide (g (70 + q) = 0)) k + 1 else zCnt (fun q => !decide (g (70 + q) = 0)) k)) (nI (k + 1))
    unfold f_X9_seatsTaken_L4b
    rw [if_neg (show ¬ (42 : Int32) ≤ nI k from nI_ge hk (by decide)), r3, zChk_t (by omega), l4, zChk_t (zix hk (by omega)), nI_clamp (by omega), hg k hk, nI_1, nI_1]
    by_cases h0 : g (70 + k) = 0
    · rw [if_pos (zm1.mpr h0), if_neg (by simp [h0])]
    · rw [if_neg (fun q => h0 (zm1.mp q)), if_pos (by simp [h0])]
  · show f_X9_seatsTaken_L4b S b (fun x1 => some x1) (f_X9_seatsTaken_L4 S b (fun x1 => some x1) f) (nI (zCnt (fun q => !decide (g (70 + q) = 0)) 42)) (nI 42) = _
    unfold f_X9_seatsTaken_L4b
    rw [if_pos (show (42 : Int32) ≤ nI 42 from Int32.le_refl _)]
theorem zU_le0 {x : Int32} {n : Nat} (h : zU x n) : x ≤ 0 ↔ x = 0 := by
  constructor
  · intro q
    refine Int32.le_antisymm q ?_
    rw [Int32.le_iff_toInt_le, zI0]
    exact h.1
  · intro q; rw [q]; exact Int32.le_refl _
theorem m_seats {S : zM} (h : zLay S) {nj : Nat} (hg : ∀ q : Nat, q < 42 → zU (zi S 437 (70 + q)) (nj + 1)) {K : Int32 → Option Int32} {n : Nat} (hn : 42 < n) : f_X12_count_L77 S 436 K n 0 0 = K (nI (zCnt (fun q => !decide (zi S 437 (70 + q) = 0)) 42)) := by
  have r0 : zr S 436 0 = 437 := h.2.2.2.2.2.1.1
  have l0 : zln S 437 = 1004 := h.2.2.2.2.2.2.1
  refine zloop (fun m (s : Int32 × Int32) => f_X12_count_L77 S 436 K m s.1 s.2) (fun k => (nI (zCnt (fun q => !decide (zi S 437 (70 + q) = 0)) k), nI k)) 42 (fun k f hk => ?_) (fun f => ?_) n hn
  · show f_X12_count_L77b S 436 K (f_X12_count_L77 S 436 K f) (nI (zCnt (fun q => !decide (zi S 437 (70 + q) = 0)) k)) (nI k) = f_X12_count_L77 S 436 K f (nI (if (!decide (zi S 437 (70 + k) = 0)) = true then zCnt (fun q => !decide (zi S 437 (70 + q) = 0)) k + 1 else zCnt (fun q => !decide (zi S 437 (70 + q) = 0)) k)) (nI (k + 1))
    unfold f_X12_count_L77b
    rw [if_neg (show ¬ (42 : Int32) ≤ nI k from nI_ge hk (by decide)), r0, zChk_t (by decide), l0, zq70, nI_add, zChk_t (zix (by omega) (by omega)), nI_clamp (by omega), zLet_d]
    by_cases h0 : zi S 437 (70 + k) = 0
    · rw [if_pos ((zU_le0 (hg k hk)).mpr h0), if_neg (show ¬ (!decide (zi S 437 (70 + k) = 0)) = true by simp [h0])]
      dsimp only
      rw [Int32.add_zero, nI_1]
    · rw [if_neg (fun q => h0 ((zU_le0 (hg k hk)).mp q)), if_pos (show (!decide (zi S 437 (70 + k) = 0)) = true by simp [h0])]
      dsimp only
      rw [nI_1, nI_1]
  · show f_X12_count_L77b S 436 K (f_X12_count_L77 S 436 K f) (nI (zCnt (fun q => !decide (zi S 437 (70 + q) = 0)) 42)) (nI 42) = _
    unfold f_X12_count_L77b
    rw [if_pos (show (42 : Int32) ≤ nI 42 from Int32.le_refl _)]
theorem s_count {S : zM} (h : zInv S) (v1 v2 v3 v4 v5 : Int32) : ∃ S' : zM, zs_30 1 436 v1 v2 v3 v4 v5 S S' ∧ zInv S' := by
  suffices hh : ∃ (S' : zM) (r : Int32), f_X11_count 200 S 1 v1 = some (r, S') ∧ f_X12_count 200 S' 436 v1 = some r ∧ zInv S' by
    obtain ⟨S', r, q1, q2, q3⟩ := hh
    exact ⟨S', ⟨r, 200, q1, q2⟩, q3⟩
  have hL := h.1
  have h2 := h.2.1
  have r0 : zr S 1 0 = 2 := hL.2.2.2.2.1.1.1
  have r4 : zr S 2 4 = 7 := hL.2.1.1.2.2.2.2.1
  have r7 : zr S 7 0 = 8 := hL.2.1.2.1.1
  have l8 : zln S 8 = 6 := hL.2.1.2.2.1.2.2.2.2.1
  have q0 : zr S 436 0 = 437 := hL.2.2.2.2.2.1.1
  have m0 : zln S 437 = 1004 := hL.2.2.2.2.2.2.1
  obtain ⟨nd, nj, nv, ⟨b1, b2, b3, b4, b5, b6⟩, c1, c2, c3, c4, c5, c6⟩ := zBd_iff.mp h.2.2.1
  obtain ⟨e5, e6, e7⟩ := h2.2.2.2.1
  have eo := h2.2.2.2.2.1.1
  have ed := h2.2.2.2.2.1.2.1
  have ed2 := h2.2.2.2.2.1.2.2.1
  have hD : ∀ v : Nat, v < nv → zRepD (zi S) (2 + 14 + 3 * v) (zi S 437) (112 + 19 * v) := fun v hv => h2.2.2.2.2.2.2 v (by rw [b6]; exact nI_lt hv (by omega)) (by omega)
  by_cases hv : zU v1 14
  · obtain ⟨k, hk, rfl⟩ := hv.k
    by_cases h3 : k = 3 ∨ k = 4 ∨ k = 5
    · rcases h3 with rfl | rfl | rfl
      · refine ⟨S, zMt (zi S 437) true nv, ?_, ?_, h⟩
        · unfold f_X11_count
          simp (disch := omega) only [nLet, nB1, nB2, nL2, zcT, zq0, zq1, zq2, zq3, zq4, zq5, zq6, zq7, zq8, zq10, zq12, zq13, zq15, zq16, zq19, zq20, zq21, zq40, zq42, zq64, zq70, zq72, zq100, zq112, zq120, zq200, zq600, zq872, zq878, zq879, zq880, zq1000, zq1001, zq1002, zq1003, zq1004, zq4100, zle_t, zle_f, zlt_t, zlt_f, zeq_t, zeq_f, zNle, zNleT, zNe, not_false_eq_true, not_true_eq_false, false_or, or_false, or_self, true_and, and_true, and_self, ↓reduceIte, nI_clamp, nI_add, nI_mul, nI_sub, mi_eq', mi_ne, ni_pR, ni_pL, nr_pI, nr_pL, mr_eq', mr_ne, nl_pI, nl_pR, ml_eq', ml_ne, nsz_pI, nsz_pR, nsz_pL, nln_pI, nln_pR, nln_pL, mi_nwn, mr_nwn, ml_nwn, mln_nwn, nsz_nw, nr_cp, nl_cp, nsz_cp, nln_cp, ni_cp, ni_cp', r0, x_count3 (n := 200) hL.2.1 b3 (by rw [← b6]; exact e7) hD (fun v hv c hc => ((c6 v hv).2.2.2.2.2.1 c hc).1) (by omega)]
        · unfold f_X12_count
          rw [zisI (n := 14) rfl, if_pos hv, zLet_d, if_neg (show ¬ (1 : Int32) = 0 by decide), if_pos (show (3 : Int32) ≤ nI 3 by decide +kernel), if_pos (show nI 3 ≤ (5 : Int32) by decide +kernel), if_neg (show ¬ nI 3 = (5 : Int32) by decide +kernel), zLet_d]
          exact m_count4 hL b3 b6 (fun v hv c hc => ((c6 v hv).2.2.2.2.2.1 c hc).1) rfl (by omega)
      · obtain ⟨T, g1, g2⟩ := x_count4 (S0 := S) (b := 2) (Or.inl rfl) hL.2.1 b3 (by rw [← b6]; exact e7) hD c6 (n := 200) (by omega)
        have hT : zInv T := h.fr (g2.mo (fun a j q => by unfold zScr; omega))
        have eT : zi T 437 = zi S 437 := funext fun i => g2.i (by omega)
        refine ⟨T, zMt (zi S 437) false nv, ?_, ?_, hT⟩
        · unfold f_X11_count
          simp (disch := omega) only [nLet, nB1, nB2, nL2, zcT, zq0, zq1, zq2, zq3, zq4, zq5, zq6, zq7, zq8, zq10, zq12, zq13, zq15, zq16, zq19, zq20, zq21, zq40, zq42, zq64, zq70, zq72, zq100, zq112, zq120, zq200, zq600, zq872, zq878, zq879, zq880, zq1000, zq1001, zq1002, zq1003, zq1004, zq4100, zle_t, zle_f, zlt_t, zlt_f, zeq_t, zeq_f, zNle, zNleT, zNe, not_false_eq_true, not_true_eq_false, false_or, or_false, or_self, true_and, and_true, and_self, ↓reduceIte, nI_clamp, nI_add, nI_mul, nI_sub, mi_eq', mi_ne, ni_pR, ni_pL, nr_pI, nr_pL, mr_eq', mr_ne, nl_pI, nl_pR, ml_eq', ml_ne, nsz_pI, nsz_pR, nsz_pL, nln_pI, nln_pR, nln_pL, mi_nwn, mr_nwn, ml_nwn, mln_nwn, nsz_nw, nr_cp, nl_cp, nsz_cp, nln_cp, ni_cp, ni_cp', r0, g1]
        · unfold f_X12_count
          rw [zisI (n := 14) rfl, if_pos hv, zLet_d, if_neg (show ¬ (1 : Int32) = 0 by decide), if_pos (show (3 : Int32) ≤ nI 4 by decide +kernel), if_pos (show nI 4 ≤ (5 : Int32) by decide +kernel), if_neg (show ¬ nI 4 = (5 : Int32) by decide +kernel), zLet_d]
          have hm := m_count4 hT.1 b3 (by rw [eT]; exact b6) (fun v hv c hc => by rw [eT]; exact ((c6 v hv).2.2.2.2.2.1 c hc).1) (w := false) (what := nI 4) (by decide +kernel) (K := fun x9 => some x9) (n := 200) (by omega)
          rw [eT] at hm
          exact hm
      · refine ⟨S, nI (zCnt (fun q => !decide (zi S 437 (70 + q) = 0)) 42), ?_, ?_, h⟩
        · unfold f_X11_count
          simp (disch := omega) only [nLet, nB1, nB2, nL2, zcT, zq0, zq1, zq2, zq3, zq4, zq5, zq6, zq7, zq8, zq10, zq12, zq13, zq15, zq16, zq19, zq20, zq21, zq40, zq42, zq64, zq70, zq72, zq100, zq112, zq120, zq200, zq600, zq872, zq878, zq879, zq880, zq1000, zq1001, zq1002, zq1003, zq1004, zq4100, zle_t, zle_f, zlt_t, zlt_f, zeq_t, zeq_f, zNle, zNleT, zNe, not_false_eq_true, not_true_eq_false, false_or, or_false, or_self, true_and, and_true, and_self, ↓reduceIte, nI_clamp, nI_add, nI_mul, nI_sub, mi_eq', mi_ne, ni_pR, ni_pL, nr_pI, nr_pL, mr_eq', mr_ne, nl_pI, nl_pR, ml_eq', ml_ne, nsz_pI, nsz_pR, nsz_pL, nln_pI, nln_pR, nln_pL, mi_nwn, mr_nwn, ml_nwn, mln_nwn, nsz_nw, nr_cp, nl_cp, nsz_cp, nln_cp, ni_cp, ni_cp', r0, x_seats (n := 200) hL.2.1 h2.2.2.1 (by omega)]
        · unfold f_X12_count
          rw [zisI (n := 14) rfl, if_pos hv, zLet_d, if_neg (show ¬ (1 : Int32) = 0 by decide), if_pos (show (3 : Int32) ≤ nI 5 by decide +kernel), if_pos (show nI 5 ≤ (5 : Int32) by decide +kernel), if_pos (show nI 5 = (5 : Int32) by decide +kernel), zLet_d]
          exact m_seats hL c4.1 (by omega)
    · unfold f_X11_count f_X12_count
      rw [zisI (n := 14) rfl, if_pos hv]
      rcases (by omega : k = 0 ∨ k = 1 ∨ k = 2 ∨ k = 6 ∨ k = 7 ∨ k = 8 ∨ k = 9 ∨ k = 10 ∨ k = 11 ∨ k = 12 ∨ k = 13) with rfl | rfl | rfl | rfl | rfl | rfl | rfl | rfl | rfl | rfl | rfl
      · exact ⟨S, zi S 437 1001, by simp (disch := omega) only [nLet, nB1, nB2, nL2, zcT, zq0, zq1, zq2, zq3, zq4, zq5, zq6, zq7, zq8, zq10, zq12, zq13, zq15, zq16, zq19, zq20, zq21, zq40, zq42, zq64, zq70, zq72, zq100, zq112, zq120, zq200, zq600, zq872, zq878, zq879, zq880, zq1000, zq1001, zq1002, zq1003, zq1004, zq4100, zle_t, zle_f, zlt_t, zlt_f, zeq_t, zeq_f, zNle, zNleT, zNe, not_false_eq_true, not_true_eq_false, false_or, or_false, or_self, true_and, and_true, and_self, ↓reduceIte, nI_clamp, nI_add, nI_mul, nI_sub, mi_eq', mi_ne, ni_pR, ni_pL, nr_pI, nr_pL, mr_eq', mr_ne, nl_pI, nl_pR, ml_eq', ml_ne, nsz_pI, nsz_pR, nsz_pL, nln_pI, nln_pR, nln_pL, mi_nwn, mr_nwn, ml_nwn, mln_nwn, nsz_nw, nr_cp, nl_cp, nsz_cp, nln_cp, ni_cp, ni_cp', r0, e5], by simp (disch := omega) only [nLet, nB1, nB2, nL2, zcT, zq0, zq1, zq2, zq3, zq4, zq5, zq6, zq7, zq8, zq10, zq12, zq13, zq15, zq16, zq19, zq20, zq21, zq40, zq42, zq64, zq70, zq72, zq100, zq112, zq120, zq200, zq600, zq872, zq878, zq879, zq880, zq1000, zq1001, zq1002, zq1003, zq1004, zq4100, zle_t, zle_f, zlt_t, zlt_f, zeq_t, zeq_f, zNle, zNleT, zNe, not_false_eq_true, not_true_eq_false, false_or, or_false, or_self, true_and, and_true, and_self, ↓reduceIte, nI_clamp, nI_add, nI_mul, nI_sub, mi_eq', mi_ne, ni_pR, ni_pL, nr_pI, nr_pL, mr_eq', mr_ne, nl_pI, nl_pR, ml_eq', ml_ne, nsz_pI, nsz_pR, nsz_pL, nln_pI, nln_pR, nln_pL, mi_nwn, mr_nwn, ml_nwn, mln_nwn, nsz_nw, nr_cp, nl_cp, nsz_cp, nln_cp, ni_cp, ni_cp', q0, m0], h⟩
      · exact ⟨S, zi S 437 1002, by simp (disch := omega) only [nLet, nB1, nB2, nL2, zcT, zq0, zq1, zq2, zq3, zq4, zq5, zq6, zq7, zq8, zq10, zq12, zq13, zq15, zq16, zq19, zq20, zq21, zq40, zq42, zq64, zq70, zq72, zq100, zq112, zq120, zq200, zq600, zq872, zq878, zq879, zq880, zq1000, zq1001, zq1002, zq1003, zq1004, zq4100, zle_t, zle_f, zlt_t, zlt_f, zeq_t, zeq_f, zNle, zNleT, zNe, not_false_eq_true, not_true_eq_false, false_or, or_false, or_self, true_and, and_true, and_self, ↓reduceIte, nI_clamp, nI_add, nI_mul, nI_sub, mi_eq', mi_ne, ni_pR, ni_pL, nr_pI, nr_pL, mr_eq', mr_ne, nl_pI, nl_pR, ml_eq', ml_ne, nsz_pI, nsz_pR, nsz_pL, nln_pI, nln_pR, nln_pL, mi_nwn, mr_nwn, ml_nwn, mln_nwn, nsz_nw, nr_cp, nl_cp, nsz_cp, nln_cp, ni_cp, ni_cp', r0, e6], by simp (disch := omega) only [nLet, nB1, nB2, nL2, zcT, zq0, zq1, zq2, zq3, zq4, zq5, zq6, zq7, zq8, zq10, zq12, zq13, zq15, zq16, zq19, zq20, zq21, zq40, zq42, zq64, zq70, zq72, zq100, zq112, zq120, zq200, zq600, zq872, zq878, zq879, zq880, zq1000, zq1001, zq1002, zq1003, zq1004, zq4100, zle_t, zle_f, zlt_t, zlt_f, zeq_t, zeq_f, zNle, zNleT, zNe, not_false_eq_true, not_true_eq_false, false_or, or_false, or_self, true_and, and_true, and_self, ↓reduceIte, nI_clamp, nI_add, nI_mul, nI_sub, mi_eq', mi_ne, ni_pR, ni_pL, nr_pI, nr_pL, mr_eq', mr_ne, nl_pI, nl_pR, ml_eq', ml_ne, nsz_pI, nsz_pR, nsz_pL, nln_pI, nln_pR, nln_pL, mi_nwn, mr_nwn, ml_nwn, mln_nwn, nsz_nw, nr_cp, nl_cp, nsz_cp, nln_cp, ni_cp, ni_cp', q0, m0], h⟩
      · exact ⟨S, zi S 437 1003, by simp (disch := omega) only [nLet, nB1, nB2, nL2, zcT, zq0, zq1, zq2, zq3, zq4, zq5, zq6, zq7, zq8, zq10, zq12, zq13, zq15, zq16, zq19, zq20, zq21, zq40, zq42, zq64, zq70, zq72, zq100, zq112, zq120, zq200, zq600, zq872, zq878, zq879, zq880, zq1000, zq1001, zq1002, zq1003, zq1004, zq4100, zle_t, zle_f, zlt_t, zlt_f, zeq_t, zeq_f, zNle, zNleT, zNe, not_false_eq_true, not_true_eq_false, false_or, or_false, or_self, true_and, and_true, and_self, ↓reduceIte, nI_clamp, nI_add, nI_mul, nI_sub, mi_eq', mi_ne, ni_pR, ni_pL, nr_pI, nr_pL, mr_eq', mr_ne, nl_pI, nl_pR, ml_eq', ml_ne, nsz_pI, nsz_pR, nsz_pL, nln_pI, nln_pR, nln_pL, mi_nwn, mr_nwn, ml_nwn, mln_nwn, nsz_nw, nr_cp, nl_cp, nsz_cp, nln_cp, ni_cp, ni_cp', r0, e7], by simp (disch := omega) only [nLet, nB1, nB2, nL2, zcT, zq0, zq1, zq2, zq3, zq4, zq5, zq6, zq7, zq8, zq10, zq12, zq13, zq15, zq16, zq19, zq20, zq21, zq40, zq42, zq64, zq70, zq72, zq100, zq112, zq120, zq200, zq600, zq872, zq878, zq879, zq880, zq1000, zq1001, zq1002, zq1003, zq1004, zq4100, zle_t, zle_f, zlt_t, zlt_f, zeq_t, zeq_f, zNle, zNleT, zNe, not_false_eq_true, not_true_eq_false, false_or, or_false, or_self, true_and, and_true, and_self, ↓reduceIte, nI_clamp, nI_add, nI_mul, nI_sub, mi_eq', mi_ne, ni_pR, ni_pL, nr_pI, nr_pL, mr_eq', mr_ne, nl_pI, nl_pR, ml_eq', ml_ne, nsz_pI, nsz_pR, nsz_pL, nln_pI, nln_pR, nln_pL, mi_nwn, mr_nwn, ml_nwn, mln_nwn, nsz_nw, nr_cp, nl_cp, nsz_cp, nln_cp, ni_cp, ni_cp', q0, m0], h⟩
      · exact ⟨S, zi S 437 872, by simp (disch := omega) only [nLet, nB1, nB2, nL2, zcT, zq0, zq1, zq2, zq3, zq4, zq5, zq6, zq7, zq8, zq10, zq12, zq13, zq15, zq16, zq19, zq20, zq21, zq40, zq42, zq64, zq70, zq72, zq100, zq112, zq120, zq200, zq600, zq872, zq878, zq879, zq880, zq1000, zq1001, zq1002, zq1003, zq1004, zq4100, zle_t, zle_f, zlt_t, zlt_f, zeq_t, zeq_f, zNle, zNleT, zNe, not_false_eq_true, not_true_eq_false, false_or, or_false, or_self, true_and, and_true, and_self, ↓reduceIte, nI_clamp, nI_add, nI_mul, nI_sub, mi_eq', mi_ne, ni_pR, ni_pL, nr_pI, nr_pL, mr_eq', mr_ne, nl_pI, nl_pR, ml_eq', ml_ne, nsz_pI, nsz_pR, nsz_pL, nln_pI, nln_pR, nln_pL, mi_nwn, mr_nwn, ml_nwn, mln_nwn, nsz_nw, nr_cp, nl_cp, nsz_cp, nln_cp, ni_cp, ni_cp', r0, r4, r7, l8, zw1, Nat.sub_self]; exact congrArg (fun z => some (z, S)) (eo 0 (by omega)), by simp (disch := omega) only [nLet, nB1, nB2, nL2, zcT, zq0, zq1, zq2, zq3, zq4, zq5, zq6, zq7, zq8, zq10, zq12, zq13, zq15, zq16, zq19, zq20, zq21, zq40, zq42, zq64, zq70, zq72, zq100, zq112, zq120, zq200, zq600, zq872, zq878, zq879, zq880, zq1000, zq1001, zq1002, zq1003, zq1004, zq4100, zle_t, zle_f, zlt_t, zlt_f, zeq_t, zeq_f, zNle, zNleT, zNe, not_false_eq_true, not_true_eq_false, false_or, or_false, or_self, true_and, and_true, and_self, ↓reduceIte, nI_clamp, nI_add, nI_mul, nI_sub, mi_eq', mi_ne, ni_pR, ni_pL, nr_pI, nr_pL, mr_eq', mr_ne, nl_pI, nl_pR, ml_eq', ml_ne, nsz_pI, nsz_pR, nsz_pL, nln_pI, nln_pR, nln_pL, mi_nwn, mr_nwn, ml_nwn, mln_nwn, nsz_nw, nr_cp, nl_cp, nsz_cp, nln_cp, ni_cp, ni_cp', q0, m0], h⟩
      · exact ⟨S, zi S 437 873, by simp (disch := omega) only [nLet, nB1, nB2, nL2, zcT, zq0, zq1, zq2, zq3, zq4, zq5, zq6, zq7, zq8, zq10, zq12, zq13, zq15, zq16, zq19, zq20, zq21, zq40, zq42, zq64, zq70, zq72, zq100, zq112, zq120, zq200, zq600, zq872, zq878, zq879, zq880, zq1000, zq1001, zq1002, zq1003, zq1004, zq4100, zle_t, zle_f, zlt_t, zlt_f, zeq_t, zeq_f, zNle, zNleT, zNe, not_false_eq_true, not_true_eq_false, false_or, or_false, or_self, true_and, and_true, and_self, ↓reduceIte, nI_clamp, nI_add, nI_mul, nI_sub, mi_eq', mi_ne, ni_pR, ni_pL, nr_pI, nr_pL, mr_eq', mr_ne, nl_pI, nl_pR, ml_eq', ml_ne, nsz_pI, nsz_pR, nsz_pL, nln_pI, nln_pR, nln_pL, mi_nwn, mr_nwn, ml_nwn, mln_nwn, nsz_nw, nr_cp, nl_cp, nsz_cp, nln_cp, ni_cp, ni_cp', r0, r4, r7, l8, zw1]; exact congrArg (fun z => some (z, S)) (eo 1 (by omega)), by simp (disch := omega) only [nLet, nB1, nB2, nL2, zcT, zq0, zq1, zq2, zq3, zq4, zq5, zq6, zq7, zq8, zq10, zq12, zq13, zq15, zq16, zq19, zq20, zq21, zq40, zq42, zq64, zq70, zq72, zq100, zq112, zq120, zq200, zq600, zq872, zq878, zq879, zq880, zq1000, zq1001, zq1002, zq1003, zq1004, zq4100, zle_t, zle_f, zlt_t, zlt_f, zeq_t, zeq_f, zNle, zNleT, zNe, not_false_eq_true, not_true_eq_false, false_or, or_false, or_self, true_and, and_true, and_self, ↓reduceIte, nI_clamp, nI_add, nI_mul, nI_sub, mi_eq', mi_ne, ni_pR, ni_pL, nr_pI, nr_pL, mr_eq', mr_ne, nl_pI, nl_pR, ml_eq', ml_ne, nsz_pI, nsz_pR, nsz_pL, nln_pI, nln_pR, nln_pL, mi_nwn, mr_nwn, ml_nwn, mln_nwn, nsz_nw, nr_cp, nl_cp, nsz_cp, nln_cp, ni_cp, ni_cp', q0, m0], h⟩
      · exact ⟨S, zi S 437 874, by simp (disch := omega) only [nLet, nB1, nB2, nL2, zcT, zq0, zq1, zq2, zq3, zq4, zq5, zq6, zq7, zq8, zq10, zq12, zq13, zq15, zq16, zq19, zq20, zq21, zq40, zq42, zq64, zq70, zq72, zq100, zq112, zq120, zq200, zq600, zq872, zq878, zq879, zq880, zq1000, zq1001, zq1002, zq1003, zq1004, zq4100, zle_t, zle_f, zlt_t, zlt_f, zeq_t, zeq_f, zNle, zNleT, zNe, not_false_eq_true, not_true_eq_false, false_or, or_false, or_self, true_and, and_true, and_self, ↓reduceIte, nI_clamp, nI_add, nI_mul, nI_sub, mi_eq', mi_ne, ni_pR, ni_pL, nr_pI, nr_pL, mr_eq', mr_ne, nl_pI, nl_pR, ml_eq', ml_ne, nsz_pI, nsz_pR, nsz_pL, nln_pI, nln_pR, nln_pL, mi_nwn, mr_nwn, ml_nwn, mln_nwn, nsz_nw, nr_cp, nl_cp, nsz_cp, nln_cp, ni_cp, ni_cp', r0, r4, r7, l8, zw1]; exact congrArg (fun z => some (z, S)) (eo 2 (by omega)), by simp (disch := omega) only [nLet, nB1, nB2, nL2, zcT, zq0, zq1, zq2, zq3, zq4, zq5, zq6, zq7, zq8, zq10, zq12, zq13, zq15, zq16, zq19, zq20, zq21, zq40, zq42, zq64, zq70, zq72, zq100, zq112, zq120, zq200, zq600, zq872, zq878, zq879, zq880, zq1000, zq1001, zq1002, zq1003, zq1004, zq4100, zle_t, zle_f, zlt_t, zlt_f, zeq_t, zeq_f, zNle, zNleT, zNe, not_false_eq_true, not_true_eq_false, false_or, or_false, or_self, true_and, and_true, and_self, ↓reduceIte, nI_clamp, nI_add, nI_mul, nI_sub, mi_eq', mi_ne, ni_pR, ni_pL, nr_pI, nr_pL, mr_eq', mr_ne, nl_pI, nl_pR, ml_eq', ml_ne, nsz_pI, nsz_pR, nsz_pL, nln_pI, nln_pR, nln_pL, mi_nwn, mr_nwn, ml_nwn, mln_nwn, nsz_nw, nr_cp, nl_cp, nsz_cp, nln_cp, ni_cp, ni_cp', q0, m0], h⟩
      · exact ⟨S, zi S 437 875, by simp (disch := omega) only [nLet, nB1, nB2, nL2, zcT, zq0, zq1, zq2, zq3, zq4, zq5, zq6, zq7, zq8, zq10, zq12, zq13, zq15, zq16, zq19, zq20, zq21, zq40, zq42, zq64, zq70, zq72, zq100, zq112, zq120, zq200, zq600, zq872, zq878, zq879, zq880, zq1000, zq1001, zq1002, zq1003, zq1004, zq4100, zle_t, zle_f, zlt_t, zlt_f, zeq_t, zeq_f, zNle, zNleT, zNe, not_false_eq_true, not_true_eq_false, false_or, or_false, or_self, true_and, and_true, and_self, ↓reduceIte, nI_clamp, nI_add, nI_mul, nI_sub, mi_eq', mi_ne, ni_pR, ni_pL, nr_pI, nr_pL, mr_eq', mr_ne, nl_pI, nl_pR, ml_eq', ml_ne, nsz_pI, nsz_pR, nsz_pL, nln_pI, nln_pR, nln_pL, mi_nwn, mr_nwn, ml_nwn, mln_nwn, nsz_nw, nr_cp, nl_cp, nsz_cp, nln_cp, ni_cp, ni_cp', r0, r4, r7, l8, zw1]; exact congrArg (fun z => some (z, S)) (eo 3 (by omega)), by simp (disch := omega) only [nLet, nB1, nB2, nL2, zcT, zq0, zq1, zq2, zq3, zq4, zq5, zq6, zq7, zq8, zq10, zq12, zq13, zq15, zq16, zq19, zq20, zq21, zq40, zq42, zq64, zq70, zq72, zq100, zq112, zq120, zq200, zq600, zq872, zq878, zq879, zq880, zq1000, zq1001, zq1002, zq1003, zq1004, zq4100, zle_t, zle_f, zlt_t, zlt_f, zeq_t, zeq_f, zNle, zNleT, zNe, not_false_eq_true, not_true_eq_false, false_or, or_false, or_self, true_and, and_true, and_self, ↓reduceIte, nI_clamp, nI_add, nI_mul, nI_sub, mi_eq', mi_ne, ni_pR, ni_pL, nr_pI, nr_pL, mr_eq', mr_ne, nl_pI, nl_pR, ml_eq', ml_ne, nsz_pI, nsz_pR, nsz_pL, nln_pI, nln_pR, nln_pL, mi_nwn, mr_nwn, ml_nwn, mln_nwn, nsz_nw, nr_cp, nl_cp, nsz_cp, nln_cp, ni_cp, ni_cp', q0, m0], h⟩
      · exact ⟨S, zi S 437 876, by simp (disch := omega) only [nLet, nB1, nB2, nL2, zcT, zq0, zq1, zq2, zq3, zq4, zq5, zq6, zq7, zq8, zq10, zq12, zq13, zq15, zq16, zq19, zq20, zq21, zq40, zq42, zq64, zq70, zq72, zq100, zq112, zq120, zq200, zq600, zq872, zq878, zq879, zq880, zq1000, zq1001, zq1002, zq1003, zq1004, zq4100, zle_t, zle_f, zlt_t, zlt_f, zeq_t, zeq_f, zNle, zNleT, zNe, not_false_eq_true, not_true_eq_false, false_or, or_false, or_self, true_and, and_true, and_self, ↓reduceIte, nI_clamp, nI_add, nI_mul, nI_sub, mi_eq', mi_ne, ni_pR, ni_pL, nr_pI, nr_pL, mr_eq', mr_ne, nl_pI, nl_pR, ml_eq', ml_ne, nsz_pI, nsz_pR, nsz_pL, nln_pI, nln_pR, nln_pL, mi_nwn, mr_nwn, ml_nwn, mln_nwn, nsz_nw, nr_cp, nl_cp, nsz_cp, nln_cp, ni_cp, ni_cp', r0, r4, r7, l8, zw1]; exact congrArg (fun z => some (z, S)) (eo 4 (by omega)), by simp (disch := omega) only [nLet, nB1, nB2, nL2, zcT, zq0, zq1, zq2, zq3, zq4, zq5, zq6, zq7, zq8, zq10, zq12, zq13, zq15, zq16, zq19, zq20, zq21, zq40, zq42, zq64, zq70, zq72, zq100, zq112, zq120, zq200, zq600, zq872, zq878, zq879, zq880, zq1000, zq1001, zq1002, zq1003, zq1004, zq4100, zle_t, zle_f, zlt_t, zlt_f, zeq_t, zeq_f, zNle, zNleT, zNe, not_false_eq_true, not_true_eq_false, false_or, or_false, or_self, true_and, and_true, and_self, ↓reduceIte, nI_clamp, nI_add, nI_mul, nI_sub, mi_eq', mi_ne, ni_pR, ni_pL, nr_pI, nr_pL, mr_eq', mr_ne, nl_pI, nl_pR, ml_eq', ml_ne, nsz_pI, nsz_pR, nsz_pL, nln_pI, nln_pR, nln_pL, mi_nwn, mr_nwn, ml_nwn, mln_nwn, nsz_nw, nr_cp, nl_cp, nsz_cp, nln_cp, ni_cp, ni_cp', q0, m0], h⟩
      · exact ⟨S, zi S 437 877, by simp (disch := omega) only [nLet, nB1, nB2, nL2, zcT, zq0, zq1, zq2, zq3, zq4, zq5, zq6, zq7, zq8, zq10, zq12, zq13, zq15, zq16, zq19, zq20, zq21, zq40, zq42, zq64, zq70, zq72, zq100, zq112, zq120, zq200, zq600, zq872, zq878, zq879, zq880, zq1000, zq1001, zq1002, zq1003, zq1004, zq4100, zle_t, zle_f, zlt_t, zlt_f, zeq_t, zeq_f, zNle, zNleT, zNe, not_false_eq_true, not_true_eq_false, false_or, or_false, or_self, true_and, and_true, and_self, ↓reduceIte, nI_clamp, nI_add, nI_mul, nI_sub, mi_eq', mi_ne, ni_pR, ni_pL, nr_pI, nr_pL, mr_eq', mr_ne, nl_pI, nl_pR, ml_eq', ml_ne, nsz_pI, nsz_pR, nsz_pL, nln_pI, nln_pR, nln_pL, mi_nwn, mr_nwn, ml_nwn, mln_nwn, nsz_nw, nr_cp, nl_cp, nsz_cp, nln_cp, ni_cp, ni_cp', r0, r4, r7, l8, zw1]; exact congrArg (fun z => some (z, S)) (eo 5 (by omega)), by simp (disch := omega) only [nLet, nB1, nB2, nL2, zcT, zq0, zq1, zq2, zq3, zq4, zq5, zq6, zq7, zq8, zq10, zq12, zq13, zq15, zq16, zq19, zq20, zq21, zq40, zq42, zq64, zq70, zq72, zq100, zq112, zq120, zq200, zq600, zq872, zq878, zq879, zq880, zq1000, zq1001, zq1002, zq1003, zq1004, zq4100, zle_t, zle_f, zlt_t, zlt_f, zeq_t, zeq_f, zNle, zNleT, zNe, not_false_eq_true, not_true_eq_false, false_or, or_false, or_self, true_and, and_true, and_self, ↓reduceIte, nI_clamp, nI_add, nI_mul, nI_sub, mi_eq', mi_ne, ni_pR, ni_pL, nr_pI, nr_pL, mr_eq', mr_ne, nl_pI, nl_pR, ml_eq', ml_ne, nsz_pI, nsz_pR, nsz_pL, nln_pI, nln_pR, nln_pL, mi_nwn, mr_nwn, ml_nwn, mln_nwn, nsz_nw, nr_cp, nl_cp, nsz_cp, nln_cp, ni_cp, ni_cp', q0, m0], h⟩
      · exact ⟨S, zi S 437 878, by simp (disch := omega) only [nLet, nB1, nB2, nL2, zcT, zq0, zq1, zq2, zq3, zq4, zq5, zq6, zq7, zq8, zq10, zq12, zq13, zq15, zq16, zq19, zq20, zq21, zq40, zq42, zq64, zq70, zq72, zq100, zq112, zq120, zq200, zq600, zq872, zq878, zq879, zq880, zq1000, zq1001, zq1002, zq1003, zq1004, zq4100, zle_t, zle_f, zlt_t, zlt_f, zeq_t, zeq_f, zNle, zNleT, zNe, not_false_eq_true, not_true_eq_false, false_or, or_false, or_self, true_and, and_true, and_self, ↓reduceIte, nI_clamp, nI_add, nI_mul, nI_sub, mi_eq', mi_ne, ni_pR, ni_pL, nr_pI, nr_pL, mr_eq', mr_ne, nl_pI, nl_pR, ml_eq', ml_ne, nsz_pI, nsz_pR, nsz_pL, nln_pI, nln_pR, nln_pL, mi_nwn, mr_nwn, ml_nwn, mln_nwn, nsz_nw, nr_cp, nl_cp, nsz_cp, nln_cp, ni_cp, ni_cp', r0, r4]; exact congrArg (fun z => some (z, S)) ed, by simp (disch := omega) only [nLet, nB1, nB2, nL2, zcT, zq0, zq1, zq2, zq3, zq4, zq5, zq6, zq7, zq8, zq10, zq12, zq13, zq15, zq16, zq19, zq20, zq21, zq40, zq42, zq64, zq70, zq72, zq100, zq112, zq120, zq200, zq600, zq872, zq878, zq879, zq880, zq1000, zq1001, zq1002, zq1003, zq1004, zq4100, zle_t, zle_f, zlt_t, zlt_f, zeq_t, zeq_f, zNle, zNleT, zNe, not_false_eq_true, not_true_eq_false, false_or, or_false, or_self, true_and, and_true, and_self, ↓reduceIte, nI_clamp, nI_add, nI_mul, nI_sub, mi_eq', mi_ne, ni_pR, ni_pL, nr_pI, nr_pL, mr_eq', mr_ne, nl_pI, nl_pR, ml_eq', ml_ne, nsz_pI, nsz_pR, nsz_pL, nln_pI, nln_pR, nln_pL, mi_nwn, mr_nwn, ml_nwn, mln_nwn, nsz_nw, nr_cp, nl_cp, nsz_cp, nln_cp, ni_cp, ni_cp', q0, m0], h⟩
      · exact ⟨S, zi S 437 879, by simp (disch := omega) only [nLet, nB1, nB2, nL2, zcT, zq0, zq1, zq2, zq3, zq4, zq5, zq6, zq7, zq8, zq10, zq12, zq13, zq15, zq16, zq19, zq20, zq21, zq40, zq42, zq64, zq70, zq72, zq100, zq112, zq120, zq200, zq600, zq872, zq878, zq879, zq880, zq1000, zq1001, zq1002, zq1003, zq1004, zq4100, zle_t, zle_f, zlt_t, zlt_f, zeq_t, zeq_f, zNle, zNleT, zNe, not_false_eq_true, not_true_eq_false, false_or, or_false, or_self, true_and, and_true, and_self, ↓reduceIte, nI_clamp, nI_add, nI_mul, nI_sub, mi_eq', mi_ne, ni_pR, ni_pL, nr_pI, nr_pL, mr_eq', mr_ne, nl_pI, nl_pR, ml_eq', ml_ne, nsz_pI, nsz_pR, nsz_pL, nln_pI, nln_pR, nln_pL, mi_nwn, mr_nwn, ml_nwn, mln_nwn, nsz_nw, nr_cp, nl_cp, nsz_cp, nln_cp, ni_cp, ni_cp', r0, r4]; exact congrArg (fun z => some (z, S)) ed2, by simp (disch := omega) only [nLet, nB1, nB2, nL2, zcT, zq0, zq1, zq2, zq3, zq4, zq5, zq6, zq7, zq8, zq10, zq12, zq13, zq15, zq16, zq19, zq20, zq21, zq40, zq42, zq64, zq70, zq72, zq100, zq112, zq120, zq200, zq600, zq872, zq878, zq879, zq880, zq1000, zq1001, zq1002, zq1003, zq1004, zq4100, zle_t, zle_f, zlt_t, zlt_f, zeq_t, zeq_f, zNle, zNleT, zNe, not_false_eq_true, not_true_eq_false, false_or, or_false, or_self, true_and, and_true, and_self, ↓reduceIte, nI_clamp, nI_add, nI_mul, nI_sub, mi_eq', mi_ne, ni_pR, ni_pL, nr_pI, nr_pL, mr_eq', mr_ne, nl_pI, nl_pR, ml_eq', ml_ne, nsz_pI, nsz_pR, nsz_pL, nln_pI, nln_pR, nln_pL, mi_nwn, mr_nwn, ml_nwn, mln_nwn, nsz_nw, nr_cp, nl_cp, nsz_cp, nln_cp, ni_cp, ni_cp', q0, m0], h⟩
  · have hno : ∀ k : Nat, k < 14 → ¬ v1 = nI k := fun k hk hh => hv (by rw [hh]; exact zU_n hk (by omega))
    have hw : ¬ zU (v1 - (6 : Int32)) 6 := by
      intro q
      obtain ⟨k, hk, e⟩ := q.k
      refine hno (k + 6) (by omega) ?_
      rw [← nI_add, ← e]
      exact (Int32.sub_add_cancel v1 6).symm
    refine ⟨S, -1, ?_, ?_, h⟩
    · unfold f_X11_count
      rw [if_neg (show ¬ v1 = (0 : Int32) from hno 0 (by omega)), if_neg (show ¬ v1 = (1 : Int32) from hno 1 (by omega)), if_neg (show ¬ v1 = (2 : Int32) from hno 2 (by omega)), if_neg (show ¬ v1 = (3 : Int32) from hno 3 (by omega)), if_neg (show ¬ v1 = (4 : Int32) from hno 4 (by omega)), if_neg (show ¬ v1 = (5 : Int32) from hno 5 (by omega)), if_neg (show ¬ v1 = (6 : Int32) from hno 6 (by omega)), if_neg (show ¬ v1 = (7 : Int32) from hno 7 (by omega)), if_neg (show ¬ v1 = (8 : Int32) from hno 8 (by omega)), if_neg (show ¬ v1 = (9 : Int32) from hno 9 (by omega)), if_neg (show ¬ v1 = (10 : Int32) from hno 10 (by omega)), if_neg (show ¬ v1 = (11 : Int32) from hno 11 (by omega)), if_neg (show ¬ v1 = (12 : Int32) from hno 12 (by omega)), if_neg (show ¬ v1 = (13 : Int32) from hno 13 (by omega)), zwi (n := 6) rfl, if_neg hw]
      rfl
    · unfold f_X12_count
      rw [zisI (n := 14) rfl, if_neg hv]
      rfl
