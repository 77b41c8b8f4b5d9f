/-! the marks of a dive told anew -/
def zSetM (g : Nat → Int32) (t : Nat) (M W : Nat → Int32) : Nat → Int32 := fun k => if t + 5 ≤ k ∧ k < t + 12 then M (k - (t + 5)) else if t + 12 ≤ k ∧ k < t + 19 then W (k - (t + 12)) else g k
theorem zSetM_o {g : Nat → Int32} {t k : Nat} {M W : Nat → Int32} (h : ¬ (t + 5 ≤ k ∧ k < t + 19)) : zSetM g t M W k = g k := by
  unfold zSetM
  rw [if_neg (by omega), if_neg (by omega)]
theorem zSetM_m {g : Nat → Int32} {t c : Nat} {M W : Nat → Int32} (h : c < 7) : zSetM g t M W (t + 5 + c) = M c := by
  unfold zSetM
  rw [if_pos (by omega), show t + 5 + c - (t + 5) = c by omega]
theorem zSetM_w {g : Nat → Int32} {t c : Nat} {M W : Nat → Int32} (h : c < 7) : zSetM g t M W (t + 12 + c) = W c := by
  unfold zSetM
  rw [if_neg (by omega), if_pos (by omega), show t + 12 + c - (t + 12) = c by omega]
theorem zRep.setM {S Y : zM} {b v : Nat} {g M W : Nat → Int32} (h : zRep S b g) (hv : v < 40) (hle : b + 134 ≤ 453) (f : zF (fun a j => (a = b + 15 + 3 * v ∨ a = b + 16 + 3 * v) ∧ j < 7) S Y) (hm : ∀ c : Nat, c < 7 → zi Y (b + 15 + 3 * v) c = if M c = 0 then -128 else M c - 1) (hw : ∀ c : Nat, c < 7 → zi Y (b + 16 + 3 * v) c = W c - 1) : zRep Y b (zSetM g (112 + 19 * v) M W) := by
  refine zRep.lay (zg1 h (fun a k ha => f.i (by omega)) (fun k hk => zSetM_o (by omega))) (zg2 h (fun a k ha => f.i (by omega)) (fun k hk _ => zSetM_o (by omega))) (zg3 h (fun a k ha => f.i (by omega)) (fun k hk _ => zSetM_o (by omega))) (zg4 h (fun a k ha => f.i (by omega)) (fun k hk _ => zSetM_o (by omega))) (zg5 h (fun a k ha => f.i (by omega)) (fun k hk _ => zSetM_o (by omega))) (zg6 h (by rw [f.s]; exact Nat.le_refl _) (fun j => by rw [f.r]) (fun a k ha => f.i (by omega)) (fun k hk _ => zSetM_o (by omega)) (zSetM_o (by omega))) (fun w hw1 hw2 => ?_)
  rw [zSetM_o (by omega)] at hw1
  have hD := h.2.2.2.2.2.2 w hw1 hw2
  by_cases hwv : w = v
  · subst hwv
    obtain ⟨d1, d2, d3, d4, d5, d6⟩ := hD
    refine ⟨by rw [f.i (by omega), zSetM_o (by omega)]; exact d1, by rw [f.i (by omega), zSetM_o (by omega)]; exact d2, by rw [f.i (by omega), zSetM_o (by omega)]; exact d3, by rw [f.i (by omega), zSetM_o (by omega)]; exact d4, by rw [f.i (by omega), zSetM_o (by omega)]; exact d5, fun c hc => ?_⟩
    rw [zSetM_m hc, zSetM_w hc, show b + 14 + 3 * w + 1 = b + 15 + 3 * w by omega, show b + 14 + 3 * w + 2 = b + 16 + 3 * w by omega]
    exact ⟨hm c hc, hw c hc⟩
  · exact (hD.fr (fun a k h1 h2 => f.i (by omega))).g (fun k h1 h2 => zSetM_o (by omega))
theorem zBd.setM {g M W : Nat → Int32} {nd nj nv v : Nat} (h : zBn g nd nj nv ∧ zB1p g nd ∧ zB2p g nj ∧ zB3p g ∧ zB4p g nj ∧ zB5p g ∧ ∀ v : Nat, v < nv → zB6p g nd nj (112 + 19 * v)) (hb : ∀ c : Nat, c < 7 → zU (M c) 22 ∧ zU (W c) (nj + 1) ∧ (M c = 0 → W c = 0)) (hu : ∀ c c1 : Nat, c < 7 → c1 < 7 → c ≠ c1 → W c = W c1 → W c = 0) (hv : v < 40) :
    zBn (zSetM g (112 + 19 * v) M W) nd nj nv ∧ zB1p (zSetM g (112 + 19 * v) M W) nd ∧ zB2p (zSetM g (112 + 19 * v) M W) nj ∧ zB3p (zSetM g (112 + 19 * v) M W) ∧ zB4p (zSetM g (112 + 19 * v) M W) nj ∧ zB5p (zSetM g (112 + 19 * v) M W) ∧ ∀ w : Nat, w < nv → zB6p (zSetM g (112 + 19 * v) M W) nd nj (112 + 19 * w) := by
  obtain ⟨⟨b1, b2, b3, b4, b5, b6⟩, c1, c2, c3, c4, c5, c6⟩ := h
  refine ⟨⟨b1, b2, b3, by rw [zSetM_o (by omega)]; exact b4, by rw [zSetM_o (by omega)]; exact b5, by rw [zSetM_o (by omega)]; exact b6⟩, c1.g b1 (fun k _ => zSetM_o (by omega)), c2.g b2 (fun k _ _ => zSetM_o (by omega)), c3.g (fun k _ _ => zSetM_o (by omega)), c4.g (fun k _ _ => zSetM_o (by omega)), c5.g (fun k _ _ => zSetM_o (by omega)), fun w hw => ?_⟩
  by_cases hwv : w = v
  · subst hwv
    obtain ⟨d1, d2, d3, d4, d5, d6, d7⟩ := c6 w hw
    refine ⟨by rw [zSetM_o (by omega)]; exact d1, by rw [zSetM_o (by omega)]; exact d2, by rw [zSetM_o (by omega)]; exact d3, by rw [zSetM_o (by omega)]; exact d4, by rw [zSetM_o (by omega)]; exact d5, fun c hc => ?_, fun c c1 hc hc1 hne => ?_⟩
    · rw [zSetM_m hc, zSetM_w hc]; exact hb c hc
    · rw [zSetM_w hc, zSetM_w hc1]; exact hu c c1 hc hc1 hne
  · exact (c6 w hw).g (fun k _ _ => zSetM_o (by omega))
theorem zBd_all {g : Nat → Int32} : zBd g ↔ ∃ nd nj nv : Nat, zBn g nd nj nv ∧ zB1p g nd ∧ zB2p g nj ∧ zB3p g ∧ zB4p g nj ∧ zB5p g ∧ ∀ v : Nat, v < nv → zB6p g nd nj (112 + 19 * v) := zBd_iff
/-- the invariant behind both sides' telling of the marks of dive v -/
theorem zInv.setM {S Y : zM} {v : Nat} {M W : Nat → Int32} (h : zInv S) (hv : v < 40) (f : zF (fun a j => ((a = 17 + 3 * v ∨ a = 18 + 3 * v) ∧ j < 7) ∨ (a = 437 ∧ 112 + 19 * v + 5 ≤ j ∧ j < 112 + 19 * v + 19) ∨ zScr a j) S Y) (hm : ∀ c : Nat, c < 7 → zi Y (17 + 3 * v) c = if M c = 0 then -128 else M c - 1) (hw : ∀ c : Nat, c < 7 → zi Y (18 + 3 * v) c = W c - 1) (hg : ∀ c : Nat, c < 7 → zi Y 437 (112 + 19 * v + 5 + c) = M c ∧ zi Y 437 (112 + 19 * v + 12 + c) = W c)
    {nj : Nat} (ej : zi S 437 1002 = nI nj) (hnj : nj ≤ 12) (hb : ∀ c : Nat, c < 7 → zU (M c) 22 ∧ zU (W c) (nj + 1) ∧ (M c = 0 → W c = 0)) (hu : ∀ c c1 : Nat, c < 7 → c1 < 7 → c ≠ c1 → W c = W c1 → W c = 0) : zInv Y := by
  obtain ⟨nd, nj1, nv, hB⟩ := zBd_all.mp h.2.2.1
  have := nI_inj (hB.1.2.2.2.2.1.symm.trans ej) (by have := hB.1.2.1; omega) (by omega)
  subst this
  have eg : zi Y 437 = zSetM (zi S 437) (112 + 19 * v) M W := by
    funext k
    by_cases h1 : 112 + 19 * v + 5 ≤ k ∧ k < 112 + 19 * v + 12
    · obtain ⟨c, rfl⟩ : ∃ c, k = 112 + 19 * v + 5 + c := ⟨k - (112 + 19 * v + 5), by omega⟩
      rw [(hg c (by omega)).1, zSetM_m (by omega)]
    · by_cases h2 : 112 + 19 * v + 12 ≤ k ∧ k < 112 + 19 * v + 19
      · obtain ⟨c, rfl⟩ : ∃ c, k = 112 + 19 * v + 12 + c := ⟨k - (112 + 19 * v + 12), by omega⟩
        rw [(hg c (by omega)).2, zSetM_w (by omega)]
      · rw [zSetM_o (by omega)]
        exact f.i (by unfold zScr; omega)
  have e : ∀ a : Nat, a ≠ 17 + 3 * v → a ≠ 18 + 3 * v → a ≠ 437 → (a ≠ 10 ∧ a ≠ 13 ∧ a ≠ 14 ∧ a ≠ 15 ∧ (a < 270 ∨ 403 < a) ∧ (a < 405 ∨ 419 < a) ∧ a ≠ 436 ∧ (a < 445 ∨ 452 < a)) → ∀ k : Nat, zi Y a k = zi S a k := fun a h1 h2 h3 h4 k => f.i (fun q => by
    rcases q with q | q | q
    · omega
    · omega
    · exact zScr_n h4 q)
  refine h.now (h.1.fr f) (by rw [f.s]; exact Nat.le_refl _) (fun a k _ _ => by rw [f.r]) (fun a k ha => ?_) ?_ ?_
  · by_cases h6 : a = 436
    · subst h6
      exact f.i (by unfold zScr; omega)
    · exact e a (by omega) (by omega) (by omega) (by omega) k
  · rw [eg]
    -- from S with the two rows alone changed
    have hr := h.2.1
    refine zRep.lay (zg1 hr (fun a k ha => e a (by omega) (by omega) (by omega) (by omega) k) (fun k hk => zSetM_o (by omega))) (zg2 hr (fun a k ha => e a (by omega) (by omega) (by omega) (by omega) k) (fun k hk _ => zSetM_o (by omega))) (zg3 hr (fun a k ha => e a (by omega) (by omega) (by omega) (by omega) k) (fun k hk _ => zSetM_o (by omega))) (zg4 hr (fun a k ha => e a (by omega) (by omega) (by omega) (by omega) k) (fun k hk _ => zSetM_o (by omega))) (zg5 hr (fun a k ha => e a (by omega) (by omega) (by omega) (by omega) k) (fun k hk _ => zSetM_o (by omega))) (zg6 hr (by rw [f.s]; exact Nat.le_refl _) (fun j => by rw [f.r]) (fun a k ha => e a (by omega) (by omega) (by omega) (by omega) k) (fun k hk _ => zSetM_o (by omega)) (zSetM_o (by omega))) (fun w hw1 hw2 => ?_)
    rw [zSetM_o (by omega)] at hw1
    have hD := hr.2.2.2.2.2.2 w hw1 hw2
    by_cases hwv : w = v
    · subst hwv
      obtain ⟨d1, d2, d3, d4, d5, d6⟩ := hD
      refine ⟨by rw [e _ (by omega) (by omega) (by omega) (by omega), zSetM_o (by omega)]; exact d1, by rw [e _ (by omega) (by omega) (by omega) (by omega), zSetM_o (by omega)]; exact d2, by rw [e _ (by omega) (by omega) (by omega) (by omega), zSetM_o (by omega)]; exact d3, by rw [e _ (by omega) (by omega) (by omega) (by omega), zSetM_o (by omega)]; exact d4, by rw [e _ (by omega) (by omega) (by omega) (by omega), zSetM_o (by omega)]; exact d5, fun c hc => ?_⟩
      rw [zSetM_m hc, zSetM_w hc, show 2 + 14 + 3 * w + 1 = 17 + 3 * w by omega, show 2 + 14 + 3 * w + 2 = 18 + 3 * w by omega]
      exact ⟨hm c hc, hw c hc⟩
    · exact (hD.fr (fun a k h1 h2 => e a (by omega) (by omega) (by omega) (by omega) k)).g (fun k h1 h2 => zSetM_o (by omega))
  · rw [eg]
    exact zBd_all.mpr ⟨nd, nj1, nv, zBd.setM hB hb hu hv⟩
/-! marks -/
def zOk (e : Nat → Int32) : Nat → Nat → Bool
  | 0, _ => true
  | d + 1, k => decide (e k = -128 ∨ zU (e k) 21) && zOk e d (k + 1)
theorem zOk_t {e : Nat → Int32} {d k : Nat} (h : zOk e d k = true) : ∀ i : Nat, k ≤ i → i < k + d → e i = -128 ∨ zU (e i) 21 := by
  induction d generalizing k with
  | zero => intro i h1 h2; omega
  | succ d ih =>
    intro i h1 h2
    have h3 : (decide (e k = -128 ∨ zU (e k) 21) && zOk e d (k + 1)) = true := h
    rw [Bool.and_eq_true] at h3
    by_cases hik : i = k
    · subst hik; exact of_decide_eq_true h3.1
    · exact ih h3.2 i (by omega) (by omega)
theorem zOk_c {e e1 : Nat → Int32} {d k : Nat} (h : ∀ i : Nat, k ≤ i → i < k + d → e i = e1 i) : zOk e d k = zOk e1 d k := by
  induction d generalizing k with
  | zero => rfl
  | succ d ih =>
    show (decide (e k = -128 ∨ zU (e k) 21) && zOk e d (k + 1)) = (decide (e1 k = -128 ∨ zU (e1 k) 21) && zOk e1 d (k + 1))
    rw [ih (fun i h1 h2 => h i (by omega) (by omega)), h k (by omega) (by omega)]
theorem x_holdsMarks {S : zM} {q q1 s : Nat} (hr : zr S q 0 = q1) (h0 : ¬ q1 = 0) (hl : zln S q1 = 120) (hs : s ≤ 120) (es : zi S q 3 = nI s) {n : Nat} (hn : 120 < n) : f_X8_holdsMarks n S q = some (if s ≤ 7 ∧ zOk (zi S q1) s 0 = true then 1 else 0) := by
  unfold f_X8_holdsMarks
  simp only [nLet]
  have key : ∀ d k n : Nat, k + d = s → d < n → f_X8_holdsMarks_L17 S q (fun x5 => zChk (x5 = 0 ∨ x5 = 1) (some x5)) n 1 (nI k) = some (if zOk (zi S q1) d k = true then 1 else 0) := by
    intro d
    induction d with
    | zero =>
      intro k n hk hn
      obtain ⟨f, rfl⟩ : ∃ f, n = f + 1 := ⟨n - 1, by omega⟩
      have : k = s := by omega
      subst this
      show f_X8_holdsMarks_L17b S q (fun x5 => zChk (x5 = 0 ∨ x5 = 1) (some x5)) (f_X8_holdsMarks_L17 S q (fun x5 => zChk (x5 = 0 ∨ x5 = 1) (some x5)) f) 1 (nI k) = _
      unfold f_X8_holdsMarks_L17b
      rw [es, if_pos (Int32.le_refl _)]
      rfl
    | succ d ih =>
      intro k n hk hn
      obtain ⟨f, rfl⟩ : ∃ f, n = f + 1 := ⟨n - 1, by omega⟩
      show f_X8_holdsMarks_L17b S q (fun x5 => zChk (x5 = 0 ∨ x5 = 1) (some x5)) (f_X8_holdsMarks_L17 S q (fun x5 => zChk (x5 = 0 ∨ x5 = 1) (some x5)) f) 1 (nI k) = some (if (decide (zi S q1 k = -128 ∨ zU (zi S q1 k) 21) && zOk (zi S q1) d (k + 1)) = true then 1 else 0)
      unfold f_X8_holdsMarks_L17b
      rw [es, if_neg (nI_ge (by omega) (by omega)), if_neg (show ¬ (1 : Int32) = 0 by decide), hr, zChk_t h0, hl, zChk_t (zix (by omega) (by omega)), nI_clamp (by omega), zLet_d, nI_1, ih (k + 1) f (by omega) (by omega), zChk_t (zixc (by omega) (by omega)), zwi (n := 21) rfl, zLet_d]
      by_cases h1 : zi S q1 k = -128
      · rw [if_pos h1, show decide (zi S q1 k = -128 ∨ zU (zi S q1 k) 21) = true from decide_eq_true (Or.inl h1), Bool.true_and]
      · rw [if_neg h1]
        by_cases h2 : zU (zi S q1 k) 21
        · rw [if_pos h2, if_neg (show ¬ (1 : Int32) = 0 by decide), show decide (zi S q1 k = -128 ∨ zU (zi S q1 k) 21) = true from decide_eq_true (Or.inr h2), Bool.true_and]
        · rw [if_neg h2, if_pos (show (0 : Int32) = 0 from rfl), show decide (zi S q1 k = -128 ∨ zU (zi S q1 k) 21) = false from decide_eq_false (fun q => q.elim h1 h2), Bool.false_and]
          obtain ⟨g, rfl⟩ : ∃ g, f = g + 1 := ⟨f - 1, by omega⟩
          show f_X8_holdsMarks_L17b S q (fun x5 => zChk (x5 = 0 ∨ x5 = 1) (some x5)) (f_X8_holdsMarks_L17 S q (fun x5 => zChk (x5 = 0 ∨ x5 = 1) (some x5)) g) 0 (nI (k + 1)) = _
          unfold f_X8_holdsMarks_L17b
          rw [if_pos (show (0 : Int32) = 0 from rfl)]
          split <;> rfl
  rw [es]
  by_cases h7 : s ≤ 7
  · have k0 := key s 0 n (by omega) (by omega)
    rw [show nI 0 = (0 : Int32) from rfl] at k0
    rw [if_neg (show ¬ (7 : Int32) < nI s from nI_nlt (a := 7) (b := s) h7 (by decide)), k0]
    by_cases h2 : zOk (zi S q1) s 0 = true
    · rw [if_pos h2, if_pos ⟨h7, h2⟩]
    · rw [if_neg h2, if_neg (fun q => h2 q.2)]
  · rw [if_pos (show (7 : Int32) < nI s from nI_lt (a := 7) (b := s) (by omega) (by omega)), if_neg (fun q => h7 q.1)]
    obtain ⟨g, rfl⟩ : ∃ g, n = g + 1 := ⟨n - 1, by omega⟩
    show f_X8_holdsMarks_L17b S q (fun x5 => zChk (x5 = 0 ∨ x5 = 1) (some x5)) (f_X8_holdsMarks_L17 S q (fun x5 => zChk (x5 = 0 ∨ x5 = 1) (some x5)) g) 0 0 = _
    unfold f_X8_holdsMarks_L17b
    rw [if_pos (show (0 : Int32) = 0 from rfl)]
    split <;> rfl
theorem m_holdsMarks {S : zM} (h : zLay S) {d s : Nat} (hd : d < 8) (hs : s ≤ 120) (es : zi S 441 d = nI s) {K : Option (Int32 × zM)} {n : Nat} (hn : 120 < n) : f_X12_marks_L40 S 436 (nI d) K n 0 = if zOk (fun k => zi S 442 (120 * d + k)) s 0 = true then K else some (-13, S) := by
  obtain ⟨-, -, -, -, -, ⟨-, -, -, -, r4, r5, -⟩, ⟨-, -, -, -, l4, l5, -⟩⟩ := h
  have key : ∀ e k n : Nat, k + e = s → e < n → f_X12_marks_L40 S 436 (nI d) K n (nI k) = if zOk (fun k => zi S 442 (120 * d + k)) e k = true then K else some (-13, S) := by
    intro e
    induction e with
    | zero =>
      intro k n hk hn
      obtain ⟨f, rfl⟩ : ∃ f, n = f + 1 := ⟨n - 1, by omega⟩
      have : k = s := by omega
      subst this
      show f_X12_marks_L40b S 436 (nI d) K (f_X12_marks_L40 S 436 (nI d) K f) (nI k) = _
      unfold f_X12_marks_L40b
      rw [r4, zChk_t (by decide), l4, zChk_t (zix hd (by omega)), nI_clamp (by omega), es, if_pos (Int32.le_refl _)]
      rfl
    | succ e ih =>
      intro k n hk hn
      obtain ⟨f, rfl⟩ : ∃ f, n = f + 1 := ⟨n - 1, by omega⟩
      show f_X12_marks_L40b S 436 (nI d) K (f_X12_marks_L40 S 436 (nI d) K f) (nI k) = if (decide (zi S 442 (120 * d + k) = -128 ∨ zU (zi S 442 (120 * d + k)) 21) && zOk (fun k => zi S 442 (120 * d + k)) e (k + 1)) = true then K else some (-13, S)
      unfold f_X12_marks_L40b
      rw [r4, zChk_t (by decide), l4, zChk_t (zix hd (by omega)), nI_clamp (by omega), es, if_neg (nI_ge (by omega) (by omega)), r5, zChk_t (by decide), l5, zq120, nI_mul, nI_add, zChk_t (zix (by omega) (by omega)), nI_clamp (by omega), zisI (n := 21) rfl, zLet_d, nI_1, ih (k + 1) f (by omega) (by omega), zChk_t (zixc (by omega) (by omega))]
      by_cases h1 : zi S 442 (120 * d + k) = -128
      · rw [if_pos h1, show decide (zi S 442 (120 * d + k) = -128 ∨ zU (zi S 442 (120 * d + k)) 21) = true from decide_eq_true (Or.inl h1), Bool.true_and]
      · rw [if_neg h1]
        by_cases h2 : zU (zi S 442 (120 * d + k)) 21
        · rw [if_pos h2, if_neg (show ¬ (1 : Int32) = 0 by decide), show decide (zi S 442 (120 * d + k) = -128 ∨ zU (zi S 442 (120 * d + k)) 21) = true from decide_eq_true (Or.inr h2), Bool.true_and]
        · rw [if_neg h2, if_pos (show (0 : Int32) = 0 from rfl), show decide (zi S 442 (120 * d + k) = -128 ∨ zU (zi S 442 (120 * d + k)) 21) = false from decide_eq_false (fun q => q.elim h1 h2), Bool.false_and]
          rfl
  exact key s 0 n (by omega) (by omega)
