/-! who sits with whom -/
theorem nI_or (a b : Nat) : nI a ||| nI b = nI (a ||| b) := by
  apply Int32.toBitVec_inj.mp
  rw [Int32.toBitVec_or]
  exact BitVec.ofNat_or.symm
theorem nI_and (a b : Nat) : nI a &&& nI b = nI (a &&& b) := by
  apply Int32.toBitVec_inj.mp
  rw [Int32.toBitVec_and]
  exact BitVec.ofNat_and.symm
theorem zsubk {x : Int32} {j : Nat} : x - 1 = nI j ↔ x = nI (j + 1) :=
  ⟨fun h => by rw [← nI_1, ← h, Int32.sub_add_cancel], fun h => by rw [h, ← nI_1, Int32.add_sub_cancel]⟩
def zHn (g : Nat → Int32) (j : Nat) : Nat → Nat
  | 0 => 0
  | k + 1 => if g (70 + k) = nI (j + 1) then zHn g j k ||| 2 ^ (k / 7) else zHn g j k
theorem zHn_b {g : Nat → Int32} {j : Nat} : ∀ k : Nat, k ≤ 42 → zHn g j k < 2 ^ 6 := by
  intro k
  induction k with
  | zero => intro _; exact (by decide : 0 < 2 ^ 6)
  | succ k ih =>
    intro hk
    show (if g (70 + k) = nI (j + 1) then zHn g j k ||| 2 ^ (k / 7) else zHn g j k) < 2 ^ 6
    have := ih (by omega)
    split
    · exact Nat.or_lt_two_pow this (Nat.pow_lt_pow_right (by omega) (by omega))
    · exact this
theorem zHn_t {g : Nat → Int32} {j h : Nat} : ∀ k : Nat, ((zHn g j k).testBit h = true ↔ ∃ q : Nat, q < k ∧ q / 7 = h ∧ g (70 + q) = nI (j + 1)) := by
  intro k
  induction k with
  | zero =>
    show (Nat.testBit 0 h = true ↔ _)
    rw [Nat.zero_testBit]
    exact ⟨fun q => absurd (show false = true from q) (by decide), fun ⟨q, hq, _⟩ => absurd hq (Nat.not_lt_zero _)⟩
  | succ k ih =>
    show ((if g (70 + k) = nI (j + 1) then zHn g j k ||| 2 ^ (k / 7) else zHn g j k).testBit h = true ↔ _)
    by_cases e : g (70 + k) = nI (j + 1)
    · rw [if_pos e, Nat.testBit_or, Nat.testBit_two_pow, Bool.or_eq_true, ih, decide_eq_true_iff]
      constructor
      · rintro (⟨q, h1, h2, h3⟩ | h1)
        · exact ⟨q, by omega, h2, h3⟩
        · exact ⟨k, by omega, h1, e⟩
      · rintro ⟨q, h1, h2, h3⟩
        by_cases hq : q = k
        · subst hq; exact Or.inr h2
        · exact Or.inl ⟨q, by omega, h2, h3⟩
    · rw [if_neg e, ih]
      constructor
      · rintro ⟨q, h1, h2, h3⟩
        exact ⟨q, by omega, h2, h3⟩
      · rintro ⟨q, h1, h2, h3⟩
        by_cases hq : q = k
        · subst hq; exact absurd h3 e
        · exact ⟨q, by omega, h2, h3⟩
def zAt (g : Nat → Int32) (j h : Nat) : Nat → Bool
  | 0 => false
  | c + 1 => zAt g j h c || decide (g (70 + 7 * h + c) = nI (j + 1))
theorem zAt_t {g : Nat → Int32} {j h : Nat} : ∀ n : Nat, (zAt g j h n = true ↔ ∃ c : Nat, c < n ∧ g (70 + 7 * h + c) = nI (j + 1)) := by
  intro n
  induction n with
  | zero => exact ⟨fun q => absurd (show false = true from q) (by decide), fun ⟨q, hq, _⟩ => absurd hq (Nat.not_lt_zero _)⟩
  | succ n ih =>
    show ((zAt g j h n || decide (g (70 + 7 * h + n) = nI (j + 1))) = true ↔ _)
    rw [Bool.or_eq_true, ih, decide_eq_true_iff]
    constructor
    · rintro (⟨q, h1, h2⟩ | h1)
      · exact ⟨q, by omega, h2⟩
      · exact ⟨n, by omega, h1⟩
    · rintro ⟨q, h1, h2⟩
      by_cases hq : q = n
      · subst hq; exact Or.inr h2
      · exact Or.inl ⟨q, by omega, h2⟩
def zSf2 (g : Nat → Int32) (j k : Nat) : Nat → Nat → Bool
  | 0, _ => false
  | d + 1, h => (zAt g j h 7 && zAt g k h 7) || zSf2 g j k d (h + 1)
theorem zSf2_t {g : Nat → Int32} {j k : Nat} : ∀ d h : Nat, (zSf2 g j k d h = true ↔ ∃ i : Nat, h ≤ i ∧ i < h + d ∧ zAt g j i 7 = true ∧ zAt g k i 7 = true) := by
  intro d
  induction d with
  | zero => intro h; exact ⟨fun q => absurd (show false = true from q) (by decide), fun ⟨q, h1, h2, _⟩ => by omega⟩
  | succ d ih =>
    intro h
    show (((zAt g j h 7 && zAt g k h 7) || zSf2 g j k d (h + 1)) = true ↔ _)
    rw [Bool.or_eq_true, Bool.and_eq_true, ih]
    constructor
    · rintro (⟨h1, h2⟩ | ⟨i, h1, h2, h3⟩)
      · exact ⟨h, Nat.le_refl _, by omega, h1, h2⟩
      · exact ⟨i, by omega, by omega, h3⟩
    · rintro ⟨i, h1, h2, h3, h4⟩
      by_cases hq : i = h
      · subst hq; exact Or.inl ⟨h3, h4⟩
      · exact Or.inr ⟨i, by omega, by omega, h3, h4⟩
theorem zHn_at {g : Nat → Int32} {j h : Nat} (hh : h < 6) : (zHn g j 42).testBit h = true ↔ zAt g j h 7 = true := by
  rw [zHn_t, zAt_t]
  constructor
  · rintro ⟨q, h1, h2, h3⟩
    refine ⟨q % 7, by omega, ?_⟩
    rw [show 70 + 7 * h + q % 7 = 70 + q by omega]
    exact h3
  · rintro ⟨c, h1, h2⟩
    exact ⟨7 * h + c, by omega, by omega, by rw [show 70 + (7 * h + c) = 70 + 7 * h + c by omega]; exact h2⟩
theorem zHn_and {g : Nat → Int32} {j k : Nat} : (nI (zHn g j 42) &&& nI (zHn g k 42) = 0) ↔ zSf2 g k j 6 0 = false := by
  have b1 := zHn_b (g := g) (j := j) 42 (Nat.le_refl _)
  have b2 := zHn_b (g := g) (j := k) 42 (Nat.le_refl _)
  have hle : zHn g j 42 &&& zHn g k 42 ≤ zHn g j 42 := Nat.and_le_left
  have e0 : (nI (zHn g j 42) &&& nI (zHn g k 42) = 0) ↔ zHn g j 42 &&& zHn g k 42 = 0 := by
    rw [nI_and]
    exact ⟨fun h => nI_inj (b := 0) h (by omega) (by omega), fun h => by rw [h]; rfl⟩
  rw [e0]
  constructor
  · intro h
    rw [← Bool.not_eq_true, zSf2_t]
    rintro ⟨i, h1, h2, h3, h4⟩
    have t1 := (zHn_at (g := g) (j := j) (h := i) (by omega)).mpr h4
    have t2 := (zHn_at (g := g) (j := k) (h := i) (by omega)).mpr h3
    have : (zHn g j 42 &&& zHn g k 42).testBit i = true := by rw [Nat.testBit_and, t1, t2]; rfl
    rw [h, Nat.zero_testBit] at this
    exact absurd this (by decide)
  · intro h
    apply Nat.eq_of_testBit_eq
    intro i
    rw [Nat.zero_testBit, Nat.testBit_and]
    by_cases hi : i < 6
    · cases t1 : (zHn g j 42).testBit i with
      | false => rfl
      | true =>
        cases t2 : (zHn g k 42).testBit i with
        | false => rfl
        | true =>
          have : zSf2 g k j 6 0 = true := (zSf2_t 6 0).mpr ⟨i, by omega, by omega, (zHn_at hi).mp t2, (zHn_at hi).mp t1⟩
          rw [h] at this
          exact absurd this (by decide)
    · rw [Nat.testBit_lt_two_pow (Nat.lt_of_lt_of_le b1 (Nat.pow_le_pow_right (by omega) (by omega)))]
      rfl
theorem zsh2 : ∀ e : Nat, e < 6 → (1 : Int32) <<< (nI e &&& 31) = nI (2 ^ e) := by decide
theorem x_hallsOf {S : zM} {b j : Nat} {g : Nat → Int32} (hL : zLayS (zr S) (zln S) b) (hg : ∀ q : Nat, q < 42 → zi S (b + 4) q = g (70 + q) - 1) {n : Nat} (hn : 42 < n) : f_X9_hallsOf n S b (nI j) = some (nI (zHn g j 42)) := by
  have r3 : zr S b 3 = b + 4 := hL.1.2.2.2.1
  have l4 : zln S (b + 4) = 42 := hL.2.2.1.2.2.2.1
  unfold f_X9_hallsOf
  rw [zLet_d]
  refine zloop (fun f (s : Int32 × Int32) => f_X9_hallsOf_L4 S b (nI j) (fun x1 => some x1) f s.1 s.2) (fun k => (nI (zHn g j k), nI k)) 42 (fun k f hk => ?_) (fun f => ?_) n (by omega)
  · have e : zHn g j (k + 1) = if g (70 + k) = nI (j + 1) then zHn g j k ||| 2 ^ (k / 7) else zHn g j k := rfl
    show f_X9_hallsOf_L4b S b (nI j) (fun x1 => some x1) (f_X9_hallsOf_L4 S b (nI j) (fun x1 => some x1) f) (nI (zHn g j k)) (nI k) = f_X9_hallsOf_L4 S b (nI j) (fun x1 => some x1) f (nI (zHn g j (k + 1))) (nI (k + 1))
    unfold f_X9_hallsOf_L4b
    rw [if_neg (show ¬ (42 : Int32) ≤ nI k from nI_ge (b := 42) hk (by omega)), r3, zChk_t (by omega), l4, zChk_t (zix (by omega) (by omega)), nI_clamp (show k < 2 ^ 31 by omega), hg k hk, show nI k / (7 : Int32) = nI (k / 7) from nI_div (b := 7) (by omega) (by omega), zsh2 (k / 7) (by omega), nI_or, nI_1, e]
    by_cases q : g (70 + k) = nI (j + 1)
    · rw [if_pos (zsubk.mpr q), if_pos q]
    · rw [if_neg (fun x => q (zsubk.mp x)), if_neg q]
  · show f_X9_hallsOf_L4b S b (nI j) (fun x1 => some x1) (f_X9_hallsOf_L4 S b (nI j) (fun x1 => some x1) f) (nI (zHn g j 42)) (nI 42) = _
    unfold f_X9_hallsOf_L4b
    rw [if_pos (show (42 : Int32) ≤ nI 42 by decide)]
theorem m_sitsL {S : zM} {j k h : Nat} {g : Nat → Int32} (hL : zLay S) (hg : ∀ i : Nat, zi S 437 i = g i) (hh : h < 6) {K : Int32 → Int32 → Option Int32} {n : Nat} (hn : 7 < n) : f_X12_sits_L17 S 436 (nI j) (nI k) (nI h) K n 0 0 0 = K (if zAt g j h 7 = true then 1 else 0) (if zAt g k h 7 = true then 1 else 0) := by
  have key := zloop (fun f (s : Int32 × Int32 × Int32) => f_X12_sits_L17 S 436 (nI j) (nI k) (nI h) K f s.1 s.2.1 s.2.2) (fun c => (if zAt g j h c = true then 1 else 0, if zAt g k h c = true then 1 else 0, nI c)) 7 (res := K (if zAt g j h 7 = true then 1 else 0) (if zAt g k h 7 = true then 1 else 0)) (fun c f hc => ?_) (fun f => ?_) n hn
  · exact key
  · have o := m_onChair (a := h) (c := c) hL hh hc
    rw [hg] at o
    have e1 : zAt g j h (c + 1) = (zAt g j h c || decide (g (70 + 7 * h + c) = nI (j + 1))) := rfl
    have e2 : zAt g k h (c + 1) = (zAt g k h c || decide (g (70 + 7 * h + c) = nI (k + 1))) := rfl
    show f_X12_sits_L17b S 436 (nI j) (nI k) (nI h) K (f_X12_sits_L17 S 436 (nI j) (nI k) (nI h) K f) (if zAt g j h c = true then 1 else 0) (if zAt g k h c = true then 1 else 0) (nI c) = f_X12_sits_L17 S 436 (nI j) (nI k) (nI h) K f (if zAt g j h (c + 1) = true then 1 else 0) (if zAt g k h (c + 1) = true then 1 else 0) (nI (c + 1))
    have n10 : ¬ (1 : Int32) = 0 := by decide
    unfold f_X12_sits_L17b
    rw [if_neg (show ¬ (7 : Int32) ≤ nI c from nI_ge (b := 7) hc (by omega))]
    simp only [nLet, nB1, o]
    rw [nI_1, e1, e2]
    simp only [zsubk, Bool.or_eq_true, decide_eq_true_eq]
    rcases Classical.propComplete (zAt g j h c = true) with q1 | q1 <;> rcases Classical.propComplete (zAt g k h c = true) with q2 | q2 <;> rcases Classical.propComplete (g (70 + 7 * h + c) = nI (k + 1)) with q3 | q3 <;> rcases Classical.propComplete (g (70 + 7 * h + c) = nI (j + 1)) with q4 | q4 <;> simp only [q1, q2, q3, q4, n10, if_true, if_false, or_true, or_false, true_or, false_or]
  · show f_X12_sits_L17b S 436 (nI j) (nI k) (nI h) K (f_X12_sits_L17 S 436 (nI j) (nI k) (nI h) K f) (if zAt g j h 7 = true then 1 else 0) (if zAt g k h 7 = true then 1 else 0) (nI 7) = _
    unfold f_X12_sits_L17b
    rw [if_pos (show (7 : Int32) ≤ nI 7 by decide)]
theorem m_sits {S : zM} {j k : Nat} {g : Nat → Int32} (hL : zLay S) (hg : ∀ i : Nat, zi S 437 i = g i) {n : Nat} (hn : 7 < n) : f_X12_sits n S 436 (nI j) (nI k) = some (if zSf2 g j k 6 0 = true then 1 else 0) := by
  have key : ∀ d h m : Nat, h + d = 6 → d < m → f_X12_sits_L2 n S 436 (nI j) (nI k) m (nI h) = some (if zSf2 g j k d h = true then 1 else 0) := by
    intro d
    induction d with
    | zero =>
      intro h m hd hm
      obtain ⟨m, rfl⟩ : ∃ i, m = i + 1 := ⟨m - 1, by omega⟩
      have : h = 6 := by omega
      subst this
      show f_X12_sits_L2b n S 436 (nI j) (nI k) (f_X12_sits_L2 n S 436 (nI j) (nI k) m) (nI 6) = _
      unfold f_X12_sits_L2b
      rw [if_pos (show (6 : Int32) ≤ nI 6 by decide)]
      rfl
    | succ d ih =>
      intro h m hd hm
      obtain ⟨m, rfl⟩ : ∃ i, m = i + 1 := ⟨m - 1, by omega⟩
      have e : zSf2 g j k (d + 1) h = ((zAt g j h 7 && zAt g k h 7) || zSf2 g j k d (h + 1)) := rfl
      have n10 : ¬ (1 : Int32) = 0 := by decide
      show f_X12_sits_L2b n S 436 (nI j) (nI k) (f_X12_sits_L2 n S 436 (nI j) (nI k) m) (nI h) = _
      unfold f_X12_sits_L2b
      rw [if_neg (show ¬ (6 : Int32) ≤ nI h from nI_ge (b := 6) (by omega) (by omega)), zLet_d, m_sitsL hL hg (by omega) hn, nI_1, ih (h + 1) m (by omega) (by omega), e]
      by_cases q1 : zAt g j h 7 = true
      · by_cases q2 : zAt g k h 7 = true
        · rw [if_pos q1, if_pos q2, if_neg n10, if_neg n10, if_pos (by rw [q1, q2]; rfl)]
        · rw [if_pos q1, if_neg q2, if_neg n10, if_pos rfl]
          simp only [q2, Bool.and_false, Bool.false_or]
      · rw [if_neg q1, if_pos rfl]
        simp only [q1, Bool.false_and, Bool.false_or]
  exact key 6 0 n (by omega) (by omega)
