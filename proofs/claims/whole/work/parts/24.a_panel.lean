/-! marks in order: a place found from behind, and put in there -/
def zPos (f : Nat → Int32) (v : Int32) : Nat → Nat
  | 0 => 0
  | k + 1 => if f k ≤ v then k + 1 else zPos f v k
def zIns (f : Nat → Int32) (n : Nat) (v : Int32) : Nat → Int32 := fun k => if k < zPos f v n then f k else if k = zPos f v n then v else f (k - 1)
def zGa (p : Nat → Bool) (m : Nat → Int32) : Nat → Nat × (Nat → Int32)
  | 0 => (0, fun _ => 0)
  | c + 1 => if p c then ((zGa p m c).1 + 1, zIns (zGa p m c).2 (zGa p m c).1 (m c)) else zGa p m c
theorem zPos_le (f : Nat → Int32) (v : Int32) (n : Nat) : zPos f v n ≤ n := by
  induction n with
  | zero => exact Nat.le_refl _
  | succ n ih =>
    show (if f n ≤ v then n + 1 else zPos f v n) ≤ n + 1
    split <;> omega
theorem zGa_le (p : Nat → Bool) (m : Nat → Int32) (c : Nat) : (zGa p m c).1 ≤ c := by
  induction c with
  | zero => exact Nat.le_refl _
  | succ c ih =>
    show (if p c then ((zGa p m c).1 + 1, zIns (zGa p m c).2 (zGa p m c).1 (m c)) else zGa p m c).1 ≤ c + 1
    split
    · show (zGa p m c).1 + 1 ≤ c + 1
      omega
    · omega
theorem zGa_cnt (p : Nat → Bool) (m : Nat → Int32) (c : Nat) : (zGa p m c).1 = zCnt p c := by
  induction c with
  | zero => rfl
  | succ c ih =>
    show (if p c then ((zGa p m c).1 + 1, zIns (zGa p m c).2 (zGa p m c).1 (m c)) else zGa p m c).1 = if p c then zCnt p c + 1 else zCnt p c
    split
    · show (zGa p m c).1 + 1 = _
      omega
    · exact ih
theorem zGa_c {p p1 : Nat → Bool} {m m1 : Nat → Int32} {c : Nat} (hp : ∀ i, i < c → p i = p1 i) (hm : ∀ i, i < c → p i = true → m i = m1 i) : zGa p m c = zGa p1 m1 c := by
  induction c with
  | zero => rfl
  | succ c ih =>
    show (if p c then ((zGa p m c).1 + 1, zIns (zGa p m c).2 (zGa p m c).1 (m c)) else zGa p m c) = if p1 c then ((zGa p1 m1 c).1 + 1, zIns (zGa p1 m1 c).2 (zGa p1 m1 c).1 (m1 c)) else zGa p1 m1 c
    rw [ih (fun i hi => hp i (by omega)) (fun i hi => hm i (by omega)), ← hp c (by omega)]
    by_cases h : p c = true
    · rw [hm c (by omega) h]
    · rw [if_neg h, if_neg h]
theorem zIns_sum (f : Nat → Int32) (n : Nat) (v : Int32) : zSum (zIns f n v) (n + 1) = zSum f n + v := by
  have hle := zPos_le f v n
  have key : ∀ k : Nat, zSum (zIns f n v) k = if k ≤ zPos f v n then zSum f k else zSum f (k - 1) + v := by
    intro k
    induction k with
    | zero => rw [if_pos (Nat.zero_le _)]; rfl
    | succ k ih =>
      show zSum (zIns f n v) k + zIns f n v k = _
      rw [ih]
      unfold zIns
      by_cases h1 : k < zPos f v n
      · rw [if_pos (by omega), if_pos h1, if_pos (by omega)]; rfl
      · rw [if_neg h1]
        by_cases h2 : k = zPos f v n
        · rw [if_pos (by omega), if_pos h2, if_neg (by omega), show k + 1 - 1 = k by omega]
        · rw [if_neg (by omega), if_neg h2, if_neg (by omega)]
          obtain ⟨j, rfl⟩ : ∃ j, k = j + 1 := ⟨k - 1, by omega⟩
          show zSum f (j + 1 - 1) + v + f (j + 1 - 1) = zSum f (j + 1 + 1 - 1) + v
          rw [show j + 1 - 1 = j by omega, show j + 1 + 1 - 1 = j + 1 by omega]
          show zSum f j + v + f j = zSum f j + f j + v
          rw [Int32.add_assoc, Int32.add_comm v, ← Int32.add_assoc]
  rw [key, if_neg (by omega), show n + 1 - 1 = n by omega]
theorem zGa_sum (p : Nat → Bool) (m : Nat → Int32) (c : Nat) : zSum (zGa p m c).2 (zGa p m c).1 = zSum (fun i => if p i then m i else 0) c := by
  induction c with
  | zero => rfl
  | succ c ih =>
    show zSum (if p c then ((zGa p m c).1 + 1, zIns (zGa p m c).2 (zGa p m c).1 (m c)) else zGa p m c).2 (if p c then ((zGa p m c).1 + 1, zIns (zGa p m c).2 (zGa p m c).1 (m c)) else zGa p m c).1 = zSum (fun i => if p i then m i else 0) c + (if p c then m c else 0)
    by_cases h : p c = true
    · rw [if_pos h, if_pos h]
      show zSum (zIns (zGa p m c).2 (zGa p m c).1 (m c)) ((zGa p m c).1 + 1) = _
      rw [zIns_sum, ih]
    · rw [if_neg h, if_neg h, ih, Int32.add_zero]
theorem zCnt_sum (p : Nat → Bool) (c : Nat) : nI (zCnt p c) = zSum (fun i => if p i then 1 else 0) c := by
  induction c with
  | zero => rfl
  | succ c ih =>
    show nI (if p c then zCnt p c + 1 else zCnt p c) = zSum (fun i => if p i then 1 else 0) c + (if p c then 1 else 0)
    by_cases h : p c = true
    · rw [if_pos h, if_pos h, ← ih, nI_1]
    · rw [if_neg h, if_neg h, ← ih, Int32.add_zero]
/-- a panel: its size at a place, its marks in a row -/
def zPan (S : zM) (a k q n : Nat) (f : Nat → Int32) : Prop := zi S a k = nI n ∧ ∀ j : Nat, j < n → zi S q j = f j
theorem zle_x {a b : Int32} : ¬ a ≤ b ↔ b < a := Int32.not_le
theorem x_addL {a0 q : Nat} {v : Int32} {f : Nat → Int32} {n0 : Nat} {K : Int32 → zM → Option zM} (hq : ¬ q = 0) (h7 : n0 < 7) (n : Nat) : ∀ (k : Nat) (S : zM), k < n → k ≤ n0 → zr S a0 0 = q → zln S q = 7 → zPos f v n0 = zPos f v k → (∀ j : Nat, j < k → zi S q j = f j) → (∀ j : Nat, k < j → j ≤ n0 → zi S q j = f (j - 1)) →
    ∃ S1 : zM, f_X5_add_L15 a0 v K n (nI k) S = K (nI (zPos f v n0)) S1 ∧ zF (fun a j => a = q ∧ j < 7) S S1 ∧ (∀ j : Nat, j < zPos f v n0 → zi S1 q j = f j) ∧ ∀ j : Nat, zPos f v n0 < j → j ≤ n0 → zi S1 q j = f (j - 1) := by
  induction n with
  | zero => intro k S hk; omega
  | succ n ih =>
    intro k S hk hk0 hr hl hp h1 h2
    show ∃ S1 : zM, f_X5_add_L15b a0 v K (f_X5_add_L15 a0 v K n) (nI k) S = K (nI (zPos f v n0)) S1 ∧ _
    unfold f_X5_add_L15b
    match k, hk, hk0, hp, h1, h2 with
    | 0, hk, hk0, hp, h1, h2 =>
      rw [if_pos (show nI 0 ≤ (0 : Int32) from Int32.le_refl _)]
      have h0 : zPos f v n0 = 0 := hp
      rw [h0]
      exact ⟨S, rfl, zF.rf, fun j hj => by omega, fun j hj hj2 => h2 j hj hj2⟩
    | k + 1, hk, hk0, hp, h1, h2 =>
      rw [if_neg (nI_nle (by omega) (by omega)), hr, zChk_t hq, hl, nI_pred, zChk_t (zix (by omega) (by omega)), nI_clamp (by omega), h1 k (by omega)]
      by_cases hf : f k ≤ v
      · have hp1 : zPos f v (k + 1) = k + 1 := if_pos hf
        rw [if_pos hf, hp, hp1]
        exact ⟨S, rfl, zF.rf, h1, h2⟩
      · have hp1 : zPos f v (k + 1) = zPos f v k := if_neg hf
        rw [if_neg hf, zChk_t (zixc (by omega) (by omega)), zChk_t (zix (by omega) (by omega)), zLet_d, nI_clamp (by omega), show nI (k + 1) + (-1 : Int32) = nI k by rw [← Int32.sub_eq_add_neg]; exact nI_pred k]
        obtain ⟨S1, e, g1, g2, g3⟩ := ih k (zpI S q (k + 1) (f k)) (by omega) (by omega) hr hl (hp.trans hp1) (fun j hj => by rw [mi_ne _ _ (by omega)]; exact h1 j (by omega)) (fun j hj hj2 => by
          by_cases hjk : j = k + 1
          · subst hjk; exact mi_eq _ _ _ _
          · rw [mi_ne _ _ (by omega)]; exact h2 j (by omega) hj2)
        exact ⟨S1, e, (zF_pI ⟨rfl, by omega⟩).tr g1, g2, g3⟩
theorem m_comesL {v : Int32} {f : Nat → Int32} {n0 : Nat} {K : Int32 → zM → Option zM} (h7 : n0 < 7) (n : Nat) : ∀ (k : Nat) (S : zM), k < n → k ≤ n0 → zr S 436 10 = 445 → zln S 445 = 7 → zPos f v n0 = zPos f v k → (∀ j : Nat, j < k → zi S 445 j = f j) → (∀ j : Nat, k < j → j ≤ n0 → zi S 445 j = f (j - 1)) →
    ∃ S1 : zM, f_X12_comes_L5 436 v K n (nI k) S = K (nI (zPos f v n0)) S1 ∧ zF (fun a j => a = 445 ∧ j < 7) S S1 ∧ (∀ j : Nat, j < zPos f v n0 → zi S1 445 j = f j) ∧ ∀ j : Nat, zPos f v n0 < j → j ≤ n0 → zi S1 445 j = f (j - 1) := by
  induction n with
  | zero => intro k S hk; omega
  | succ n ih =>
    intro k S hk hk0 hr hl hp h1 h2
    show ∃ S1 : zM, f_X12_comes_L5b 436 v K (f_X12_comes_L5 436 v K n) (nI k) S = K (nI (zPos f v n0)) S1 ∧ _
    unfold f_X12_comes_L5b
    match k, hk, hk0, hp, h1, h2 with
    | 0, hk, hk0, hp, h1, h2 =>
      rw [if_pos (show nI 0 ≤ (0 : Int32) from Int32.le_refl _)]
      have h0 : zPos f v n0 = 0 := hp
      rw [h0]
      exact ⟨S, rfl, zF.rf, fun j hj => by omega, fun j hj hj2 => h2 j hj hj2⟩
    | k + 1, hk, hk0, hp, h1, h2 =>
      rw [if_neg (nI_nle (by omega) (by omega)), hr, zChk_t (by decide), hl, nI_pred, zChk_t (zix (by omega) (by omega)), nI_clamp (by omega), h1 k (by omega)]
      by_cases hf : f k ≤ v
      · have hp1 : zPos f v (k + 1) = k + 1 := if_pos hf
        rw [if_pos hf, hp, hp1]
        exact ⟨S, rfl, zF.rf, h1, h2⟩
      · have hp1 : zPos f v (k + 1) = zPos f v k := if_neg hf
        rw [if_neg hf, zChk_t (zixc (by omega) (by omega)), zChk_t (zix (by omega) (by omega)), zLet_d, nI_clamp (by omega), show nI (k + 1) + (-1 : Int32) = nI k by rw [← Int32.sub_eq_add_neg]; exact nI_pred k]
        obtain ⟨S1, e, g1, g2, g3⟩ := ih k (zpI S 445 (k + 1) (f k)) (by omega) (by omega) hr hl (hp.trans hp1) (fun j hj => by rw [mi_ne _ _ (by omega)]; exact h1 j (by omega)) (fun j hj hj2 => by
          by_cases hjk : j = k + 1
          · subst hjk; exact mi_eq _ _ _ _
          · rw [mi_ne _ _ (by omega)]; exact h2 j (by omega) hj2)
        exact ⟨S1, e, (zF_pI ⟨rfl, by omega⟩).tr g1, g2, g3⟩
theorem x_add {S : zM} {a0 q n0 : Nat} {f : Nat → Int32} {v : Int32} (hr : zr S a0 0 = q) (hl : zln S q = 7) (hq : ¬ q = 0) (hqa : ¬ q = a0) (h7 : n0 < 7) (hP : zPan S a0 1 q n0 f) {n : Nat} (hn : 7 < n) :
    ∃ S1 : zM, f_X5_add n S a0 v = some S1 ∧ zF (fun a j => (a = q ∧ j < 7) ∨ (a = a0 ∧ j = 1)) S S1 ∧ zPan S1 a0 1 q (n0 + 1) (zIns f n0 v) := by
  have hle := zPos_le f v n0
  unfold f_X5_add
  rw [hP.1, if_pos (show nI n0 < (7 : Int32) from nI_lt h7 (by decide)), zLet_d]
  obtain ⟨T, e, g1, g2, g3⟩ := x_addL (a0 := a0) (q := q) (v := v) (f := f) (n0 := n0) (K := fun (x3 : Int32) (S4 : zM) => zChk (¬ (zr S4 a0 0) = 0) (zChk (¬ (x3 < 0 ∨ zln S4 (zr S4 a0 0) ≤ (x3).toNatClampNeg)) (zLet (zpI S4 (zr S4 a0 0) (Int32.toNatClampNeg x3) v) (fun S10 => zLet (zpI S10 a0 1 ((zi S10 a0 1) + (1 : Int32))) (fun S15 => some S15))))) hq h7 n n0 S (by omega) (Nat.le_refl _) hr hl rfl hP.2 (fun j hj hj2 => by omega)
  rw [e]
  have hT1 : zi T a0 1 = nI n0 := by rw [g1.i (by omega)]; exact hP.1
  refine ⟨zpI (zpI T q (zPos f v n0) v) a0 1 (nI (n0 + 1)), ?_, ?_, mi_eq _ _ _ _, fun j hj => ?_⟩
  · rw [g1.r, hr, zChk_t hq, g1.n, hl, zChk_t (zix (by omega) (by omega)), zLet_d, zLet_d, nI_clamp (by omega), mi_ne _ _ (by omega), hT1, nI_1]
  · exact zF.pI (zF.pI (g1.mo (fun a j h => Or.inl h)) (Or.inl ⟨rfl, by omega⟩)) (Or.inr ⟨rfl, rfl⟩)
  · rw [mi_ne _ _ (by omega)]
    unfold zIns
    by_cases h1 : j < zPos f v n0
    · rw [if_pos h1, mi_ne _ _ (by omega)]; exact g2 j h1
    · rw [if_neg h1]
      by_cases h2 : j = zPos f v n0
      · rw [if_pos h2, h2]; exact mi_eq _ _ _ _
      · rw [if_neg h2, mi_ne _ _ (by omega)]; exact g3 j (by omega) (by omega)
theorem m_comes {S : zM} {n0 : Nat} {f : Nat → Int32} {v : Int32} (hr : zr S 436 10 = 445) (hl : zln S 445 = 7) (h7 : n0 < 7) (hP : zPan S 436 11 445 n0 f) {n : Nat} (hn : 7 < n) :
    ∃ S1 : zM, f_X12_comes n S 436 v = some S1 ∧ zF (fun a j => (a = 445 ∧ j < 7) ∨ (a = 436 ∧ j = 11)) S S1 ∧ zPan S1 436 11 445 (n0 + 1) (zIns f n0 v) := by
  have hle := zPos_le f v n0
  unfold f_X12_comes
  rw [hP.1, zLet_d]
  obtain ⟨T, e, g1, g2, g3⟩ := m_comesL (v := v) (f := f) (n0 := n0) (K := fun (x2 : Int32) (S3 : zM) => zChk (¬ (zr S3 436 10) = 0) (zChk (¬ (x2 < 0 ∨ zln S3 (zr S3 436 10) ≤ (x2).toNatClampNeg)) (zLet (zpI S3 (zr S3 436 10) (Int32.toNatClampNeg x2) v) (fun S9 => zLet (zpI S9 436 11 ((zi S9 436 11) + (1 : Int32))) (fun S14 => some S14))))) h7 n n0 S (by omega) (Nat.le_refl _) hr hl rfl hP.2 (fun j hj hj2 => by omega)
  rw [e]
  have hT1 : zi T 436 11 = nI n0 := by rw [g1.i (by omega)]; exact hP.1
  refine ⟨zpI (zpI T 445 (zPos f v n0) v) 436 11 (nI (n0 + 1)), ?_, ?_, mi_eq _ _ _ _, fun j hj => ?_⟩
  · rw [g1.r, hr, zChk_t (by decide), g1.n, hl, zChk_t (zix (by omega) (by omega)), zLet_d, zLet_d, nI_clamp (by omega), mi_ne _ _ (by omega), hT1, nI_1]
  · exact zF.pI (zF.pI (g1.mo (fun a j h => Or.inl h)) (Or.inl ⟨rfl, by omega⟩)) (Or.inr ⟨rfl, rfl⟩)
  · rw [mi_ne _ _ (by omega)]
    unfold zIns
    by_cases h1 : j < zPos f v n0
    · rw [if_pos h1, mi_ne _ _ (by omega)]; exact g2 j h1
    · rw [if_neg h1]
      by_cases h2 : j = zPos f v n0
      · rw [if_pos h2, h2]; exact mi_eq _ _ _ _
      · rw [if_neg h2, mi_ne _ _ (by omega)]; exact g3 j (by omega) (by omega)
/-- a dive's marks gathered -/
theorem x_gather {S0 : zM} {a0 q a1 q1 : Nat} (hr : zr S0 a0 0 = q) (hl : zln S0 q = 7) (hq : ¬ q = 0) (hqa : ¬ q = a0) (hr1 : zr S0 a1 0 = q1) (hl1 : zln S0 q1 = 7) (hq1 : ¬ q1 = 0) (hne : ¬ q1 = q ∧ ¬ q1 = a0) {n : Nat} (hn : 7 < n) :
    ∃ S1 : zM, f_X5_gather n S0 a0 a1 = some S1 ∧ zF (fun a j => (a = q ∧ j < 7) ∨ (a = a0 ∧ j = 1)) S0 S1 ∧ zPan S1 a0 1 q (zGa (fun c => !decide (zi S0 q1 c = -128)) (fun c => zi S0 q1 c) 7).1 (zGa (fun c => !decide (zi S0 q1 c = -128)) (fun c => zi S0 q1 c) 7).2 := by
  unfold f_X5_gather
  rw [zLet_d, zLet_d]
  refine zloopR (fun f (s : Int32 × zM) => f_X5_gather_L7 n a0 a1 (fun S7 => some S7) f s.1 s.2) (fun k s => s.1 = nI k ∧ zF (fun a j => (a = q ∧ j < 7) ∨ (a = a0 ∧ j = 1)) S0 s.2 ∧ zPan s.2 a0 1 q (zGa (fun c => !decide (zi S0 q1 c = -128)) (fun c => zi S0 q1 c) k).1 (zGa (fun c => !decide (zi S0 q1 c = -128)) (fun c => zi S0 q1 c) k).2) 7 (fun o => ∃ S1 : zM, o = some S1 ∧ zF (fun a j => (a = q ∧ j < 7) ∨ (a = a0 ∧ j = 1)) S0 S1 ∧ zPan S1 a0 1 q (zGa (fun c => !decide (zi S0 q1 c = -128)) (fun c => zi S0 q1 c) 7).1 (zGa (fun c => !decide (zi S0 q1 c = -128)) (fun c => zi S0 q1 c) 7).2) ?_ ?_ n (0, zpI S0 a0 1 0) hn ⟨rfl, zF_pI (Or.inr ⟨rfl, rfl⟩), mi_eq _ _ _ _, fun j hj => absurd hj (Nat.not_lt_zero _)⟩
  · rintro k f ⟨x, S⟩ hk ⟨h1, h2, h3⟩
    dsimp only at h1 h2 h3 ⊢
    subst h1
    have hle := zGa_le (fun c => !decide (zi S0 q1 c = -128)) (fun c => zi S0 q1 c) k
    have hb : f_X5_gather_L7 n a0 a1 (fun S7 => some S7) (f + 1) (nI k) S = if zi S0 q1 k = -128 then f_X5_gather_L7 n a0 a1 (fun S7 => some S7) f (nI (k + 1)) S else zB1 (f_X5_add n S a0 (zi S0 q1 k)) (fun S25 => f_X5_gather_L7 n a0 a1 (fun S7 => some S7) f (nI (k + 1)) S25) := by
      show f_X5_gather_L7b n a0 a1 (fun S7 => some S7) (f_X5_gather_L7 n a0 a1 (fun S7 => some S7) f) (nI k) S = _
      unfold f_X5_gather_L7b
      rw [if_neg (show ¬ (7 : Int32) ≤ nI k from nI_ge hk (by decide)), x_hasMark (by rw [h2.r]; exact hr1) hq1 (by rw [h2.n]; exact hl1) hk, zB1_s, h2.r, hr1, zChk_t hq1, h2.n, hl1, zChk_t (zix hk (by omega)), nI_clamp (by omega), h2.i (by omega), nI_1]
      by_cases h : zi S0 q1 k = -128
      · rw [if_pos h, if_pos h, if_pos rfl]
      · rw [if_neg h, if_neg h, if_neg (by decide)]
    rw [hb]
    by_cases h : zi S0 q1 k = -128
    · rw [if_pos h]
      have e : zGa (fun c => !decide (zi S0 q1 c = -128)) (fun c => zi S0 q1 c) (k + 1) = zGa (fun c => !decide (zi S0 q1 c = -128)) (fun c => zi S0 q1 c) k := if_neg (by simp [h])
      refine ⟨(nI (k + 1), S), ⟨rfl, h2, ?_⟩, rfl⟩
      rw [e]; exact h3
    · rw [if_neg h]
      have e : zGa (fun c => !decide (zi S0 q1 c = -128)) (fun c => zi S0 q1 c) (k + 1) = ((zGa (fun c => !decide (zi S0 q1 c = -128)) (fun c => zi S0 q1 c) k).1 + 1, zIns (zGa (fun c => !decide (zi S0 q1 c = -128)) (fun c => zi S0 q1 c) k).2 (zGa (fun c => !decide (zi S0 q1 c = -128)) (fun c => zi S0 q1 c) k).1 (zi S0 q1 k)) := if_pos (by simp [h])
      obtain ⟨T, g1, g2, g3⟩ := x_add (v := zi S0 q1 k) (show zr S a0 0 = q by rw [h2.r]; exact hr) (by rw [h2.n]; exact hl) hq hqa (by omega) h3 hn
      refine ⟨(nI (k + 1), T), ⟨rfl, h2.tr g2, ?_⟩, ?_⟩
      · rw [e]; exact g3
      · rw [g1, zB1_s]
  · rintro f ⟨x, S⟩ ⟨h1, h2, h3⟩
    dsimp only at h1 h2 h3 ⊢
    subst h1
    refine ⟨S, ?_, h2, h3⟩
    show f_X5_gather_L7b n a0 a1 (fun S7 => some S7) (f_X5_gather_L7 n a0 a1 (fun S7 => some S7) f) (nI 7) S = _
    unfold f_X5_gather_L7b
    rw [if_pos (show (7 : Int32) ≤ nI 7 from Int32.le_refl _)]
