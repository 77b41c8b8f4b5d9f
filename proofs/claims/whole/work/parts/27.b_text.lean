/-! the reference reads a text: T in the row from base on, at place p -/
theorem zdrop (T : List Int32) (p : Nat) : T.drop p = match T[p]? with
    | none => []
    | some x => x :: T.drop (p + 1) := by
  induction T generalizing p with
  | nil => simp
  | cons y T ih =>
    cases p with
    | zero => rfl
    | succ p =>
      show T.drop p = match T[p]? with
        | none => []
        | some x => x :: T.drop (p + 1)
      exact ih p
theorem zdrop_c {T r : List Int32} {p : Nat} {x : Int32} (h : T.drop p = x :: r) : T[p]? = some x ∧ r = T.drop (p + 1) ∧ p < T.length := by
  have e := zdrop T p
  rw [h] at e
  cases hp : T[p]? with
  | none => rw [hp] at e; cases e
  | some y =>
    rw [hp] at e
    dsimp only at e
    injection e with e1 e2
    subst e1
    refine ⟨rfl, e2, ?_⟩
    have := List.getElem?_eq_some_iff.mp hp
    exact this.1
theorem zdrop_n {T : List Int32} {p : Nat} (h : T.drop p = []) : T[p]? = none ∧ T.length ≤ p := by
  have e := zdrop T p
  rw [h] at e
  cases hp : T[p]? with
  | none => exact ⟨rfl, List.getElem?_eq_none_iff.mp hp⟩
  | some y => rw [hp] at e; cases e
def zTs (S : zM) (row base : Nat) (T : List Int32) (p : Nat) : Prop :=
  zr S 436 17 = row ∧ ¬ row = 0 ∧ ¬ row = 436 ∧ zi S 436 13 = nI base ∧ zi S 436 14 = nI T.length ∧ zi S 436 12 = nI p ∧ p ≤ T.length ∧ T.length ≤ 120 ∧ base ≤ 1000 ∧ base + T.length ≤ zln S row ∧ ∀ k : Nat, k < T.length → T[k]? = some (zi S row (base + k))
def zTwr (a k : Nat) : Prop := a = 436 ∧ (k = 12 ∨ (15 ≤ k ∧ k ≤ 21))
theorem zTs.fr {S S1 : zM} {row base p p1 : Nat} {T : List Int32} (h : zTs S row base T p) (f : zF zTwr S S1) (e : zi S1 436 12 = nI p1) (hp : p1 ≤ T.length) : zTs S1 row base T p1 := by
  obtain ⟨h1, h2, h3, h4, h5, h6, h7, h8, h9, h10, h11⟩ := h
  refine ⟨by rw [f.r]; exact h1, h2, h3, by rw [f.i (by unfold zTwr; omega)]; exact h4, by rw [f.i (by unfold zTwr; omega)]; exact h5, e, hp, h8, h9, by rw [f.n]; exact h10, fun k hk => ?_⟩
  rw [f.i (by unfold zTwr; omega)]
  exact h11 k hk
theorem m_sign {S : zM} {row base p : Nat} {T : List Int32} (h : zTs S row base T p) : f_X12_sign S 436 = some (match T[p]? with
    | none => -1000
    | some x => x) := by
  obtain ⟨h1, h2, h3, h4, h5, h6, h7, h8, h9, h10, h11⟩ := h
  unfold f_X12_sign
  rw [h5, h6, h4, h1]
  by_cases hp : p < T.length
  · rw [if_neg (nI_ge hp (by omega)), zChk_t h2, nI_add, zChk_t (zix (by omega) (by omega)), nI_clamp (by omega), h11 p hp]
  · have : T[p]? = none := List.getElem?_eq_none_iff.mpr (by omega)
    rw [this, if_pos (nI_le (by omega) (by omega))]
theorem zdig {x : Int32} : f_X12_isIn x.toInt64 48 57 = if zpG x = true then 1 else 0 := by
  rw [zisR]
  unfold zpG
  have e1 : (48 : Int64).toInt = 48 := by decide +kernel
  have e2 : (57 : Int64).toInt = 57 := by decide +kernel
  have e3 : (48 : Int32).toInt = 48 := by decide +kernel
  have e4 : (57 : Int32).toInt = 57 := by decide +kernel
  rw [e1, e2]
  have hiff : (48 ≤ x.toInt ∧ x.toInt ≤ 57) ↔ (decide (48 ≤ x) && decide (x ≤ 57)) = true := by
    rw [Bool.and_eq_true, decide_eq_true_eq, decide_eq_true_eq, Int32.le_iff_toInt_le, Int32.le_iff_toInt_le, e3, e4]
  by_cases h : 48 ≤ x.toInt ∧ x.toInt ≤ 57
  · rw [if_pos h, if_pos (hiff.mp h)]
  · rw [if_neg h, if_neg (fun q => h (hiff.mpr q))]
theorem zTs.step {S : zM} {row base p : Nat} {T : List Int32} (h : zTs S row base T p) (hp : p < T.length) : zTs (zpI S 436 12 (zi S 436 12 + 1)) row base T (p + 1) ∧ zF zTwr S (zpI S 436 12 (zi S 436 12 + 1)) := by
  have f : zF zTwr S (zpI S 436 12 (zi S 436 12 + 1)) := zF_pI ⟨rfl, Or.inl rfl⟩
  exact ⟨h.fr f (by rw [mi_eq, h.2.2.2.2.2.1, nI_1]) hp, f⟩
theorem m_numL {row base : Nat} {T : List Int32} {K : zM → Option (Int32 × zM)} : ∀ (k : Nat) (n p : Nat) (S : zM) (v : Int32), k ≤ 2 → k < n → zTs S row base T p → zi S 436 16 = v →
    ∃ (p1 : Nat) (S1 : zM), f_X12_readsNumber_L42 436 K n (nI (3 - k)) S = K S1 ∧ zTs S1 row base T p1 ∧ zF zTwr S S1 ∧ zi S1 436 16 = (zpN k v (T.drop p)).1 ∧ T.drop p1 = (zpN k v (T.drop p)).2 ∧ p ≤ p1 := by
  intro k
  induction k with
  | zero =>
    intro n p S v hk hn hT hv
    obtain ⟨f, rfl⟩ : ∃ f, n = f + 1 := ⟨n - 1, by omega⟩
    refine ⟨p, S, ?_, hT, zF.rf, hv, rfl, Nat.le_refl _⟩
    show f_X12_readsNumber_L42b 436 K (f_X12_readsNumber_L42 436 K f) (nI 3) S = K S
    unfold f_X12_readsNumber_L42b
    rw [if_pos (show (3 : Int32) ≤ nI 3 from Int32.le_refl _)]
  | succ k ih =>
    intro n p S v hk hn hT hv
    obtain ⟨f, rfl⟩ : ∃ f, n = f + 1 := ⟨n - 1, by omega⟩
    show ∃ (p1 : Nat) (S1 : zM), f_X12_readsNumber_L42b 436 K (f_X12_readsNumber_L42 436 K f) (nI (3 - (k + 1))) S = K S1 ∧ _
    unfold f_X12_readsNumber_L42b
    rw [if_neg (show ¬ (3 : Int32) ≤ nI (3 - (k + 1)) from nI_ge (a := 3 - (k + 1)) (b := 3) (by omega) (by decide)), hv, m_sign hT, zB1_s]
    simp only [nLet]
    cases hd : T.drop p with
    | nil =>
      rw [(zdrop_n hd).1]
      refine ⟨p, S, ?_, hT, zF.rf, hv, hd, Nat.le_refl _⟩
      dsimp only
      rw [zdig, show zpG (-1000) = false by decide, if_neg (show ¬ (false = true) by decide), if_pos (show (0 : Int32) = 0 from rfl)]
      split <;> rfl
    | cons x r =>
      obtain ⟨hx, hr, hlt⟩ := zdrop_c hd
      rw [hx]
      dsimp only
      rw [zdig]
      have e : zpN (k + 1) v (x :: r) = if 0 < v ∧ zpG x = true then zpN k (10 * v + x - 48) r else (v, x :: r) := rfl
      rw [e]
      by_cases h0 : v ≤ 0
      · rw [if_pos h0, if_neg (fun q => Int32.not_lt.mpr h0 q.1)]
        exact ⟨p, S, rfl, hT, zF.rf, hv, hd, Nat.le_refl _⟩
      · rw [if_neg h0]
        by_cases hg : zpG x = true
        · rw [if_pos hg, if_neg (show ¬ (1 : Int32) = 0 by decide), if_pos ⟨Int32.not_le.mp h0, hg⟩, zB1_s]
          have hT2 : zTs (zpI S 436 16 (10 * v + x - 48)) row base T p := hT.fr (zF_pI ⟨rfl, Or.inr ⟨by omega, by omega⟩⟩) (by rw [mi_ne _ _ (by omega)]; exact hT.2.2.2.2.2.1) hT.2.2.2.2.2.2.1
          obtain ⟨hT3, hf3⟩ := hT2.step hlt
          obtain ⟨p1, S1, q1, q2, q3, q4, q5, q6⟩ := ih f (p + 1) _ (10 * v + x - 48) (by omega) (by omega) hT3 (by rw [mi_ne _ _ (by omega), mi_eq])
          rw [← hr] at q4 q5
          refine ⟨p1, S1, ?_, q2, ((zF_pI ⟨rfl, Or.inr ⟨by omega, by omega⟩⟩).tr hf3).tr q3, q4, q5, by omega⟩
          rw [← q1, nI_1, show 3 - (k + 1) + 1 = 3 - k by omega]
        · rw [if_neg hg, if_pos (show (0 : Int32) = 0 from rfl), if_neg (fun q => hg q.2)]
          exact ⟨p, S, rfl, hT, zF.rf, hv, hd, Nat.le_refl _⟩
theorem m_readsNumber {S : zM} {row base p : Nat} {T : List Int32} (hT : zTs S row base T p) {n : Nat} (hn : 2 < n) :
    (∀ (x : Int32) (r : List Int32), T.drop p = x :: r → zpG x = true → ∃ (p1 : Nat) (S1 : zM), f_X12_readsNumber n S 436 = some (1, S1) ∧ zTs S1 row base T p1 ∧ zF zTwr S S1 ∧ zi S1 436 16 = (zpN 2 (x - 48) r).1 ∧ T.drop p1 = (zpN 2 (x - 48) r).2 ∧ p < p1) ∧
    ((T.drop p = [] ∨ ∃ (x : Int32) (r : List Int32), T.drop p = x :: r ∧ ¬ zpG x = true) → f_X12_readsNumber n S 436 = some (0, S)) := by
  constructor
  · intro x r hd hg
    obtain ⟨hx, hr, hlt⟩ := zdrop_c hd
    unfold f_X12_readsNumber
    rw [m_sign hT, hx, zB1_s, zB1_s]
    dsimp only
    rw [zdig, if_pos hg]
    simp only [nLet]
    rw [if_neg (show ¬ (1 : Int32) = 0 by decide)]
    have hT2 : zTs (zpI S 436 16 (x - 48)) row base T p := hT.fr (zF_pI ⟨rfl, Or.inr ⟨by omega, by omega⟩⟩) (by rw [mi_ne _ _ (by omega)]; exact hT.2.2.2.2.2.1) hT.2.2.2.2.2.2.1
    obtain ⟨hT3, hf3⟩ := hT2.step hlt
    obtain ⟨p1, S1, q1, q2, q3, q4, q5, q6⟩ := m_numL (K := fun S24 => some ((1 : Int32), S24)) 2 n (p + 1) _ (x - 48) (by omega) hn hT3 (by rw [mi_ne _ _ (by omega), mi_eq])
    rw [← hr] at q4 q5
    exact ⟨p1, S1, q1, q2, ((zF_pI ⟨rfl, Or.inr ⟨by omega, by omega⟩⟩).tr hf3).tr q3, q4, q5, by omega⟩
  · intro h
    unfold f_X12_readsNumber
    rw [m_sign hT, zB1_s]
    rcases h with h | ⟨x, r, hd, hg⟩
    · rw [(zdrop_n h).1]
      dsimp only
      rw [zdig, show zpG (-1000) = false by decide, if_neg (show ¬ (false = true) by decide), zLet_d, if_pos rfl]
    · rw [(zdrop_c hd).1]
      dsimp only
      rw [zdig, if_neg hg, zLet_d, if_pos rfl]
