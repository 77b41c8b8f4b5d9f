/-! numbers and signs, with a frame that leaves the code alone -/
def zYx (a k : Nat) : Prop := a = 405 ∧ (k = 3 ∨ k = 4)
theorem zYx.v {a k : Nat} (h : zYx a k) : zYv a k := by unfold zYx at h; unfold zYv; omega
theorem zYx.w {a k : Nat} (h : zYx a k) : zYw a k := by unfold zYx at h; unfold zYw; omega
def zYk (S : zM) (q : Nat) (T : List Int32) (p : Nat) : Prop := zYt S q T p ∧ zi S 405 4 = 0 ∧ ∃ L : Nat, L ≤ 120 ∧ zi S 406 4 = nI L
theorem zYk.sto {S : zM} {q p : Nat} {T : List Int32} (h : zYk S q T p) : zYs (zpI S 405 4 1) q T p ∧ zF zYx S (zpI S 405 4 1) := by
  obtain ⟨ht, hs, L, hL, e⟩ := h
  have f : zF zYx S (zpI S 405 4 1) := zF_pI ⟨rfl, Or.inr rfl⟩
  refine ⟨⟨ht.fr (f.mo (fun a k q => q.v)) ?_ ht.2.2.2.2.1, mi_eq _ _ _ _, L, hL, ?_⟩, f⟩
  · rw [mi_ne _ _ (by omega)]
    exact ht.2.2.2.2.2.2.1
  · rw [mi_ne _ _ (by omega)]
    exact e
theorem zYk.step {S : zM} {q p : Nat} {T : List Int32} (h : zYk S q T p) (hp : p < T.length) : zYk (zpI S 405 3 (zi S 405 3 + 1)) q T (p + 1) ∧ zF zYx S (zpI S 405 3 (zi S 405 3 + 1)) := by
  obtain ⟨ht, hs, L, hL, e⟩ := h
  have f : zF zYx S (zpI S 405 3 (zi S 405 3 + 1)) := zF_pI ⟨rfl, Or.inl rfl⟩
  refine ⟨⟨ht.fr (f.mo (fun a k q => q.v)) ?_ hp, ?_, L, hL, ?_⟩, f⟩
  · rw [mi_eq, ht.2.2.2.2.2.2.1, nI_1]
  · rw [mi_ne _ _ (by omega)]
    exact hs
  · rw [mi_ne _ _ (by omega)]
    exact e
theorem zYk.same {S S1 : zM} {q p : Nat} {T : List Int32} (h : zYk S q T p) (f : zF (fun _ _ => False) S S1) : zYk S1 q T p := by
  obtain ⟨ht, hs, L, hL, e⟩ := h
  refine ⟨ht.fr (f.mo (fun a k q => q.elim)) ?_ ht.2.2.2.2.1, ?_, L, hL, ?_⟩
  · rw [f.i (fun q => q)]; exact ht.2.2.2.2.2.2.1
  · rw [f.i (fun q => q)]; exact hs
  · rw [f.i (fun q => q)]; exact e
theorem x_expectK {S : zM} {q p : Nat} {T : List Int32} {ch : Int32} (h : zYk S q T p) : (T[p]? = some ch → ∃ S1 : zM, f_X7_expect S 405 ch = some S1 ∧ zF zYx S S1 ∧ zYk S1 q T (p + 1)) ∧ (¬ T[p]? = some ch → ∃ S1 : zM, f_X7_expect S 405 ch = some S1 ∧ zF zYx S S1 ∧ zYs S1 q T p) := by
  obtain ⟨hsto, fsto⟩ := h.sto
  have h0 := h
  obtain ⟨⟨⟨h1, h2, h3, -⟩, ⟨h4, h5, -⟩, h6, h7, h8, h9, h10, h11⟩, hs, hc⟩ := h
  have n10 : ¬ (1 : Int32) = 0 := by decide
  constructor
  · intro hch
    have hp : p < T.length := (List.getElem?_eq_some_iff.mp hch).1
    have ech : zi S q p = ch := by
      have := h11 p hp
      rw [hch] at this
      injection this with this
      exact this.symm
    have g0 : zF (fun _ _ => False) S (zpI S 405 4 0) := zF_id hs
    obtain ⟨k1, k2⟩ := (h0.same g0).step hp
    refine ⟨_, ?_, (g0.mo (fun a k q => q.elim)).tr k2, k1⟩
    unfold f_X7_expect
    rw [hs]
    simp only [nLet]
    rw [if_pos trivial, h9, h10, if_neg (nI_ge hp (by omega)), h3, zChk_t (by omega), h5, zChk_t (zix (by omega) (by omega)), nI_clamp (by omega), ech, if_pos rfl, zChk_t (Or.inl trivial), mi_eq, if_pos rfl]
  · intro hch
    refine ⟨_, ?_, fsto, hsto⟩
    unfold f_X7_expect
    rw [hs]
    simp only [nLet]
    rw [if_pos trivial, h9, h10]
    by_cases hp : p < T.length
    · have ech : ¬ zi S q p = ch := fun e => hch (by rw [h11 p hp, e])
      rw [if_neg (nI_ge hp (by omega)), h3, zChk_t (by omega), h5, zChk_t (zix (by omega) (by omega)), nI_clamp (by omega), if_neg ech, zChk_t (Or.inr trivial), mi_eq, if_neg n10]
    · rw [if_pos (nI_le (by omega) (by omega)), zChk_t (Or.inr trivial), mi_eq, if_neg n10]
theorem x_numLK {q : Nat} {T : List Int32} {K : Int32 → Int32 → zM → Option (Int32 × zM)} : ∀ (k n p : Nat) (S : zM) (v : Int32), k ≤ 2 → k < n → zYk S q T p →
    ∃ (p1 j : Nat) (S1 : zM), f_X7_readNumber_L4 405 K n v (nI (3 - k)) S = K (zpN k v (T.drop p)).1 (nI j) S1 ∧ 1 ≤ j ∧ j ≤ 3 ∧ zYk S1 q T p1 ∧ zF zYx S S1 ∧ T.drop p1 = (zpN k v (T.drop p)).2 ∧ p ≤ p1 := by
  intro k
  induction k with
  | zero =>
    intro n p S v hk hn hT
    obtain ⟨f, rfl⟩ : ∃ f, n = f + 1 := ⟨n - 1, by omega⟩
    refine ⟨p, 3, S, ?_, by omega, by omega, hT, zF.rf, rfl, Nat.le_refl _⟩
    show f_X7_readNumber_L4b 405 K (f_X7_readNumber_L4 405 K f) v (nI 3) S = K v (nI 3) S
    unfold f_X7_readNumber_L4b
    rw [if_pos (show (3 : Int32) ≤ nI 3 from Int32.le_refl _)]
  | succ k ih =>
    intro n p S v hk hn hT
    obtain ⟨f, rfl⟩ : ∃ f, n = f + 1 := ⟨n - 1, by omega⟩
    have hdg := x_digit hT.1 hT.2.1
    have hj0 : ¬ nI (3 - (k + 1)) = 0 := fun e => by have := nI_inj (b := 0) e (by omega) (by omega); omega
    show ∃ (p1 j : Nat) (S1 : zM), f_X7_readNumber_L4b 405 K (f_X7_readNumber_L4 405 K f) v (nI (3 - (k + 1))) S = _ ∧ _
    unfold f_X7_readNumber_L4b
    rw [if_neg (show ¬ (3 : Int32) ≤ nI (3 - (k + 1)) from nI_ge (a := 3 - (k + 1)) (b := 3) (by omega) (by decide)), zLet_d, if_neg hj0]
    cases hd : T.drop p with
    | nil =>
      have hdg' : f_X7_isAtDigit S 405 = some 0 := by rw [hdg, (zdrop_n hd).1]
      rw [hdg', zB1_s]
      refine ⟨p, 3 - (k + 1), S, ?_, by omega, by omega, hT, zF.rf, hd, Nat.le_refl _⟩
      rw [if_pos rfl]
      split <;> rfl
    | cons x r =>
      obtain ⟨hx, hr, hlt⟩ := zdrop_c hd
      have hdg' : f_X7_isAtDigit S 405 = some (if zpG x = true then 1 else 0) := by rw [hdg, hx]
      rw [hdg', zB1_s]
      have e : zpN (k + 1) v (x :: r) = if 0 < v ∧ zpG x = true then zpN k (10 * v + x - 48) r else (v, x :: r) := rfl
      rw [e]
      by_cases h0 : v ≤ 0
      · rw [if_pos h0, if_neg (fun q => Int32.not_lt.mpr h0 q.1)]
        exact ⟨p, 3 - (k + 1), S, rfl, by omega, by omega, hT, zF.rf, hd, Nat.le_refl _⟩
      · rw [if_neg h0]
        by_cases hg : zpG x = true
        · have ht := hT.1
          have hx2 : zi S q p = x := by
            have := ht.2.2.2.2.2.2.2 p hlt
            rw [hx] at this
            injection this with this
            exact this.symm
          rw [if_pos hg, if_neg (show ¬ (1 : Int32) = 0 by decide), if_pos ⟨Int32.not_le.mp h0, hg⟩, ht.1.2.2.1, zChk_t (by have := ht.2.2.1; omega), ht.2.1.2.1, ht.2.2.2.2.2.2.1, zChk_t (zix (by have := ht.2.2.2.1; omega) (by have := ht.2.2.2.1; omega)), nI_clamp (show p < 2 ^ 31 by have := ht.2.2.2.1; omega), hx2, zLet_d]
          obtain ⟨hT3, hf3⟩ := hT.step hlt
          rw [ht.2.2.2.2.2.2.1] at hT3 hf3
          obtain ⟨p1, j, S1, q1, q2, q3, q4, q5, q6, q7⟩ := ih f (p + 1) _ (10 * v + x - 48) (by omega) (by omega) hT3
          rw [← hr] at q1 q6
          refine ⟨p1, j, S1, ?_, q2, q3, q4, hf3.tr q5, q6, by omega⟩
          rw [← q1, nI_1 (3 - (k + 1)), show 3 - (k + 1) + 1 = 3 - k by omega]
        · rw [if_neg hg, if_pos (show (0 : Int32) = 0 from rfl), if_neg (fun q => hg q.2)]
          exact ⟨p, 3 - (k + 1), S, rfl, by omega, by omega, hT, zF.rf, hd, Nat.le_refl _⟩
theorem x_numberK {S : zM} {q p : Nat} {T : List Int32} (h : zYk S q T p) {n : Nat} (hn : 3 < n) :
    (∀ x : Int32, T[p]? = some x → zpG x = true → ∃ (p1 : Nat) (S1 : zM), f_X7_readNumber n S 405 = some ((zpN 2 (x - 48) (T.drop (p + 1))).1, S1) ∧ zF zYx S S1 ∧ zYk S1 q T p1 ∧ T.drop p1 = (zpN 2 (x - 48) (T.drop (p + 1))).2 ∧ p < p1) ∧
    ((∀ x : Int32, T[p]? = some x → ¬ zpG x = true) → ∃ S1 : zM, f_X7_readNumber n S 405 = some (0, S1) ∧ zF zYx S S1 ∧ zYs S1 q T p) := by
  obtain ⟨f, rfl⟩ : ∃ f, n = f + 1 := ⟨n - 1, by omega⟩
  have hdg := x_digit h.1 h.2.1
  have ht := h.1
  have hs := h.2.1
  constructor
  · intro x hx hg
    have hlt : p < T.length := (List.getElem?_eq_some_iff.mp hx).1
    have hx2 : zi S q p = x := by
      have := ht.2.2.2.2.2.2.2 p hlt
      rw [hx] at this
      injection this with this
      exact this.symm
    obtain ⟨hT3, hf3⟩ := h.step hlt
    rw [ht.2.2.2.2.2.2.1] at hT3 hf3
    obtain ⟨p1, j, S1, q1, q2, q3, q4, q5, q6, q7⟩ := x_numLK (K := fun (x2 : Int32) (x3 : Int32) (S4 : zM) => if (zi S4 405 4) = 0 then if x3 = 0 then zLet (zpI S4 405 4 (1 : Int32)) (fun S17 => some ((x2, S17))) else zLet (zpI S4 405 4 (0 : Int32)) (fun S13 => some ((x2, S13))) else zLet (zpI S4 405 4 (1 : Int32)) (fun S8 => some ((x2, S8)))) 2 f (p + 1) _ (x - 48) (by omega) (by omega) hT3
    have g0 : zF (fun _ _ => False) S1 (zpI S1 405 4 0) := zF_id q4.2.1
    refine ⟨p1, zpI S1 405 4 0, ?_, (hf3.tr q5).tr (g0.mo (fun a k q => q.elim)), q4.same g0, q6, by omega⟩
    unfold f_X7_readNumber
    rw [zLet_d]
    rw [x_numL0]
    unfold f_X7_readNumber_L4b
    have hdg' : f_X7_isAtDigit S 405 = some (if zpG x = true then 1 else 0) := by rw [hdg, hx]
    rw [if_neg (show ¬ (3 : Int32) ≤ 0 by decide), zLet_d, if_pos rfl, hdg', zB1_s, if_pos hg, if_neg (show ¬ (1 : Int32) = 0 by decide), ht.1.2.2.1, zChk_t (by have := ht.2.2.1; omega), ht.2.1.2.1, ht.2.2.2.2.2.2.1, zChk_t (zix (by have := ht.2.2.2.1; omega) (by have := ht.2.2.2.1; omega)), nI_clamp (show p < 2 ^ 31 by have := ht.2.2.2.1; omega), hx2, zLet_d, show (10 : Int32) * 0 + x - 48 = x - 48 by rw [show (10 : Int32) * 0 = 0 by decide, Int32.zero_add], show (0 : Int32) + 1 = nI (3 - 2) by decide]
    refine q1.trans ?_
    have hj0 : ¬ nI j = 0 := fun e => by have := nI_inj (b := 0) e (by omega) (by omega); omega
    rw [q4.2.1, if_pos rfl, if_neg hj0, zLet_d]
  · intro hno
    obtain ⟨k1, k2⟩ := h.sto
    refine ⟨_, ?_, k2, k1⟩
    unfold f_X7_readNumber
    rw [zLet_d]
    rw [x_numL0]
    unfold f_X7_readNumber_L4b
    have hd0 : f_X7_isAtDigit S 405 = some 0 := by
      rw [hdg]
      cases hx : T[p]? with
      | none => rfl
      | some x => dsimp only; rw [if_neg (hno x hx)]
    rw [if_neg (show ¬ (3 : Int32) ≤ 0 by decide), zLet_d, if_pos rfl, hd0, zB1_s, if_pos rfl]
    show (if zi S 405 4 = 0 then (if (0 : Int32) = 0 then zLet (zpI S 405 4 1) (fun S17 => some ((0 : Int32), S17)) else zLet (zpI S 405 4 0) (fun S13 => some ((0 : Int32), S13))) else zLet (zpI S 405 4 1) (fun S8 => some ((0 : Int32), S8))) = _
    rw [hs, if_pos rfl, if_pos rfl, zLet_d]
theorem zj_number {N p : Nat} {T : List Int32} (hN : 122 < N) (hp : p ≤ T.length) : ∃ (ok : Bool) (w p1 : Nat), w < 1000 ∧ p ≤ p1 ∧ p1 ≤ T.length ∧
    (∀ (q : Nat) (S : zM), zYk S q T p → ∃ S1 : zM, f_X7_readNumber N S 405 = some (nI w, S1) ∧ zF zYx S S1 ∧ (ok = true → zYk S1 q T p1) ∧ (ok = false → zYs S1 q T p1)) ∧
    (∀ (row base : Nat) (R : zM), zTs R row base T p → ∃ R1 : zM, f_X12_readsNumber N R 436 = some (if ok = true then 1 else 0, R1) ∧ zF zTwr R R1 ∧ zTs R1 row base T p1 ∧ (ok = true → zi R1 436 16 = nI w) ∧ ∀ k : Nat, ¬ k = 12 → ¬ k = 16 → zi R1 436 k = zi R 436 k) := by
  by_cases hy : ∃ y : Int32, T[p]? = some y ∧ zpG y = true
  · obtain ⟨y, hy, hg⟩ := hy
    have hlt : p < T.length := (List.getElem?_eq_some_iff.mp hy).1
    obtain ⟨k, hk, rfl⟩ := zpG_k hg
    obtain ⟨w, p1, u1, u2, u3⟩ := zpN_e (T := T) 2 (nI (48 + k) - 48) (p + 1) hlt
    have uT := u3 T.length u2 (Nat.le_refl _)
    rw [List.take_length] at uT
    have e48 : nI (48 + k) - 48 = nI k := by rw [zq48, nI_sub (by omega), show 48 + k - 48 = k by omega]
    obtain ⟨w', hw, ew⟩ := zpN_b 2 k (T.drop (p + 1)) (by omega) (by omega) (by omega)
    rw [← e48, uT] at ew
    dsimp only at ew
    subst ew
    refine ⟨true, w', p1, hw, by omega, u2, fun q S hS => ?_, fun row base R hR => ?_⟩
    · obtain ⟨p2, A, a1, a2, a3, a4, a5⟩ := (x_numberK hS (n := N) (by omega)).1 _ hy hg
      rw [uT] at a1 a4
      have e2 : p2 = p1 := zdrop_j a4 a3.1.2.2.2.2.1 u2
      subst e2
      exact ⟨A, a1, a2, fun _ => a3, fun z => absurd z (by decide)⟩
    · obtain ⟨p2, A, a1, a2, a3, a4, a5, a6⟩ := (m_readsNumber hR (n := N) (by omega)).1 _ _ ((zdrop T p).trans (by rw [hy])) hg
      rw [uT] at a4 a5
      have e2 : p2 = p1 := zdrop_j a5 a2.2.2.2.2.2.2.1 u2
      subst e2
      exact ⟨A, a1, a3, a2, fun _ => a4, fun k k1 k2 => (m_numF a1 k k1 k2).1⟩
  · have hno : ∀ x : Int32, T[p]? = some x → ¬ zpG x = true := fun x hx hg => hy ⟨x, hx, hg⟩
    refine ⟨false, 0, p, by omega, Nat.le_refl _, hp, fun q S hS => ?_, fun row base R hR => ?_⟩
    · obtain ⟨A, a1, a2, a3⟩ := (x_numberK hS (n := N) (by omega)).2 hno
      exact ⟨A, a1, a2, fun z => absurd z (by decide), fun _ => a3⟩
    · have hr := (m_readsNumber hR (n := N) (by omega)).2 (by
        cases hx : T[p]? with
        | none => exact Or.inl (List.drop_eq_nil_of_le (List.getElem?_eq_none_iff.mp hx))
        | some x => exact Or.inr ⟨x, _, (zdrop T p).trans (by rw [hx]), hno x hx⟩)
      exact ⟨R, hr, zF.rf, hR, fun z => absurd z (by decide), fun _ _ _ => rfl⟩
/-- two numbers with a blank between: the class, the reference -/
def zTwo {α : Type} (N : Nat) (tail : Int32 → Int32 → zM → Option α) (S : zM) : Option α := zB2 (f_X7_readNumber N S 405) (fun r2 S3 => zB1 (f_X7_expect S3 405 (32 : Int32)) (fun S9 => zB2 (f_X7_readNumber N S9 405) (fun r15 S16 => tail r2 r15 S16)))
def zTwoR (N : Nat) (R : zM) : Option (Int32 × zM) := zB2 (f_X12_readsNumber N R 436) (fun r25 S26 => if r25 = 0 then some (((0 : Int32), S26)) else zLet (zpI S26 436 18 (zi S26 436 16)) (fun S32 => zB2 (f_X12_takes S32 436 (32 : Int32)) (fun r38 S39 => if r38 = 0 then some (((0 : Int32), S39)) else zB2 (f_X12_readsNumber N S39 436) (fun r46 S47 => if r46 = 0 then some (((0 : Int32), S47)) else zLet (zpI S47 436 19 (zi S47 436 16)) (fun S53 => zB2 (f_X12_takes S53 436 (59 : Int32)) (fun r59 S60 => zChk (r59 = 0 ∨ r59 = 1) (some ((r59, S60)))))))))
theorem zj_two {N p : Nat} {T : List Int32} (hN : 122 < N) (hp : p ≤ T.length) : ∃ (ok : Bool) (one two pm : Nat), one < 1000 ∧ two < 1000 ∧ p ≤ pm ∧ pm ≤ T.length ∧
    (∀ (q : Nat) (S : zM), zYk S q T p → ∃ (o t : Nat) (S1 : zM), o < 1000 ∧ t < 1000 ∧ (∀ {α : Type} (tail : Int32 → Int32 → zM → Option α), zTwo N tail S = tail (nI o) (nI t) S1) ∧ zF zYw S S1 ∧ (ok = true → o = one ∧ t = two ∧ zYk S1 q T pm ∧ zF zYx S S1) ∧ (ok = false → zYs S1 q T pm)) ∧
    (∀ (row base : Nat) (R : zM), zTs R row base T p → ∃ R1 : zM, zF zTwr R R1 ∧ zTs R1 row base T pm ∧ zTwoR N R = (if ok = true then zB2 (f_X12_takes R1 436 (59 : Int32)) (fun r59 S60 => zChk (r59 = 0 ∨ r59 = 1) (some ((r59, S60)))) else some (0, R1)) ∧ (ok = true → zi R1 436 18 = nI one ∧ zi R1 436 19 = nI two)) := by
  have n10 : ¬ (1 : Int32) = 0 := by decide
  obtain ⟨ok1, w1, p1, l1, l2, l3, l4, l5⟩ := zj_number (p := p) hN hp
  cases ok1 with
  | false =>
    refine ⟨false, 0, 0, p1, by omega, by omega, l2, l3, fun q S hS => ?_, fun row base R hR => ?_⟩
    · obtain ⟨A, a1, a2, a3, a4⟩ := l4 q S hS
      obtain ⟨B, b1, b2, b3⟩ := x_expectS (ch := 32) (a4 rfl)
      obtain ⟨v, C, c1, c2, c3, rfl⟩ := x_numberS b3 (n := N) (by omega)
      refine ⟨w1, 0, C, l1, by omega, fun tail => ?_, ((a2.mo (fun a k q => q.w)).tr b2).tr c2, fun z => absurd z (by decide), fun _ => c3⟩
      unfold zTwo
      rw [a1, zB2_s, b1, zB1_s, c1, zB2_s]
      rfl
    · obtain ⟨A, a1, a2, a3, a4, a5⟩ := l5 row base R hR
      refine ⟨A, a2, a3, ?_, fun z => absurd z (by decide)⟩
      unfold zTwoR
      rw [a1, zB2_s, if_pos (show (if false = true then (1 : Int32) else 0) = 0 by rfl)]
      rfl
  | true =>
    by_cases hb : T[p1]? = some 32
    · have hlt : p1 < T.length := (List.getElem?_eq_some_iff.mp hb).1
      obtain ⟨ok2, w2, p2, m1, m2, m3, m4, m5⟩ := zj_number (p := p1 + 1) hN hlt
      refine ⟨ok2, w1, w2, p2, l1, m1, by omega, m3, fun q S hS => ?_, fun row base R hR => ?_⟩
      · obtain ⟨A, a1, a2, a3, a4⟩ := l4 q S hS
        obtain ⟨B, b1, b2, b3⟩ := (x_expectK (ch := 32) (a3 rfl)).1 hb
        obtain ⟨C, c1, c2, c3, c4⟩ := m4 q B b3
        refine ⟨w1, w2, C, l1, m1, fun tail => ?_, ((a2.tr b2).tr c2).mo (fun a k q => q.w), fun z => ⟨rfl, rfl, c3 z, (a2.tr b2).tr c2⟩, c4⟩
        unfold zTwo
        rw [a1, zB2_s, b1, zB1_s, c1, zB2_s]
      · obtain ⟨A, a1, a2, a3, a4, a5⟩ := l5 row base R hR
        have f1 : zF zTwr A (zpI A 436 18 (zi A 436 16)) := zF_pI ⟨rfl, Or.inr ⟨by omega, by omega⟩⟩
        have t1 : zTs (zpI A 436 18 (zi A 436 16)) row base T p1 := a3.fr f1 (by rw [mi_ne _ _ (by omega)]; exact a3.2.2.2.2.2.1) a3.2.2.2.2.2.2.1
        obtain ⟨t2, f2⟩ := t1.step hlt
        obtain ⟨C, c1, c2, c3, c4, c5⟩ := m5 row base _ t2
        have e18 : zi C 436 18 = nI w1 := by rw [c5 18 (by decide) (by decide), mi_ne _ _ (by omega), mi_eq]; exact a4 rfl
        have run : zTwoR N R = if (if ok2 = true then (1 : Int32) else 0) = 0 then some (((0 : Int32), C)) else zLet (zpI C 436 19 (zi C 436 16)) (fun S53 => zB2 (f_X12_takes S53 436 (59 : Int32)) (fun r59 S60 => zChk (r59 = 0 ∨ r59 = 1) (some ((r59, S60))))) := by
          unfold zTwoR
          rw [a1, zB2_s, if_neg (show ¬ (if true = true then (1 : Int32) else 0) = 0 by decide), zLet_d, (m_takes t1 (by decide)).1 hb, zB2_s, if_neg n10, c1, zB2_s]
        cases ok2 with
        | false =>
          refine ⟨C, ((a2.tr f1).tr f2).tr c2, c3, run, fun z => absurd z (by decide)⟩
        | true =>
          have f3 : zF zTwr C (zpI C 436 19 (zi C 436 16)) := zF_pI ⟨rfl, Or.inr ⟨by omega, by omega⟩⟩
          refine ⟨zpI C 436 19 (zi C 436 16), (((a2.tr f1).tr f2).tr c2).tr f3, c3.fr f3 (by rw [mi_ne _ _ (by omega)]; exact c3.2.2.2.2.2.1) c3.2.2.2.2.2.2.1, run, fun _ => ⟨?_, ?_⟩⟩
          · rw [mi_ne _ _ (by omega)]; exact e18
          · rw [mi_eq]; exact c4 rfl
    · refine ⟨false, 0, 0, p1, by omega, by omega, l2, l3, fun q S hS => ?_, fun row base R hR => ?_⟩
      · obtain ⟨A, a1, a2, a3, a4⟩ := l4 q S hS
        obtain ⟨B, b1, b2, b3⟩ := (x_expectK (ch := 32) (a3 rfl)).2 hb
        obtain ⟨v, C, c1, c2, c3, rfl⟩ := x_numberS b3 (n := N) (by omega)
        refine ⟨w1, 0, C, l1, by omega, fun tail => ?_, ((a2.tr b2).mo (fun a k q => q.w)).tr c2, fun z => absurd z (by decide), fun _ => c3⟩
        unfold zTwo
        rw [a1, zB2_s, b1, zB1_s, c1, zB2_s]
        rfl
      · obtain ⟨A, a1, a2, a3, a4, a5⟩ := l5 row base R hR
        have f1 : zF zTwr A (zpI A 436 18 (zi A 436 16)) := zF_pI ⟨rfl, Or.inr ⟨by omega, by omega⟩⟩
        have t1 : zTs (zpI A 436 18 (zi A 436 16)) row base T p1 := a3.fr f1 (by rw [mi_ne _ _ (by omega)]; exact a3.2.2.2.2.2.1) a3.2.2.2.2.2.2.1
        refine ⟨_, a2.tr f1, t1, ?_, fun z => absurd z (by decide)⟩
        unfold zTwoR
        rw [a1, zB2_s, if_neg (show ¬ (if true = true then (1 : Int32) else 0) = 0 by decide), zLet_d, (m_takes t1 (by decide)).2 hb, zB2_s, if_pos rfl]
        rfl
