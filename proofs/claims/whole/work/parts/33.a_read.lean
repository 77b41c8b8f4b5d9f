/-! rule: the class's reader at a place of a text -/
def zYv (a k : Nat) : Prop := (a = 405 ∧ (k = 3 ∨ k = 4 ∨ k = 5)) ∨ (a = 406 ∧ (k = 1 ∨ k = 2 ∨ k = 4)) ∨ a = 407 ∨ a = 408
def zYw (a k : Nat) : Prop := (a = 405 ∧ (k = 3 ∨ k = 4)) ∨ a = 408 ∨ (a = 406 ∧ k = 4)
theorem zYw.v {a k : Nat} (h : zYw a k) : zYv a k := by unfold zYw at h; unfold zYv; omega
def zYt (S : zM) (q : Nat) (T : List Int32) (p : Nat) : Prop :=
  (zr S 405 0 = 406 ∧ zr S 406 3 = 408 ∧ zr S 405 1 = q ∧ zr S 406 0 = 407) ∧ (zln S 408 = 120 ∧ zln S q = 120 ∧ zln S 407 = 6) ∧ (420 < q ∧ q < 436) ∧ T.length ≤ 120 ∧ p ≤ T.length ∧ zi S 405 2 = nI T.length ∧ zi S 405 3 = nI p ∧ ∀ k : Nat, k < T.length → T[k]? = some (zi S q k)
theorem zYt.fr {S S1 : zM} {q : Nat} {T : List Int32} {p p1 : Nat} (h : zYt S q T p) (f : zF zYv S S1) (e : zi S1 405 3 = nI p1) (hp : p1 ≤ T.length) : zYt S1 q T p1 := by
  obtain ⟨h1, h2, h3, h4, h5, h6, h7, h8⟩ := h
  refine ⟨by rw [f.r]; exact h1, by rw [f.n]; exact h2, h3, h4, hp, by rw [f.i (by unfold zYv; omega)]; exact h6, e, fun k hk => ?_⟩
  rw [f.i (by unfold zYv; omega)]
  exact h8 k hk
def zYc (S : zM) (a : List Int32) : Prop := zi S 406 4 = nI a.length ∧ ∀ k : Nat, k < a.length → a[k]? = some (zi S 408 k)
def zYs (S : zM) (q : Nat) (T : List Int32) (p : Nat) : Prop := zYt S q T p ∧ zi S 405 4 = 1 ∧ ∃ L : Nat, L ≤ 120 ∧ zi S 406 4 = nI L
def zYg (S : zM) (q : Nat) (T : List Int32) (p : Nat) (a : List Int32) : Prop := zYt S q T p ∧ zi S 405 4 = 0 ∧ zYc S a ∧ a.length ≤ p
def zYo (ok : Bool) (S : zM) (q : Nat) (T : List Int32) (p : Nat) (a : List Int32) : Prop := (ok = true → zYg S q T p a) ∧ (ok = false → zYs S q T p)
def zYn (T : List Int32) (p : Nat) : Int32 := match T[p]? with
  | none => 1000
  | some x => x
theorem x_next {S : zM} {q p : Nat} {T : List Int32} (h : zYt S q T p) : f_X7_next S 405 = some (zYn T p) := by
  obtain ⟨⟨h1, h2, h3, -⟩, ⟨h4, h5, -⟩, h6, h7, h8, h9, h10, h11⟩ := h
  unfold f_X7_next zYn
  rw [h9, h10, h3]
  by_cases hp : p < T.length
  · rw [if_neg (nI_ge hp (by omega)), zChk_t (by omega), h5, zChk_t (zix (by omega) (by omega)), nI_clamp (by omega), h11 p hp]
  · have : T[p]? = none := List.getElem?_eq_none_iff.mpr (by omega)
    rw [this, if_pos (nI_le (by omega) (by omega))]
theorem x_appG {S : zM} {q p : Nat} {T : List Int32} {a : List Int32} {x : Int32} (h : zYg S q T p a) (hl : a.length < 120) (hp : a.length + 1 ≤ p) : ∃ S1 : zM, f_X6_append S 406 x = some S1 ∧ zF zYw S S1 ∧ zYg S1 q T p (a ++ [x]) := by
  obtain ⟨ht, hs, ⟨c1, c2⟩, -⟩ := h
  have f : zF zYw S (zpI (zpI S 408 a.length x) 406 4 (nI (a.length + 1))) := (zF_pI (Or.inr (Or.inl rfl))).tr (zF_pI (Or.inr (Or.inr ⟨rfl, rfl⟩)))
  refine ⟨_, ?_, f, ht.fr (f.mo (fun a k q => q.v)) ?_ ht.2.2.2.2.1, ?_, ⟨?_, fun k hk => ?_⟩, ?_⟩
  · unfold f_X6_append
    rw [c1, if_neg (show ¬ (120 : Int32) ≤ nI a.length from nI_ge (b := 120) hl (by omega)), ht.1.2.1, zChk_t (by decide), ht.2.1.1, zChk_t (zix (by omega) (by omega)), nI_clamp (by omega), zLet_d, mi_ne _ _ (by omega), c1, nI_1, zLet_d]
  · rw [mi_ne _ _ (by omega), mi_ne _ _ (by omega)]
    exact ht.2.2.2.2.2.2.1
  · rw [mi_ne _ _ (by omega), mi_ne _ _ (by omega)]
    exact hs
  · rw [mi_eq, List.length_append]
    rfl
  · rw [List.length_append] at hk
    have hk' : k < a.length + 1 := hk
    rw [mi_ne _ _ (by omega)]
    by_cases e : k = a.length
    · rw [e, mi_eq]
      exact List.getElem?_concat_length
    · rw [mi_ne _ _ (by omega), List.getElem?_append_left (by omega)]
      exact c2 k (by omega)
  · rw [List.length_append]
    exact hp
theorem x_appS {S : zM} {q p : Nat} {T : List Int32} {x : Int32} (h : zYs S q T p) : ∃ S1 : zM, f_X6_append S 406 x = some S1 ∧ zF zYw S S1 ∧ zYs S1 q T p := by
  obtain ⟨ht, hs, L, hL, e⟩ := h
  unfold f_X6_append
  rw [e]
  by_cases hl : L < 120
  · have f : zF zYw S (zpI (zpI S 408 L x) 406 4 (nI (L + 1))) := (zF_pI (Or.inr (Or.inl rfl))).tr (zF_pI (Or.inr (Or.inr ⟨rfl, rfl⟩)))
    refine ⟨_, ?_, f, ht.fr (f.mo (fun a k q => q.v)) ?_ ht.2.2.2.2.1, ?_, L + 1, by omega, mi_eq _ _ _ _⟩
    · rw [if_neg (show ¬ (120 : Int32) ≤ nI L from nI_ge (b := 120) hl (by omega)), ht.1.2.1, zChk_t (by decide), ht.2.1.1, zChk_t (zix (by omega) (by omega)), nI_clamp (by omega), zLet_d, mi_ne _ _ (by omega), e, nI_1, zLet_d]
    · rw [mi_ne _ _ (by omega), mi_ne _ _ (by omega)]
      exact ht.2.2.2.2.2.2.1
    · rw [mi_ne _ _ (by omega), mi_ne _ _ (by omega)]
      exact hs
  · rw [if_pos (show (120 : Int32) ≤ nI L from nI_le (a := 120) (by omega) (by omega))]
    exact ⟨S, rfl, zF.rf, ht, hs, L, hL, e⟩
theorem zYg.sto {S : zM} {q p : Nat} {T : List Int32} {a : List Int32} (h : zYg S q T p a) : zYs (zpI S 405 4 1) q T p ∧ zF zYw S (zpI S 405 4 1) := by
  obtain ⟨ht, hs, ⟨c1, c2⟩, hl⟩ := h
  have f : zF zYw S (zpI S 405 4 1) := zF_pI (Or.inl ⟨rfl, Or.inr rfl⟩)
  refine ⟨⟨ht.fr (f.mo (fun a k q => q.v)) ?_ ht.2.2.2.2.1, mi_eq _ _ _ _, a.length, ?_, ?_⟩, f⟩
  · rw [mi_ne _ _ (by omega)]
    exact ht.2.2.2.2.2.2.1
  · have := ht.2.2.2.1
    have := ht.2.2.2.2.1
    omega
  · rw [mi_ne _ _ (by omega)]
    exact c1
theorem zYg.step {S : zM} {q p : Nat} {T : List Int32} {a : List Int32} (h : zYg S q T p a) (hp : p < T.length) : zYg (zpI S 405 3 (zi S 405 3 + 1)) q T (p + 1) a ∧ zF zYw S (zpI S 405 3 (zi S 405 3 + 1)) := by
  obtain ⟨ht, hs, ⟨c1, c2⟩, hl⟩ := h
  have f : zF zYw S (zpI S 405 3 (zi S 405 3 + 1)) := zF_pI (Or.inl ⟨rfl, Or.inl rfl⟩)
  refine ⟨⟨ht.fr (f.mo (fun a k q => q.v)) ?_ hp, ?_, ⟨?_, fun k hk => ?_⟩, by omega⟩, f⟩
  · rw [mi_eq, ht.2.2.2.2.2.2.1, nI_1]
  · rw [mi_ne _ _ (by omega)]
    exact hs
  · rw [mi_ne _ _ (by omega)]
    exact c1
  · rw [mi_ne _ _ (by omega)]
    exact c2 k hk
theorem zYg.same {S S1 : zM} {q p : Nat} {T : List Int32} {a : List Int32} (h : zYg S q T p a) (f : zF (fun _ _ => False) S S1) : zYg S1 q T p a := by
  obtain ⟨ht, hs, ⟨c1, c2⟩, hl⟩ := h
  refine ⟨ht.fr (f.mo (fun a k q => q.elim)) ?_ ht.2.2.2.2.1, ?_, ⟨?_, fun k hk => ?_⟩, hl⟩
  · rw [f.i (fun q => q)]; exact ht.2.2.2.2.2.2.1
  · rw [f.i (fun q => q)]; exact hs
  · rw [f.i (fun q => q)]; exact c1
  · rw [f.i (fun q => q)]; exact c2 k hk
/-- a place written with what it holds -/
theorem zF_id {S : zM} {a k : Nat} {v : Int32} (e : zi S a k = v) : zF (fun _ _ => False) S (zpI S a k v) :=
  ⟨rfl, rfl, rfl, rfl, fun x j _ => ⟨by
    rw [mi_pI]
    split
    · rename_i h; rw [h.1, h.2, e]
    · rfl, rfl⟩⟩
theorem x_expectS {S : zM} {q p : Nat} {T : List Int32} {ch : Int32} (h : zYs S q T p) : ∃ S1 : zM, f_X7_expect S 405 ch = some S1 ∧ zF zYw S S1 ∧ zYs S1 q T p := by
  obtain ⟨ht, hs, L, hL, e⟩ := h
  have f : zF zYw S (zpI S 405 4 1) := zF_pI (Or.inl ⟨rfl, Or.inr rfl⟩)
  have n10 : ¬ (1 : Int32) = 0 := by decide
  refine ⟨zpI S 405 4 1, ?_, f, ht.fr (f.mo (fun a k q => q.v)) ?_ ht.2.2.2.2.1, mi_eq _ _ _ _, L, hL, ?_⟩
  · unfold f_X7_expect
    rw [hs]
    simp only [nLet]
    rw [if_neg n10, zChk_t (Or.inr trivial), mi_eq, if_neg n10]
  · rw [mi_ne _ _ (by omega)]
    exact ht.2.2.2.2.2.2.1
  · rw [mi_ne _ _ (by omega)]
    exact e
theorem x_expectG {S : zM} {q p : Nat} {T : List Int32} {a : List Int32} {ch : Int32} (h : zYg S q T p a) : (T[p]? = some ch → ∃ S1 : zM, f_X7_expect S 405 ch = some S1 ∧ zF zYw S S1 ∧ zYg S1 q T (p + 1) a) ∧ (¬ T[p]? = some ch → ∃ S1 : zM, f_X7_expect S 405 ch = some S1 ∧ zF zYw S S1 ∧ zYs S1 q T p) := by
  obtain ⟨hsto, fsto⟩ := h.sto
  have h0 := h
  obtain ⟨⟨⟨h1, h2, h3, -⟩, ⟨h4, h5, -⟩, h6, h7, h8, h9, h10, h11⟩, hs, hc, hl⟩ := h
  have n10 : ¬ (1 : Int32) = 0 := by decide
  constructor
  · intro hch
    have hp : p < T.length := (List.getElem?_eq_some_iff.mp hch).1
    have ech : zi S q p = ch := by
      have := h11 p hp
      rw [hch] at this
      injection this with this
      exact this.symm
    have g0 : zF (fun _ _ => False) S (zpI S 405 4 0) := zF_id hs
    obtain ⟨k1, k2⟩ := (h0.same g0).step hp
    refine ⟨_, ?_, (g0.mo (fun a k q => q.elim)).tr k2, k1⟩
    unfold f_X7_expect
    rw [hs]
    simp only [nLet]
    rw [if_pos trivial, h9, h10, if_neg (nI_ge hp (by omega)), h3, zChk_t (by omega), h5, zChk_t (zix (by omega) (by omega)), nI_clamp (by omega), ech, if_pos rfl, zChk_t (Or.inl trivial), mi_eq, if_pos rfl]
  · intro hch
    refine ⟨_, ?_, fsto, hsto⟩
    unfold f_X7_expect
    rw [hs]
    simp only [nLet]
    rw [if_pos trivial, h9, h10]
    by_cases hp : p < T.length
    · have ech : ¬ zi S q p = ch := fun e => hch (by rw [h11 p hp, e])
      rw [if_neg (nI_ge hp (by omega)), h3, zChk_t (by omega), h5, zChk_t (zix (by omega) (by omega)), nI_clamp (by omega), if_neg ech, zChk_t (Or.inr trivial), mi_eq, if_neg n10]
    · rw [if_pos (nI_le (by omega) (by omega)), zChk_t (Or.inr trivial), mi_eq, if_neg n10]
/-! numbers -/
theorem ztk {T : List Int32} {e p : Nat} {x : Int32} (he : p < e) (hx : T[p]? = some x) : (T.take e).drop p = x :: (T.take e).drop (p + 1) := by
  have := zdrop (T.take e) p
  rw [List.getElem?_take_of_lt he, hx] at this
  exact this
theorem ztn {T : List Int32} {e p : Nat} (he : e ≤ p) : (T.take e).drop p = [] := List.drop_eq_nil_of_le (by rw [List.length_take]; omega)
theorem zpN_e {T : List Int32} : ∀ (k : Nat) (v : Int32) (p : Nat), p ≤ T.length → ∃ (w : Int32) (p1 : Nat), p ≤ p1 ∧ p1 ≤ T.length ∧ ∀ e : Nat, p1 ≤ e → e ≤ T.length → zpN k v ((T.take e).drop p) = (w, (T.take e).drop p1) := by
  intro k
  induction k with
  | zero => exact fun v p hp => ⟨v, p, Nat.le_refl _, hp, fun e _ _ => rfl⟩
  | succ k ih =>
    intro v p hp
    cases hx : T[p]? with
    | none =>
      have := List.getElem?_eq_none_iff.mp hx
      refine ⟨v, p, Nat.le_refl _, hp, fun e h1 h2 => ?_⟩
      rw [ztn (by omega)]
      rfl
    | some x =>
      have hlt := (List.getElem?_eq_some_iff.mp hx).1
      by_cases hg : 0 < v ∧ zpG x = true
      · obtain ⟨w, p1, q1, q2, q3⟩ := ih (10 * v + x - 48) (p + 1) hlt
        refine ⟨w, p1, by omega, q2, fun e h1 h2 => ?_⟩
        rw [ztk (by omega) hx]
        show (if 0 < v ∧ zpG x = true then zpN k (10 * v + x - 48) ((T.take e).drop (p + 1)) else (v, x :: (T.take e).drop (p + 1))) = _
        rw [if_pos hg]
        exact q3 e h1 h2
      · refine ⟨v, p, Nat.le_refl _, hp, fun e h1 h2 => ?_⟩
        by_cases he : p < e
        · rw [ztk he hx]
          show (if 0 < v ∧ zpG x = true then zpN k (10 * v + x - 48) ((T.take e).drop (p + 1)) else (v, x :: (T.take e).drop (p + 1))) = _
          rw [if_neg hg]
        · rw [ztn (by omega)]
          rfl
theorem zdrop_j {T : List Int32} {p p1 : Nat} (h : T.drop p = T.drop p1) (h1 : p ≤ T.length) (h2 : p1 ≤ T.length) : p = p1 := by
  have := congrArg List.length h
  rw [List.length_drop, List.length_drop] at this
  omega
theorem x_digit {S : zM} {q p : Nat} {T : List Int32} (h : zYt S q T p) (hs : zi S 405 4 = 0) : f_X7_isAtDigit S 405 = some (match T[p]? with
    | none => 0
    | some x => if zpG x = true then 1 else 0) := by
  obtain ⟨⟨h1, h2, h3, -⟩, ⟨h4, h5, -⟩, h6, h7, h8, h9, h10, h11⟩ := h
  unfold f_X7_isAtDigit
  rw [hs, if_pos rfl, h9, h10, h3]
  by_cases hp : p < T.length
  · rw [if_neg (nI_ge hp (by omega)), zChk_t (by omega), h5, zChk_t (zix (by omega) (by omega)), nI_clamp (by omega), h11 p hp, zChk_t (zixc (by omega) (by omega))]
    dsimp only
    unfold zpG
    by_cases q1 : zi S q p < 48
    · rw [if_pos q1, if_neg]
      rw [Bool.and_eq_true, decide_eq_true_iff]
      exact fun hh => Int32.not_le.mpr q1 hh.1
    · rw [if_neg q1]
      by_cases q2 : (57 : Int32) < zi S q p
      · rw [if_pos q2, if_neg]
        rw [Bool.and_eq_true, decide_eq_true_iff, decide_eq_true_iff]
        exact fun hh => Int32.not_le.mpr q2 hh.2
      · rw [if_neg q2, if_pos]
        rw [Bool.and_eq_true, decide_eq_true_iff, decide_eq_true_iff]
        exact ⟨Int32.not_lt.mp q1, Int32.not_lt.mp q2⟩
  · have : T[p]? = none := List.getElem?_eq_none_iff.mpr (by omega)
    rw [this, if_pos (nI_le (by omega) (by omega))]
theorem x_numL {q : Nat} {T : List Int32} {K : Int32 → Int32 → zM → Option (Int32 × zM)} : ∀ (k n p : Nat) (S : zM) (v : Int32) (a : List Int32), k ≤ 2 → k < n → zYg S q T p a →
    ∃ (p1 j : Nat) (S1 : zM), f_X7_readNumber_L4 405 K n v (nI (3 - k)) S = K (zpN k v (T.drop p)).1 (nI j) S1 ∧ 1 ≤ j ∧ j ≤ 3 ∧ zYg S1 q T p1 a ∧ zF zYw S S1 ∧ T.drop p1 = (zpN k v (T.drop p)).2 ∧ p ≤ p1 := by
  intro k
  induction k with
  | zero =>
    intro n p S v a hk hn hT
    obtain ⟨f, rfl⟩ : ∃ f, n = f + 1 := ⟨n - 1, by omega⟩
    refine ⟨p, 3, S, ?_, by omega, by omega, hT, zF.rf, rfl, Nat.le_refl _⟩
    show f_X7_readNumber_L4b 405 K (f_X7_readNumber_L4 405 K f) v (nI 3) S = K v (nI 3) S
    unfold f_X7_readNumber_L4b
    rw [if_pos (show (3 : Int32) ≤ nI 3 from Int32.le_refl _)]
  | succ k ih =>
    intro n p S v a hk hn hT
    obtain ⟨f, rfl⟩ : ∃ f, n = f + 1 := ⟨n - 1, by omega⟩
    have hdg := x_digit hT.1 hT.2.1
    have hj0 : ¬ nI (3 - (k + 1)) = 0 := fun e => by have := nI_inj (b := 0) e (by omega) (by omega); omega
    show ∃ (p1 j : Nat) (S1 : zM), f_X7_readNumber_L4b 405 K (f_X7_readNumber_L4 405 K f) v (nI (3 - (k + 1))) S = _ ∧ _
    unfold f_X7_readNumber_L4b
    rw [if_neg (show ¬ (3 : Int32) ≤ nI (3 - (k + 1)) from nI_ge (a := 3 - (k + 1)) (b := 3) (by omega) (by decide)), zLet_d, if_neg hj0]
    cases hd : T.drop p with
    | nil =>
      have hdg' : f_X7_isAtDigit S 405 = some 0 := by rw [hdg, (zdrop_n hd).1]
      rw [hdg', zB1_s]
      refine ⟨p, 3 - (k + 1), S, ?_, by omega, by omega, hT, zF.rf, hd, Nat.le_refl _⟩
      rw [if_pos rfl]
      split <;> rfl
    | cons x r =>
      obtain ⟨hx, hr, hlt⟩ := zdrop_c hd
      have hdg' : f_X7_isAtDigit S 405 = some (if zpG x = true then 1 else 0) := by rw [hdg, hx]
      rw [hdg', zB1_s]
      have e : zpN (k + 1) v (x :: r) = if 0 < v ∧ zpG x = true then zpN k (10 * v + x - 48) r else (v, x :: r) := rfl
      rw [e]
      by_cases h0 : v ≤ 0
      · rw [if_pos h0, if_neg (fun q => Int32.not_lt.mpr h0 q.1)]
        exact ⟨p, 3 - (k + 1), S, rfl, by omega, by omega, hT, zF.rf, hd, Nat.le_refl _⟩
      · rw [if_neg h0]
        by_cases hg : zpG x = true
        · have ht := hT.1
          have hx2 : zi S q p = x := by
            have := ht.2.2.2.2.2.2.2 p hlt
            rw [hx] at this
            injection this with this
            exact this.symm
          rw [if_pos hg, if_neg (show ¬ (1 : Int32) = 0 by decide), if_pos ⟨Int32.not_le.mp h0, hg⟩, ht.1.2.2.1, zChk_t (by have := ht.2.2.1; omega), ht.2.1.2.1, ht.2.2.2.2.2.2.1, zChk_t (zix (by have := ht.2.2.2.1; omega) (by have := ht.2.2.2.1; omega)), nI_clamp (show p < 2 ^ 31 by have := ht.2.2.2.1; omega), hx2, zLet_d]
          obtain ⟨hT3, hf3⟩ := hT.step hlt
          rw [ht.2.2.2.2.2.2.1] at hT3 hf3
          obtain ⟨p1, j, S1, q1, q2, q3, q4, q5, q6, q7⟩ := ih f (p + 1) _ (10 * v + x - 48) a (by omega) (by omega) hT3
          rw [← hr] at q1 q6
          refine ⟨p1, j, S1, ?_, q2, q3, q4, hf3.tr q5, q6, by omega⟩
          rw [← q1, nI_1 (3 - (k + 1)), show 3 - (k + 1) + 1 = 3 - k by omega]
        · rw [if_neg hg, if_pos (show (0 : Int32) = 0 from rfl), if_neg (fun q => hg q.2)]
          exact ⟨p, 3 - (k + 1), S, rfl, by omega, by omega, hT, zF.rf, hd, Nat.le_refl _⟩
theorem x_numL0 {K : Int32 → Int32 → zM → Option (Int32 × zM)} {f : Nat} {v : Int32} {S : zM} : f_X7_readNumber_L4 405 K (f + 1) v 0 S = f_X7_readNumber_L4b 405 K (f_X7_readNumber_L4 405 K f) v 0 S := rfl
theorem x_numberS {S : zM} {q p : Nat} {T : List Int32} (h : zYs S q T p) {n : Nat} (hn : 0 < n) : ∃ (v : Int32) (S1 : zM), f_X7_readNumber n S 405 = some (v, S1) ∧ zF zYw S S1 ∧ zYs S1 q T p ∧ v = 0 := by
  obtain ⟨f, rfl⟩ : ∃ f, n = f + 1 := ⟨n - 1, by omega⟩
  obtain ⟨ht, hs, L, hL, e⟩ := h
  have f1 : zF zYw S (zpI S 405 4 1) := zF_pI (Or.inl ⟨rfl, Or.inr rfl⟩)
  have n10 : ¬ (1 : Int32) = 0 := by decide
  refine ⟨0, zpI S 405 4 1, ?_, f1, ⟨ht.fr (f1.mo (fun a k q => q.v)) ?_ ht.2.2.2.2.1, mi_eq _ _ _ _, L, hL, ?_⟩, rfl⟩
  · have hd : f_X7_isAtDigit S 405 = some 0 := by
      unfold f_X7_isAtDigit
      rw [hs, if_neg n10]
    unfold f_X7_readNumber
    rw [zLet_d]
    rw [x_numL0]
    unfold f_X7_readNumber_L4b
    rw [if_neg (show ¬ (3 : Int32) ≤ 0 by decide), zLet_d, if_pos rfl, hd, zB1_s, if_pos rfl]
    show (if zi S 405 4 = 0 then (if (0 : Int32) = 0 then zLet (zpI S 405 4 1) (fun S17 => some ((0 : Int32), S17)) else zLet (zpI S 405 4 0) (fun S13 => some ((0 : Int32), S13))) else zLet (zpI S 405 4 1) (fun S8 => some ((0 : Int32), S8))) = _
    rw [hs, if_neg n10, zLet_d]
  · rw [mi_ne _ _ (by omega)]
    exact ht.2.2.2.2.2.2.1
  · rw [mi_ne _ _ (by omega)]
    exact e
theorem x_numberG {S : zM} {q p : Nat} {T : List Int32} {a : List Int32} (h : zYg S q T p a) {n : Nat} (hn : 3 < n) :
    (∀ x : Int32, T[p]? = some x → zpG x = true → ∃ (p1 : Nat) (S1 : zM), f_X7_readNumber n S 405 = some ((zpN 2 (x - 48) (T.drop (p + 1))).1, S1) ∧ zF zYw S S1 ∧ zYg S1 q T p1 a ∧ T.drop p1 = (zpN 2 (x - 48) (T.drop (p + 1))).2 ∧ p < p1) ∧
    ((∀ x : Int32, T[p]? = some x → ¬ zpG x = true) → ∃ S1 : zM, f_X7_readNumber n S 405 = some (0, S1) ∧ zF zYw S S1 ∧ zYs S1 q T p) := by
  obtain ⟨f, rfl⟩ : ∃ f, n = f + 1 := ⟨n - 1, by omega⟩
  have hdg := x_digit h.1 h.2.1
  have ht := h.1
  have hs := h.2.1
  constructor
  · intro x hx hg
    have hlt : p < T.length := (List.getElem?_eq_some_iff.mp hx).1
    have hx2 : zi S q p = x := by
      have := ht.2.2.2.2.2.2.2 p hlt
      rw [hx] at this
      injection this with this
      exact this.symm
    obtain ⟨hT3, hf3⟩ := h.step hlt
    rw [ht.2.2.2.2.2.2.1] at hT3 hf3
    obtain ⟨p1, j, S1, q1, q2, q3, q4, q5, q6, q7⟩ := x_numL (K := fun (x2 : Int32) (x3 : Int32) (S4 : zM) => if (zi S4 405 4) = 0 then if x3 = 0 then zLet (zpI S4 405 4 (1 : Int32)) (fun S17 => some ((x2, S17))) else zLet (zpI S4 405 4 (0 : Int32)) (fun S13 => some ((x2, S13))) else zLet (zpI S4 405 4 (1 : Int32)) (fun S8 => some ((x2, S8)))) 2 f (p + 1) _ (x - 48) a (by omega) (by omega) hT3
    have g0 : zF (fun _ _ => False) S1 (zpI S1 405 4 0) := zF_id q4.2.1
    refine ⟨p1, zpI S1 405 4 0, ?_, (hf3.tr q5).tr (g0.mo (fun a k q => q.elim)), q4.same g0, q6, by omega⟩
    unfold f_X7_readNumber
    rw [zLet_d]
    rw [x_numL0]
    unfold f_X7_readNumber_L4b
    have hdg' : f_X7_isAtDigit S 405 = some (if zpG x = true then 1 else 0) := by rw [hdg, hx]
    rw [if_neg (show ¬ (3 : Int32) ≤ 0 by decide), zLet_d, if_pos rfl, hdg', zB1_s, if_pos hg, if_neg (show ¬ (1 : Int32) = 0 by decide), ht.1.2.2.1, zChk_t (by have := ht.2.2.1; omega), ht.2.1.2.1, ht.2.2.2.2.2.2.1, zChk_t (zix (by have := ht.2.2.2.1; omega) (by have := ht.2.2.2.1; omega)), nI_clamp (show p < 2 ^ 31 by have := ht.2.2.2.1; omega), hx2, zLet_d, show (10 : Int32) * 0 + x - 48 = x - 48 by rw [show (10 : Int32) * 0 = 0 by decide, Int32.zero_add], show (0 : Int32) + 1 = nI (3 - 2) by decide]
    refine q1.trans ?_
    have hj0 : ¬ nI j = 0 := fun e => by have := nI_inj (b := 0) e (by omega) (by omega); omega
    rw [q4.2.1, if_pos rfl, if_neg hj0, zLet_d]
  · intro hno
    obtain ⟨k1, k2⟩ := h.sto
    refine ⟨_, ?_, k2, k1⟩
    unfold f_X7_readNumber
    rw [zLet_d]
    rw [x_numL0]
    unfold f_X7_readNumber_L4b
    have hd0 : f_X7_isAtDigit S 405 = some 0 := by
      rw [hdg]
      cases hx : T[p]? with
      | none => rfl
      | some x => dsimp only; rw [if_neg (hno x hx)]
    rw [if_neg (show ¬ (3 : Int32) ≤ 0 by decide), zLet_d, if_pos rfl, hd0, zB1_s, if_pos rfl]
    show (if zi S 405 4 = 0 then (if (0 : Int32) = 0 then zLet (zpI S 405 4 1) (fun S17 => some ((0 : Int32), S17)) else zLet (zpI S 405 4 0) (fun S13 => some ((0 : Int32), S13))) else zLet (zpI S 405 4 1) (fun S8 => some ((0 : Int32), S8))) = _
    rw [hs, if_pos rfl, if_pos rfl, zLet_d]
