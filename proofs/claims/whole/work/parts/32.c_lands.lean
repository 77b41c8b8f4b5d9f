/-! the class's dealing of lands -/
def zIL (S : zM) (N : Nat) (B : Nat → Nat → Nat → Nat → Int32) : Prop := zr S 414 0 = 415 ∧ zln S 415 = 7 ∧ zi S 414 2 = nI N ∧ ∀ S1 : zM, zF (fun a k => a = 415 ∨ (a = 414 ∧ k = 1)) S S1 → ∀ p t l m : Nat, p < N → t < N → l < N → m < N → f_X3_between S1 414 (nI p) (nI t) (nI l) (nI m) = some (B p t l m)
theorem zIL.fr {S S1 : zM} {N : Nat} {B : Nat → Nat → Nat → Nat → Int32} (h : zIL S N B) (f : zF (fun a k => a = 415 ∨ (a = 414 ∧ k = 1)) S S1) : zIL S1 N B :=
  ⟨by rw [f.r]; exact h.1, by rw [f.n]; exact h.2.1, by rw [f.i (by omega)]; exact h.2.2.1, fun S2 f2 => h.2.2.2 S2 (f.tr f2)⟩
theorem xL_in {S : zM} {N i : Nat} {B : Nat → Nat → Nat → Nat → Int32} (h : zIL S N B) (hN : N ≤ 40) (hi : i < N) {x : Int32} {K : Int32 → Option Int32} {n : Nat} (hn : 40 < n) : f_X0L_asItStands_L14 S 414 (nI i) K n x 0 = K (x + zGn B (fun j => j) i) := by
  have key := zloop (fun f (s : Int32 × Int32) => f_X0L_asItStands_L14 S 414 (nI i) K f s.1 s.2) (fun k => (x + zSum (fun j => B j j i i) k, nI k)) i (res := K (x + zGn B (fun j => j) i)) (fun k f hk => ?_) (fun f => ?_) n (by omega)
  · have e : x + zSum (fun j => B j j i i) 0 = x := Int32.add_zero x
    have key' : f_X0L_asItStands_L14 S 414 (nI i) K n (x + zSum (fun j => B j j i i) 0) (nI 0) = K (x + zGn B (fun j => j) i) := key
    rw [e] at key'
    exact key'
  · show f_X0L_asItStands_L14b S 414 (nI i) K (f_X0L_asItStands_L14 S 414 (nI i) K f) (x + zSum (fun j => B j j i i) k) (nI k) = f_X0L_asItStands_L14 S 414 (nI i) K f (x + (zSum (fun j => B j j i i) k + B k k i i)) (nI (k + 1))
    unfold f_X0L_asItStands_L14b
    rw [if_neg (nI_ge hk (by omega)), h.2.2.2 S zF.rf k k i i (by omega) (by omega) hi hi, zB1_s, nI_1, Int32.add_assoc]
  · show f_X0L_asItStands_L14b S 414 (nI i) K (f_X0L_asItStands_L14 S 414 (nI i) K f) (x + zSum (fun j => B j j i i) i) (nI i) = _
    unfold f_X0L_asItStands_L14b
    rw [if_pos (Int32.le_refl _)]
    rfl
theorem xL_asIt {S : zM} {N : Nat} {B : Nat → Nat → Nat → Nat → Int32} (h : zIL S N B) (hN : N ≤ 40) {n : Nat} (hn : 41 < n) : f_X0L_asItStands n S 414 = some (zAl B (fun j => j) N) := by
  have e0 : zAl B (fun j => j) (N - 1 + 1) = zAl B (fun j => j) N := by
    by_cases h0 : N = 0
    · subst h0; rfl
    · rw [show N - 1 + 1 = N by omega]
  unfold f_X0L_asItStands
  rw [zLet_d]
  refine zloop (fun f (s : Int32 × Int32) => f_X0L_asItStands_L4 n S 414 (fun x1 => some x1) f s.1 s.2) (fun k => (zAl B (fun j => j) (k + 1), nI (k + 1))) (N - 1) (fun k f hk => ?_) (fun f => ?_) n (by omega)
  · show f_X0L_asItStands_L4b n S 414 (fun x1 => some x1) (f_X0L_asItStands_L4 n S 414 (fun x1 => some x1) f) (zAl B (fun j => j) (k + 1)) (nI (k + 1)) = f_X0L_asItStands_L4 n S 414 (fun x1 => some x1) f (zAl B (fun j => j) (k + 1) + zGn B (fun j => j) (k + 1)) (nI (k + 1 + 1))
    unfold f_X0L_asItStands_L4b
    rw [h.2.2.1, if_neg (nI_ge (by omega) (by omega)), zLet_d, xL_in h hN (by omega) (by omega), nI_1]
  · show f_X0L_asItStands_L4b n S 414 (fun x1 => some x1) (f_X0L_asItStands_L4 n S 414 (fun x1 => some x1) f) (zAl B (fun j => j) (N - 1 + 1)) (nI (N - 1 + 1)) = _
    unfold f_X0L_asItStands_L4b
    rw [h.2.2.1, if_pos (nI_le (by omega) (by omega)), e0]
theorem xL_gain {S : zM} {N i : Nat} {B : Nat → Nat → Nat → Nat → Int32} {D : Nat → Nat} (h : zIL S N B) (hN : N ≤ 7) (hi : i < N) (hD : ∀ j : Nat, j ≤ i → zi S 415 j = nI (D j) ∧ D j < N) {n : Nat} (hn : 40 < n) : f_X0L_gainAt n S 414 (nI i) = some (zGn B D i) := by
  unfold f_X0L_gainAt
  rw [zLet_d]
  refine zloop (fun f (s : Int32 × Int32) => f_X0L_gainAt_L4 S 414 (nI i) (fun x1 => some x1) f s.1 s.2) (fun k => (zSum (fun j => B j (D j) i (D i)) k, nI k)) i (fun k f hk => ?_) (fun f => ?_) n (by omega)
  · show f_X0L_gainAt_L4b S 414 (nI i) (fun x1 => some x1) (f_X0L_gainAt_L4 S 414 (nI i) (fun x1 => some x1) f) (zSum (fun j => B j (D j) i (D i)) k) (nI k) = f_X0L_gainAt_L4 S 414 (nI i) (fun x1 => some x1) f (zSum (fun j => B j (D j) i (D i)) k + B k (D k) i (D i)) (nI (k + 1))
    obtain ⟨d1, d2⟩ := hD k (by omega)
    obtain ⟨d3, d4⟩ := hD i (by omega)
    unfold f_X0L_gainAt_L4b
    rw [if_neg (nI_ge hk (by omega)), h.1, zChk_t (by decide), h.2.1, zChk_t (zix (by omega) (by omega)), zChk_t (zix (by omega) (by omega)), nI_clamp (show k < 2 ^ 31 by omega), nI_clamp (show i < 2 ^ 31 by omega), d1, d3, h.2.2.2 S zF.rf k (D k) i (D i) (by omega) d2 hi d4, zB1_s, nI_1]
  · show f_X0L_gainAt_L4b S 414 (nI i) (fun x1 => some x1) (f_X0L_gainAt_L4 S 414 (nI i) (fun x1 => some x1) f) (zSum (fun j => B j (D j) i (D i)) i) (nI i) = _
    unfold f_X0L_gainAt_L4b
    rw [if_pos (Int32.le_refl _)]
    rfl
theorem xL_all {S : zM} {N : Nat} (hN : N ≤ 7) (e : zi S 414 2 = nI N) {n : Nat} (hn : 40 < n) : f_X0L_allWays n S 414 = some (nI (zFa N)) := by
  have e0 : zFa (N - 1 + 1) = zFa N := by
    by_cases h0 : N = 0
    · subst h0; rfl
    · rw [show N - 1 + 1 = N by omega]
  unfold f_X0L_allWays
  rw [zLet_d]
  refine zloop (fun f (s : Int32 × Int32) => f_X0L_allWays_L4 S 414 (fun x1 => some x1) f s.1 s.2) (fun k => (nI (zFa (k + 1)), nI (k + 2))) (N - 1) (fun k f hk => ?_) (fun f => ?_) n (by omega)
  · show f_X0L_allWays_L4b S 414 (fun x1 => some x1) (f_X0L_allWays_L4 S 414 (fun x1 => some x1) f) (nI (zFa (k + 1))) (nI (k + 2)) = f_X0L_allWays_L4 S 414 (fun x1 => some x1) f (nI (zFa (k + 1) * (k + 1 + 1))) (nI (k + 1 + 2))
    unfold f_X0L_allWays_L4b
    rw [e, if_neg (nI_nlt (by omega) (by omega)), if_neg (show ¬ (7 : Int32) < nI (k + 2) from nI_nlt (a := 7) (by omega) (by omega)), nI_mul, nI_1, show k + 1 + 1 = k + 2 by omega, show k + 1 + 2 = k + 2 + 1 by omega]
  · show f_X0L_allWays_L4b S 414 (fun x1 => some x1) (f_X0L_allWays_L4 S 414 (fun x1 => some x1) f) (nI (zFa (N - 1 + 1))) (nI (N - 1 + 2)) = _
    unfold f_X0L_allWays_L4b
    rw [e, if_pos (nI_lt (by omega) (by omega)), e0]
theorem xL_ways {B : Nat → Nat → Nat → Nat → Int32} {N : Nat} {w : Int32} (hN : N ≤ 7) {n : Nat} (hn : 40 < n) : ∀ (r d place : Nat) (S : zM) (tk : Int32) (D : Nat → Nat), place + r = N → r < d → zIL S N B → zi S 414 1 = w → (∀ j : Nat, j < place → zi S 415 j = nI (D j) ∧ D j < N) →
    ∃ S1 : zM, f_X0L_waysFrom n d S 414 (nI place) tk (zAl B D place) = some (zWy B N w r tk D, S1) ∧ zF (fun a k => a = 415 ∧ place ≤ k) S S1 := by
  intro r
  induction r with
  | zero =>
    intro d place S tk D hp hd h hw hD
    obtain ⟨d, rfl⟩ : ∃ m, d = m + 1 := ⟨d - 1, by omega⟩
    have : place = N := by omega
    subst this
    refine ⟨S, ?_, zF.rf⟩
    show f_X0L_waysFromO n (f_X0L_waysFrom n d) S 414 (nI place) tk (zAl B D place) = some (if zAl B D place < w then 0 else 1, S)
    unfold f_X0L_waysFromO
    rw [zLet_d, h.2.2.1, if_pos (Int32.le_refl _), hw]
    split <;> rfl
  | succ r ih =>
    intro d place S0 tk D hp hd h hw hD
    obtain ⟨d, rfl⟩ : ∃ m, d = m + 1 := ⟨d - 1, by omega⟩
    have hw1 : f_X11_within (nI place) (7 : Int32) = 1 := by rw [zwi (n := 7) rfl, if_pos (zU_n (by omega) (by omega))]
    have eW : zWy B N w (r + 1) tk D = zSum (fun t => if zbt tk t = 1 then 0 else zWy B N w r (zTb tk t) (zup D place t)) N := by
      show zSum (fun t => if zbt tk t = 1 then 0 else zWy B N w r (zTb tk t) (zup D (N - (r + 1)) t)) N = _
      rw [show N - (r + 1) = place by omega]
    rw [eW]
    show ∃ S1 : zM, f_X0L_waysFromO n (f_X0L_waysFrom n d) S0 414 (nI place) tk (zAl B D place) = _ ∧ _
    unfold f_X0L_waysFromO
    rw [zLet_d, h.2.2.1, if_neg (nI_ge (by omega) (by omega)), hw1, zLet_d, if_neg (show ¬ (1 : Int32) = 0 by decide), zLet_d]
    refine zloopR (fun f (s : Int32 × Int32 × zM) => f_X0L_waysFrom_L37 n (f_X0L_waysFrom n d) 414 (nI place) tk (zAl B D place) (f_X0L_waysFrom n d) (fun x11 S12 => some (x11, S12)) f s.1 s.2.1 s.2.2) (fun k s => s.1 = zSum (fun t => if zbt tk t = 1 then 0 else zWy B N w r (zTb tk t) (zup D place t)) k ∧ s.2.1 = nI k ∧ zF (fun a k => a = 415 ∧ place ≤ k) S0 s.2.2) N (fun o => ∃ S1 : zM, o = some (zSum (fun t => if zbt tk t = 1 then 0 else zWy B N w r (zTb tk t) (zup D place t)) N, S1) ∧ zF (fun a k => a = 415 ∧ place ≤ k) S0 S1) ?_ ?_ n (0, 0, S0) (by omega) ⟨rfl, rfl, zF.rf⟩
    · rintro k f ⟨x, y, S⟩ hk ⟨i1, i2, i3⟩
      dsimp only at i1 i2 i3
      subst i1 i2
      have hS : zIL S N B := h.fr (i3.mo (fun a k q => Or.inl q.1))
      have hws : zi S 414 1 = w := by rw [i3.i (by omega)]; exact hw
      have hs : zSum (fun t => if zbt tk t = 1 then 0 else zWy B N w r (zTb tk t) (zup D place t)) (k + 1) = zSum (fun t => if zbt tk t = 1 then 0 else zWy B N w r (zTb tk t) (zup D place t)) k + (if zbt tk k = 1 then 0 else zWy B N w r (zTb tk k) (zup D place k)) := rfl
      have hh : f_X11_holds tk (nI k) = if zbt tk k = 0 then 0 else 1 := rfl
      generalize zSum (fun t => if zbt tk t = 1 then 0 else zWy B N w r (zTb tk t) (zup D place t)) k = acc at hs ⊢
      by_cases hb : zbt tk k = 1
      · rw [if_pos hb, Int32.add_zero] at hs
        rw [hb, if_neg (show ¬ (1 : Int32) = 0 by decide)] at hh
        refine ⟨(acc, nI (k + 1), S), ⟨hs.symm, rfl, i3⟩, ?_⟩
        show f_X0L_waysFrom_L37b n (f_X0L_waysFrom n d) 414 (nI place) tk (zAl B D place) (f_X0L_waysFrom n d) (fun x11 S12 => some (x11, S12)) (f_X0L_waysFrom_L37 n (f_X0L_waysFrom n d) 414 (nI place) tk (zAl B D place) (f_X0L_waysFrom n d) (fun x11 S12 => some (x11, S12)) f) acc (nI k) S = _
        unfold f_X0L_waysFrom_L37b
        rw [hS.2.2.1, if_neg (nI_ge hk (by omega)), hh, zLet_d, if_neg (show ¬ (1 : Int32) = 0 by decide), nI_1]
      · rw [if_neg hb] at hs
        rw [if_pos (zbt10 hb)] at hh
        have g1 : zF (fun a k => a = 415 ∧ place ≤ k) S (zpI S 415 place (nI k)) := zF_pI ⟨rfl, Nat.le_refl _⟩
        have hS1 : zIL (zpI S 415 place (nI k)) N B := hS.fr (g1.mo (fun a k q => Or.inl q.1))
        have hD1 : ∀ j : Nat, j < place + 1 → zi (zpI S 415 place (nI k)) 415 j = nI (zup D place k j) ∧ zup D place k j < N := by
          intro j hj
          by_cases e : j = place
          · subst e
            rw [mi_eq, zup_e]
            exact ⟨rfl, hk⟩
          · rw [mi_ne _ _ (by omega), zup_n e, i3.i (by omega)]
            exact hD j (by omega)
        have hg := xL_gain hS1 hN (i := place) (by omega) (fun j hj => hD1 j (by omega)) hn
        have ea : zAl B D place + zGn B (zup D place k) place = zAl B (zup D place k) (place + 1) := by
          show _ = zAl B (zup D place k) place + zGn B (zup D place k) place
          rw [zAl_c (D := D) (D1 := zup D place k) (fun j hj => (zup_n (by omega)).symm)]
        obtain ⟨S2, j1, j2⟩ := ih d (place + 1) (zpI S 415 place (nI k)) (zTb tk k) (zup D place k) (by omega) (by omega) hS1 (by rw [mi_ne _ _ (by omega)]; exact hws) hD1
        refine ⟨(acc + zWy B N w r (zTb tk k) (zup D place k), nI (k + 1), S2), ⟨hs.symm, rfl, (i3.tr g1).tr (j2.mo (fun a k q => ⟨q.1, by omega⟩))⟩, ?_⟩
        show f_X0L_waysFrom_L37b n (f_X0L_waysFrom n d) 414 (nI place) tk (zAl B D place) (f_X0L_waysFrom n d) (fun x11 S12 => some (x11, S12)) (f_X0L_waysFrom_L37 n (f_X0L_waysFrom n d) 414 (nI place) tk (zAl B D place) (f_X0L_waysFrom n d) (fun x11 S12 => some (x11, S12)) f) acc (nI k) S = _
        have ht : tk ||| ((1 : Int32) <<< (nI k &&& 31)) = zTb tk k := rfl
        unfold f_X0L_waysFrom_L37b
        rw [hS.2.2.1, if_neg (nI_ge hk (by omega)), hh, zLet_d, if_pos rfl, hS.1, zChk_t (by decide), hS.2.1, zChk_t (zix (by omega) (by omega)), nI_clamp (show place < 2 ^ 31 by omega), zLet_d, hg, zB1_s, nI_1, nI_1, ht, ea, j1, zB2_s]
    · rintro f ⟨x, y, S⟩ ⟨i1, i2, i3⟩
      dsimp only at i1 i2 i3 ⊢
      subst i1 i2
      have hS : zIL S N B := h.fr (i3.mo (fun a k q => Or.inl q.1))
      refine ⟨S, ?_, i3⟩
      show f_X0L_waysFrom_L37b n (f_X0L_waysFrom n d) 414 (nI place) tk (zAl B D place) (f_X0L_waysFrom n d) (fun x11 S12 => some (x11, S12)) (f_X0L_waysFrom_L37 n (f_X0L_waysFrom n d) 414 (nI place) tk (zAl B D place) (f_X0L_waysFrom n d) (fun x11 S12 => some (x11, S12)) f) _ (nI N) S = _
      unfold f_X0L_waysFrom_L37b
      rw [hS.2.2.1, if_pos (Int32.le_refl _)]
theorem xL_good {S : zM} {B : Nat → Nat → Nat → Nat → Int32} {N : Nat} (h : zIL S N B) (hN : N ≤ 7) {n : Nat} (hn : 41 < n) : ∃ S1 : zM, f_X0L_waysAsGood n S 414 = some (zWy B N (zAl B (fun j => j) N) N 0 (fun j => j), S1) ∧ zF (fun a k => a = 415 ∨ (a = 414 ∧ k = 1)) S S1 := by
  have g1 : zF (fun a k => a = 415 ∨ (a = 414 ∧ k = 1)) S (zpI S 414 1 (zAl B (fun j => j) N)) := zF_pI (Or.inr ⟨rfl, rfl⟩)
  obtain ⟨S1, j1, j2⟩ := xL_ways (B := B) (N := N) (w := zAl B (fun j => j) N) hN (n := n) (by omega) N 9 0 (zpI S 414 1 (zAl B (fun j => j) N)) 0 (fun j => j) (by omega) (by omega) (h.fr g1) (mi_eq _ _ _ _) (fun j hj => absurd hj (Nat.not_lt_zero _))
  refine ⟨S1, ?_, g1.tr (j2.mo (fun a k q => Or.inl q.1))⟩
  unfold f_X0L_waysAsGood
  rw [xL_asIt h (by omega) hn, zB1_s, zLet_d]
  have j1' : f_X0L_waysFrom n 9 (zpI S 414 1 (zAl B (fun j => j) N)) 414 (0 : Int32) (0 : Int32) (0 : Int32) = _ := j1
  rw [j1', zB2_s]
