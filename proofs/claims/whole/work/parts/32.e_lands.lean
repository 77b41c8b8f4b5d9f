/-! the reference's dealing of lands -/
def zJL (n : Nat) (S : zM) (N : Nat) (X : Nat → Int32) (B : Nat → Nat → Nat → Nat → Int32) : Prop := (zr S 436 0 = 437 ∧ zr S 436 40 = 447 ∧ zln S 437 = 1004 ∧ zln S 447 = 12 ∧ zi S 437 1002 = nI N) ∧ (∀ t : Nat, t < N → zi S 437 (17 + 4 * t) = X t) ∧ ∀ S1 : zM, zF (fun a k => a = 447 ∨ (a = 436 ∧ (k = 42 ∨ k = 43))) S S1 → ∀ D : Nat → Nat, (∀ j : Nat, j < N → D j < N ∧ zi S1 447 j = X (D j)) → f_X12_pairsNow n S1 436 = some (zAl B D N)
theorem zJL.fr {n : Nat} {S S1 : zM} {N : Nat} {X : Nat → Int32} {B : Nat → Nat → Nat → Nat → Int32} (h : zJL n S N X B) (f : zF (fun a k => a = 447 ∨ (a = 436 ∧ (k = 42 ∨ k = 43))) S S1) : zJL n S1 N X B := by
  obtain ⟨⟨h1, h2, h3, h4, h5⟩, h6, h7⟩ := h
  exact ⟨⟨by rw [f.r]; exact h1, by rw [f.r]; exact h2, by rw [f.n]; exact h3, by rw [f.n]; exact h4, by rw [f.i (by omega)]; exact h5⟩, fun t ht => by rw [f.i (by omega)]; exact h6 t ht, fun S2 f2 => h7 S2 (f.tr f2)⟩
theorem mL_ways {X : Nat → Int32} {B : Nat → Nat → Nat → Nat → Int32} {N : Nat} {w : Int32} (hN : N ≤ 7) {n : Nat} (hn : 40 < n) : ∀ (r d place : Nat) (S : zM) (tk : Int32) (D : Nat → Nat), place + r = N → r < d → zJL n S N X B → (∀ j : Nat, j < place → D j < N ∧ zi S 447 j = X (D j)) →
    ∃ S1 : zM, f_X12_deals n d S 436 (nI place) tk w = some S1 ∧ zF (fun a k => (a = 447 ∧ place ≤ k) ∨ (a = 436 ∧ (k = 42 ∨ k = 43))) S S1 ∧ zi S1 436 42 = zi S 436 42 + zLv N r tk ∧ zi S1 436 43 = zi S 436 43 + zWy B N w r tk D := by
  intro r
  induction r with
  | zero =>
    intro d place S tk D hp hd h hD
    obtain ⟨d, rfl⟩ : ∃ m, d = m + 1 := ⟨d - 1, by omega⟩
    have : place = N := by omega
    subst this
    have g1 : zF (fun a k => a = 447 ∨ (a = 436 ∧ (k = 42 ∨ k = 43))) S (zpI S 436 42 (zi S 436 42 + 1)) := zF_pI (Or.inr ⟨rfl, Or.inl rfl⟩)
    have hnow := h.2.2 _ g1 D (fun j hj => by rw [mi_ne _ _ (by omega)]; exact hD j hj)
    obtain ⟨⟨h1, h2, h3, h4, h5⟩, h6, h7⟩ := h
    show ∃ S1 : zM, f_X12_dealsO n (f_X12_deals n d) S 436 (nI place) tk w = some S1 ∧ zF (fun a k => (a = 447 ∧ place ≤ k) ∨ (a = 436 ∧ (k = 42 ∨ k = 43))) S S1 ∧ zi S1 436 42 = zi S 436 42 + 1 ∧ zi S1 436 43 = zi S 436 43 + if zAl B D place < w then 0 else 1
    unfold f_X12_dealsO
    rw [h1, zChk_t (by decide), h3, zq1002, zChk_t (zix (by omega) (by omega)), nI_clamp (show 1002 < 2 ^ 31 by omega), h5, if_pos rfl, zLet_d, hnow, zB1_s]
    refine ⟨zpI (zpI S 436 42 (zi S 436 42 + 1)) 436 43 (zi S 436 43 + if zAl B D place < w then 0 else 1), ?_, (zF_pI (Or.inr ⟨rfl, Or.inl rfl⟩)).tr (zF_pI (Or.inr ⟨rfl, Or.inr rfl⟩)), ?_, mi_eq _ _ _ _⟩
    · rw [mi_ne _ _ (show ¬ (436 = 436 ∧ 43 = 42) by omega)]
      by_cases q : zAl B D place < w
      · rw [if_pos q, if_pos q, zLet_d]
      · rw [if_neg q, if_neg q, zLet_d]
    · rw [mi_ne _ _ (show ¬ (436 = 436 ∧ 42 = 43) by omega), mi_eq]
  | succ r ih =>
    intro d place S0 tk D hp hd h hD
    obtain ⟨d, rfl⟩ : ∃ m, d = m + 1 := ⟨d - 1, by omega⟩
    have eW : zWy B N w (r + 1) tk D = zSum (fun t => if zbt tk t = 1 then 0 else zWy B N w r (zTb tk t) (zup D place t)) N := by
      show zSum (fun t => if zbt tk t = 1 then 0 else zWy B N w r (zTb tk t) (zup D (N - (r + 1)) t)) N = _
      rw [show N - (r + 1) = place by omega]
    have eL : zLv N (r + 1) tk = zSum (fun t => if zbt tk t = 1 then 0 else zLv N r (zTb tk t)) N := rfl
    rw [eW, eL]
    show ∃ S1 : zM, f_X12_dealsO n (f_X12_deals n d) S0 436 (nI place) tk w = _ ∧ _
    obtain ⟨⟨h1, h2, h3, h4, h5⟩, h6, h7⟩ := id h
    unfold f_X12_dealsO
    rw [h1, zChk_t (by decide), h3, zq1002, zChk_t (zix (by omega) (by omega)), nI_clamp (show 1002 < 2 ^ 31 by omega), h5, if_neg (show ¬ nI place = nI N from fun q => by have := nI_inj q (by omega) (by omega); omega), zLet_d]
    refine zloopR (fun f (s : Int32 × zM) => f_X12_deals_L48 (f_X12_deals n d) 436 (nI place) tk w (f_X12_deals n d) (fun S2 => some S2) f s.1 s.2) (fun k s => s.1 = nI k ∧ zF (fun a k => (a = 447 ∧ place ≤ k) ∨ (a = 436 ∧ (k = 42 ∨ k = 43))) S0 s.2 ∧ zi s.2 436 42 = zi S0 436 42 + zSum (fun t => if zbt tk t = 1 then 0 else zLv N r (zTb tk t)) k ∧ zi s.2 436 43 = zi S0 436 43 + zSum (fun t => if zbt tk t = 1 then 0 else zWy B N w r (zTb tk t) (zup D place t)) k) N (fun o => ∃ S1 : zM, o = some S1 ∧ zF (fun a k => (a = 447 ∧ place ≤ k) ∨ (a = 436 ∧ (k = 42 ∨ k = 43))) S0 S1 ∧ zi S1 436 42 = zi S0 436 42 + zSum (fun t => if zbt tk t = 1 then 0 else zLv N r (zTb tk t)) N ∧ zi S1 436 43 = zi S0 436 43 + zSum (fun t => if zbt tk t = 1 then 0 else zWy B N w r (zTb tk t) (zup D place t)) N) ?_ ?_ n (0, S0) (by omega) ⟨rfl, zF.rf, (Int32.add_zero _).symm, (Int32.add_zero _).symm⟩
    · rintro k f ⟨y, S⟩ hk ⟨i1, i2, i3, i4⟩
      dsimp only at i1 i2 i3 i4
      subst i1
      have hS : zJL n S N X B := h.fr (i2.mo (fun a k q => by omega))
      have hs : zSum (fun t => if zbt tk t = 1 then 0 else zWy B N w r (zTb tk t) (zup D place t)) (k + 1) = zSum (fun t => if zbt tk t = 1 then 0 else zWy B N w r (zTb tk t) (zup D place t)) k + (if zbt tk k = 1 then 0 else zWy B N w r (zTb tk k) (zup D place k)) := rfl
      have hs2 : zSum (fun t => if zbt tk t = 1 then 0 else zLv N r (zTb tk t)) (k + 1) = zSum (fun t => if zbt tk t = 1 then 0 else zLv N r (zTb tk t)) k + (if zbt tk k = 1 then 0 else zLv N r (zTb tk k)) := rfl
      generalize zSum (fun t => if zbt tk t = 1 then 0 else zWy B N w r (zTb tk t) (zup D place t)) k = acc at hs i4
      generalize zSum (fun t => if zbt tk t = 1 then 0 else zLv N r (zTb tk t)) k = acc2 at hs2 i3
      have hh : (((tk >>> (nI k &&& 31)) &&& (1 : Int32)) = (1 : Int32)) = (zbt tk k = 1) := rfl
      obtain ⟨⟨h1, h2, h3, h4, h5⟩, h6, h7⟩ := id hS
      by_cases hb : zbt tk k = 1
      · rw [if_pos hb, Int32.add_zero] at hs hs2
        refine ⟨(nI (k + 1), S), ⟨rfl, i2, by rw [hs2]; exact i3, by rw [hs]; exact i4⟩, ?_⟩
        show f_X12_deals_L48b (f_X12_deals n d) 436 (nI place) tk w (f_X12_deals n d) (fun S2 => some S2) (f_X12_deals_L48 (f_X12_deals n d) 436 (nI place) tk w (f_X12_deals n d) (fun S2 => some S2) f) (nI k) S = _
        unfold f_X12_deals_L48b
        rw [h1, zChk_t (by decide), h3, zq1002, zChk_t (zix (by omega) (by omega)), nI_clamp (show 1002 < 2 ^ 31 by omega), h5, if_neg (nI_ge hk (by omega)), if_pos (show ((tk >>> (nI k &&& 31)) &&& (1 : Int32)) = (1 : Int32) from hb), nI_1]
      · rw [if_neg hb] at hs hs2
        have g1 : zF (fun a k => (a = 447 ∧ place ≤ k) ∨ (a = 436 ∧ (k = 42 ∨ k = 43))) S (zpI S 447 place (X k)) := zF_pI (Or.inl ⟨rfl, Nat.le_refl _⟩)
        have hS1 : zJL n (zpI S 447 place (X k)) N X B := hS.fr (g1.mo (fun a k q => by omega))
        have hD1 : ∀ j : Nat, j < place + 1 → zup D place k j < N ∧ zi (zpI S 447 place (X k)) 447 j = X (zup D place k j) := by
          intro j hj
          by_cases e : j = place
          · subst e
            rw [mi_eq, zup_e]
            exact ⟨hk, rfl⟩
          · rw [mi_ne _ _ (by omega), zup_n e, i2.i (by omega)]
            exact hD j (by omega)
        obtain ⟨S2, j1, j2, j3, j4⟩ := ih d (place + 1) (zpI S 447 place (X k)) (zTb tk k) (zup D place k) (by omega) (by omega) hS1 hD1
        rw [mi_ne _ _ (by omega)] at j3 j4
        refine ⟨(nI (k + 1), S2), ⟨rfl, (i2.tr g1).tr (j2.mo (fun a k q => by omega)), ?_, ?_⟩, ?_⟩
        · show zi S2 436 42 = _
          rw [hs2, j3, i3, Int32.add_assoc]
        · show zi S2 436 43 = _
          rw [hs, j4, i4, Int32.add_assoc]
        · show f_X12_deals_L48b (f_X12_deals n d) 436 (nI place) tk w (f_X12_deals n d) (fun S2 => some S2) (f_X12_deals_L48 (f_X12_deals n d) 436 (nI place) tk w (f_X12_deals n d) (fun S2 => some S2) f) (nI k) S = _
          have ht : tk ||| ((1 : Int32) <<< (nI k &&& 31)) = zTb tk k := rfl
          unfold f_X12_deals_L48b
          rw [h1, zChk_t (by decide), h3, zq1002, zChk_t (zix (by omega) (by omega)), nI_clamp (show 1002 < 2 ^ 31 by omega), h5, if_neg (nI_ge hk (by omega)), if_neg (show ¬ ((tk >>> (nI k &&& 31)) &&& (1 : Int32)) = (1 : Int32) from hb), h2, zChk_t (by decide), show (16 : Int32) + (4 : Int32) * nI k + (1 : Int32) = nI (17 + 4 * k) by rw [zq4, nI_mul, zq16, nI_add, nI_1, show 16 + 4 * k + 1 = 17 + 4 * k by omega], zChk_t (zix (by omega) (by omega)), h4, zChk_t (zix (by omega) (by omega)), nI_clamp (show 17 + 4 * k < 2 ^ 31 by omega), nI_clamp (show place < 2 ^ 31 by omega), h6 k hk, zLet_d, nI_1, nI_1, ht, j1, zB1_s]
    · rintro f ⟨y, S⟩ ⟨i1, i2, i3, i4⟩
      dsimp only at i1 i2 i3 i4 ⊢
      subst i1
      have hS : zJL n S N X B := h.fr (i2.mo (fun a k q => by omega))
      obtain ⟨⟨h1, h2, h3, h4, h5⟩, h6, h7⟩ := id hS
      refine ⟨S, ?_, i2, i3, i4⟩
      show f_X12_deals_L48b (f_X12_deals n d) 436 (nI place) tk w (f_X12_deals n d) (fun S2 => some S2) (f_X12_deals_L48 (f_X12_deals n d) 436 (nI place) tk w (f_X12_deals n d) (fun S2 => some S2) f) (nI N) S = _
      unfold f_X12_deals_L48b
      rw [h1, zChk_t (by decide), h3, zq1002, zChk_t (zix (by omega) (by omega)), nI_clamp (show 1002 < 2 ^ 31 by omega), h5, if_pos (Int32.le_refl _)]
