/-! marks moved up -/
def zUm (g : Nat → Int32) (h : Int32) (d : Nat) (ms : Int32) (v c : Nat) : Int32 := if g (112 + 19 * v) = h ∧ zbt ms c = 1 ∧ ¬ g (112 + 19 * v + 5 + c) = 0 then (if g (112 + 19 * v + 1) = nI d then 21 else 1) else g (112 + 19 * v + 5 + c)
def zUp (g : Nat → Int32) (h : Int32) (d : Nat) (ms : Int32) (v : Nat) : (Nat → Int32) × (Nat → Int32) := (zUm g h d ms v, fun c => g (112 + 19 * v + 12 + c))
theorem zbt_k : ∀ k : Nat, k < 128 → ∀ c : Nat, c < 7 → zbt (nI k) c = 0 ∨ zbt (nI k) c = 1 := by decide +kernel
theorem x_moveD {S0 : zM} {nd nj nv v d : Nat} {g : Nat → Int32} {hh ms : Int32} {K : zM → Option zM} (h : zCx S0 270 g nd nj nv) (hv : v < nv) (hb : ∀ c : Nat, c < 7 → zU (g (112 + 19 * v + 5 + c)) 22) (hms : ∀ c : Nat, c < 7 → zbt ms c = 0 ∨ zbt ms c = 1) {n : Nat} (hn : 40 < n) : ∃ S1 : zM, f_X9_moveUp_L24 270 hh (nI d) ms (nI v) S0 K n 0 S0 = K S1 ∧ zF zWm S0 S1 ∧ zCx S1 270 (zSetM g (112 + 19 * v) (zUp g hh d ms v).1 (zUp g hh d ms v).2) nd nj nv := by
  obtain ⟨⟨b1, b2, b3⟩, e5, e6, e7⟩ := h.n
  have r9 : zr S0 270 9 = 280 := h.2.1.1.2.2.2.2.2.2.1
  obtain ⟨d1, d2, d3, d4, d5⟩ := h.2.1.2.2.2 v (by omega)
  obtain ⟨f2, f3, f4, f5, f6, hD⟩ := h.d hv
  refine zloopR (fun f (s : Int32 × zM) => f_X9_moveUp_L24 270 hh (nI d) ms (nI v) S0 K f s.1 s.2) (fun k s => s.1 = nI k ∧ zF (fun a j => (a = 285 + 3 * v) ∧ j < 7) S0 s.2 ∧ (∀ c : Nat, c < k → zi s.2 (285 + 3 * v) c = if zUm g hh d ms v c = 0 then -128 else zUm g hh d ms v c - 1) ∧ ∀ c : Nat, k ≤ c → zi s.2 (285 + 3 * v) c = zi S0 (285 + 3 * v) c) 7 (fun o => ∃ S1 : zM, o = K S1 ∧ zF zWm S0 S1 ∧ zCx S1 270 (zSetM g (112 + 19 * v) (zUp g hh d ms v).1 (zUp g hh d ms v).2) nd nj nv) ?_ ?_ n (0, S0) (by omega) ⟨rfl, zF.rf, fun c hc => absurd hc (Nat.not_lt_zero _), fun c _ => rfl⟩
  · rintro k f ⟨x, S⟩ hk ⟨h1, h2, h3, h4⟩
    dsimp only at h1 h2 h3 h4
    subst h1
    have hmk := (hD k hk).1
    have ev : zi S (270 + 15 + 3 * v) k = if g (112 + 19 * v + 5 + k) = 0 then -128 else g (112 + 19 * v + 5 + k) - 1 := by
      have := h4 k (Nat.le_refl _)
      rw [show 270 + 15 + 3 * v = 285 + 3 * v by omega, this, show 285 + 3 * v = 270 + 14 + 3 * v + 1 by omega]; exact hmk
    have hmk1 := zmk (hb k hk)
    have hkeep : zUm g hh d ms v k = g (112 + 19 * v + 5 + k) → ∃ s' : Int32 × zM, (s'.1 = nI (k + 1) ∧ zF (fun a j => (a = 285 + 3 * v) ∧ j < 7) S0 s'.2 ∧ (∀ c : Nat, c < k + 1 → zi s'.2 (285 + 3 * v) c = if zUm g hh d ms v c = 0 then -128 else zUm g hh d ms v c - 1) ∧ ∀ c : Nat, k + 1 ≤ c → zi s'.2 (285 + 3 * v) c = zi S0 (285 + 3 * v) c) ∧ f_X9_moveUp_L24 270 hh (nI d) ms (nI v) S0 K f (nI (k + 1)) S = f_X9_moveUp_L24 270 hh (nI d) ms (nI v) S0 K f s'.1 s'.2 := by
      intro hz
      refine ⟨(nI (k + 1), S), ⟨rfl, h2, fun c hc => ?_, fun c hc => h4 c (by omega)⟩, rfl⟩
      by_cases hck : c = k
      · subst hck
        dsimp only
        rw [hz, show 285 + 3 * v = 270 + 15 + 3 * v by omega]
        exact ev
      · exact h3 c (by omega)
    have hput : ∀ w : Int32, zUm g hh d ms v k = w + 1 → ¬ w + 1 = 0 → ∃ s' : Int32 × zM, (s'.1 = nI (k + 1) ∧ zF (fun a j => (a = 285 + 3 * v) ∧ j < 7) S0 s'.2 ∧ (∀ c : Nat, c < k + 1 → zi s'.2 (285 + 3 * v) c = if zUm g hh d ms v c = 0 then -128 else zUm g hh d ms v c - 1) ∧ ∀ c : Nat, k + 1 ≤ c → zi s'.2 (285 + 3 * v) c = zi S0 (285 + 3 * v) c) ∧ f_X9_moveUp_L24 270 hh (nI d) ms (nI v) S0 K f (nI (k + 1)) (zpI S (270 + 15 + 3 * v) k w) = f_X9_moveUp_L24 270 hh (nI d) ms (nI v) S0 K f s'.1 s'.2 := by
      intro w hz hw
      refine ⟨(nI (k + 1), zpI S (270 + 15 + 3 * v) k w), ⟨rfl, zF.pI h2 ⟨by omega, hk⟩, fun c hc => ?_, fun c hc => ?_⟩, rfl⟩
      · dsimp only
        by_cases hck : c = k
        · subst hck
          rw [hz, show 285 + 3 * v = 270 + 15 + 3 * v by omega, mi_eq, if_neg hw, Int32.add_sub_cancel]
        · rw [mi_ne _ _ (by omega)]
          exact h3 c (by omega)
      · dsimp only
        rw [mi_ne _ _ (by omega)]
        exact h4 c (by omega)
    have hrun : f_X9_moveUp_L24 270 hh (nI d) ms (nI v) S0 K (f + 1) (nI k) S = if g (112 + 19 * v) = hh then (if (if zbt ms k = 0 then (0 : Int32) else 1) = 0 then f_X9_moveUp_L24 270 hh (nI d) ms (nI v) S0 K f (nI (k + 1)) S else if (if (if g (112 + 19 * v + 5 + k) = 0 then (-128 : Int32) else g (112 + 19 * v + 5 + k) - 1) = -128 then (0 : Int32) else 1) = 0 then f_X9_moveUp_L24 270 hh (nI d) ms (nI v) S0 K f (nI (k + 1)) S else if g (112 + 19 * v + 1) = nI d then f_X9_moveUp_L24 270 hh (nI d) ms (nI v) S0 K f (nI (k + 1)) (zpI S (270 + 15 + 3 * v) k 20) else f_X9_moveUp_L24 270 hh (nI d) ms (nI v) S0 K f (nI (k + 1)) (zpI S (270 + 15 + 3 * v) k 0)) else f_X9_moveUp_L24 270 hh (nI d) ms (nI v) S0 K f (nI (k + 1)) S := by
      show f_X9_moveUp_L24b 270 hh (nI d) ms (nI v) S0 K (f_X9_moveUp_L24 270 hh (nI d) ms (nI v) S0 K f) (nI k) S = _
      unfold f_X9_moveUp_L24b
      have hho : f_X11_holds ms (nI k) = if zbt ms k = 0 then (0 : Int32) else 1 := rfl
      rw [if_neg (show ¬ (7 : Int32) ≤ nI k from nI_ge hk (by decide)), r9, nI_clamp (show v < 2 ^ 31 by omega), d1, zChk_t (by omega), h2.i (by omega), f2, h2.i (by omega), f3, hho, zLet_d, x_hasMark (q1 := 270 + 15 + 3 * v) (by rw [h2.r]; exact d2) (by omega) (by rw [h2.n]; exact d4) hk, zB1_s, ev, h2.r, d2, zChk_t (by omega), h2.n, d4, zChk_t (zix hk (by omega)), zChk_t (zix hk (by omega)), nI_clamp (by omega), zLet_d, zLet_d, nI_1]
    rw [hrun]
    by_cases q0 : g (112 + 19 * v) = hh
    · rw [if_pos q0]
      rcases hms k hk with q1 | q1
      · rw [if_pos q1, if_pos rfl]
        exact hkeep (if_neg (fun z => by rw [q1] at z; exact absurd z.2.1 (by decide)))
      · rw [if_neg (show ¬ zbt ms k = 0 by rw [q1]; decide), if_neg (show ¬ (1 : Int32) = 0 by decide)]
        by_cases q2 : g (112 + 19 * v + 5 + k) = 0
        · rw [if_pos (hmk1.1.mpr q2), if_pos rfl]
          exact hkeep (if_neg (fun z => z.2.2 q2))
        · rw [if_neg (fun z => q2 (hmk1.1.mp z)), if_neg (show ¬ (1 : Int32) = 0 by decide)]
          have hU : zUm g hh d ms v k = if g (112 + 19 * v + 1) = nI d then 21 else 1 := if_pos ⟨q0, q1, q2⟩
          by_cases q3 : g (112 + 19 * v + 1) = nI d
          · rw [if_pos q3] at hU ⊢
            exact hput 20 (hU.trans (by decide)) (by decide)
          · rw [if_neg q3] at hU ⊢
            exact hput 0 (hU.trans (by decide)) (by decide)
    · rw [if_neg q0]
      exact hkeep (if_neg (fun z => q0 z.1))
  · rintro f ⟨x, S⟩ ⟨h1, h2, h3, h4⟩
    dsimp only at h1 h2 h3 h4 ⊢
    subst h1
    refine ⟨S, ?_, h2.mo (fun a j q => by unfold zWm; omega), h.setM hv (h2.mo (fun a j q => ⟨by omega, q.2⟩)) (fun c hc => ?_) (fun c hc => ?_)⟩
    · show f_X9_moveUp_L24b 270 hh (nI d) ms (nI v) S0 K (f_X9_moveUp_L24 270 hh (nI d) ms (nI v) S0 K f) (nI 7) S = _
      unfold f_X9_moveUp_L24b
      rw [if_pos (show (7 : Int32) ≤ nI 7 from Int32.le_refl _)]
    · rw [show 270 + 15 + 3 * v = 285 + 3 * v by omega]
      exact h3 c hc
    · have := (hD c hc).2
      rw [h2.i (by omega), show 270 + 16 + 3 * v = 270 + 14 + 3 * v + 2 by omega]
      exact this
theorem x_moveUp {S0 : zM} {nd nj nv d : Nat} {g : Nat → Int32} {hh ms : Int32} (h : zCx S0 270 g nd nj nv) (hz : zBz g nd nj nv) (hms : ∀ c : Nat, c < 7 → zbt ms c = 0 ∨ zbt ms c = 1) {n : Nat} (hn : 40 < n) : ∃ S1 : zM, f_X9_moveUp n S0 270 hh (nI d) ms = some S1 ∧ zF zWm S0 S1 ∧ zCx S1 270 (zIm (zUp g hh d ms) g nv) nd nj nv := by
  have b3 := h.2.2.2.1.2.2.1
  unfold f_X9_moveUp
  rw [zLet_d]
  refine zloopR (fun f (s : Int32 × zM) => f_X9_moveUp_L3 n 270 hh (nI d) ms (fun S1 => some S1) f s.1 s.2) (fun k s => s.1 = nI k ∧ zF zWm S0 s.2 ∧ zCx s.2 270 (zIm (zUp g hh d ms) g k) nd nj nv) nv (fun o => ∃ S1 : zM, o = some S1 ∧ zF zWm S0 S1 ∧ zCx S1 270 (zIm (zUp g hh d ms) g nv) nd nj nv) ?_ ?_ n (0, S0) (by omega) ⟨rfl, zF.rf, h⟩
  · rintro k f ⟨x, S⟩ hk ⟨h1, h2, h3⟩
    dsimp only at h1 h2 h3
    subst h1
    have r9 : zr S 270 9 = 280 := h3.2.1.1.2.2.2.2.2.2.1
    have l10 : zln S 280 = 40 := h3.2.1.2.2.1.2.2.2.2.2.2.2.2.1
    have eg : ∀ i : Nat, 112 + 19 * k ≤ i → zIm (zUp g hh d ms) g k i = g i := fun i hi => zIm_o k (fun v hv => by omega)
    have h6 := (hz.2.2.2.2.2.2 k hk).2.2.2.2.2.1
    obtain ⟨T, t1, t2, t3⟩ := x_moveD (hh := hh) (d := d) (ms := ms) (K := fun S14 => f_X9_moveUp_L3 n 270 hh (nI d) ms (fun S1 => some S1) f (nI k + 1) S14) h3 hk (fun c hc => by rw [eg _ (by omega)]; exact (h6 c hc).1) hms hn
    have hset : zSetM (zIm (zUp g hh d ms) g k) (112 + 19 * k) (zUp (zIm (zUp g hh d ms) g k) hh d ms k).1 (zUp (zIm (zUp g hh d ms) g k) hh d ms k).2 = zIm (zUp g hh d ms) g (k + 1) :=
      zSetM_f (fun c hc => ⟨by
        show zUm (zIm (zUp g hh d ms) g k) hh d ms k c = zUm g hh d ms k c
        unfold zUm
        rw [eg _ (by omega), eg _ (by omega), eg _ (by omega)], eg _ (by omega)⟩)
    rw [hset] at t3
    refine ⟨(nI (k + 1), T), ⟨rfl, h2.tr t2, t3⟩, ?_⟩
    show f_X9_moveUp_L3b n 270 hh (nI d) ms (fun S1 => some S1) (f_X9_moveUp_L3 n 270 hh (nI d) ms (fun S1 => some S1) f) (nI k) S = _
    unfold f_X9_moveUp_L3b
    rw [h3.n.2.2.2, if_neg (nI_ge hk (by omega)), r9, zChk_t (by decide), l10, zChk_t (zix (by omega) (by omega)), zLet_d, t1, nI_1]
  · rintro f ⟨x, S⟩ ⟨h1, h2, h3⟩
    dsimp only at h1 h2 h3 ⊢
    subst h1
    refine ⟨S, ?_, h2, h3⟩
    show f_X9_moveUp_L3b n 270 hh (nI d) ms (fun S1 => some S1) (f_X9_moveUp_L3 n 270 hh (nI d) ms (fun S1 => some S1) f) (nI nv) S = _
    unfold f_X9_moveUp_L3b
    rw [h3.n.2.2.2, if_pos (Int32.le_refl _)]
