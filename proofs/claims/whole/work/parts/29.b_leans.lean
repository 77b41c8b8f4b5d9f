/-! leans taken off -/
def zNl (g : Nat → Int32) (v c : Nat) : Int32 := if g (112 + 19 * v + 5 + c) = 0 then 0 else if g (112 + 19 * v + 12 + c) = 0 then g (112 + 19 * v + 5 + c) else zmax 0 (g (112 + 19 * v + 5 + c) - 1 - zLn g v ((g (112 + 19 * v + 12 + c)).toNatClampNeg - 1)) + 1
def zLf (g : Nat → Int32) (v : Nat) : (Nat → Int32) × (Nat → Int32) := (zNl g v, fun c => g (112 + 19 * v + 12 + c))
theorem zmx : ∀ m : Nat, m < 21 → ∀ l : Nat, l < 10 → zmax 0 (nI m - nI l) = nI (m - l) ∧ (if 0 ≤ nI m - nI l then nI m - nI l else 0) = nI (m - l) := by decide +kernel
theorem zLn_b {g : Nat → Int32} {nd nj nv v j : Nat} (hB : zBs g nd nj nv) (hj : j < nj) : ∃ l : Nat, l < 10 ∧ zLn g v j = nI l := by
  unfold zLn
  split
  · exact (hB.2.2.1 j hj).2.2.1.k
  · exact ⟨0, by omega, rfl⟩
theorem zNl_k {g : Nat → Int32} {nd nj nv v c : Nat} (hB : zBs g nd nj nv) (h1 : zU (g (112 + 19 * v + 5 + c)) 22) (h2 : zU (g (112 + 19 * v + 12 + c)) (nj + 1)) (q1 : ¬ g (112 + 19 * v + 5 + c) = 0) (q2 : ¬ g (112 + 19 * v + 12 + c) = 0) : ∃ m l : Nat, m < 21 ∧ l < 10 ∧ (g (112 + 19 * v + 12 + c)).toNatClampNeg - 1 < nj ∧ g (112 + 19 * v + 12 + c) - 1 = nI ((g (112 + 19 * v + 12 + c)).toNatClampNeg - 1) ∧ g (112 + 19 * v + 5 + c) - 1 = nI m ∧ zLn g v ((g (112 + 19 * v + 12 + c)).toNatClampNeg - 1) = nI l ∧ zNl g v c = nI (m - l + 1) := by
  have b2 := hB.1.2.1
  obtain ⟨m, hm, em⟩ := h1.k
  obtain ⟨a, ha, ea⟩ := h2.k
  have hm0 : ¬ m = 0 := fun z => q1 (by rw [em, z]; rfl)
  have ha0 : ¬ a = 0 := fun z => q2 (by rw [ea, z]; rfl)
  have hcl : (g (112 + 19 * v + 12 + c)).toNatClampNeg - 1 = a - 1 := by rw [ea, nI_clamp (by omega)]
  obtain ⟨l, hl, el⟩ := zLn_b (v := v) hB (show a - 1 < nj by omega)
  have em1 : g (112 + 19 * v + 5 + c) - 1 = nI (m - 1) := by rw [em, show (1 : Int32) = nI 1 from rfl, nI_sub (by omega)]
  have ea1 : g (112 + 19 * v + 12 + c) - 1 = nI (a - 1) := by rw [ea, show (1 : Int32) = nI 1 from rfl, nI_sub (by omega)]
  refine ⟨m - 1, l, by omega, hl, by omega, by rw [hcl]; exact ea1, em1, by rw [hcl]; exact el, ?_⟩
  unfold zNl
  rw [if_neg q1, if_neg q2, hcl, el, em1, (zmx (m - 1) (by omega) l hl).1, nI_1]
theorem x_leansD {S0 : zM} {nd nj nv v : Nat} {g : Nat → Int32} {K : zM → Option zM} (h : zCx S0 270 g nd nj nv) (hv : v < nv) (hb : ∀ c : Nat, c < 7 → zU (g (112 + 19 * v + 5 + c)) 22 ∧ zU (g (112 + 19 * v + 12 + c)) (nj + 1)) {n : Nat} (hn : 40 < n) : ∃ S1 : zM, f_X9_takeLeansOff_L19 270 (nI v) S0 K n 0 S0 = K S1 ∧ zF zWm S0 S1 ∧ zCx S1 270 (zSetM g (112 + 19 * v) (zLf g v).1 (zLf g v).2) nd nj nv := by
  obtain ⟨⟨b1, b2, b3⟩, e5, e6, e7⟩ := h.n
  have hB := h.2.2.2
  have r9 : zr S0 270 9 = 280 := h.2.1.1.2.2.2.2.2.2.1
  obtain ⟨d1, d2, d3, d4, d5⟩ := h.2.1.2.2.2 v (by omega)
  obtain ⟨f2, f3, f4, f5, f6, hD⟩ := h.d hv
  obtain ⟨d, hd, ed⟩ := (hB.2.2.2.2.2.2 v hv).2.1.k
  have hdn : zDn g v = d := by unfold zDn; rw [ed]; exact nI_clamp (by omega)
  refine zloopR (fun f (s : Int32 × zM) => f_X9_takeLeansOff_L19 270 (nI v) S0 K f s.1 s.2) (fun k s => s.1 = nI k ∧ zF (fun a j => (a = 285 + 3 * v) ∧ j < 7) S0 s.2 ∧ (∀ c : Nat, c < k → zi s.2 (285 + 3 * v) c = if zNl g v c = 0 then -128 else zNl g v c - 1) ∧ ∀ c : Nat, k ≤ c → zi s.2 (285 + 3 * v) c = zi S0 (285 + 3 * v) c) 7 (fun o => ∃ S1 : zM, o = K S1 ∧ zF zWm S0 S1 ∧ zCx S1 270 (zSetM g (112 + 19 * v) (zLf g v).1 (zLf g v).2) nd nj nv) ?_ ?_ n (0, S0) (by omega) ⟨rfl, zF.rf, fun c hc => absurd hc (Nat.not_lt_zero _), fun c _ => rfl⟩
  · rintro k f ⟨x, S⟩ hk ⟨h1, h2, h3, h4⟩
    dsimp only at h1 h2 h3 h4
    subst h1
    have hmk := (hD k hk).1
    have hwk := (hD k hk).2
    have hL : zLayS (zr S) (zln S) 270 := by rw [h2.r, h2.n]; exact h.2.1
    have e6' : zi S 270 6 = nI nj := by rw [h2.i (by omega)]; exact e6
    have ew : zi S (270 + 16 + 3 * v) k = g (112 + 19 * v + 12 + k) - 1 := by rw [h2.i (by omega), show 270 + 16 + 3 * v = 270 + 14 + 3 * v + 2 by omega]; exact hwk
    have ev : zi S (270 + 15 + 3 * v) k = if g (112 + 19 * v + 5 + k) = 0 then -128 else g (112 + 19 * v + 5 + k) - 1 := by
      have := h4 k (Nat.le_refl _)
      rw [show 270 + 15 + 3 * v = 285 + 3 * v by omega, this, show 285 + 3 * v = 270 + 14 + 3 * v + 1 by omega]; exact hmk
    have hmk1 := zmk (hb k hk).1
    have hkeep : zNl g v k = g (112 + 19 * v + 5 + k) → ∃ s' : Int32 × zM, (s'.1 = nI (k + 1) ∧ zF (fun a j => (a = 285 + 3 * v) ∧ j < 7) S0 s'.2 ∧ (∀ c : Nat, c < k + 1 → zi s'.2 (285 + 3 * v) c = if zNl g v c = 0 then -128 else zNl g v c - 1) ∧ ∀ c : Nat, k + 1 ≤ c → zi s'.2 (285 + 3 * v) c = zi S0 (285 + 3 * v) c) ∧ f_X9_takeLeansOff_L19 270 (nI v) S0 K f (nI (k + 1)) S = f_X9_takeLeansOff_L19 270 (nI v) S0 K f s'.1 s'.2 := by
      intro hz
      refine ⟨(nI (k + 1), S), ⟨rfl, h2, fun c hc => ?_, fun c hc => h4 c (by omega)⟩, rfl⟩
      by_cases hck : c = k
      · subst hck
        dsimp only
        rw [hz, show 285 + 3 * v = 270 + 15 + 3 * v by omega]
        exact ev
      · exact h3 c (by omega)
    have hrun : f_X9_takeLeansOff_L19 270 (nI v) S0 K (f + 1) (nI k) S = zB1 (f_X9_judgeAt S 270 (g (112 + 19 * v + 12 + k) - 1)) (fun r29 => if r29 = 0 then f_X9_takeLeansOff_L19 270 (nI v) S0 K f (nI (k + 1)) S else zB1 (f_X1_hasMark S (270 + 14 + 3 * v) (nI k)) (fun r35 => if r35 = 0 then f_X9_takeLeansOff_L19 270 (nI v) S0 K f (nI (k + 1)) S else zLet (f_X2_leanTo S r29 (g (2 * d))) (fun r48 => f_X9_takeLeansOff_L19 270 (nI v) S0 K f (nI (k + 1)) (zpI S (270 + 15 + 3 * v) k (zmax 0 ((if g (112 + 19 * v + 5 + k) = 0 then -128 else g (112 + 19 * v + 5 + k) - 1) - r48)))))) := by
      show f_X9_takeLeansOff_L19b 270 (nI v) S0 K (f_X9_takeLeansOff_L19 270 (nI v) S0 K f) (nI k) S = _
      unfold f_X9_takeLeansOff_L19b
      rw [if_neg (show ¬ (7 : Int32) ≤ nI k from nI_ge hk (by decide)), r9, nI_clamp (show v < 2 ^ 31 by omega), d1, h2.r, h2.n, zChk_t (by omega), d3, d2, d4, d5, zChk_t (by omega), zChk_t (zix hk (by omega)), nI_clamp (by omega), ew, x_landOf (d := d) (nd := nd) (g := g) hL b1 (by rw [h2.i (by omega)]; exact e5) (fun i hi => by rw [h2.i (by omega), h2.i (by omega)]; exact h.2.2.1.1 i hi) hd (by rw [h2.i (by omega), f3]; exact ed)]
      simp only [zB1_s, nLet, nI_1, ev, zChk_t (show ¬ 270 + 15 + 3 * v = 0 by omega), zChk_t (zixc (show k < 7 from hk) (by omega))]
    rw [hrun]
    by_cases q2 : g (112 + 19 * v + 12 + k) = 0
    · rw [q2, x_judgeAt0 b2 e6' (fun q => by have := q.1; revert this; decide +kernel), zB1_s, if_pos rfl]
      refine hkeep ?_
      unfold zNl
      by_cases q1 : g (112 + 19 * v + 5 + k) = 0
      · rw [if_pos q1, q1]
      · rw [if_neg q1, if_pos q2]
    · obtain ⟨a, ha, ea⟩ := (hb k hk).2.k
      have ha0 : ¬ a = 0 := fun z => q2 (by rw [ea, z]; rfl)
      have ea1 : g (112 + 19 * v + 12 + k) - 1 = nI (a - 1) := by rw [ea, show (1 : Int32) = nI 1 from rfl, nI_sub (by omega)]
      have hJ := h.j (show a - 1 < nj by omega)
      have hJ0 := hJ.1
      rw [ea1, x_judgeAt hL b2 e6' (show a - 1 < nj by omega), zB1_s, h2.r, show 270 + 9 = 279 from rfl, if_neg (show ¬ zr S0 279 (a - 1) = 0 by have : 453 ≤ zr S0 279 (a - 1) := hJ0; omega), x_hasMark (q1 := 270 + 15 + 3 * v) (by rw [h2.r]; exact d2) (by omega) (by rw [h2.n]; exact d4) hk, zB1_s, ev]
      by_cases q1 : g (112 + 19 * v + 5 + k) = 0
      · rw [if_pos (hmk1.1.mpr q1), if_pos rfl]
        refine hkeep ?_
        unfold zNl
        rw [if_pos q1, q1]
      · rw [if_neg (fun z => q1 (hmk1.1.mp z)), if_neg (show ¬ (1 : Int32) = 0 by decide), zLet_d, if_neg q1]
        obtain ⟨m, l, hm, hl, hj, ej, em, el, en⟩ := zNl_k hB (hb k hk).1 (hb k hk).2 q1 q2
        have haj : (g (112 + 19 * v + 12 + k)).toNatClampNeg - 1 = a - 1 := by rw [ea, nI_clamp (by omega)]
        rw [haj] at el
        have hlean : f_X2_leanTo S (zr S0 279 (a - 1)) (g (2 * d)) = nI l := by
          have hq : ∀ i : Nat, zi S (zr S0 279 (a - 1)) i = zi S0 (zr S0 279 (a - 1)) i := fun i => h2.i (by have : 453 ≤ zr S0 279 (a - 1) := hJ0; omega)
          obtain ⟨-, -, -, j1, j2, j3, j4⟩ := hJ
          have j1' : zi S0 (zr S0 279 (a - 1)) 1 = g (16 + 4 * (a - 1)) := j1
          have j2' : zi S0 (zr S0 279 (a - 1)) 2 = g (17 + 4 * (a - 1)) := j2
          have j3' : zi S0 (zr S0 279 (a - 1)) 3 = g (18 + 4 * (a - 1)) := j3
          have j4' : zi S0 (zr S0 279 (a - 1)) 4 = g (19 + 4 * (a - 1)) := j4
          rw [x_leanTo, hq, hq, hq, hq, j1', j2', j3', j4', ← el]
          unfold zLn
          rw [hdn]
          have hpq : ∀ (A : Int32) (P Q : Prop), (((A = 2 ∨ A = 3) ∧ P) ∨ (A = 3 ∧ Q)) ↔ ((A = 2 ∧ P) ∨ (A = 3 ∧ (P ∨ Q))) := fun A P Q => ⟨fun h => h.elim (fun z => z.1.elim (fun y => Or.inl ⟨y, z.2⟩) (fun y => Or.inr ⟨y, Or.inl z.2⟩)) (fun z => Or.inr ⟨z.1, Or.inr z.2⟩), fun h => h.elim (fun z => Or.inl ⟨Or.inl z.1, z.2⟩) (fun z => z.2.elim (fun y => Or.inl ⟨Or.inr z.1, y⟩) (fun y => Or.inr ⟨z.1, y⟩))⟩
          simp only [hpq]
        rw [hlean, em, (zmx m hm l hl).1]
        refine ⟨(nI (k + 1), zpI S (270 + 15 + 3 * v) k (nI (m - l))), ⟨rfl, zF.pI h2 ⟨by omega, hk⟩, fun c hc => ?_, fun c hc => ?_⟩, rfl⟩
        · dsimp only
          by_cases hck : c = k
          · subst hck
            rw [en, show 285 + 3 * v = 270 + 15 + 3 * v by omega, mi_eq, if_neg (nI_ne0 (by omega) (by omega)), nI_pred]
          · rw [mi_ne _ _ (by omega)]
            exact h3 c (by omega)
        · dsimp only
          rw [mi_ne _ _ (by omega)]
          exact h4 c (by omega)
  · rintro f ⟨x, S⟩ ⟨h1, h2, h3, h4⟩
    dsimp only at h1 h2 h3 h4 ⊢
    subst h1
    refine ⟨S, ?_, h2.mo (fun a j q => by unfold zWm; omega), h.setM hv (h2.mo (fun a j q => ⟨by omega, q.2⟩)) (fun c hc => ?_) (fun c hc => ?_)⟩
    · show f_X9_takeLeansOff_L19b 270 (nI v) S0 K (f_X9_takeLeansOff_L19 270 (nI v) S0 K f) (nI 7) S = _
      unfold f_X9_takeLeansOff_L19b
      rw [if_pos (show (7 : Int32) ≤ nI 7 from Int32.le_refl _)]
    · rw [show 270 + 15 + 3 * v = 285 + 3 * v by omega]
      exact h3 c hc
    · have := (hD c hc).2
      rw [h2.i (by omega), show 270 + 16 + 3 * v = 270 + 14 + 3 * v + 2 by omega]
      exact this
