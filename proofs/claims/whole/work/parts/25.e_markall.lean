/-! what a judge would mark doesn't look at marks -/
theorem zOff_c {g g1 : Nat → Int32} (e : ∀ k : Nat, 872 ≤ k → k < 878 → g1 k = g k) (fl : Int32) : zOff g1 fl 6 = zOff g fl 6 := by
  unfold zOff
  exact zSum_c (fun i hi => by rw [e (872 + i) (by omega) (by omega)])
def zNm (k : Nat) : Prop := k < 112 ∨ 872 ≤ k ∨ (k - 112) % 19 < 5
theorem zAh_c {g g1 : Nat → Int32} (e : ∀ k : Nat, zNm k → g1 k = g k) (h : Int32) : ∀ k : Nat, zAh g1 h k = zAh g h k := by
  intro k
  induction k with
  | zero => rfl
  | succ k ih =>
    show (if g1 (112 + 19 * k) = h then some k else zAh g1 h k) = if g (112 + 19 * k) = h then some k else zAh g h k
    rw [ih, e (112 + 19 * k) (by unfold zNm; omega)]
theorem zSt_c {g g1 : Nat → Int32} {nd nj nv v c : Nat} (hB : zBs g nd nj nv) (hv : v < nv) (hc : c < 7) (e : ∀ k : Nat, zNm k → g1 k = g k) : zSt g1 v c = zSt g v c := by
  obtain ⟨a, ha, ea⟩ := (hB.2.2.2.2.2.2 v hv).1.k
  unfold zSt
  rw [e (112 + 19 * v) (by unfold zNm; omega), ea, nI_clamp (by omega), e _ (by unfold zNm; omega)]
theorem zDr_c {g g1 : Nat → Int32} (e : ∀ k : Nat, zNm k → g1 k = g k) (v : Nat) : zDr g1 v = zDr g v := by
  unfold zDr
  rw [e (112 + 19 * v) (by unfold zNm; omega), zAh_c e]
  cases zAh g (g (112 + 19 * v)) v with
  | none => rfl
  | some w =>
    dsimp only
    rw [e (112 + 19 * w + 2) (by unfold zNm; omega), zOff_c (fun k h1 h2 => e k (by unfold zNm; omega))]
theorem zMk_c {g g1 : Nat → Int32} {nd nj nv v c j : Nat} (hB : zBs g nd nj nv) (hv : v < nv) (hj : j < 12) (e : ∀ k : Nat, zNm k → g1 k = g k) : zMk g1 v c j = zMk g v c j := by
  obtain ⟨d, hd, ed⟩ := (hB.2.2.2.2.2.2 v hv).2.1.k
  have hnd := hB.1.1
  have hdn : zDn g1 v = d ∧ zDn g v = d := by
    unfold zDn
    rw [e (112 + 19 * v + 1) (by unfold zNm; omega), ed, nI_clamp (by omega)]
    exact ⟨rfl, rfl⟩
  have hfr : zFr g1 v c j = zFr g v c j := by
    unfold zFr
    rw [e (112 + 19 * v + 2) (by unfold zNm; omega), e (112 + 19 * v + 3) (by unfold zNm; omega), e (16 + 4 * j) (by unfold zNm; omega), zOff_c (fun k h1 h2 => e k (by unfold zNm; omega))]
  unfold zMk
  rw [hfr, hdn.1, hdn.2, zDr_c e, e (16 + 4 * j) (by unfold zNm; omega), e (17 + 4 * j) (by unfold zNm; omega), e (18 + 4 * j) (by unfold zNm; omega), e (19 + 4 * j) (by unfold zNm; omega), e (2 * d) (by unfold zNm; omega), e (2 * d + 1) (by unfold zNm; omega)]
theorem zSj_lt {g : Nat → Int32} {nd nj nv v c : Nat} (hB : zBs g nd nj nv) (hv : v < nv) (hc : c < 7) (h : ¬ zSt g v c = 0) : zSj g v c < nj := by
  rcases zSt_k hB hv hc with h0 | h1
  · exact absurd h0 h
  · exact h1.2
theorem zWd_c {g g1 : Nat → Int32} {nd nj nv v c : Nat} (hB : zBs g nd nj nv) (hv : v < nv) (hc : c < 7) (hs : ¬ zSt g v c = 0) (e : ∀ k : Nat, zNm k → g1 k = g k) : zWd g1 v c = zWd g v c := by
  have hj12 := hB.1.2.1
  have hsj : ∀ c : Nat, c < 7 → zSj g1 v c = zSj g v c := fun c hc => by
    unfold zSj
    rw [zSt_c hB hv hc e]
  have hop : zOp g1 v = zOp g v := by
    unfold zOp
    have key : ∀ c : Nat, c < 7 → (!decide (zSt g1 v c = 0) && !decide (g1 (16 + 4 * zSj g1 v c) = 5)) = (!decide (zSt g v c = 0) && !decide (g (16 + 4 * zSj g v c) = 5)) := fun c hc => by
      rw [hsj c hc, zSt_c hB hv hc e]
      by_cases h0 : zSt g v c = 0
      · simp [h0]
      · rw [e (16 + 4 * zSj g v c) (by have := zSj_lt hB hv hc h0; unfold zNm; omega)]
    refine zGa_c key (fun c hc hp => ?_)
    rw [key c hc] at hp
    have h0 : ¬ zSt g v c = 0 := by
      intro q
      simp [q] at hp
    have hjc := zSj_lt hB hv hc h0
    rw [hsj c hc, zMk_c hB hv (by omega) e]
  have hjc := zSj_lt hB hv hc hs
  unfold zWd
  rw [hop, hsj c hc, zMk_c hB hv (by omega) e, e (16 + 4 * zSj g v c) (by unfold zNm; omega)]
theorem zBs.nm {g g1 : Nat → Int32} {nd nj nv : Nat} (h : zBs g nd nj nv) (e : ∀ k : Nat, zNm k → g1 k = g k) : zBs g1 nd nj nv := by
  obtain ⟨⟨b1, b2, b3, b4, b5, b6⟩, c1, c2, c3, c4, c5, c6⟩ := h
  refine ⟨⟨b1, b2, b3, by rw [e _ (by unfold zNm; omega)]; exact b4, by rw [e _ (by unfold zNm; omega)]; exact b5, by rw [e _ (by unfold zNm; omega)]; exact b6⟩, c1.g b1 (fun k _ => e k (by unfold zNm; omega)), c2.g b2 (fun k _ _ => e k (by unfold zNm; omega)), c3.g (fun k _ _ => e k (by unfold zNm; omega)), c4.g (fun k _ _ => e k (by unfold zNm; omega)), c5.g (fun k _ _ => e k (by unfold zNm; omega)), fun v hv => ?_⟩
  obtain ⟨d1, d2, d3, d4, d5⟩ := c6 v hv
  exact ⟨by rw [e _ (by unfold zNm; omega)]; exact d1, by rw [e _ (by unfold zNm; omega)]; exact d2, by rw [e _ (by unfold zNm; omega)]; exact d3, by rw [e _ (by unfold zNm; omega)]; exact d4, by rw [e _ (by unfold zNm; omega)]; exact d5⟩
/-- the row with dive v marked by all its hall's chairs -/
def zMm (g : Nat → Int32) (v c : Nat) : Int32 := if zSt g v c = 0 then 0 else zWd g v c + 1
def zMg (g : Nat → Int32) (v : Nat) : Nat → Int32 := zSetM g (112 + 19 * v) (zMm g v) (zSt g v)
theorem zMm_b (g : Nat → Int32) (v c : Nat) : zU (zMm g v c) 22 ∧ (zMm g v c = 0 ↔ zSt g v c = 0) ∧ (if zMm g v c = 0 then (-128 : Int32) else zMm g v c - 1) = (if zSt g v c = 0 then -128 else zWd g v c) := by
  unfold zMm
  by_cases h : zSt g v c = 0
  · rw [if_pos h, if_pos rfl, if_pos h]
    exact ⟨by decide +kernel, ⟨fun _ => h, fun _ => rfl⟩, rfl⟩
  · obtain ⟨k, hk, ek⟩ := (zWd_b g v c).k
    have h2 : ¬ nI (k + 1) = 0 := nI_ne0 (by omega) (by omega)
    rw [if_neg h, if_neg h, ek, nI_1, if_neg h2, nI_pred]
    exact ⟨zU_n (by omega) (by omega), ⟨fun q => absurd q h2, fun q => absurd q h⟩, rfl⟩
theorem zNm_t {t v k : Nat} (ht : t = 112 + 19 * v) (hk : zNm k) (hv : v < 40) : ¬ (t + 5 ≤ k ∧ k < t + 19) := by
  unfold zNm at hk
  omega
theorem zSetM_2 {g g1 M W : Nat → Int32} {t : Nat} (e : ∀ k : Nat, ¬ (t + 5 ≤ k ∧ k < t + 19) → g1 k = g k) : zSetM g1 t M W = zSetM g t M W := by
  funext k
  unfold zSetM
  by_cases h1 : t + 5 ≤ k ∧ k < t + 12
  · rw [if_pos h1, if_pos h1]
  · rw [if_neg h1, if_neg h1]
    by_cases h2 : t + 12 ≤ k ∧ k < t + 19
    · rw [if_pos h2, if_pos h2]
    · rw [if_neg h2, if_neg h2, e k (by omega)]
theorem zWd_n128 (g : Nat → Int32) (v c : Nat) : ¬ zWd g v c = -128 := by
  intro q
  have := (zWd_b g v c).1
  rw [q] at this
  exact absurd this (by decide +kernel)
theorem x_markDive {S0 : zM} {b nd nj nv v : Nat} {g : Nat → Int32} (h : zCx S0 b g nd nj nv) (hv : v < nv) {n : Nat} (hn : 40 < n) : ∃ S1 : zM, f_X9_markDive n S0 b (nI v) = some (nI (zCnt (fun c => !decide (zSt g v c = 0)) 7), S1) ∧ zF (fun a j => zPs b a j ∨ ((a = b + 15 + 3 * v ∨ a = b + 16 + 3 * v) ∧ j < 7)) S0 S1 ∧ zCx S1 b (zMg g v) nd nj nv := by
  have hb := h.1
  obtain ⟨⟨b1, b2, b3⟩, e5, e6, e7⟩ := h.n
  have hB := h.2.2.2
  unfold f_X9_markDive
  rw [x_diveAt h.2.1 b3 e7 hv, zB1_s, if_neg (by omega), zLet_d]
  refine zloopR (fun f (s : Int32 × zM) => f_X9_markDive_L14 n b (nI v) (b + 14 + 3 * v) (fun S8 => zB1 (f_X1_marksThere n S8 (b + 14 + 3 * v)) (fun r12 => some (r12, S8))) f s.1 s.2) (fun k s => s.1 = nI k ∧ zF (fun a j => zPs b a j ∨ ((a = b + 15 + 3 * v ∨ a = b + 16 + 3 * v) ∧ j < 7)) S0 s.2 ∧ (∃ g1 : Nat → Int32, (∀ i : Nat, ¬ (112 + 19 * v + 5 ≤ i ∧ i < 112 + 19 * v + 19) → g1 i = g i) ∧ zCx s.2 b g1 nd nj nv) ∧ ∀ c : Nat, c < k → zi s.2 (b + 15 + 3 * v) c = (if zMm g v c = 0 then -128 else zMm g v c - 1) ∧ zi s.2 (b + 16 + 3 * v) c = zSt g v c - 1) 7 (fun o => ∃ S1 : zM, o = some (nI (zCnt (fun c => !decide (zSt g v c = 0)) 7), S1) ∧ zF (fun a j => zPs b a j ∨ ((a = b + 15 + 3 * v ∨ a = b + 16 + 3 * v) ∧ j < 7)) S0 S1 ∧ zCx S1 b (zMg g v) nd nj nv) ?_ ?_ n (0, S0) (by omega) ⟨rfl, zF.rf, ⟨g, fun _ _ => rfl, h⟩, fun c hc => absurd hc (Nat.not_lt_zero _)⟩
  · rintro k f ⟨x, S⟩ hk ⟨h1, h2, ⟨g1, h3, h4⟩, h5⟩
    dsimp only at h1 h2 h3 h4 h5
    subst h1
    generalize (fun S8 => zB1 (f_X1_marksThere n S8 (b + 14 + 3 * v)) (fun r12 => some (r12, S8))) = K
    dsimp only
    have hnm : ∀ i : Nat, zNm i → g1 i = g i := fun i hi => h3 i (zNm_t rfl hi (by omega))
    obtain ⟨T, t1, t2⟩ := x_wouldMark h4 hv hk hn
    have hT : zCx T b g1 nd nj nv := h4.fr t2
    have est := zSt_c (c := k) hB hv hk hnm
    have hse := hT.seat hv hk
    rw [est] at hse
    obtain ⟨-, d2, d3, d4, d5⟩ := hT.2.1.2.2.2 v (by omega)
    have htl : ∀ m w : Int32, f_X1_tell T (b + 14 + 3 * v) (nI k) m w = some (zpI (zpI T (b + 15 + 3 * v) k m) (b + 16 + 3 * v) k (if m = -128 then -1 else w)) := fun m w => by
      have q := x_tell (S := T) (q := b + 14 + 3 * v) (c := k) (m := m) (w := w) (by rw [d2]; omega) (by rw [d3]; omega) (by rw [show b + 14 + 3 * v + 1 = b + 15 + 3 * v by omega]; exact d4) (by rw [show b + 14 + 3 * v + 2 = b + 16 + 3 * v by omega]; exact d5) hk
      rw [show b + 14 + 3 * v + 1 = b + 15 + 3 * v by omega, show b + 14 + 3 * v + 2 = b + 16 + 3 * v by omega] at q
      exact q
    have hMm := zMm_b g v k
    have hrun : f_X9_markDive_L14 n b (nI v) (b + 14 + 3 * v) K (f + 1) (nI k) S = f_X9_markDive_L14 n b (nI v) (b + 14 + 3 * v) K f (nI (k + 1)) (zpI (zpI T (b + 15 + 3 * v) k (if zMm g v k = 0 then -128 else zMm g v k - 1)) (b + 16 + 3 * v) k (zSt g v k - 1)) := by
      show f_X9_markDive_L14b n b (nI v) (b + 14 + 3 * v) K (f_X9_markDive_L14 n b (nI v) (b + 14 + 3 * v) K f) (nI k) S = _
      unfold f_X9_markDive_L14b
      rw [if_neg (show ¬ (7 : Int32) ≤ nI k from nI_ge hk (by decide)), t1, zB2_s, est]
      simp only [nLet, hse, nB1, htl, nI_1]
      rw [hMm.2.2]
      by_cases h0 : zSt g v k = 0
      · rw [if_pos h0, if_pos rfl, if_pos h0, if_pos trivial, h0]
        rfl
      · rw [if_neg h0, if_neg h0, zWd_c hB hv hk h0 hnm, if_neg (zU_n4 (zWd_b g v k)), if_neg (zWd_n128 g v k)]
    refine ⟨(nI (k + 1), zpI (zpI T (b + 15 + 3 * v) k (if zMm g v k = 0 then -128 else zMm g v k - 1)) (b + 16 + 3 * v) k (zSt g v k - 1)), ⟨rfl, ?_, ?_, fun c hc => ?_⟩, hrun⟩
    · exact zF.pI (zF.pI (h2.tr (t2.mo (fun a j q => Or.inl q))) (Or.inr ⟨Or.inl rfl, hk⟩)) (Or.inr ⟨Or.inr rfl, hk⟩)
    · refine ⟨zSetM g1 (112 + 19 * v) (fun c => if c = k then zMm g v k else g1 (112 + 19 * v + 5 + c)) (fun c => if c = k then zSt g v k else g1 (112 + 19 * v + 12 + c)), fun i hi => (zSetM_o hi).trans (h3 i hi), ?_⟩
      obtain ⟨u1, u2, u3, u4⟩ := hT
      have hD := zCx.d (S := T) (b := b) (g := g1) ⟨u1, u2, u3, u4⟩ hv
      have f2 : zF (fun a j => (a = b + 15 + 3 * v ∨ a = b + 16 + 3 * v) ∧ j < 7) T (zpI (zpI T (b + 15 + 3 * v) k (if zMm g v k = 0 then -128 else zMm g v k - 1)) (b + 16 + 3 * v) k (zSt g v k - 1)) := zF.pI (zF.pI zF.rf ⟨Or.inl rfl, hk⟩) ⟨Or.inr rfl, hk⟩
      refine ⟨u1, u2, u3.setM (by omega) (by omega) f2 (fun c hc => ?_) (fun c hc => ?_), u4.nm (fun i hi => zSetM_o (zNm_t rfl hi (by omega)))⟩
      · by_cases hck : c = k
        · subst hck
          rw [mi_ne _ _ (by omega), mi_eq, if_pos rfl]
        · rw [mi_ne _ _ (by omega), mi_ne _ _ (by omega), if_neg hck]
          have := (hD.2.2.2.2.2 c hc).1
          rw [show b + 14 + 3 * v + 1 = b + 15 + 3 * v by omega] at this
          exact this
      · by_cases hck : c = k
        · subst hck
          rw [mi_eq, if_pos rfl]
        · rw [mi_ne _ _ (by omega), mi_ne _ _ (by omega), if_neg hck]
          have := (hD.2.2.2.2.2 c hc).2
          rw [show b + 14 + 3 * v + 2 = b + 16 + 3 * v by omega] at this
          exact this
    · dsimp only
      by_cases hck : c = k
      · subst hck
        rw [mi_eq, mi_ne _ _ (by omega), mi_eq]
        exact ⟨rfl, rfl⟩
      · rw [mi_ne _ _ (by omega), mi_ne _ _ (by omega), mi_ne _ _ (by omega), mi_ne _ _ (by omega), t2.i (by unfold zPs; omega), t2.i (by unfold zPs; omega)]
        exact h5 c (by omega)
  · rintro f ⟨x, S⟩ ⟨h1, h2, ⟨g1, h3, h4⟩, h5⟩
    dsimp only at h1 h2 h3 h4 h5 ⊢
    subst h1
    obtain ⟨u1, u2, u3, u4⟩ := h4
    obtain ⟨-, d2, d3, d4, d5⟩ := u2.2.2.2 v (by omega)
    have hnm : ∀ i : Nat, zNm i → g1 i = g i := fun i hi => h3 i (zNm_t rfl hi (by omega))
    refine ⟨S, ?_, h2, u1, u2, ?_, ?_⟩
    · generalize hK : (fun S8 => zB1 (f_X1_marksThere n S8 (b + 14 + 3 * v)) (fun r12 => some (r12, S8))) = K
      show f_X9_markDive_L14b n b (nI v) (b + 14 + 3 * v) K (f_X9_markDive_L14 n b (nI v) (b + 14 + 3 * v) K f) (nI 7) S = _
      unfold f_X9_markDive_L14b
      rw [if_pos (show (7 : Int32) ≤ nI 7 from Int32.le_refl _), ← hK]
      dsimp only
      rw [x_marksThere d2 (by omega) d4 (by omega), zB1_s, zCnt_c (q := fun c => !decide (zSt g v c = 0)) (fun c hc => ?_)]
      have hMm := zMm_b g v c
      rw [(h5 c hc).1]
      have := (zmk hMm.1).1
      by_cases h0 : zSt g v c = 0
      · rw [if_pos (hMm.2.1.mpr h0)]
        simp [h0]
      · have h9 : ¬ (if zMm g v c = 0 then (-128 : Int32) else zMm g v c - 1) = -128 := fun q => h0 (hMm.2.1.mp (this.mp q))
        simp only [h9, h0, not_false_eq_true, decide_true, decide_false, Bool.not_false]
    · unfold zMg
      rw [← zSetM_2 (g := g) (g1 := g1) h3]
      exact u3.setM (by omega) (by omega) zF.rf (fun c hc => (h5 c hc).1) (fun c hc => (h5 c hc).2)
    · exact (u4.nm (g1 := g) (fun i hi => (hnm i hi).symm)).nm (fun i hi => zSetM_o (zNm_t rfl hi (by omega)))
