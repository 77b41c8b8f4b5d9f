/-! the start: a rule, a State -/
theorem x_appI {S : zM} {q j : Nat} {v : Int32} (r3 : zr S q 3 = q + 2) (l3 : zln S (q + 2) = 120) (e : zi S q 4 = nI j) (hj : j < 120) : ∃ S1 : zM, f_X6_append S q v = some S1 ∧ zF (fun a k => (a = q + 2 ∧ k = j) ∨ (a = q ∧ k = 4)) S S1 ∧ zi S1 q 4 = nI (j + 1) ∧ zi S1 (q + 2) j = v ∧ zr S1 q 3 = q + 2 ∧ zln S1 (q + 2) = 120 := by
  refine ⟨zpI (zpI S (q + 2) j v) q 4 (nI (j + 1)), ?_, (zF_pI (Or.inl ⟨rfl, rfl⟩)).tr (zF_pI (Or.inr ⟨rfl, rfl⟩)), mi_eq _ _ _ _, by rw [mi_ne _ _ (by omega), mi_eq], r3, l3⟩
  unfold f_X6_append
  rw [e, if_neg (show ¬ (120 : Int32) ≤ nI j from nI_ge (b := 120) hj (by omega)), r3, zChk_t (by omega), l3, zChk_t (zix (by omega) (by omega)), nI_clamp (by omega), zLet_d, mi_ne _ _ (by omega), e, nI_1, zLet_d]
def zCd0 : List Int32 := [-115, -104, -42, 10, -47]
/-- a rule as it is made -/
def zQ6 (S : zM) (q : Nat) : Prop := (zr S q 0 = q + 1 ∧ zr S q 3 = q + 2 ∧ zr S q 5 = q + 3) ∧ (zln S (q + 1) = 6 ∧ zln S (q + 2) = 120 ∧ zln S (q + 3) = 120) ∧ (∀ p : Nat, p < 6 → zi S (q + 1) p = 2) ∧ (zi S q 1 = 1 ∧ zi S q 2 = 1 ∧ zi S q 4 = nI 5) ∧ ∀ k : Nat, k < 5 → zCd0[k]? = some (zi S (q + 2) k)
theorem zQ6.fr {S S1 : zM} {q a0 lo : Nat} (h : zQ6 S q) (f : zGw a0 lo S S1) (hz : q + 3 < zsz S) (ha : ¬ (q ≤ a0 ∧ a0 ≤ q + 3)) : zQ6 S1 q := by
  obtain ⟨⟨h1, h2, h3⟩, ⟨h4, h5, h6⟩, h7, ⟨h8, h9, h10⟩, h11⟩ := h
  exact ⟨⟨by rw [f.r (by omega) (by omega)]; exact h1, by rw [f.r (by omega) (by omega)]; exact h2, by rw [f.r (by omega) (by omega)]; exact h3⟩, ⟨by rw [f.n (by omega)]; exact h4, by rw [f.n (by omega)]; exact h5, by rw [f.n (by omega)]; exact h6⟩, fun p hp => by rw [f.i (by omega) (by omega)]; exact h7 p hp, ⟨by rw [f.i (by omega) (by omega)]; exact h8, by rw [f.i (by omega) (by omega)]; exact h9, by rw [f.i (by omega) (by omega)]; exact h10⟩, fun k hk => by rw [f.i (by omega) (by omega)]; exact h11 k hk⟩
theorem zQ6.zf {S S1 : zM} {q : Nat} {W : Nat → Nat → Prop} (h : zQ6 S q) (f : zF W S S1) (hW : ∀ a k : Nat, W a k → ¬ (q ≤ a ∧ a ≤ q + 3)) : zQ6 S1 q := by
  obtain ⟨⟨h1, h2, h3⟩, ⟨h4, h5, h6⟩, h7, ⟨h8, h9, h10⟩, h11⟩ := h
  have e : ∀ a k : Nat, q ≤ a → a ≤ q + 3 → zi S1 a k = zi S a k := fun a k h1 h2 => f.i (fun q => hW a k q ⟨h1, h2⟩)
  exact ⟨⟨by rw [f.r]; exact h1, by rw [f.r]; exact h2, by rw [f.r]; exact h3⟩, ⟨by rw [f.n]; exact h4, by rw [f.n]; exact h5, by rw [f.n]; exact h6⟩, fun p hp => by rw [e _ _ (by omega) (by omega)]; exact h7 p hp, ⟨by rw [e _ _ (by omega) (by omega)]; exact h8, by rw [e _ _ (by omega) (by omega)]; exact h9, by rw [e _ _ (by omega) (by omega)]; exact h10⟩, fun k hk => by rw [e _ _ (by omega) (by omega)]; exact h11 k hk⟩
theorem x6_offL {S0 : zM} {q : Nat} {K : zM → Option zM} (r0 : zr S0 q 0 = q + 1) (l0 : zln S0 (q + 1) = 6) {n : Nat} (hn : 6 < n) : ∃ S1 : zM, f_X6_init_L40 q K n 0 S0 = K S1 ∧ zF (fun a _ => a = q + 1) S0 S1 ∧ ∀ p : Nat, p < 6 → zi S1 (q + 1) p = 2 := by
  refine zloopR (fun f (s : Int32 × zM) => f_X6_init_L40 q K f s.1 s.2) (fun c s => s.1 = nI c ∧ zF (fun a _ => a = q + 1) S0 s.2 ∧ ∀ p : Nat, p < c → zi s.2 (q + 1) p = 2) 6 (fun o => ∃ S1 : zM, o = K S1 ∧ zF (fun a _ => a = q + 1) S0 S1 ∧ ∀ p : Nat, p < 6 → zi S1 (q + 1) p = 2) ?_ ?_ n (0, S0) (by omega) ⟨rfl, zF.rf, fun j hj => absurd hj (Nat.not_lt_zero _)⟩
  · rintro c f ⟨y, S⟩ hc ⟨i1, i2, i3⟩
    dsimp only at i1 i2 i3
    subst i1
    refine ⟨(nI (c + 1), zpI S (q + 1) c 2), ⟨rfl, zF.pI i2 rfl, fun k hk => ?_⟩, ?_⟩
    · dsimp only
      by_cases e : k = c
      · rw [e, mi_eq]
      · rw [mi_ne _ _ (by omega)]
        exact i3 k (by omega)
    · show f_X6_init_L40b q K (f_X6_init_L40 q K f) (nI c) S = _
      unfold f_X6_init_L40b
      rw [if_neg (show ¬ (6 : Int32) ≤ nI c from nI_ge (b := 6) hc (by omega)), i2.r, r0, zChk_t (by omega), i2.n, l0, zChk_t (zix (by omega) (by omega)), nI_clamp (show c < 2 ^ 31 by omega), zLet_d, nI_1]
  · rintro f ⟨y, S⟩ ⟨i1, i2, i3⟩
    dsimp only at i1 i2 i3 ⊢
    subst i1
    refine ⟨S, ?_, i2, i3⟩
    show f_X6_init_L40b q K (f_X6_init_L40 q K f) (nI 6) S = _
    unfold f_X6_init_L40b
    rw [if_pos (show (6 : Int32) ≤ nI 6 by decide)]
theorem x6_app5 {E : zM} {q : Nat} (r3 : zr E q 3 = q + 2) (l3 : zln E (q + 2) = 120) (e : zi E q 4 = nI 0) : ∃ S1 : zM, zB1 (f_X6_append E q (-115 : Int32)) (fun S49 => zB1 (f_X6_append S49 q (-104 : Int32)) (fun S55 => zB1 (f_X6_append S55 q (-42 : Int32)) (fun S61 => zB1 (f_X6_append S61 q (10 : Int32)) (fun S67 => zB1 (f_X6_append S67 q (-47 : Int32)) (fun S73 => some S73))))) = some S1 ∧ zF (fun a k => a = q + 2 ∨ (a = q ∧ k = 4)) E S1 ∧ zi S1 q 4 = nI 5 ∧ (zi S1 (q + 2) 0 = -115 ∧ zi S1 (q + 2) 1 = -104 ∧ zi S1 (q + 2) 2 = -42 ∧ zi S1 (q + 2) 3 = 10 ∧ zi S1 (q + 2) 4 = -47) := by
  obtain ⟨E1, u1, u2, u3, u4, u5, u6⟩ := x_appI (S := E) (j := 0) (v := -115) r3 l3 e (by omega)
  rw [u1, zB1_s]
  obtain ⟨E2, v1, v2, v3, v4, v5, v6⟩ := x_appI (S := E1) (j := 1) (v := -104) u5 u6 u3 (by omega)
  rw [v1, zB1_s]
  obtain ⟨E3, w1, w2, w3, w4, w5, w6⟩ := x_appI (S := E2) (j := 2) (v := -42) v5 v6 v3 (by omega)
  rw [w1, zB1_s]
  obtain ⟨E4, y1, y2, y3, y4, y5, y6⟩ := x_appI (S := E3) (j := 3) (v := 10) w5 w6 w3 (by omega)
  rw [y1, zB1_s]
  obtain ⟨E5, z1, z2, z3, z4, z5, z6⟩ := x_appI (S := E4) (j := 4) (v := -47) y5 y6 y3 (by omega)
  rw [z1, zB1_s]
  have F : zF (fun a k => a = q + 2 ∨ (a = q ∧ k = 4)) E E5 := ((((u2.mo (fun a k h => by omega)).tr (v2.mo (fun a k h => by omega))).tr (w2.mo (fun a k h => by omega))).tr (y2.mo (fun a k h => by omega))).tr (z2.mo (fun a k h => by omega))
  refine ⟨E5, rfl, F, z3, ?_, ?_, ?_, ?_, ?_⟩
  · rw [z2.i (by omega), y2.i (by omega), w2.i (by omega), v2.i (by omega), u4]
  · rw [z2.i (by omega), y2.i (by omega), w2.i (by omega), v4]
  · rw [z2.i (by omega), y2.i (by omega), w4]
  · rw [z2.i (by omega), y4]
  · rw [z4]
theorem x6_init {S : zM} {q n : Nat} (e : zsz S = q + 1) (h4 : zi S q 4 = 0) (hn : 6 < n) : ∃ S1 : zM, f_X6_init n S q = some S1 ∧ zsz S1 = q + 4 ∧ zGw q 0 S S1 ∧ zQ6 S1 q := by
  unfold f_X6_init
  refine zal_k (P := fun o => ∃ S1 : zM, o = some S1 ∧ zsz S1 = q + 4 ∧ zGw q 0 S S1 ∧ zQ6 S1 q) e (by omega) ?_
  rintro A ⟨a1, a2, a3, a4, a5, a6⟩
  rw [zLet_d, zLet_d]
  have gA : zGw q 1 A (zpI (zpI A q 1 1) q 2 1) := (zGw.rf.pI (Or.inl ⟨rfl, by omega⟩)).pI (Or.inl ⟨rfl, by omega⟩)
  have e1 : zi (zpI (zpI A q 1 1) q 2 1) q 1 = 1 := by rw [mi_ne _ _ (by omega), mi_eq]
  have e2 : zi (zpI (zpI A q 1 1) q 2 1) q 2 = 1 := mi_eq _ _ _ _
  have sB : zsz (zpI (zpI A q 1 1) q 2 1) = q + 2 := a1
  have e4 : zi (zpI (zpI A q 1 1) q 2 1) q 4 = zi A q 4 := by rw [mi_ne _ _ (by omega), mi_ne _ _ (by omega)]
  generalize zpI (zpI A q 1 1) q 2 1 = B at gA e1 e2 e4 sB ⊢
  refine zal_k (P := fun o => ∃ S1 : zM, o = some S1 ∧ zsz S1 = q + 4 ∧ zGw q 0 S S1 ∧ zQ6 S1 q) sB (by omega) ?_
  rintro C ⟨c1, c2, c3, c4, c5, c6⟩
  refine zal_k (P := fun o => ∃ S1 : zM, o = some S1 ∧ zsz S1 = q + 4 ∧ zGw q 0 S S1 ∧ zQ6 S1 q) c1 (by omega) ?_
  rintro D ⟨d1, d2, d3, d4, d5, d6⟩
  have gCD : zGw q 5 C D := d5
  have gBD : zGw q 3 B D := c5.tr gCD (by omega)
  have gAD : zGw q 1 A D := gA.tr gBD (by omega)
  have gSD : zGw q 0 S D := a5.tr gAD (by omega)
  have r0 : zr D q 0 = q + 1 := by rw [gAD.r (by omega) (by omega)]; exact a2
  have l0 : zln D (q + 1) = 6 := by rw [gAD.n (by omega)]; exact a3
  have r3 : zr D q 3 = q + 2 := by rw [gCD.r (by omega) (by omega)]; exact c2
  have l3 : zln D (q + 2) = 120 := by rw [gCD.n (by omega)]; exact c3
  have f1 : zi D q 1 = 1 := by rw [gBD.i (by omega) (by omega)]; exact e1
  have f2 : zi D q 2 = 1 := by rw [gBD.i (by omega) (by omega)]; exact e2
  have hD4 : zi D q 4 = nI 0 := by
    rw [d6 q 4 (by omega), c6 q 4 (by omega), e4, a6 q 4 (by omega), h4]
    rfl
  rw [zLet_d]
  obtain ⟨E, x1, x2, x3⟩ := x6_offL (S0 := D) (K := fun S45 => zB1 (f_X6_append S45 q (-115 : Int32)) (fun S49 => zB1 (f_X6_append S49 q (-104 : Int32)) (fun S55 => zB1 (f_X6_append S55 q (-42 : Int32)) (fun S61 => zB1 (f_X6_append S61 q (10 : Int32)) (fun S67 => zB1 (f_X6_append S67 q (-47 : Int32)) (fun S73 => some S73)))))) r0 l0 (n := n) hn
  rw [x1]
  have rE : ∀ a k : Nat, zr E a k = zr D a k := fun a k => by rw [x2.r]
  have lE : ∀ a : Nat, zln E a = zln D a := fun a => by rw [x2.n]
  have iE : ∀ a k : Nat, ¬ a = q + 1 → zi E a k = zi D a k := fun a k h => x2.i h
  have g0 : zGw q 0 S E := gSD.f x2 (fun a k h => by omega)
  have hE4 : zi E q 4 = nI 0 := by rw [iE q 4 (by omega)]; exact hD4
  have hE3 : zr E q 3 = q + 2 := by rw [rE]; exact r3
  have hEl : zln E (q + 2) = 120 := by rw [lE]; exact l3
  obtain ⟨E5, z1, F, z3, k0, k1, k2, k3, k4⟩ := x6_app5 hE3 hEl hE4
  rw [z1]
  refine ⟨E5, rfl, ?_, ?_, ⟨?_, ?_, ?_⟩, ⟨?_, ?_, ?_⟩, fun p hp => ?_, ⟨?_, ?_, ?_⟩, fun k hk => ?_⟩
  · exact F.s.trans (x2.s.trans d1)
  · refine ⟨?_, fun a ha => ?_, fun a k ha hn => ⟨?_, ?_⟩⟩
    · rw [F.s]; exact g0.1
    · rw [F.n]; exact g0.n ha
    · rw [F.r]; exact g0.r ha hn
    · rw [F.i (by omega)]; exact g0.i ha hn
  · rw [F.r, rE]; exact r0
  · rw [F.r, rE]; exact r3
  · rw [F.r, rE]; exact d2
  · rw [F.n, lE]; exact l0
  · rw [F.n, lE]; exact l3
  · rw [F.n, lE]; exact d3
  · rw [F.i (by omega)]; exact x3 p hp
  · rw [F.i (by omega), iE q 1 (by omega)]; exact f1
  · rw [F.i (by omega), iE q 2 (by omega)]; exact f2
  · exact z3
  · have hk5 : k = 0 ∨ k = 1 ∨ k = 2 ∨ k = 3 ∨ k = 4 := by omega
    rcases hk5 with rfl | rfl | rfl | rfl | rfl
    · rw [k0]; rfl
    · rw [k1]; rfl
    · rw [k2]; rfl
    · rw [k3]; rfl
    · rw [k4]; rfl
