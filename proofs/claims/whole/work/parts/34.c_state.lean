/-! the start: a State -/
theorem x9_seatL {S0 : zM} {b : Nat} {K : zM → Option zM} (r3 : zr S0 b 3 = b + 4) (l3 : zln S0 (b + 4) = 42) {n : Nat} (hn : 42 < n) : ∃ S1 : zM, f_X9_init_L86 b K n 0 S0 = K S1 ∧ zF (fun a _ => a = b + 4) S0 S1 ∧ ∀ q : Nat, q < 42 → zi S1 (b + 4) q = -1 := by
  refine zloopR (fun f (s : Int32 × zM) => f_X9_init_L86 b K f s.1 s.2) (fun c s => s.1 = nI c ∧ zF (fun a _ => a = b + 4) S0 s.2 ∧ ∀ q : Nat, q < c → zi s.2 (b + 4) q = -1) 42 (fun o => ∃ S1 : zM, o = K S1 ∧ zF (fun a _ => a = b + 4) S0 S1 ∧ ∀ q : Nat, q < 42 → zi S1 (b + 4) q = -1) ?_ ?_ n (0, S0) (by omega) ⟨rfl, zF.rf, fun j hj => absurd hj (Nat.not_lt_zero _)⟩
  · rintro c f ⟨y, S⟩ hc ⟨i1, i2, i3⟩
    dsimp only at i1 i2 i3
    subst i1
    refine ⟨(nI (c + 1), zpI S (b + 4) c (-1)), ⟨rfl, zF.pI i2 rfl, fun k hk => ?_⟩, ?_⟩
    · dsimp only
      by_cases e : k = c
      · rw [e, mi_eq]
      · rw [mi_ne _ _ (by omega)]
        exact i3 k (by omega)
    · show f_X9_init_L86b b K (f_X9_init_L86 b K f) (nI c) S = _
      unfold f_X9_init_L86b
      rw [if_neg (show ¬ (42 : Int32) ≤ nI c from nI_ge (b := 42) hc (by omega)), i2.r, r3, zChk_t (by omega), i2.n, l3, zChk_t (zix (by omega) (by omega)), nI_clamp (show c < 2 ^ 31 by omega), zLet_d, nI_1]
  · rintro f ⟨y, S⟩ ⟨i1, i2, i3⟩
    dsimp only at i1 i2 i3 ⊢
    subst i1
    refine ⟨S, ?_, i2, i3⟩
    show f_X9_init_L86b b K (f_X9_init_L86 b K f) (nI 42) S = _
    unfold f_X9_init_L86b
    rw [if_pos (show (42 : Int32) ≤ nI 42 by decide)]
def zDv (S : zM) (b d : Nat) : Prop := zr S (b + 10) d = b + 14 + 3 * d ∧ zr S (b + 14 + 3 * d) 0 = b + 15 + 3 * d ∧ zr S (b + 14 + 3 * d) 1 = b + 16 + 3 * d ∧ zln S (b + 15 + 3 * d) = 7 ∧ zln S (b + 16 + 3 * d) = 7
theorem x1_new {S : zM} {z : Nat} (e : zsz S = z) : ∃ D : zM, f_X1_init (znw S 1 0) (zsz S) = D ∧ zsz D = z + 3 ∧ zOld S D ∧ (zr D z 0 = z + 1 ∧ zr D z 1 = z + 2 ∧ zln D (z + 1) = 7 ∧ zln D (z + 2) = 7) := by
  obtain ⟨h1, h2, h3, h4, h5, h6⟩ := x1_init e
  exact ⟨_, rfl, h1, h2, h3, h4, h5, h6⟩
theorem zDv.pR {D : zM} {b d c v : Nat} (h : zDv D b d) (hd : ¬ d = c) : zDv (zpR D (b + 10) c v) b d := by
  obtain ⟨j1, j2, j3, j4, j5⟩ := h
  refine ⟨?_, ?_, ?_, j4, j5⟩
  · rw [mr_ne _ _ (fun z => hd z.2)]; exact j1
  · rw [mr_ne _ _ (fun z => absurd z.1 (by clear j1 j2 j3 j4 j5; omega))]; exact j2
  · rw [mr_ne _ _ (fun z => absurd z.1 (by clear j1 j2 j3 j4 j5; omega))]; exact j3
theorem zDv.old {S D : zM} {b d : Nat} (h : zDv S b d) (o : zOld S D) (hs : b + 17 + 3 * d ≤ zsz S) : zDv D b d := by
  have q1 : b + 10 < zsz S := by omega
  have q2 : b + 14 + 3 * d < zsz S := by omega
  have q3 : b + 15 + 3 * d < zsz S := by omega
  have q4 : b + 16 + 3 * d < zsz S := by omega
  exact ⟨((o _ q1).2 d).1.trans h.1, ((o _ q2).2 0).1.trans h.2.1, ((o _ q2).2 1).1.trans h.2.2.1, (o _ q3).1.trans h.2.2.2.1, (o _ q4).1.trans h.2.2.2.2⟩
theorem x9_diveS {S : zM} {b c f : Nat} {K : zM → Option zM} (e : zsz S = b + 14 + 3 * c) (hc : c < 40) (r9 : zr S b 9 = b + 10) (l9 : zln S (b + 10) = 40) : ∃ D : zM, f_X9_init_L107 b K (f + 1) (nI c) S = f_X9_init_L107 b K f (nI (c + 1)) D ∧ zsz D = b + 14 + 3 * c + 3 ∧ zGw (b + 10) 0 S D ∧ zDv D b c ∧ ∀ d : Nat, d < c → zDv S b d → zDv D b d := by
  obtain ⟨D, hD, h1, h2, h3⟩ := x1_new e
  have hb0 : ¬ b + 10 = 0 := by clear e h1; omega
  have hb1 : b + 10 < zsz S := by clear h1 r9 l9; omega
  have hlD : zln D (b + 10) = 40 := ((h2 (b + 10) hb1).1).trans l9
  have hle : zsz S ≤ zsz D := by clear r9 l9 hlD; omega
  refine ⟨zpR D (b + 10) c (b + 14 + 3 * c), ?_, h1, (h2.g hle).pR (Or.inl ⟨rfl, Nat.zero_le _⟩), ⟨mr_eq _ _ _ _, ?_, ?_, ?_, ?_⟩, fun d hd hv => (hv.old h2 (by clear h1 r9 l9 hlD hle hD; omega)).pR (Nat.ne_of_lt hd)⟩
  · show f_X9_init_L107b b K (f_X9_init_L107 b K f) (nI c) S = _
    unfold f_X9_init_L107b
    rw [if_neg (show ¬ (40 : Int32) ≤ nI c from nI_ge (b := 40) hc (by decide)), r9, zChk_t hb0, zLet_d, zLet_d, hD, hlD, zChk_t (zix hc (Nat.lt_trans hc (by decide))), nI_clamp (Nat.lt_trans hc (by decide)), zLet_d, nI_1, e]
  · rw [mr_ne _ _ (fun z => absurd z.1 (by clear e h1 r9 l9 hlD hle hD h3; omega)), h3.1]
    clear e h1 r9 l9 hlD hle hD h3
    omega
  · rw [mr_ne _ _ (fun z => absurd z.1 (by clear e h1 r9 l9 hlD hle hD h3; omega)), h3.2.1]
    clear e h1 r9 l9 hlD hle hD h3
    omega
  · have q : b + 15 + 3 * c = b + 14 + 3 * c + 1 := by clear e h1 r9 l9 hlD hle hD h3; omega
    rw [q]
    exact h3.2.2.1
  · have q : b + 16 + 3 * c = b + 14 + 3 * c + 2 := by clear e h1 r9 l9 hlD hle hD h3; omega
    rw [q]
    exact h3.2.2.2
theorem x9_diveL {S0 : zM} {b : Nat} {K : zM → Option zM} (e : zsz S0 = b + 14) (r9 : zr S0 b 9 = b + 10) (l9 : zln S0 (b + 10) = 40) {n : Nat} (hn : 42 < n) : ∃ S1 : zM, f_X9_init_L107 b K n 0 S0 = K S1 ∧ zsz S1 = b + 134 ∧ zGw (b + 10) 0 S0 S1 ∧ ∀ d : Nat, d < 40 → zDv S1 b d := by
  have hb : b < zsz S0 := by clear r9 l9; omega
  have hb10 : b + 10 < zsz S0 := by clear r9 l9; omega
  have hne : ¬ b = b + 10 := by clear r9 l9 e hb hb10; omega
  refine zloopR (fun f (s : Int32 × zM) => f_X9_init_L107 b K f s.1 s.2) (fun c s => s.1 = nI c ∧ zsz s.2 = b + 14 + 3 * c ∧ zGw (b + 10) 0 S0 s.2 ∧ ∀ d : Nat, d < c → zDv s.2 b d) 40 (fun o => ∃ S1 : zM, o = K S1 ∧ zsz S1 = b + 134 ∧ zGw (b + 10) 0 S0 S1 ∧ ∀ d : Nat, d < 40 → zDv S1 b d) ?_ ?_ n (0, S0) (Nat.lt_trans (by decide) hn) ⟨rfl, e, zGw.rf, fun j hj => absurd hj (Nat.not_lt_zero _)⟩
  · rintro c f ⟨y, S⟩ hc ⟨i1, i2, i3, i4⟩
    dsimp only at i1 i2 i3 i4
    subst i1
    have hr9 : zr S b 9 = b + 10 := (i3.r hb (fun z => hne z.1)).trans r9
    have hl9 : zln S (b + 10) = 40 := (i3.n hb10).trans l9
    obtain ⟨D, d1, d2, d3, d4, d5⟩ := x9_diveS (K := K) (f := f) i2 hc hr9 hl9
    refine ⟨(nI (c + 1), D), ⟨rfl, d2, i3.tr d3 (Nat.le_refl _), fun d hd => ?_⟩, d1⟩
    rcases Nat.lt_or_eq_of_le (Nat.le_of_lt_succ hd) with q | q
    · exact d5 d q (i4 d q)
    · rw [q]; exact d4
  · rintro f ⟨y, S⟩ ⟨i1, i2, i3, i4⟩
    dsimp only at i1 i2 i3 i4 ⊢
    subst i1
    refine ⟨S, ?_, i2, i3, i4⟩
    show f_X9_init_L107b b K (f_X9_init_L107 b K f) (nI 40) S = _
    unfold f_X9_init_L107b
    rw [if_pos (show (40 : Int32) ≤ nI 40 by decide)]
