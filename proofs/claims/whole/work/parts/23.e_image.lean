/-! a State copied whole; image, restore -/
theorem zLayS.j {r r1 : Nat → Nat → Nat} {ln : Nat → Nat} {c b : Nat} (h : zLayS r ln c) (hcb : c = b ∨ b + 134 ≤ c ∨ c + 134 ≤ b) (e : ∀ a k : Nat, a ≠ b + 9 → r1 a k = r a k) : zLayS r1 ln c := by
  obtain ⟨⟨t0, t1, t2, t3, t4, t8, t9, t10, t11⟩, ⟨u0, u3, u5, u12⟩, w, ww⟩ := h
  have e0 : ∀ k : Nat, r1 c k = r c k := fun k => e _ _ (by clear t0 t1 t2 t3 t4 t8 t9 t10 t11 u0 u3 u5 u12 w ww; omega)
  have e5 : ∀ k : Nat, r1 (c + 5) k = r (c + 5) k := fun k => e _ _ (by clear t0 t1 t2 t3 t4 t8 t9 t10 t11 u0 u3 u5 u12 w ww; omega)
  have e12 : ∀ k : Nat, r1 (c + 12) k = r (c + 12) k := fun k => e _ _ (by clear t0 t1 t2 t3 t4 t8 t9 t10 t11 u0 u3 u5 u12 w ww; omega)
  have e10 : ∀ k : Nat, r1 (c + 10) k = r (c + 10) k := fun k => e _ _ (by clear t0 t1 t2 t3 t4 t8 t9 t10 t11 u0 u3 u5 u12 w ww; omega)
  have ed : ∀ d k : Nat, d < 40 → r1 (c + 14 + 3 * d) k = r (c + 14 + 3 * d) k := fun d k hd => e _ _ (by clear t0 t1 t2 t3 t4 t8 t9 t10 t11 u0 u3 u5 u12 w ww; omega)
  refine ⟨⟨?_, ?_, ?_, ?_, ?_, ?_, ?_, ?_, ?_⟩, ⟨?_, ?_, ?_, ?_⟩, w, fun d hd => ?_⟩
  · rw [e0]; exact t0
  · rw [e0]; exact t1
  · rw [e0]; exact t2
  · rw [e0]; exact t3
  · rw [e0]; exact t4
  · rw [e0]; exact t8
  · rw [e0]; exact t9
  · rw [e0]; exact t10
  · rw [e0]; exact t11
  · rw [e5]; exact u0
  · rw [e5]; exact u3
  · rw [e5]; exact u5
  · rw [e12]; exact u12
  · rw [e10, ed d 0 hd, ed d 1 hd]
    exact ww d hd
theorem zCp4 {S : zM} {b b1 : Nat} (hne : b + 134 ≤ b1 ∨ b1 + 134 ≤ b) : zF (fun a _ => b + 1 ≤ a ∧ a ≤ b + 4) S (zcp (zcp (zcp (zcp S (b1 + 1) 0 (b + 1) 0 8) (b1 + 2) 0 (b + 2) 0 8) (b1 + 3) 0 (b + 3) 0 6) (b1 + 4) 0 (b + 4) 0 42) ∧ (∀ k : Nat, k < 8 → zi (zcp (zcp (zcp (zcp S (b1 + 1) 0 (b + 1) 0 8) (b1 + 2) 0 (b + 2) 0 8) (b1 + 3) 0 (b + 3) 0 6) (b1 + 4) 0 (b + 4) 0 42) (b + 1) k = zi S (b1 + 1) k) ∧ (∀ k : Nat, k < 8 → zi (zcp (zcp (zcp (zcp S (b1 + 1) 0 (b + 1) 0 8) (b1 + 2) 0 (b + 2) 0 8) (b1 + 3) 0 (b + 3) 0 6) (b1 + 4) 0 (b + 4) 0 42) (b + 2) k = zi S (b1 + 2) k) ∧ (∀ k : Nat, k < 6 → zi (zcp (zcp (zcp (zcp S (b1 + 1) 0 (b + 1) 0 8) (b1 + 2) 0 (b + 2) 0 8) (b1 + 3) 0 (b + 3) 0 6) (b1 + 4) 0 (b + 4) 0 42) (b + 3) k = zi S (b1 + 3) k) ∧ ∀ k : Nat, k < 42 → zi (zcp (zcp (zcp (zcp S (b1 + 1) 0 (b + 1) 0 8) (b1 + 2) 0 (b + 2) 0 8) (b1 + 3) 0 (b + 3) 0 6) (b1 + 4) 0 (b + 4) 0 42) (b + 4) k = zi S (b1 + 4) k := by
  refine ⟨?_, fun k hk => ?_, fun k hk => ?_, fun k hk => ?_, fun k hk => ?_⟩
  · refine zF.cp ?_ (fun j _ _ => ⟨by omega, by omega⟩)
    refine zF.cp ?_ (fun j _ _ => ⟨by omega, by omega⟩)
    refine zF.cp ?_ (fun j _ _ => ⟨by omega, by omega⟩)
    refine zF.cp ?_ (fun j _ _ => ⟨by omega, by omega⟩)
    exact zF.rf
  all_goals simp (disch := omega) only [ni_cp, ni_cp']
  all_goals rw [show 0 + (k - 0) = k by omega]
theorem zB3 {R : zM} {b : Nat} {v5 v6 v7 : Int32} : zF (fun a _ => a = b) R (zpI (zpI (zpI R b 5 v5) b 6 v6) b 7 v7) ∧ zi (zpI (zpI (zpI R b 5 v5) b 6 v6) b 7 v7) b 5 = v5 ∧ zi (zpI (zpI (zpI R b 5 v5) b 6 v6) b 7 v7) b 6 = v6 ∧ zi (zpI (zpI (zpI R b 5 v5) b 6 v6) b 7 v7) b 7 = v7 := by
  refine ⟨?_, ?_, ?_, ?_⟩
  · refine zF.pI ?_ rfl
    refine zF.pI ?_ rfl
    refine zF.pI ?_ rfl
    exact zF.rf
  all_goals simp (disch := omega) only [mi_ne, mi_eq']
/-- the first stretch: rows, rule, numbers -/
theorem x9_cp1 {S : zM} {b b1 : Nat} (hb : 0 < b) (hb1 : 0 < b1) (h0 : zLayS (zr S) (zln S) b) (h1 : zLayS (zr S) (zln S) b1) (hne : b + 134 ≤ b1 ∨ b1 + 134 ≤ b) :
    ∃ B : zM, (∀ n : Nat, f_X9_copyFrom n S b b1 = f_X9_copyFrom_L97 b b1 (fun S76 => f_X9_copyFrom_L123 b b1 (fun S79 => some S79) n 0 S76) n 0 B) ∧ zF (fun a _ => b ≤ a ∧ a ≤ b + 7) S B ∧
      (∀ k : Nat, k < 8 → zi B (b + 1) k = zi S (b1 + 1) k) ∧ (∀ k : Nat, k < 8 → zi B (b + 2) k = zi S (b1 + 2) k) ∧ (∀ k : Nat, k < 6 → zi B (b + 3) k = zi S (b1 + 3) k) ∧ (∀ k : Nat, k < 42 → zi B (b + 4) k = zi S (b1 + 4) k) ∧
      (zi B b 5 = zi S b1 5 ∧ zi B b 6 = zi S b1 6 ∧ zi B b 7 = zi S b1 7) ∧ (zi B (b + 5) 1 = zi S (b1 + 5) 1 ∧ zi B (b + 5) 2 = zi S (b1 + 5) 2 ∧ zi B (b + 5) 4 = zi S (b1 + 5) 4) ∧ (∀ c : Nat, c < 6 → zi B (b + 5 + 1) c = zi S (b1 + 5 + 1) c) ∧ ∀ c : Nat, c < 120 → zi B (b + 5 + 2) c = zi S (b1 + 5 + 2) c := by
  obtain ⟨⟨r0, r1, r2, r3, r4, r8, r9, -⟩, ⟨p0, p3, -⟩, ⟨n1, n2, n3, n4, n6, n7, -, n9, n10, -⟩, hd⟩ := h0
  obtain ⟨⟨s0, s1, s2, s3, s4, s8, s9, -⟩, ⟨q0, q3, -⟩, ⟨m1, m2, m3, m4, m6, m7, -, m9, m10, -⟩, hd1⟩ := h1
  obtain ⟨hAf, a1, a2, a3, a4⟩ := zCp4 (S := S) hne
  generalize hA : zcp (zcp (zcp (zcp S (b1 + 1) 0 (b + 1) 0 8) (b1 + 2) 0 (b + 2) 0 8) (b1 + 3) 0 (b + 3) 0 6) (b1 + 4) 0 (b + 4) 0 42 = A at hAf a1 a2 a3 a4
  obtain ⟨R, hR, hRf, x1, x2, x4, xo, xc⟩ := x6_copyFrom (S := A) (q0 := b + 5) (q1 := b1 + 5) (by rw [hAf.r]; exact p0) (by rw [hAf.r]; exact p3) (by rw [hAf.r]; exact q0) (by rw [hAf.r]; exact q3) (by rw [hAf.n]; exact n6) (by rw [hAf.n]; exact n7) (by rw [hAf.n]; exact m6) (by rw [hAf.n]; exact m7) (by clear r0 r1 r2 r3 r4 r8 r9 p0 p3 n1 n2 n3 n4 n6 n7 n9 n10 s0 s1 s2 s3 s4 s8 s9 q0 q3 m1 m2 m3 m4 m6 m7 m9 m10; omega)
  obtain ⟨hBf, b5, b6, b7⟩ := zB3 (R := R) (b := b) (v5 := zi R b1 5) (v6 := zi R b1 6) (v7 := zi R b1 7)
  generalize hB : zpI (zpI (zpI R b 5 (zi R b1 5)) b 6 (zi R b1 6)) b 7 (zi R b1 7) = B at hBf b5 b6 b7
  have hrun : ∀ n : Nat, f_X9_copyFrom n S b b1 = f_X9_copyFrom_L97 b b1 (fun S76 => f_X9_copyFrom_L123 b b1 (fun S79 => some S79) n 0 S76) n 0 B := by
    intro n
    unfold f_X9_copyFrom
    simp only [nLet]
    simp (disch := omega) only [zcT, zq0, zq6, zq8, zq42, zle_t, zle_f, zlt_t, zlt_f, zeq_t, zeq_f, zNle, zNleT, zNe, not_false_eq_true, not_true_eq_false, false_or, or_false, or_self, true_and, and_true, and_self, ↓reduceIte, nI_clamp, nr_cp, nln_cp, r0, r1, r2, r3, r4, s0, s1, s2, s3, s4, n1, n2, n3, n4, m1, m2, m3, m4, hA]
    rw [show zr A b 4 = b + 5 by rw [hAf.r]; exact r4, show zr A b1 4 = b1 + 5 by rw [hAf.r]; exact s4, zChk_t (Nat.succ_ne_zero _), zChk_t (Nat.succ_ne_zero _), hR, zB1_s, mi_ne _ _ (show ¬ (b1 = b ∧ 6 = 5) from fun q => absurd q.2 (by decide)), mi_ne _ _ (show ¬ (b1 = b ∧ 7 = 6) from fun q => absurd q.2 (by decide)), mi_ne _ _ (show ¬ (b1 = b ∧ 7 = 5) from fun q => absurd q.2 (by decide)), hB]
  clear r0 r1 r2 r3 r4 r8 r9 p0 p3 n1 n2 n3 n4 n6 n7 n9 n10 s0 s1 s2 s3 s4 s8 s9 q0 q3 m1 m2 m3 m4 m6 m7 m9 m10
  have eRb : ∀ k : Nat, zi R b1 k = zi S b1 k := fun k => by rw [hRf.i (by omega), hAf.i (by omega)]
  refine ⟨B, hrun, ((hAf.mo (fun a k q => ⟨by omega, by omega⟩)).tr (hRf.mo (fun a k q => ⟨by omega, by omega⟩))).tr (hBf.mo (fun a k q => ⟨by omega, by omega⟩)), fun k hk => ?_, fun k hk => ?_, fun k hk => ?_, fun k hk => ?_, ⟨?_, ?_, ?_⟩, ⟨?_, ?_, ?_⟩, fun k hk => ?_, fun k hk => ?_⟩
  · rw [hBf.i (by omega), hRf.i (by omega)]; exact a1 k hk
  · rw [hBf.i (by omega), hRf.i (by omega)]; exact a2 k hk
  · rw [hBf.i (by omega), hRf.i (by omega)]; exact a3 k hk
  · rw [hBf.i (by omega), hRf.i (by omega)]; exact a4 k hk
  · rw [b5]; exact eRb 5
  · rw [b6]; exact eRb 6
  · rw [b7]; exact eRb 7
  · rw [hBf.i (by omega), x1, hAf.i (by omega)]
  · rw [hBf.i (by omega), x2, hAf.i (by omega)]
  · rw [hBf.i (by omega), x4, hAf.i (by omega)]
  · rw [hBf.i (by omega), xo k hk, hAf.i (by omega)]
  · rw [hBf.i (by omega), xc k hk, hAf.i (by omega)]
theorem x9_copyFrom {S : zM} {b b1 : Nat} {g : Nat → Int32} (hb : 0 < b) (hb1 : 0 < b1) (hle : b + 134 ≤ 453) (hle1 : b1 + 134 ≤ 453) (h0 : zLayS (zr S) (zln S) b) (h1 : zLayS (zr S) (zln S) b1) (hne : b + 134 ≤ b1 ∨ b1 + 134 ≤ b) (hg : zRep S b1 g) (hbd : zBd g) {n : Nat} (hn : 40 < n) :
    ∃ X : zM, f_X9_copyFrom n S b b1 = some X ∧ zRep X b g ∧ zsz X = zsz S ∧ zln X = zln S ∧ (∀ a k : Nat, a ≠ b + 9 → zr X a k = zr S a k) ∧ ∀ a k : Nat, ¬ (b ≤ a ∧ a ≤ b + 133) → zi X a k = zi S a k := by
  obtain ⟨nv, hv, ev⟩ := hbd.n3
  obtain ⟨g1, g2, g3, ⟨g4, g5, g6⟩, g7, g8, g9⟩ := hg
  obtain ⟨B, hrun, hBf, a1, a2, a3, a4, ⟨b5, b6, b7⟩, ⟨x1, x2, x4⟩, xo, xc⟩ := x9_cp1 hb hb1 h0 h1 hne
  have eB : ∀ a k : Nat, ¬ (b ≤ a ∧ a ≤ b + 7) → zi B a k = zi S a k := fun a k ha => hBf.i ha
  obtain ⟨J, hJ, j1, j2, j3, j4, j5⟩ := x_cpJ (S0 := B) (b := b) (b1 := b1) (K := fun S76 => f_X9_copyFrom_L123 b b1 (fun S79 => some S79) n 0 S76) (by rw [hBf.r]; exact h0.1.2.2.2.2.2.1) (by rw [hBf.r]; exact h1.1.2.2.2.2.2.1) (by rw [hBf.n]; exact h0.2.2.1.2.2.2.2.2.2.2.1) (by rw [hBf.n]; exact h1.2.2.1.2.2.2.2.2.2.2.1) hne n (by omega)
  have hJr : ∀ a k : Nat, a ≠ b + 9 → zr J a k = zr S a k := fun a k ha => by rw [j4 a k ha, hBf.r]
  have hJn : zln J = zln S := by rw [j2, hBf.n]
  have evJ : zi J b 7 = nI nv := by rw [j3, b7, g6]; exact ev
  obtain ⟨X, hX, hXf, hXd⟩ := x_cpD (S0 := J) (K := fun S79 => some S79) (b := b) (b1 := b1) hv evJ (by rw [hJn]; exact h0.j (Or.inl rfl) hJr) (by rw [hJn]; exact h1.j (Or.inr (by omega)) hJr) hne n (by omega)
  have eX : ∀ a k : Nat, a ≤ b + 13 ∨ b + 134 ≤ a → zi X a k = zi B a k := fun a k ha => by rw [hXf.i (by omega), j3]
  refine ⟨X, ?_, ?_, ?_, ?_, ?_, ?_⟩
  · rw [hrun]
    exact hJ.trans hX
  · refine zRep.lay (fun i hi => ?_) (fun i hi => ?_) (fun i hi => ?_) ⟨?_, ?_, ?_⟩ ?_ (fun j hj1 hj2 => ?_) (fun v hv1 hv2 => ?_)
    · rw [eX _ _ (by omega), eX _ _ (by omega), a1 i hi, a2 i hi]
      exact g1 i hi
    · rw [eX _ _ (by omega), a3 i hi]
      exact g2 i hi
    · rw [eX _ _ (by omega), a4 i hi]
      exact g3 i hi
    · rw [eX _ _ (by omega), b5]; exact g4
    · rw [eX _ _ (by omega), b6]; exact g5
    · rw [eX _ _ (by omega), b7]; exact g6
    · obtain ⟨z1, z2, z3, m, cd, z4, z5, z6, z7, z8, z9⟩ := g7
      refine ⟨fun p hp => ?_, ?_, ?_, m, cd, z4, z5, z6, z7, ?_, fun k hk => ?_⟩
      · rw [eX _ _ (by omega), xo p hp]; exact z1 p hp
      · rw [eX _ _ (by omega), x1]; exact z2
      · rw [eX _ _ (by omega), x2]; exact z3
      · rw [eX _ _ (by omega), x4]; exact z8
      · rw [eX _ _ (by omega), xc k (by omega)]; exact z9 k hk
    · rw [hXf.r, j5 j hj2, hBf.r]
      have hq := g8 j hj1 hj2
      have hq1 := hq.1
      exact hq.fr (by rw [hXf.s, j1, hBf.s]; exact Nat.le_refl _) (fun k => by rw [eX _ _ (by omega), eB _ _ (by omega)])
    · refine hXd v ?_ g (112 + 19 * v) ?_
      · rw [ev] at hv1
        exact (nI_ltI (by omega) (by omega)).mp hv1
      · rw [j3]
        exact (g9 v hv1 hv2).fr (fun a k h1 h2 => eB a k (by omega))
  · rw [hXf.s, j1, hBf.s]
  · rw [hXf.n, hJn]
  · intro a k ha
    rw [hXf.r]; exact hJr a k ha
  · intro a k ha
    rw [hXf.i (by omega), j3, eB a k (by omega)]
/-- a row of the reference copied to another -/
theorem m_image {S0 : zM} (h : zLay S0) {K : zM → Option (Int32 × zM)} : ∀ n : Nat, 1004 < n → ∃ S1 : zM, f_X12_image_L2 436 K n 0 S0 = K S1 ∧ zF (fun a _ => a = 438) S0 S1 ∧ ∀ j : Nat, j < 1004 → zi S1 438 j = zi S0 437 j := by
  obtain ⟨-, -, -, -, -, ⟨r0, r1, -⟩, ⟨l0, l1, -⟩⟩ := h
  intro n hn
  refine zloopR (fun n (s : Int32 × zM) => f_X12_image_L2 436 K n s.1 s.2) (fun k s => s.1 = nI k ∧ zF (fun a _ => a = 438) S0 s.2 ∧ ∀ j : Nat, j < k → zi s.2 438 j = zi S0 437 j) 1004 (fun o => ∃ S1 : zM, o = K S1 ∧ zF (fun a _ => a = 438) S0 S1 ∧ ∀ j : Nat, j < 1004 → zi S1 438 j = zi S0 437 j) ?_ ?_ n (0, S0) hn ⟨rfl, zF.rf, fun j hj => by omega⟩
  · rintro k f ⟨x, S⟩ hk ⟨e1, e2, e3⟩
    dsimp only at e1 e2 e3 ⊢
    subst e1
    refine ⟨(nI (k + 1), zpI S 438 k (zi S0 437 k)), ⟨rfl, zF.pI e2 rfl, fun j hj => ?_⟩, ?_⟩
    · dsimp only
      by_cases hjk : j = k
      · subst hjk; exact mi_eq _ _ _ _
      · rw [mi_ne _ _ (by omega)]; exact e3 j (by omega)
    · show f_X12_image_L2b 436 K (f_X12_image_L2 436 K f) (nI k) S = _
      unfold f_X12_image_L2b
      rw [if_neg (show ¬ (1004 : Int32) ≤ nI k from nI_ge hk (by decide)), e2.r, e2.n, r0, r1, zChk_t (by decide), zChk_t (by decide), l0, l1, zChk_t (zix hk (by omega)), zChk_t (zix hk (by omega)), zLet_d, nI_clamp (by omega), nI_1, e2.i (by omega)]
  · rintro f ⟨x, S⟩ ⟨e1, e2, e3⟩
    dsimp only at e1 e2 e3 ⊢
    subst e1
    refine ⟨S, ?_, e2, e3⟩
    show f_X12_image_L2b 436 K (f_X12_image_L2 436 K f) (nI 1004) S = _
    unfold f_X12_image_L2b
    rw [if_pos (show (1004 : Int32) ≤ nI 1004 from Int32.le_refl _)]
theorem m_restore {S0 : zM} (h : zLay S0) {K : zM → Option (Int32 × zM)} : ∀ n : Nat, 1004 < n → ∃ S1 : zM, f_X12_restore_L12 436 K n 0 S0 = K S1 ∧ zF (fun a _ => a = 437) S0 S1 ∧ ∀ j : Nat, j < 1004 → zi S1 437 j = zi S0 438 j := by
  obtain ⟨-, -, -, -, -, ⟨r0, r1, -⟩, ⟨l0, l1, -⟩⟩ := h
  intro n hn
  refine zloopR (fun n (s : Int32 × zM) => f_X12_restore_L12 436 K n s.1 s.2) (fun k s => s.1 = nI k ∧ zF (fun a _ => a = 437) S0 s.2 ∧ ∀ j : Nat, j < k → zi s.2 437 j = zi S0 438 j) 1004 (fun o => ∃ S1 : zM, o = K S1 ∧ zF (fun a _ => a = 437) S0 S1 ∧ ∀ j : Nat, j < 1004 → zi S1 437 j = zi S0 438 j) ?_ ?_ n (0, S0) hn ⟨rfl, zF.rf, fun j hj => by omega⟩
  · rintro k f ⟨x, S⟩ hk ⟨e1, e2, e3⟩
    dsimp only at e1 e2 e3 ⊢
    subst e1
    refine ⟨(nI (k + 1), zpI S 437 k (zi S0 438 k)), ⟨rfl, zF.pI e2 rfl, fun j hj => ?_⟩, ?_⟩
    · dsimp only
      by_cases hjk : j = k
      · subst hjk; exact mi_eq _ _ _ _
      · rw [mi_ne _ _ (by omega)]; exact e3 j (by omega)
    · show f_X12_restore_L12b 436 K (f_X12_restore_L12 436 K f) (nI k) S = _
      unfold f_X12_restore_L12b
      rw [if_neg (show ¬ (1004 : Int32) ≤ nI k from nI_ge hk (by decide)), e2.r, e2.n, r0, r1, zChk_t (by decide), zChk_t (by decide), l0, l1, zChk_t (zix hk (by omega)), zChk_t (zix hk (by omega)), zLet_d, nI_clamp (by omega), nI_1, e2.i (by omega)]
  · rintro f ⟨x, S⟩ ⟨e1, e2, e3⟩
    dsimp only at e1 e2 e3 ⊢
    subst e1
    refine ⟨S, ?_, e2, e3⟩
    show f_X12_restore_L12b 436 K (f_X12_restore_L12 436 K f) (nI 1004) S = _
    unfold f_X12_restore_L12b
    rw [if_pos (show (1004 : Int32) ≤ nI 1004 from Int32.le_refl _)]
/-- what of a row the invariant reads -/
theorem zRep.g {S : zM} {b : Nat} {g g1 : Nat → Int32} (h : zRep S b g) (e : ∀ k : Nat, k < 1004 → g1 k = g k) : zRep S b g1 := by
  refine zRep.lay (zg1 h (fun _ _ _ => rfl) (fun k hk => e k (by omega))) (zg2 h (fun _ _ _ => rfl) (fun k _ hk => e k (by omega))) (zg3 h (fun _ _ _ => rfl) (fun k _ hk => e k (by omega))) (zg4 h (fun _ _ _ => rfl) (fun k _ hk => e k (by omega))) (zg5 h (fun _ _ _ => rfl) (fun k _ hk => e k (by omega))) (zg6 h (Nat.le_refl _) (fun _ => rfl) (fun _ _ _ => rfl) (fun k _ hk => e k (by omega)) (e _ (by omega))) (zg7 h (fun _ _ _ => rfl) (fun k _ hk => e k (by omega)) (e _ (by omega)))
theorem zBd.g {g g1 : Nat → Int32} (h : zBd g) (e : ∀ k : Nat, k < 1004 → g1 k = g k) : zBd g1 := by
  obtain ⟨nd, nj, nv, ⟨b1, b2, b3, b4, b5, b6⟩, c1, c2, c3, c4, c5, c6⟩ := zBd_iff.mp h
  exact zBd_iff.mpr ⟨nd, nj, nv, ⟨b1, b2, b3, by rw [e _ (by omega)]; exact b4, by rw [e _ (by omega)]; exact b5, by rw [e _ (by omega)]; exact b6⟩, c1.g b1 (fun k _ => e k (by omega)), c2.g b2 (fun k _ _ => e k (by omega)), c3.g (fun k _ _ => e k (by omega)), c4.g (fun k _ _ => e k (by omega)), c5.g (fun k _ _ => e k (by omega)), fun v hv => (c6 v hv).g (fun k _ _ => e k (by omega))⟩
theorem zLay.j {S X : zM} {b : Nat} (h : zLay S) (hb : b = 2 ∨ b = 136 ∨ b = 270) (hs : zsz X = zsz S) (hn : zln X = zln S) (hr : ∀ a k : Nat, a ≠ b + 9 → zr X a k = zr S a k) : zLay X := by
  obtain ⟨h0, l1, l2, l3, ⟨q1, q2, q3, q4⟩, w1, w2⟩ := h
  have e : ∀ a k : Nat, a ≠ 11 → a ≠ 145 → a ≠ 279 → zr X a k = zr S a k := fun a k h1 h2 h3 => hr a k (by omega)
  unfold zLay
  rw [hn, hs]
  refine ⟨h0, l1.j (by omega) hr, l2.j (by omega) hr, l3.j (by omega) hr, ⟨?_, ?_, ?_, fun d hd => ?_⟩, ?_, w2⟩
  · rw [e 1 _ (by decide) (by decide) (by decide), e 1 _ (by decide) (by decide) (by decide), e 1 _ (by decide) (by decide) (by decide), e 1 _ (by decide) (by decide) (by decide), e 1 _ (by decide) (by decide) (by decide), e 1 _ (by decide) (by decide) (by decide), e 1 _ (by decide) (by decide) (by decide), e 1 _ (by decide) (by decide) (by decide)]; exact q1
  · rw [e 405 _ (by decide) (by decide) (by decide), e 406 _ (by decide) (by decide) (by decide), e 406 _ (by decide) (by decide) (by decide), e 406 _ (by decide) (by decide) (by decide)]; exact q2
  · rw [e 411 _ (by decide) (by decide) (by decide), e 411 _ (by decide) (by decide) (by decide), e 414 _ (by decide) (by decide) (by decide), e 414 _ (by decide) (by decide) (by decide), e 414 _ (by decide) (by decide) (by decide), e 414 _ (by decide) (by decide) (by decide)]; exact q3
  · have := q4 d hd
    rw [e 404 _ (by decide) (by decide) (by decide), e (420 + 2 * d) _ (by omega) (by omega) (by omega)]; exact this
  · simp only [e 436 _ (show 436 ≠ 11 by decide) (show 436 ≠ 145 by decide) (show 436 ≠ 279 by decide)]
    exact w1
theorem s_image {S : zM} (h : zInv S) (v1 v2 v3 v4 v5 : Int32) : ∃ S' : zM, zs_28 1 436 v1 v2 v3 v4 v5 S S' ∧ zInv S' := by
  suffices hh : ∃ (S' : zM) (r : Int32) (S1 : zM), f_X11_image 1100 S 1 = some (r, S1) ∧ f_X12_image 1100 S1 436 = some (r, S') ∧ zInv S' by
    obtain ⟨S', r, S1, q1, q2, q3⟩ := hh
    exact ⟨S', ⟨r, 1100, S1, q1, q2⟩, q3⟩
  obtain ⟨hL, h2, h3, h4, h5, h6, h7⟩ := h
  have r0 : zr S 1 0 = 2 := hL.2.2.2.2.1.1.1
  have r1 : zr S 1 1 = 136 := hL.2.2.2.2.1.1.2.1
  have h0 := hL.1
  obtain ⟨X, hX, xg, xs, xn, xr, xi⟩ := x9_copyFrom (S := S) (b := 136) (b1 := 2) (g := zi S 437) (by omega) (by omega) (by omega) (by omega) hL.2.2.1 hL.2.1 (by omega) h2 h3 (n := 1100) (by omega)
  have hLX : zLay X := hL.j (Or.inr (Or.inl rfl)) xs xn xr
  have hx : f_X11_image 1100 S 1 = some (zi S 437 1003, zpI X 1 8 1) := by
    unfold f_X11_image
    rw [r1, r0, zChk_t (by decide), zChk_t (by decide), hX, zB1_s, zLet_d, mr_pI, xr 1 0 (by decide), r0, zChk_t (by decide), mi_ne _ _ (by omega), xi 2 7 (by omega), h2.2.2.2.1.2.2]
  have hL1 : zLay (zpI X 1 8 1) := hLX.pI
  obtain ⟨Y, hY, hYf, hYz⟩ := m_image hL1 (K := fun (S2 : zM) => zLet (zpI S2 436 8 (1 : Int32)) (fun S5 => zChk (¬ (zr S5 436 0) = 0) (zChk (¬ ((1003 : Int32) < 0 ∨ zln S5 (zr S5 436 0) ≤ ((1003 : Int32)).toNatClampNeg)) (some (((zi S5 (zr S5 436 0) (Int32.toNatClampNeg (1003 : Int32))), S5)))))) 1100 (by omega)
  have q0 : zr Y 436 0 = 437 := by rw [hYf.r]; exact hL1.2.2.2.2.2.1.1
  have m0 : zln Y 437 = 1004 := by rw [hYf.n]; exact hL1.2.2.2.2.2.2.1
  have hm : f_X12_image 1100 (zpI X 1 8 1) 436 = some (zi S 437 1003, zpI Y 436 8 1) := by
    unfold f_X12_image
    rw [zLet_d]
    refine hY.trans ?_
    simp (disch := omega) only [nLet, nB1, nB2, nL2, zcT, zq0, zq1, zq2, zq3, zq4, zq5, zq6, zq7, zq8, zq10, zq12, zq13, zq15, zq16, zq19, zq20, zq21, zq40, zq42, zq64, zq70, zq72, zq100, zq112, zq120, zq200, zq600, zq872, zq878, zq879, zq880, zq1000, zq1001, zq1002, zq1003, zq1004, zq4100, zle_t, zle_f, zlt_t, zlt_f, zeq_t, zeq_f, zNle, zNleT, zNe, not_false_eq_true, not_true_eq_false, false_or, or_false, or_self, true_and, and_true, and_self, ↓reduceIte, nI_clamp, nI_add, nI_mul, nI_sub, mi_eq', mi_ne, ni_pR, ni_pL, nr_pI, nr_pL, mr_eq', mr_ne, nl_pI, nl_pR, ml_eq', ml_ne, nsz_pI, nsz_pR, nsz_pL, nln_pI, nln_pR, nln_pL, mi_nwn, mr_nwn, ml_nwn, mln_nwn, nsz_nw, nr_cp, nl_cp, nsz_cp, nln_cp, ni_cp, ni_cp', q0, m0]
    rw [hYf.i (by omega), mi_ne _ _ (by omega), xi 437 1003 (by omega)]
  refine ⟨zpI Y 436 8 1, zi S 437 1003, zpI X 1 8 1, hx, hm, ?_⟩
  have yr : zr (zpI Y 436 8 1) = zr X := by rw [mr_pI, hYf.r, mr_pI]
  have ys : zsz (zpI Y 436 8 1) = zsz S := by rw [msz_pI, hYf.s, msz_pI, xs]
  have yi : ∀ a k : Nat, a ≠ 438 → ¬ (a = 1 ∧ k = 8) → ¬ (a = 436 ∧ k = 8) → zi (zpI Y 436 8 1) a k = zi X a k := fun a k g1 g2 g3 => by
    rw [mi_ne _ _ g3, hYf.i g1, mi_ne _ _ g2]
  have y1 : zi (zpI Y 436 8 1) 1 8 = 1 := by rw [mi_ne _ _ (by omega), hYf.i (by omega), mi_eq]
  have y436 : zi (zpI Y 436 8 1) 436 8 = 1 := mi_eq _ _ _ _
  have y438 : ∀ k : Nat, k < 1004 → zi (zpI Y 436 8 1) 438 k = zi S 437 k := fun k hk => by
    rw [mi_ne _ _ (by omega), hYz k hk, mi_ne _ _ (by omega), xi 437 k (by omega)]
  have hLY : zLay (zpI Y 436 8 1) := (hL1.fr hYf).pI
  generalize zpI Y 436 8 1 = Z at yr ys yi y1 y436 y438 hLY
  have e437 : zi Z 437 = zi S 437 := funext fun k => by rw [yi _ _ (by omega) (by omega) (by omega), xi _ _ (by omega)]
  refine ⟨hLY, ?_, by rw [e437]; exact h3, ⟨by rw [y1, y436], Or.inr y1⟩, fun _ => ⟨?_, h3.g y438⟩, fun d hd => ?_, ?_⟩
  · rw [e437]
    exact h2.fr (by omega) (fun j => by rw [yr]; exact xr _ _ (by omega)) (fun a k ha => by rw [yi _ _ (by omega) (by omega) (by omega), xi _ _ (by omega)])
  · exact (zRep.fr (S1 := Z) xg (by omega) (fun j => by rw [yr]) (fun a k ha => yi _ _ (by omega) (by omega) (by omega))).g y438
  · exact (h6 d hd).fr (by omega) (by rw [yr]; exact xr _ _ (by omega)) (fun a k ha => by rw [yi _ _ (by omega) (by omega) (by omega), xi _ _ (by omega)])
  · rw [yi _ _ (by omega) (by omega) (by omega), xi _ _ (by omega)]; exact h7
theorem s_restore {S : zM} (h : zInv S) (v1 v2 v3 v4 v5 : Int32) : ∃ S' : zM, zs_29 1 436 v1 v2 v3 v4 v5 S S' ∧ zInv S' := by
  suffices hh : ∃ (S' : zM) (r : Int32) (S1 : zM), f_X11_restore 1100 S 1 = some (r, S1) ∧ f_X12_restore 1100 S1 436 = some (r, S') ∧ zInv S' by
    obtain ⟨S', r, S1, q1, q2, q3⟩ := hh
    exact ⟨S', ⟨r, 1100, S1, q1, q2⟩, q3⟩
  have hI := h
  obtain ⟨hL, h2, h3, ⟨h4, h8⟩, h5, h6, h7⟩ := h
  have r0 : zr S 1 0 = 2 := hL.2.2.2.2.1.1.1
  have r1 : zr S 1 1 = 136 := hL.2.2.2.2.1.1.2.1
  have h0 := hL.1
  rcases h8 with h8 | h8
  · refine ⟨S, -3, S, ?_, ?_, hI⟩
    · unfold f_X11_restore
      rw [if_pos h8]
    · unfold f_X12_restore
      rw [if_pos (h4 ▸ h8)]
  · obtain ⟨ha, hb⟩ := h5 h8
    have h436 : ¬ zi S 436 8 = 0 := by rw [← h4, h8]; decide
    obtain ⟨X, hX, xg, xs, xn, xr, xi⟩ := x9_copyFrom (S := S) (b := 2) (b1 := 136) (g := zi S 438) (by omega) (by omega) (by omega) (by omega) hL.2.1 hL.2.2.1 (by omega) ha hb (n := 1100) (by omega)
    have hLX : zLay X := hL.j (Or.inl rfl) xs xn xr
    have hx : f_X11_restore 1100 S 1 = some (zi S 438 1003, X) := by
      unfold f_X11_restore
      rw [if_neg (show ¬ zi S 1 8 = 0 by rw [h8]; decide), r0, r1, zChk_t (by decide), zChk_t (by decide), hX, zB1_s, xr 1 0 (by decide), r0, zChk_t (by decide), xg.2.2.2.1.2.2]
    obtain ⟨Y, hY, hYf, hYz⟩ := m_restore hLX (K := fun (S3 : zM) => zChk (¬ (zr S3 436 0) = 0) (zChk (¬ ((1003 : Int32) < 0 ∨ zln S3 (zr S3 436 0) ≤ ((1003 : Int32)).toNatClampNeg)) (some (((zi S3 (zr S3 436 0) (Int32.toNatClampNeg (1003 : Int32))), S3))))) 1100 (by omega)
    have q0 : zr Y 436 0 = 437 := by rw [hYf.r]; exact hLX.2.2.2.2.2.1.1
    have m0 : zln Y 437 = 1004 := by rw [hYf.n]; exact hLX.2.2.2.2.2.2.1
    have hm : f_X12_restore 1100 X 436 = some (zi S 438 1003, Y) := by
      unfold f_X12_restore
      rw [if_neg (show ¬ zi X 436 8 = 0 by rw [xi 436 8 (by omega)]; exact h436), zLet_d]
      refine hY.trans ?_
      simp (disch := omega) only [nLet, nB1, nB2, nL2, zcT, zq0, zq1, zq2, zq3, zq4, zq5, zq6, zq7, zq8, zq10, zq12, zq13, zq15, zq16, zq19, zq20, zq21, zq40, zq42, zq64, zq70, zq72, zq100, zq112, zq120, zq200, zq600, zq872, zq878, zq879, zq880, zq1000, zq1001, zq1002, zq1003, zq1004, zq4100, zle_t, zle_f, zlt_t, zlt_f, zeq_t, zeq_f, zNle, zNleT, zNe, not_false_eq_true, not_true_eq_false, false_or, or_false, or_self, true_and, and_true, and_self, ↓reduceIte, nI_clamp, nI_add, nI_mul, nI_sub, mi_eq', mi_ne, ni_pR, ni_pL, nr_pI, nr_pL, mr_eq', mr_ne, nl_pI, nl_pR, ml_eq', ml_ne, nsz_pI, nsz_pR, nsz_pL, nln_pI, nln_pR, nln_pL, mi_nwn, mr_nwn, ml_nwn, mln_nwn, nsz_nw, nr_cp, nl_cp, nsz_cp, nln_cp, ni_cp, ni_cp', q0, m0]
      rw [hYz 1003 (by omega), xi 438 1003 (by omega)]
    refine ⟨Y, zi S 438 1003, X, hx, hm, ?_⟩
    have yi : ∀ a k : Nat, a ≠ 437 → zi Y a k = zi X a k := fun a k g1 => hYf.i g1
    have y437 : ∀ k : Nat, k < 1004 → zi Y 437 k = zi S 438 k := fun k hk => by rw [hYz k hk, xi 438 k (by omega)]
    refine hI.now (hLX.fr hYf) (by rw [hYf.s]; omega) (fun a k g1 _ => by rw [hYf.r]; exact xr a k (by omega)) (fun a k ha => by rw [yi _ _ (by omega), xi _ _ (by omega)]) ?_ (hb.g y437)
    exact (zRep.fr (S1 := Y) xg (by rw [hYf.s]; exact Nat.le_refl _) (fun j => by rw [hYf.r]) (fun a k ha => yi _ _ (by omega))).g y437
