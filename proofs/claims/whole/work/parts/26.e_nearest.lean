theorem zx64 {a b : Nat} (ha : a ≤ 800) (hb : b ≤ 40) : (Int32.toInt64 (nI a) * Int32.toInt64 (nI b)).toInt = ((a * b : Nat) : Int) := by
  have h1 : a * b ≤ 800 * 40 := Nat.mul_le_mul ha hb
  rw [Int64.toInt_mul, Int32.toInt_toInt64, Int32.toInt_toInt64, nI_toInt (by omega), nI_toInt (by omega), ← Int.natCast_mul]
  exact Int.bmod_eq_of_le (by omega) (by omega)
theorem zx64' {a b : Nat} (ha : a ≤ 40) (hb : b ≤ 800) : (Int32.toInt64 (nI a) * Int32.toInt64 (nI b)).toInt = ((a * b : Nat) : Int) := by
  have h1 : a * b ≤ 40 * 800 := Nat.mul_le_mul ha hb
  rw [Int64.toInt_mul, Int32.toInt_toInt64, Int32.toInt_toInt64, nI_toInt (by omega), nI_toInt (by omega), ← Int.natCast_mul]
  exact Int.bmod_eq_of_le (by omega) (by omega)
theorem zNr_e {g : Nat → Int32} {nv j d : Nat} (hd : (zTl g j (fun _ => true) nv).2.2.2.2.toNatClampNeg = d) : zNr g nv (j + 1) = if (zTl g j (fun _ => true) nv).2.1 = 0 then zNr g nv j else match zNr g nv j with
      | none => some (j, d, (zTl g j (fun _ => true) nv).2.1)
      | some (b, bd, bm) => if d * bm < bd * (zTl g j (fun _ => true) nv).2.1 then some (j, d, (zTl g j (fun _ => true) nv).2.1) else some (b, bd, bm) := by
  rw [← hd]; rfl
def zNx (t : Option (Nat × Nat × Nat)) (x7 x8 : Int32) : Prop := match t with
  | none => True
  | some (_, d, m) => x7 = nI d ∧ x8 = nI m
def zNy (t : Option (Nat × Nat × Nat)) (x7 x8 : Int64) : Prop := match t with
  | none => True
  | some (_, d, m) => x7 = Int32.toInt64 (nI d) ∧ x8 = Int32.toInt64 (nI m)
theorem x_nearestL {S0 : zM} {nd nj nv : Nat} {g : Nat → Int32} (h : zCx S0 2 g nd nj nv) (hz : zBz g nd nj nv) (r0 : zr S0 1 0 = 2) (r7 : zr S0 1 7 = 419) {n : Nat} (hn : 40 < n) : ∃ S1 : zM, f_X11_nearest n S0 1 = some (zNw (zNr g nv nj), S1) ∧ zF (fun a k => zPs 2 a k ∨ a = 419) S0 S1 := by
  obtain ⟨⟨b1, b2, b3⟩, e5, e6, e7⟩ := h.n
  unfold f_X11_nearest
  rw [zLet_d]
  refine zloopR (fun f (s : Int32 × Int32 × Int32 × Int32 × zM) => f_X11_nearest_L10 n 1 (fun x1 S2 => some (x1, S2)) f s.1 s.2.1 s.2.2.1 s.2.2.2.1 s.2.2.2.2) (fun k s => s.1 = zNw (zNr g nv k) ∧ zNx (zNr g nv k) s.2.1 s.2.2.1 ∧ s.2.2.2.1 = nI k ∧ zF (fun a k => zPs 2 a k ∨ a = 419) S0 s.2.2.2.2) nj (fun o => ∃ S1 : zM, o = some (zNw (zNr g nv nj), S1) ∧ zF (fun a k => zPs 2 a k ∨ a = 419) S0 S1) ?_ ?_ n (-4, 0, 0, 0, S0) (by omega) ⟨rfl, trivial, rfl, zF.rf⟩
  · rintro k f ⟨x6, x7, x8, x9, S⟩ hk ⟨h1, h2, h3, h4⟩
    dsimp only at h1 h2 h3 h4
    subst h1 h3
    have hS : zCx S 2 g nd nj nv := h.fo h4 (fun a i q => by unfold zPs at q; omega)
    obtain ⟨X, t1, t2, t3⟩ := x_tallyUp (land := -1) hS hz (show k < 12 by omega) hn
    rw [zTl_c (q1 := fun _ => true) nv (fun i _ => zLq_m)] at t3
    obtain ⟨u0, u1, u2, u3, u4⟩ := t3
    obtain ⟨d, hd, ed⟩ := (zTl_d (q := fun _ => true) b3 hz.2.2.2.2.2.2 (show k < 12 by omega) nv (Nat.le_refl _)).k
    have hm := zTl_n (g := g) (j := k) (q := fun _ => true) nv
    have hd' : (zTl g k (fun _ => true) nv).2.2.2.2.toNatClampNeg = d := by rw [ed]; exact nI_clamp (by omega)
    rw [ed] at u4
    have q7 : zr X 1 7 = 419 := by rw [t2.r, h4.r]; exact r7
    have e := zNr_e hd'
    generalize (zTl g k (fun _ => true) nv).2.1 = m at hm u1 e
    have hrun : f_X11_nearest_L10 n 1 (fun x1 S2 => some (x1, S2)) (f + 1) (zNw (zNr g nv k)) x7 x8 (nI k) S = if m = 0 then f_X11_nearest_L10 n 1 (fun x1 S2 => some (x1, S2)) f (zNw (zNr g nv k)) x7 x8 (nI (k + 1)) X else if zNw (zNr g nv k) < 0 then f_X11_nearest_L10 n 1 (fun x1 S2 => some (x1, S2)) f (nI k) (nI d) (nI m) (nI (k + 1)) X else if x7 * nI m ≤ nI d * x8 then f_X11_nearest_L10 n 1 (fun x1 S2 => some (x1, S2)) f (zNw (zNr g nv k)) x7 x8 (nI (k + 1)) X else f_X11_nearest_L10 n 1 (fun x1 S2 => some (x1, S2)) f (nI k) (nI d) (nI m) (nI (k + 1)) X := by
      show f_X11_nearest_L10b n 1 (fun x1 S2 => some (x1, S2)) (f_X11_nearest_L10 n 1 (fun x1 S2 => some (x1, S2)) f) (zNw (zNr g nv k)) x7 x8 (nI k) S = _
      unfold f_X11_nearest_L10b
      rw [h4.r, r0, zChk_t (by decide), hS.n.2.2.1, if_neg (nI_ge hk (by omega)), r7, zChk_t (by decide), t1, zB1_s]
      simp only [nLet]
      rw [q7, u1, u4, nI_1]
      rw [zChk_t (show ¬ 419 = 0 by decide), zChk_t (show ¬ 419 = 0 by decide), zChk_t (show ¬ 419 = 0 by decide)]
      rw [if_neg (show ¬ (1 : Int32) = 0 by decide)]
      rcases Nat.eq_zero_or_pos m with q | q
      · rw [q, if_pos (show nI 0 ≤ (0 : Int32) from Int32.le_refl _), if_pos (show nI 0 ≤ (0 : Int32) from Int32.le_refl _), if_pos rfl]
        repeat' split
        all_goals rfl
      · rw [if_neg (nI_nle q (by omega)), if_neg (nI_nle q (by omega)), if_neg (show ¬ m = 0 by omega)]
        by_cases q1 : zNw (zNr g nv k) < 0
        · rw [if_pos q1, if_pos q1]
        · rw [if_neg q1, if_neg q1]
          by_cases q2 : x7 * nI m ≤ nI d * x8
          · rw [if_pos q2, if_pos q2, if_pos trivial]
          · rw [if_neg q2, if_neg q2]
    have hF : zF (fun a k => zPs 2 a k ∨ a = 419) S0 X := h4.tr t2
    by_cases q : m = 0
    · rw [if_pos q] at e
      refine ⟨(zNw (zNr g nv k), x7, x8, nI (k + 1), X), ⟨by rw [e], by rw [e]; exact h2, rfl, hF⟩, ?_⟩
      dsimp only
      rw [hrun, if_pos q]
    · rw [if_neg q] at e hrun
      cases hz2 : zNr g nv k with
      | none =>
        rw [hz2] at e hrun
        refine ⟨(nI k, nI d, nI m, nI (k + 1), X), ⟨by rw [e]; rfl, by rw [e]; exact ⟨rfl, rfl⟩, rfl, hF⟩, ?_⟩
        dsimp only
        rw [hrun, if_pos (show zNw none < 0 by decide)]
      | some t =>
        obtain ⟨b, bd, bm⟩ := t
        have hb := zNr_b b3 hz.2.2.2.2.2.2 k (by omega) b bd bm hz2
        rw [hz2] at e hrun h2
        obtain ⟨h7, h8⟩ := h2
        subst h7 h8
        dsimp only at e
        have p1 : bd * m ≤ 800 * 40 := Nat.mul_le_mul hb.2.1 (by omega)
        have p2 : d * bm ≤ 800 * 40 := Nat.mul_le_mul (by omega) hb.2.2.1
        rw [if_neg (show ¬ zNw (some (b, bd, bm)) < 0 from nI_pos (by omega)), nI_mul, nI_mul] at hrun
        by_cases q2 : d * bm < bd * m
        · rw [if_pos q2] at e
          refine ⟨(nI k, nI d, nI m, nI (k + 1), X), ⟨by rw [e]; rfl, by rw [e]; exact ⟨rfl, rfl⟩, rfl, hF⟩, ?_⟩
          dsimp only
          rw [hrun, if_neg (nI_ge q2 (by omega))]
        · rw [if_neg q2] at e
          refine ⟨(nI b, nI bd, nI bm, nI (k + 1), X), ⟨by rw [e]; rfl, by rw [e]; exact ⟨rfl, rfl⟩, rfl, hF⟩, ?_⟩
          dsimp only
          rw [hrun, if_pos (nI_le (by omega) (by omega))]
          rfl
  · rintro f ⟨x6, x7, x8, x9, S⟩ ⟨h1, h2, h3, h4⟩
    dsimp only at h1 h2 h3 h4 ⊢
    subst h1 h3
    have hS : zCx S 2 g nd nj nv := h.fo h4 (fun a i q => by unfold zPs at q; omega)
    refine ⟨S, ?_, h4⟩
    show f_X11_nearest_L10b n 1 (fun x1 S2 => some (x1, S2)) (f_X11_nearest_L10 n 1 (fun x1 S2 => some (x1, S2)) f) (zNw (zNr g nv nj)) x7 x8 (nI nj) S = _
    unfold f_X11_nearest_L10b
    rw [h4.r, r0, zChk_t (by decide), hS.n.2.2.1, if_pos (Int32.le_refl _)]
theorem m_nearestL {S0 : zM} {nd nj nv : Nat} {g : Nat → Int32} (h : zRx S0 g nd nj nv) (hz : zBz g nd nj nv) (em : zi S0 436 33 = 0) {n : Nat} (hn : 40 < n) : ∃ S1 : zM, f_X12_nearest n S0 436 = some (zNw (zNr g nv nj), S1) ∧ zF zQs S0 S1 := by
  have b3 := h.2.2.1.2.2.1
  have b2 := h.2.2.1.2.1
  unfold f_X12_nearest
  rw [zLet_d]
  refine zloopR (fun f (s : Int32 × Int64 × Int64 × Int32 × zM) => f_X12_nearest_L11 n 436 (fun x1 S2 => some (x1, S2)) f s.1 s.2.1 s.2.2.1 s.2.2.2.1 s.2.2.2.2) (fun k s => s.1 = zNw (zNr g nv k) ∧ zNy (zNr g nv k) s.2.1 s.2.2.1 ∧ s.2.2.2.1 = nI k ∧ zF zQs S0 s.2.2.2.2) nj (fun o => ∃ S1 : zM, o = some (zNw (zNr g nv nj), S1) ∧ zF zQs S0 S1) ?_ ?_ n (-4, 0, 1, 0, S0) (by omega) ⟨rfl, trivial, rfl, zF.rf⟩
  · rintro k f ⟨x6, x7, x8, x9, S⟩ hk ⟨h1, h2, h3, h4⟩
    dsimp only at h1 h2 h3 h4
    subst h1 h3
    have hS : zRx S g nd nj nv := h.q h4
    have r0 : zr S 436 0 = 437 := hS.1.2.2.2.2.2.1.1
    have l0 : zln S 437 = 1004 := hS.1.2.2.2.2.2.2.1
    have ej : zi S 437 1002 = nI nj := by rw [hS.2.1]; exact hS.2.2.1.2.2.2.2.1
    obtain ⟨X, t1, t2, u4, u1⟩ := m_findNear hS hz (show k < 12 by omega) (by rw [zQs33 h4]; exact em) hn
    obtain ⟨d, hd, ed⟩ := (zTl_d (q := fun _ => true) b3 hz.2.2.2.2.2.2 (show k < 12 by omega) nv (Nat.le_refl _)).k
    have hm := zTl_n (g := g) (j := k) (q := fun _ => true) nv
    have hd' : (zTl g k (fun _ => true) nv).2.2.2.2.toNatClampNeg = d := by rw [ed]; exact nI_clamp (by omega)
    rw [ed] at u4
    have e := zNr_e hd'
    generalize (zTl g k (fun _ => true) nv).2.1 = m at hm u1 e
    have hrun : f_X12_nearest_L11 n 436 (fun x1 S2 => some (x1, S2)) (f + 1) (zNw (zNr g nv k)) x7 x8 (nI k) S = if m = 0 then f_X12_nearest_L11 n 436 (fun x1 S2 => some (x1, S2)) f (zNw (zNr g nv k)) x7 x8 (nI (k + 1)) X else if zNw (zNr g nv k) < 0 then f_X12_nearest_L11 n 436 (fun x1 S2 => some (x1, S2)) f (nI k) (Int32.toInt64 (nI d)) (Int32.toInt64 (nI m)) (nI (k + 1)) X else if (Int32.toInt64 (nI d) * x8).toInt < (x7 * Int32.toInt64 (nI m)).toInt then f_X12_nearest_L11 n 436 (fun x1 S2 => some (x1, S2)) f (nI k) (Int32.toInt64 (nI d)) (Int32.toInt64 (nI m)) (nI (k + 1)) X else f_X12_nearest_L11 n 436 (fun x1 S2 => some (x1, S2)) f (zNw (zNr g nv k)) x7 x8 (nI (k + 1)) X := by
      show f_X12_nearest_L11b n 436 (fun x1 S2 => some (x1, S2)) (f_X12_nearest_L11 n 436 (fun x1 S2 => some (x1, S2)) f) (zNw (zNr g nv k)) x7 x8 (nI k) S = _
      unfold f_X12_nearest_L11b
      rw [r0, zChk_t (by decide), l0, zq1002, zChk_t (zix (by omega) (by omega)), nI_clamp (by omega), ej, if_neg (nI_ge hk (by omega)), t1, zB1_s]
      simp only [nLet]
      rw [u1, u4, nI_1]
      have hc : (lg_cmp (Int32.toInt64 (nI d) * x8) (x7 * Int32.toInt64 (nI m)) < 0) ↔ (Int32.toInt64 (nI d) * x8).toInt < (x7 * Int32.toInt64 (nI m)).toInt := by
        rw [lg_cmp_lt, Int64.lt_iff_toInt_lt]
      rcases Nat.eq_zero_or_pos m with q | q
      · rw [q, if_pos (show nI 0 = (0 : Int32) from rfl), if_pos rfl]
      · rw [if_neg (nI_ne0 q (by omega)), if_neg (show ¬ m = 0 by omega)]
        by_cases q1 : zNw (zNr g nv k) < 0
        · rw [if_pos q1, if_pos q1]
        · rw [if_neg q1, if_neg q1]
          by_cases q2 : (Int32.toInt64 (nI d) * x8).toInt < (x7 * Int32.toInt64 (nI m)).toInt
          · rw [if_pos (hc.mpr q2), if_pos q2]
          · rw [if_neg (fun z => q2 (hc.mp z)), if_neg q2]
    have hF : zF zQs S0 X := h4.tr t2
    by_cases q : m = 0
    · rw [if_pos q] at e
      refine ⟨(zNw (zNr g nv k), x7, x8, nI (k + 1), X), ⟨by rw [e], by rw [e]; exact h2, rfl, hF⟩, ?_⟩
      dsimp only
      rw [hrun, if_pos q]
    · rw [if_neg q] at e hrun
      cases hz2 : zNr g nv k with
      | none =>
        rw [hz2] at e hrun
        refine ⟨(nI k, Int32.toInt64 (nI d), Int32.toInt64 (nI m), nI (k + 1), X), ⟨by rw [e]; rfl, by rw [e]; exact ⟨rfl, rfl⟩, rfl, hF⟩, ?_⟩
        dsimp only
        rw [hrun, if_pos (show zNw none < 0 by decide)]
      | some t =>
        obtain ⟨b, bd, bm⟩ := t
        have hb := zNr_b b3 hz.2.2.2.2.2.2 k (by omega) b bd bm hz2
        rw [hz2] at e hrun h2
        obtain ⟨h7, h8⟩ := h2
        subst h7 h8
        dsimp only at e
        rw [if_neg (show ¬ zNw (some (b, bd, bm)) < 0 from nI_pos (by omega)), zx64 (show d ≤ 800 by omega) hb.2.2.1, zx64 hb.2.1 (show m ≤ 40 by omega)] at hrun
        by_cases q2 : d * bm < bd * m
        · rw [if_pos q2] at e
          refine ⟨(nI k, Int32.toInt64 (nI d), Int32.toInt64 (nI m), nI (k + 1), X), ⟨by rw [e]; rfl, by rw [e]; exact ⟨rfl, rfl⟩, rfl, hF⟩, ?_⟩
          dsimp only
          rw [hrun, if_pos (Int.ofNat_lt.mpr q2)]
        · rw [if_neg q2] at e
          refine ⟨(nI b, Int32.toInt64 (nI bd), Int32.toInt64 (nI bm), nI (k + 1), X), ⟨by rw [e]; rfl, by rw [e]; exact ⟨rfl, rfl⟩, rfl, hF⟩, ?_⟩
          dsimp only
          rw [hrun, if_neg (fun z => q2 (Int.ofNat_lt.mp z))]
          rfl
  · rintro f ⟨x6, x7, x8, x9, S⟩ ⟨h1, h2, h3, h4⟩
    dsimp only at h1 h2 h3 h4 ⊢
    subst h1 h3
    have hS : zRx S g nd nj nv := h.q h4
    have r0 : zr S 436 0 = 437 := hS.1.2.2.2.2.2.1.1
    have l0 : zln S 437 = 1004 := hS.1.2.2.2.2.2.2.1
    have ej : zi S 437 1002 = nI nj := by rw [hS.2.1]; exact hS.2.2.1.2.2.2.2.1
    refine ⟨S, ?_, h4⟩
    show f_X12_nearest_L11b n 436 (fun x1 S2 => some (x1, S2)) (f_X12_nearest_L11 n 436 (fun x1 S2 => some (x1, S2)) f) (zNw (zNr g nv nj)) x7 x8 (nI nj) S = _
    unfold f_X12_nearest_L11b
    rw [r0, zChk_t (by decide), l0, zq1002, zChk_t (zix (by omega) (by omega)), nI_clamp (by omega), ej, if_pos (Int32.le_refl _)]
theorem s_nearest {S : zM} (h : zInv S) (v1 v2 v3 v4 v5 : Int32) : ∃ S' : zM, zs_25 1 436 v1 v2 v3 v4 v5 S S' ∧ zInv S' := by
  obtain ⟨nd, nj, nv, hC, hz, hR⟩ := h.z
  obtain ⟨X, x1, x2⟩ := x_nearestL hC hz h.1.2.2.2.2.1.1.1 h.1.t (n := 200) (by omega)
  have hX : zInv X := h.fr (x2.mo (fun a k q => by
    rcases q with q | q
    · exact zPs_scr (Or.inl rfl) q
    · unfold zScr; omega))
  have hRX : zRx X (zi S 437) nd nj nv := ⟨hX.1, fun k => x2.i (by unfold zPs; omega), hC.2.2.2⟩
  obtain ⟨Y, y1, y2⟩ := m_nearestL hRX hz hX.2.2.2.2.2.2 (n := 200) (by omega)
  exact ⟨Y, ⟨_, 200, X, x1, y1⟩, hX.fr (y2.mo (fun a k q => zQs_scr q))⟩
