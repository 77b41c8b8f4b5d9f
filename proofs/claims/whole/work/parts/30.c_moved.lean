/-! moved: the best of all masks -/
def zMq (pl : Nat → Nat) (v3 : Int32) : Nat → Option (Nat × Nat)
  | 0 => none
  | k + 1 => if f_J6_bitCount_0f7a4 (nI k) = v3 then (match zMq pl v3 k with
    | none => some (pl k, k)
    | some q => if q.1 ≤ pl k then some q else some (pl k, k)) else zMq pl v3 k
def zM1 : Option (Nat × Nat) → Int32
  | none => -4
  | some q => nI q.1
def zM2 : Option (Nat × Nat) → Int32
  | none => -4
  | some q => nI q.2
theorem zMq_s {pl : Nat → Nat} {v3 : Int32} (k : Nat) : zMq pl v3 (k + 1) = if f_J6_bitCount_0f7a4 (nI k) = v3 then (match zMq pl v3 k with
    | none => some (pl k, k)
    | some q => if q.1 ≤ pl k then some q else some (pl k, k)) else zMq pl v3 k := Eq.trans rfl rfl
theorem zMq_b {pl : Nat → Nat} {v3 : Int32} (hp : ∀ k : Nat, pl k ≤ 9) : ∀ (k : Nat) (q : Nat × Nat), zMq pl v3 k = some q → q.1 ≤ 9 ∧ q.2 < k := by
  intro k
  induction k with
  | zero => intro q h; cases h
  | succ k ih =>
    intro q h
    rw [zMq_s] at h
    have hpk := hp k
    by_cases hb : f_J6_bitCount_0f7a4 (nI k) = v3
    · rw [if_pos hb] at h
      cases hz : zMq pl v3 k with
      | none =>
        rw [hz] at h
        have h' : (pl k, k) = q := Option.some.inj h
        rw [← h']
        exact ⟨hpk, by show k < k + 1; omega⟩
      | some u =>
        rw [hz] at h
        have hu := ih u hz
        dsimp only at h
        by_cases hl : u.1 ≤ pl k
        · rw [if_pos hl] at h
          rw [← Option.some.inj h]
          exact ⟨hu.1, by omega⟩
        · rw [if_neg hl] at h
          rw [← Option.some.inj h]
          exact ⟨hpk, by show k < k + 1; omega⟩
    · rw [if_neg hb] at h
      have := ih q h
      exact ⟨this.1, by omega⟩
theorem zMq_n {pl : Nat → Nat} {v3 : Int32} {a : Nat} (ha : f_J6_bitCount_0f7a4 (nI a) = v3) : ∀ k : Nat, a < k → ¬ zMq pl v3 k = none := by
  intro k
  induction k with
  | zero => intro h; omega
  | succ k ih =>
    intro h q
    rw [zMq_s] at q
    by_cases hb : f_J6_bitCount_0f7a4 (nI k) = v3
    · rw [if_pos hb] at q
      cases hz : zMq pl v3 k with
      | none => rw [hz] at q; cases q
      | some u =>
        rw [hz] at q
        dsimp only at q
        by_cases hl : u.1 ≤ pl k
        · rw [if_pos hl] at q; cases q
        · rw [if_neg hl] at q; cases q
    · rw [if_neg hb] at q
      by_cases hak : a = k
      · subst hak; exact hb ha
      · exact ih (by omega) q
theorem zMp_b {g : Nat → Int32} {hh : Int32} {d nv nd : Nat} (hd : nd ≤ 8) (k : Nat) : zMp g hh d nv nd k ≤ 9 := by
  unfold zMp
  have := zAd_le (g := zIm (zUp g hh d (nI k)) g nv) (h := hh) (val := zVl (zIm (zUp g hh d (nI k)) g nv) 0) (d := d) (m := nv) nd
  omega
theorem zbits : ∀ k : Nat, k < 128 → f_X12_bits 200 (nI k) = some (f_J6_bitCount_0f7a4 (nI k)) := by decide +kernel
theorem x_moveL {S0 : zM} (h0 : zInv S0) {nd nj nv d : Nat} {g : Nat → Int32} {hh v3 : Int32} {K : Int32 → Int32 → zM → Option (Int32 × zM)} (e0 : zi S0 437 = g) (hz : zBz g nd nj nv) (hd : d < 8) (hdi : zDi g hh d nv = true) {n : Nat} (hn : 128 < n) : ∃ S1 : zM, f_X11_moved_L55 n 1 hh (nI d) v3 K n (-4) (-4) 0 S0 = K (zM1 (zMq (zMp g hh d nv nd) v3 128)) (zM2 (zMq (zMp g hh d nv nd) v3 128)) S1 ∧ zInv S1 ∧ zi S1 437 = g := by
  have b1 := hz.1.1
  refine zloopR (fun f (s : Int32 × Int32 × Int32 × zM) => f_X11_moved_L55 n 1 hh (nI d) v3 K f s.1 s.2.1 s.2.2.1 s.2.2.2) (fun k s => s.1 = zM1 (zMq (zMp g hh d nv nd) v3 k) ∧ s.2.1 = zM2 (zMq (zMp g hh d nv nd) v3 k) ∧ s.2.2.1 = nI k ∧ zInv s.2.2.2 ∧ zi s.2.2.2 437 = g) 128 (fun o => ∃ S1 : zM, o = K (zM1 (zMq (zMp g hh d nv nd) v3 128)) (zM2 (zMq (zMp g hh d nv nd) v3 128)) S1 ∧ zInv S1 ∧ zi S1 437 = g) ?_ ?_ n (-4, -4, 0, S0) hn ⟨rfl, rfl, rfl, h0, e0⟩
  · rintro k f ⟨x, y, z, S⟩ hk ⟨h1, h2, h3, h4, h5⟩
    dsimp only at h1 h2 h3 h4 h5
    subst h1 h2 h3
    obtain ⟨Z, z1, z2, z3⟩ := x_movedBy (hh := hh) h4 h5 hz hd hk (n := n) (by omega)
    rw [if_pos hdi] at z1
    have hp9 := zMp_b (g := g) (hh := hh) (d := d) (nv := nv) b1 k
    have hpos : (0 : Int32) ≤ nI (zMp g hh d nv nd k) := nI_le (a := 0) (by omega) (by omega)
    have hs := zMq_s (pl := zMp g hh d nv nd) (v3 := v3) k
    by_cases hb : f_J6_bitCount_0f7a4 (nI k) = v3
    · rw [if_pos hb] at hs
      have hrun : f_X11_moved_L55 n 1 hh (nI d) v3 K (f + 1) (zM1 (zMq (zMp g hh d nv nd) v3 k)) (zM2 (zMq (zMp g hh d nv nd) v3 k)) (nI k) S = if zM1 (zMq (zMp g hh d nv nd) v3 k) < 0 then f_X11_moved_L55 n 1 hh (nI d) v3 K f (nI (zMp g hh d nv nd k)) (nI k) (nI (k + 1)) Z else if zM1 (zMq (zMp g hh d nv nd) v3 k) ≤ nI (zMp g hh d nv nd k) then f_X11_moved_L55 n 1 hh (nI d) v3 K f (zM1 (zMq (zMp g hh d nv nd) v3 k)) (zM2 (zMq (zMp g hh d nv nd) v3 k)) (nI (k + 1)) Z else f_X11_moved_L55 n 1 hh (nI d) v3 K f (nI (zMp g hh d nv nd k)) (nI k) (nI (k + 1)) Z := by
        show f_X11_moved_L55b n 1 hh (nI d) v3 K (f_X11_moved_L55 n 1 hh (nI d) v3 K f) (zM1 (zMq (zMp g hh d nv nd) v3 k)) (zM2 (zMq (zMp g hh d nv nd) v3 k)) (nI k) S = _
        unfold f_X11_moved_L55b
        rw [if_neg (show ¬ (128 : Int32) ≤ nI k from nI_ge hk (by decide)), zLet_d, if_pos hb, z1, zB2_s, zLet_d, if_pos hpos, nI_1]
      cases hq : zMq (zMp g hh d nv nd) v3 k with
      | none =>
        rw [hq] at hs hrun
        rw [if_pos (show zM1 none < 0 by decide)] at hrun
        exact ⟨(nI (zMp g hh d nv nd k), nI k, nI (k + 1), Z), ⟨by rw [hs]; rfl, by rw [hs]; rfl, rfl, z2, z3⟩, hrun⟩
      | some q =>
        have hq9 := zMq_b (zMp_b b1) k q hq
        rw [hq] at hs hrun
        rw [if_neg (show ¬ zM1 (some q) < 0 from nI_pos (by omega))] at hrun
        dsimp only at hs
        by_cases hl : q.1 ≤ zMp g hh d nv nd k
        · rw [if_pos hl] at hs
          rw [if_pos (show zM1 (some q) ≤ nI (zMp g hh d nv nd k) from nI_le hl (by omega))] at hrun
          exact ⟨(zM1 (some q), zM2 (some q), nI (k + 1), Z), ⟨by rw [hs], by rw [hs], rfl, z2, z3⟩, hrun⟩
        · rw [if_neg hl] at hs
          rw [if_neg (show ¬ zM1 (some q) ≤ nI (zMp g hh d nv nd k) from nI_ge (by omega) (by omega))] at hrun
          exact ⟨(nI (zMp g hh d nv nd k), nI k, nI (k + 1), Z), ⟨by rw [hs]; rfl, by rw [hs]; rfl, rfl, z2, z3⟩, hrun⟩
    · rw [if_neg hb] at hs
      refine ⟨(zM1 (zMq (zMp g hh d nv nd) v3 k), zM2 (zMq (zMp g hh d nv nd) v3 k), nI (k + 1), S), ⟨by rw [hs], by rw [hs], rfl, h4, h5⟩, ?_⟩
      show f_X11_moved_L55b n 1 hh (nI d) v3 K (f_X11_moved_L55 n 1 hh (nI d) v3 K f) (zM1 (zMq (zMp g hh d nv nd) v3 k)) (zM2 (zMq (zMp g hh d nv nd) v3 k)) (nI k) S = _
      unfold f_X11_moved_L55b
      rw [if_neg (show ¬ (128 : Int32) ≤ nI k from nI_ge hk (by decide)), zLet_d, if_neg hb, nI_1]
  · rintro f ⟨x, y, z, S⟩ ⟨h1, h2, h3, h4, h5⟩
    dsimp only at h1 h2 h3 h4 h5 ⊢
    subst h1 h2 h3
    refine ⟨S, ?_, h4, h5⟩
    show f_X11_moved_L55b n 1 hh (nI d) v3 K (f_X11_moved_L55 n 1 hh (nI d) v3 K f) _ _ (nI 128) S = _
    unfold f_X11_moved_L55b
    rw [if_pos (show (128 : Int32) ≤ nI 128 from Int32.le_refl _)]
theorem x_moveL0 {S0 : zM} (h0 : zInv S0) {nd nj nv d : Nat} {g : Nat → Int32} {hh v3 : Int32} {K : Int32 → Int32 → zM → Option (Int32 × zM)} (e0 : zi S0 437 = g) (hz : zBz g nd nj nv) (hd : d < 8) (hdi : ¬ zDi g hh d nv = true) {n : Nat} (hn : 128 < n) : ∃ S1 : zM, f_X11_moved_L55 n 1 hh (nI d) v3 K n (-4) (-4) 0 S0 = K (-4) (-4) S1 ∧ zInv S1 ∧ zi S1 437 = g := by
  refine zloopR (fun f (s : Int32 × Int32 × Int32 × zM) => f_X11_moved_L55 n 1 hh (nI d) v3 K f s.1 s.2.1 s.2.2.1 s.2.2.2) (fun k s => s.1 = -4 ∧ s.2.1 = -4 ∧ s.2.2.1 = nI k ∧ zInv s.2.2.2 ∧ zi s.2.2.2 437 = g) 128 (fun o => ∃ S1 : zM, o = K (-4) (-4) S1 ∧ zInv S1 ∧ zi S1 437 = g) ?_ ?_ n (-4, -4, 0, S0) hn ⟨rfl, rfl, rfl, h0, e0⟩
  · rintro k f ⟨x, y, z, S⟩ hk ⟨h1, h2, h3, h4, h5⟩
    dsimp only at h1 h2 h3 h4 h5
    subst h1 h2 h3
    obtain ⟨Z, z1, z2, z3⟩ := x_movedBy (hh := hh) h4 h5 hz hd hk (n := n) (by omega)
    rw [if_neg hdi] at z1
    by_cases hb : f_J6_bitCount_0f7a4 (nI k) = v3
    · refine ⟨(-4, -4, nI (k + 1), Z), ⟨rfl, rfl, rfl, z2, z3⟩, ?_⟩
      show f_X11_moved_L55b n 1 hh (nI d) v3 K (f_X11_moved_L55 n 1 hh (nI d) v3 K f) (-4) (-4) (nI k) S = _
      unfold f_X11_moved_L55b
      rw [if_neg (show ¬ (128 : Int32) ≤ nI k from nI_ge hk (by decide)), zLet_d, if_pos hb, z1, zB2_s, zLet_d, if_neg (show ¬ (0 : Int32) ≤ -4 by decide), if_pos (show (-4 : Int32) < 0 by decide), nI_1]
    · refine ⟨(-4, -4, nI (k + 1), S), ⟨rfl, rfl, rfl, h4, h5⟩, ?_⟩
      show f_X11_moved_L55b n 1 hh (nI d) v3 K (f_X11_moved_L55 n 1 hh (nI d) v3 K f) (-4) (-4) (nI k) S = _
      unfold f_X11_moved_L55b
      rw [if_neg (show ¬ (128 : Int32) ≤ nI k from nI_ge hk (by decide)), zLet_d, if_neg hb, nI_1]
  · rintro f ⟨x, y, z, S⟩ ⟨h1, h2, h3, h4, h5⟩
    dsimp only at h1 h2 h3 h4 h5 ⊢
    subst h1 h2 h3
    refine ⟨S, ?_, h4, h5⟩
    show f_X11_moved_L55b n 1 hh (nI d) v3 K (f_X11_moved_L55 n 1 hh (nI d) v3 K f) _ _ (nI 128) S = _
    unfold f_X11_moved_L55b
    rw [if_pos (show (128 : Int32) ≤ nI 128 from Int32.le_refl _)]
