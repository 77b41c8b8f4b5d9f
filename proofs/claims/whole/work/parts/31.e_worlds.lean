/-! the worlds one by one: seed, count of right ones, row -/
def zR2 (g : Nat → Int32) (hh x : Int32) (nv : Nat) : Nat → Int32 := zMgs (zHp (zFw g hh x nv) hh) (zFw g hh x nv) nv
def zGd (g : Nat → Int32) (hh : Int32) (nv nd : Nat) : Bool := match zWn g hh (zVl g 0) nv nd with
  | none => false
  | some w => decide (zAd g hh (zVl g 1) w nv nd = 0)
def zWz (g : Nat → Int32) (hh x0 : Int32) (nv nd : Nat) : Nat → (Int32 × Nat) × (Nat → Int32)
  | 0 => ((x0, 0), g)
  | t + 1 => ((zSd (zWz g hh x0 nv nd t).2 hh (zWz g hh x0 nv nd t).1.1 nv, if zGd (zR2 (zWz g hh x0 nv nd t).2 hh (zWz g hh x0 nv nd t).1.1 nv) hh nv nd = true then (zWz g hh x0 nv nd t).1.2 + 1 else (zWz g hh x0 nv nd t).1.2), zR2 (zWz g hh x0 nv nd t).2 hh (zWz g hh x0 nv nd t).1.1 nv)
theorem zR2_b {g : Nat → Int32} {hh x : Int32} {nd nj nv : Nat} (hz : zBz g nd nj nv) : zBz (zR2 g hh x nv) nd nj nv := zMgs_b (zFw_b hz nv (Nat.le_refl _)) nv (Nat.le_refl _)
theorem zR2_f {g : Nat → Int32} {hh x : Int32} {nd nj nv v : Nat} (hz : zBz g nd nj nv) : zR2 g hh x nv (112 + 19 * v) = g (112 + 19 * v) ∧ zR2 g hh x nv (112 + 19 * v + 1) = g (112 + 19 * v + 1) := by
  have b3 := hz.1.2.2.1
  unfold zR2
  rw [zMgs_nm (by unfold zNm; omega) nv b3, zMgs_nm (by unfold zNm; omega) nv b3, zFw_o nv (fun v hv => by omega), zFw_o nv (fun v hv => by omega)]
  exact ⟨rfl, rfl⟩
theorem zWz_ok {g : Nat → Int32} {hh x0 : Int32} {nd nj nv : Nat} (hz : zBz g nd nj nv) : ∀ t : Nat, zBz (zWz g hh x0 nv nd t).2 nd nj nv ∧ ∀ v : Nat, (zWz g hh x0 nv nd t).2 (112 + 19 * v) = g (112 + 19 * v) ∧ (zWz g hh x0 nv nd t).2 (112 + 19 * v + 1) = g (112 + 19 * v + 1) := by
  intro t
  induction t with
  | zero => exact ⟨hz, fun v => ⟨rfl, rfl⟩⟩
  | succ t ih =>
    refine ⟨zR2_b ih.1, fun v => ?_⟩
    have := zR2_f (hh := hh) (x := (zWz g hh x0 nv nd t).1.1) (v := v) ih.1
    exact ⟨this.1.trans (ih.2 v).1, this.2.trans (ih.2 v).2⟩
theorem zWn_so {g : Nat → Int32} {h : Int32} {val : Nat → Int64} {m e : Nat} (he : zDi g h e m = true) : ∀ k : Nat, e < k → ∃ w : Nat, zWn g h val m k = some w := by
  intro k
  induction k with
  | zero => intro q; omega
  | succ k ih =>
    intro hk
    have hA : zWn g h val m (k + 1) = if zDi g h k m = true then (match zWn g h val m k with
    | none => some k
    | some w => if zTt g h val k m ≤ zTt g h val w m then some w else some k) else zWn g h val m k := rfl
    by_cases q : zDi g h k m = true
    · rw [if_pos q] at hA
      cases hz : zWn g h val m k with
      | none => rw [hz] at hA; exact ⟨k, hA⟩
      | some u =>
        rw [hz] at hA
        dsimp only at hA
        by_cases hl : zTt g h val k m ≤ zTt g h val u m
        · rw [if_pos hl] at hA; exact ⟨u, hA⟩
        · rw [if_neg hl] at hA; exact ⟨k, hA⟩
    · rw [if_neg q] at hA
      have hek : ¬ e = k := fun z => q (by rw [← z]; exact he)
      obtain ⟨w, hw⟩ := ih (by omega)
      exact ⟨w, hA.trans hw⟩
theorem x_worldsL {S0 : zM} {nd nj nv N e : Nat} {g : Nat → Int32} {hh x0 : Int32} {K : Int32 → zM → Option (Int32 × zM)} (h : zCx S0 270 g nd nj nv) (hz : zBz g nd nj nv) (r2 : zr S0 1 2 = 270) (hN : N ≤ 30) (he : e < nd) (hde : zDi g hh e nv = true) {n : Nat} (hn : 120 < n) : ∃ S1 : zM, f_X11_worlds_L58 n 1 hh (nI N) K n x0 0 0 S0 = K (nI (zWz g hh x0 nv nd N).1.2) S1 ∧ zF (fun a j => zPs 270 a j ∨ zWm a j) S0 S1 := by
  refine zloopR (fun f (s : Int32 × Int32 × Int32 × zM) => f_X11_worlds_L58 n 1 hh (nI N) K f s.1 s.2.1 s.2.2.1 s.2.2.2) (fun k s => s.1 = (zWz g hh x0 nv nd k).1.1 ∧ s.2.1 = nI (zWz g hh x0 nv nd k).1.2 ∧ s.2.2.1 = nI k ∧ zF (fun a j => zPs 270 a j ∨ zWm a j) S0 s.2.2.2 ∧ zCx s.2.2.2 270 (zWz g hh x0 nv nd k).2 nd nj nv) N (fun o => ∃ S1 : zM, o = K (nI (zWz g hh x0 nv nd N).1.2) S1 ∧ zF (fun a j => zPs 270 a j ∨ zWm a j) S0 S1) ?_ ?_ n (x0, 0, 0, S0) (by omega) ⟨rfl, rfl, rfl, zF.rf, h⟩
  · rintro k f ⟨x, y, z, S⟩ hk ⟨h1, h2, h3, h4, h5⟩
    dsimp only at h1 h2 h3 h4 h5
    subst h1 h2 h3
    obtain ⟨ok1, ok2⟩ := zWz_ok (hh := hh) (x0 := x0) hz k
    have hW : zWz g hh x0 nv nd (k + 1) = ((zSd (zWz g hh x0 nv nd k).2 hh (zWz g hh x0 nv nd k).1.1 nv, if zGd (zR2 (zWz g hh x0 nv nd k).2 hh (zWz g hh x0 nv nd k).1.1 nv) hh nv nd = true then (zWz g hh x0 nv nd k).1.2 + 1 else (zWz g hh x0 nv nd k).1.2), zR2 (zWz g hh x0 nv nd k).2 hh (zWz g hh x0 nv nd k).1.1 nv) := rfl
    generalize zWz g hh x0 nv nd k = Z at h5 ok1 ok2 hW ⊢
    obtain ⟨⟨x, c⟩, r⟩ := Z
    dsimp only at h5 ok1 ok2 hW ⊢
    have hr2 : zr S 1 2 = 270 := by rw [h4.r]; exact r2
    obtain ⟨A, a1, a2, a3⟩ := x_flawAnew (hh := hh) (x0 := x) h5 ok1 (n := n) (by omega)
    have hrA : zr A 1 2 = 270 := by rw [a2.r]; exact hr2
    have hd2 : zDi (zR2 r hh x nv) hh e nv = true := by
      rw [zDi_c (g := g) nv (fun v hv => ⟨(zR2_f ok1).1.trans (ok2 v).1, (zR2_f ok1).2.trans (ok2 v).2⟩)]
      exact hde
    obtain ⟨w, hw⟩ := zWn_so (val := zVl (zR2 r hh x nv) 0) hd2 nd he
    obtain ⟨B, c1, c2, c3, c4⟩ := x_isRight (hh := hh) a3 (zFw_b ok1 nv (Nat.le_refl _)) hw hn
    have hdw := zWn_di nd w hw
    have hgd : zGd (zR2 r hh x nv) hh nv nd = decide (zAd (zR2 r hh x nv) hh (zVl (zR2 r hh x nv) 1) w nv nd = 0) := by
      unfold zGd
      rw [hw]
    have hle := zAd_le (g := zR2 r hh x nv) (h := hh) (val := zVl (zR2 r hh x nv) 1) (d := w) (m := nv) nd
    have hnd := hz.1.1
    have c1' : f_X9_isRight n A 270 hh = some (if (if zDi (zR2 r hh x nv) hh w nv = true then nI (1 + zAd (zR2 r hh x nv) hh (zVl (zR2 r hh x nv) 1) w nv nd) else -4) = (1 : Int32) then 1 else 0, B) := c1
    rw [if_pos hdw] at c1'
    have hF : zF (fun a j => zPs 270 a j ∨ zWm a j) S0 B := (h4.tr (a2.mo (fun a j q => Or.inr q))).tr c2
    by_cases hg : zAd (zR2 r hh x nv) hh (zVl (zR2 r hh x nv) 1) w nv nd = 0
    · rw [hgd, if_pos (decide_eq_true hg)] at hW
      rw [hg, if_pos (show nI (1 + 0) = (1 : Int32) from rfl)] at c1'
      refine ⟨(zSd r hh x nv, nI (c + 1), nI (k + 1), B), ⟨by rw [hW], by rw [hW], rfl, hF, by rw [hW]; exact c3⟩, ?_⟩
      show f_X11_worlds_L58b n 1 hh (nI N) K (f_X11_worlds_L58 n 1 hh (nI N) K f) x (nI c) (nI k) S = _
      unfold f_X11_worlds_L58b
      rw [if_neg (nI_ge hk (by omega)), hr2, zChk_t (by decide), a1, zB2_s, hrA, zChk_t (by decide), c1', zB2_s, if_neg (show ¬ (1 : Int32) = 0 by decide), nI_1, nI_1]
    · rw [hgd, if_neg (fun z => hg (of_decide_eq_true z))] at hW
      rw [if_neg (show ¬ nI (1 + zAd (zR2 r hh x nv) hh (zVl (zR2 r hh x nv) 1) w nv nd) = (1 : Int32) from fun z => hg (by
        have := nI_inj (b := 1) z (by omega) (by omega)
        omega))] at c1'
      refine ⟨(zSd r hh x nv, nI c, nI (k + 1), B), ⟨by rw [hW], by rw [hW], rfl, hF, by rw [hW]; exact c3⟩, ?_⟩
      show f_X11_worlds_L58b n 1 hh (nI N) K (f_X11_worlds_L58 n 1 hh (nI N) K f) x (nI c) (nI k) S = _
      unfold f_X11_worlds_L58b
      rw [if_neg (nI_ge hk (by omega)), hr2, zChk_t (by decide), a1, zB2_s, hrA, zChk_t (by decide), c1', zB2_s, if_pos rfl, nI_1]
  · rintro f ⟨x, y, z, S⟩ ⟨h1, h2, h3, h4, h5⟩
    dsimp only at h1 h2 h3 h4 h5 ⊢
    subst h1 h2 h3
    refine ⟨S, ?_, h4⟩
    show f_X11_worlds_L58b n 1 hh (nI N) K (f_X11_worlds_L58 n 1 hh (nI N) K f) _ _ (nI N) S = _
    unfold f_X11_worlds_L58b
    rw [if_pos (Int32.le_refl _)]
