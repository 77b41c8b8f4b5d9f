/-! flaws anew -/
def zLc (x : Int32) : Int32 := x * 1103515245 + 12345
def zFw1 (x : Int32) : Int32 := (zLc x &&& 2147483647) / 65536 - (zLc x &&& 2147483647) / 65536 / 64 * 64
theorem zFw1_b (x : Int32) : zU (zFw1 x) 64 := by
  have h := Jvm.Kit.i32_mask (zLc x) 2147483647 (k := 31) (by decide) (by decide)
  have hu : zU (zLc x &&& 2147483647) (2 ^ 31) := by
    unfold zU
    have e : (zLc x &&& 2147483647).toInt = (zLc x).toInt % 2 ^ 31 := h
    omega
  obtain ⟨k, hk, ek⟩ := hu.k
  unfold zFw1
  rw [ek, show (65536 : Int32) = nI 65536 from rfl, show (64 : Int32) = nI 64 from rfl, nI_div hk (by omega), nI_mod (by omega) (by omega)]
  exact zU_n (by omega) (by omega)
/-- one dive's flaws set -/
def zSf (g : Nat → Int32) (v : Nat) (x : Int32) : Nat → Int32 := fun i => if i = 112 + 19 * v + 2 then x else g i
theorem zSf_o {g : Nat → Int32} {v i : Nat} {x : Int32} (h : ¬ i = 112 + 19 * v + 2) : zSf g v x i = g i := if_neg h
theorem zSf_b {g : Nat → Int32} {nd nj nv v : Nat} {x : Int32} (hz : zBz g nd nj nv) (hv : v < 40) (hx : zU x 64) : zBz (zSf g v x) nd nj nv := by
  obtain ⟨⟨b1, b2, b3, b4, b5, b6⟩, c1, c2, c3, c4, c5, c6⟩ := hz
  refine ⟨⟨b1, b2, b3, by rw [zSf_o (by omega)]; exact b4, by rw [zSf_o (by omega)]; exact b5, by rw [zSf_o (by omega)]; exact b6⟩, c1.g b1 (fun k _ => zSf_o (by omega)), c2.g b2 (fun k _ _ => zSf_o (by omega)), c3.g (fun k _ _ => zSf_o (by omega)), c4.g (fun k _ _ => zSf_o (by omega)), c5.g (fun k _ _ => zSf_o (by omega)), fun w hw => ?_⟩
  by_cases hwv : w = v
  · subst hwv
    obtain ⟨d1, d2, d3, d4, d5, d6, d7⟩ := c6 w hw
    refine ⟨by rw [zSf_o (by omega)]; exact d1, by rw [zSf_o (by omega)]; exact d2, ?_, by rw [zSf_o (by omega)]; exact d4, by rw [zSf_o (by omega)]; exact d5, fun c hc => ?_, fun c c1 hc hc1 hne => ?_⟩
    · have : zSf g w x (112 + 19 * w + 2) = x := if_pos rfl
      rw [this]; exact hx
    · rw [zSf_o (by omega), zSf_o (by omega)]; exact d6 c hc
    · rw [zSf_o (by omega), zSf_o (by omega)]; exact d7 c c1 hc hc1 hne
  · exact (c6 w hw).g (fun k _ _ => zSf_o (by omega))
theorem zCx.setF {S : zM} {nd nj nv v : Nat} {g : Nat → Int32} {x : Int32} (h : zCx S 270 g nd nj nv) (hz : zBz g nd nj nv) (hv : v < nv) (hx : zU x 64) : zCx (zpI S (284 + 3 * v) 4 x) 270 (zSf g v x) nd nj nv := by
  have b3 := hz.1.2.2.1
  have f : zF (fun a k => a = 284 + 3 * v ∧ k = 4) S (zpI S (284 + 3 * v) 4 x) := zF.pI zF.rf ⟨rfl, rfl⟩
  have e1 : zi (zpI S (284 + 3 * v) 4 x) (284 + 3 * v) 4 = x := mi_eq _ _ _ _
  generalize zpI S (284 + 3 * v) 4 x = Y at f e1
  obtain ⟨h0, h1, h2, h3⟩ := h
  refine ⟨h0, by rw [f.r, f.n]; exact h1, ?_, (zSf_b hz (by omega) hx).s⟩
  refine zRep.lay (zg1 h2 (fun a k ha => f.i (by omega)) (fun k hk => zSf_o (by omega))) (zg2 h2 (fun a k ha => f.i (by omega)) (fun k hk _ => zSf_o (by omega))) (zg3 h2 (fun a k ha => f.i (by omega)) (fun k hk _ => zSf_o (by omega))) (zg4 h2 (fun a k ha => f.i (by omega)) (fun k hk _ => zSf_o (by omega))) (zg5 h2 (fun a k ha => f.i (by omega)) (fun k hk _ => zSf_o (by omega))) (zg6 h2 (by rw [f.s]; exact Nat.le_refl _) (fun j => by rw [f.r]) (fun a k ha => f.i (by omega)) (fun k hk _ => zSf_o (by omega)) (zSf_o (by omega))) (fun w hw1 hw2 => ?_)
  rw [zSf_o (by omega)] at hw1
  have hD := h2.2.2.2.2.2.2 w hw1 hw2
  by_cases hwv : w = v
  · subst hwv
    obtain ⟨d1, d2, d3, d4, d5, d6⟩ := hD
    refine ⟨by rw [f.i (by omega), zSf_o (by omega)]; exact d1, by rw [f.i (by omega), zSf_o (by omega)]; exact d2, ?_, by rw [f.i (by omega), zSf_o (by omega)]; exact d4, by rw [f.i (by omega), zSf_o (by omega)]; exact d5, fun c hc => ?_⟩
    · have : zSf g w x (112 + 19 * w + 2) = x := if_pos rfl
      rw [this, show 270 + 14 + 3 * w = 284 + 3 * w by omega]; exact e1
    · rw [f.i (by omega), f.i (by omega), zSf_o (by omega), zSf_o (by omega)]; exact d6 c hc
  · exact (hD.fr (fun a k h1 h2 => f.i (by omega))).g (fun k h1 h2 => zSf_o (by omega))
/-- the seed and the row after the first k dives -/
def zSd (g : Nat → Int32) (hh x : Int32) : Nat → Int32
  | 0 => x
  | k + 1 => if g (112 + 19 * k) = hh then zLc (zSd g hh x k) else zSd g hh x k
def zFw (g : Nat → Int32) (hh x : Int32) : Nat → (Nat → Int32)
  | 0 => g
  | k + 1 => if g (112 + 19 * k) = hh then zSf (zFw g hh x k) k (zFw1 (zSd g hh x k)) else zFw g hh x k
theorem zFw_o {g : Nat → Int32} {hh x : Int32} {i : Nat} : ∀ k : Nat, (∀ v : Nat, v < k → ¬ i = 112 + 19 * v + 2) → zFw g hh x k i = g i := by
  intro k
  induction k with
  | zero => intro _; rfl
  | succ k ih =>
    intro h
    show (if g (112 + 19 * k) = hh then zSf (zFw g hh x k) k (zFw1 (zSd g hh x k)) else zFw g hh x k) i = g i
    by_cases q : g (112 + 19 * k) = hh
    · rw [if_pos q, zSf_o (h k (by omega))]
      exact ih (fun v hv => h v (by omega))
    · rw [if_neg q]
      exact ih (fun v hv => h v (by omega))
theorem zFw_b {g : Nat → Int32} {hh x : Int32} {nd nj nv : Nat} (hz : zBz g nd nj nv) : ∀ k : Nat, k ≤ nv → zBz (zFw g hh x k) nd nj nv := by
  have b3 := hz.1.2.2.1
  intro k
  induction k with
  | zero => intro _; exact hz
  | succ k ih =>
    intro hk
    show zBz (if g (112 + 19 * k) = hh then zSf (zFw g hh x k) k (zFw1 (zSd g hh x k)) else zFw g hh x k) nd nj nv
    by_cases q : g (112 + 19 * k) = hh
    · rw [if_pos q]
      exact zSf_b (ih (by omega)) (by omega) (zFw1_b _)
    · rw [if_neg q]
      exact ih (by omega)
theorem x_flawAnew {S0 : zM} {nd nj nv : Nat} {g : Nat → Int32} {hh x0 : Int32} (h : zCx S0 270 g nd nj nv) (hz : zBz g nd nj nv) {n : Nat} (hn : 40 < n) : ∃ S1 : zM, f_X9_flawAnew n S0 270 hh x0 = some (zSd g hh x0 nv, S1) ∧ zF zWm S0 S1 ∧ zCx S1 270 (zFw g hh x0 nv) nd nj nv := by
  have b3 := h.2.2.2.1.2.2.1
  unfold f_X9_flawAnew
  rw [zLet_d]
  refine zloopR (fun f (s : Int32 × Int32 × zM) => f_X9_flawAnew_L5 270 hh (fun x1 S2 => some (x1, S2)) f s.1 s.2.1 s.2.2) (fun k s => s.1 = zSd g hh x0 k ∧ s.2.1 = nI k ∧ zF zWm S0 s.2.2 ∧ zCx s.2.2 270 (zFw g hh x0 k) nd nj nv) nv (fun o => ∃ S1 : zM, o = some (zSd g hh x0 nv, S1) ∧ zF zWm S0 S1 ∧ zCx S1 270 (zFw g hh x0 nv) nd nj nv) ?_ ?_ n (x0, 0, S0) (by omega) ⟨rfl, rfl, zF.rf, h⟩
  · rintro k f ⟨x, y, S⟩ hk ⟨h1, h2, h3, h4⟩
    dsimp only at h1 h2 h3 h4
    subst h1 h2
    have r9 : zr S 270 9 = 280 := h4.2.1.1.2.2.2.2.2.2.1
    have l10 : zln S 280 = 40 := h4.2.1.2.2.1.2.2.2.2.2.2.2.2.1
    obtain ⟨d1, -⟩ := h4.2.1.2.2.2 k (by omega)
    obtain ⟨f2, -⟩ := h4.d hk
    rw [zFw_o k (fun v hv => by omega)] at f2
    have hs1 : zSd g hh x0 (k + 1) = if g (112 + 19 * k) = hh then zLc (zSd g hh x0 k) else zSd g hh x0 k := rfl
    have hs2 : zFw g hh x0 (k + 1) = if g (112 + 19 * k) = hh then zSf (zFw g hh x0 k) k (zFw1 (zSd g hh x0 k)) else zFw g hh x0 k := rfl
    have hrun : f_X9_flawAnew_L5 270 hh (fun x1 S2 => some (x1, S2)) (f + 1) (zSd g hh x0 k) (nI k) S = if g (112 + 19 * k) = hh then f_X9_flawAnew_L5 270 hh (fun x1 S2 => some (x1, S2)) f (zLc (zSd g hh x0 k)) (nI (k + 1)) (zpI S (270 + 14 + 3 * k) 4 (zFw1 (zSd g hh x0 k))) else f_X9_flawAnew_L5 270 hh (fun x1 S2 => some (x1, S2)) f (zSd g hh x0 k) (nI (k + 1)) S := by
      show f_X9_flawAnew_L5b 270 hh (fun x1 S2 => some (x1, S2)) (f_X9_flawAnew_L5 270 hh (fun x1 S2 => some (x1, S2)) f) (zSd g hh x0 k) (nI k) S = _
      unfold f_X9_flawAnew_L5b
      rw [h4.n.2.2.2, if_neg (nI_ge hk (by omega)), r9, zChk_t (by decide), l10, zChk_t (zix (by omega) (by omega)), nI_clamp (by omega), d1, zChk_t (by omega), f2, zLet_d, nI_1]
      rfl
    by_cases q : g (112 + 19 * k) = hh
    · rw [if_pos q] at hrun hs1 hs2
      have := h4.setF (zFw_b hz k (by omega)) hk (zFw1_b (zSd g hh x0 k))
      rw [show 284 + 3 * k = 270 + 14 + 3 * k by omega, ← hs2] at this
      exact ⟨(zLc (zSd g hh x0 k), nI (k + 1), zpI S (270 + 14 + 3 * k) 4 (zFw1 (zSd g hh x0 k))), ⟨hs1.symm, rfl, zF.pI h3 (by unfold zWm; omega), this⟩, hrun⟩
    · rw [if_neg q] at hrun hs1 hs2
      exact ⟨(zSd g hh x0 k, nI (k + 1), S), ⟨hs1.symm, rfl, h3, by rw [hs2]; exact h4⟩, hrun⟩
  · rintro f ⟨x, y, S⟩ ⟨h1, h2, h3, h4⟩
    dsimp only at h1 h2 h3 h4 ⊢
    subst h1 h2
    refine ⟨S, ?_, h3, h4⟩
    show f_X9_flawAnew_L5b 270 hh (fun x1 S2 => some (x1, S2)) (f_X9_flawAnew_L5 270 hh (fun x1 S2 => some (x1, S2)) f) (zSd g hh x0 nv) (nI nv) S = _
    unfold f_X9_flawAnew_L5b
    rw [h4.n.2.2.2, if_pos (Int32.le_refl _)]
