/-! totals, places, winners: the reference -/
def zDf (g : Nat → Int32) (h : Int32) (d : Nat) : Nat → Nat → Bool
  | _, 0 => false
  | k, j + 1 => zDp g h d k || zDf g h d (k + 1) j
theorem zDf_i {g : Nat → Int32} {h : Int32} {d : Nat} : ∀ j k : Nat, (zDi g h d k || zDf g h d k j) = zDi g h d (k + j) := by
  intro j
  induction j with
  | zero => intro k; show (zDi g h d k || false) = _; rw [Bool.or_false]; rfl
  | succ j ih =>
    intro k
    show (zDi g h d k || (zDp g h d k || zDf g h d (k + 1) j)) = _
    rw [← Bool.or_assoc, show k + (j + 1) = (k + 1) + j by omega, ← ih (k + 1)]
    rfl
/-- the reference's parameters make of the told row g the row g' -/
def zPar (S : zM) (g g' : Nat → Int32) (nv : Nat) : Prop := (∃ hi lo : Nat, hi < 4 ∧ lo < 4 ∧ zi S 436 30 = nI hi ∧ zi S 436 31 = nI lo ∧ g' 878 = nI hi ∧ g' 879 = nI lo) ∧ (∀ k : Nat, 880 ≤ k → k ≤ 1000 → g' k = g k) ∧ ∀ v : Nat, v < nv → g' (112 + 19 * v) = g (112 + 19 * v) ∧ g' (112 + 19 * v + 1) = g (112 + 19 * v + 1) ∧ g' (112 + 19 * v + 3) = g (112 + 19 * v + 3) ∧ g' (112 + 19 * v + 4) = g (112 + 19 * v + 4) ∧ zGa (zPe g (zi S 436 29) v) (zMe g (zi S 436 32) (zi S 436 33) (zi S 436 34) v) 7 = zPn g' v
theorem zPar.c {S S1 : zM} {g g' : Nat → Int32} {nv : Nat} (h : zPar S g g' nv) (e : ∀ k : Nat, 29 ≤ k → k ≤ 34 → zi S1 436 k = zi S 436 k) : zPar S1 g g' nv := by
  unfold zPar
  rw [e 29 (by omega) (by omega), e 30 (by omega) (by omega), e 31 (by omega) (by omega), e 32 (by omega) (by omega), e 33 (by omega) (by omega), e 34 (by omega) (by omega)]
  exact h
theorem zPar.x {S S1 : zM} {g g' : Nat → Int32} {nv : Nat} (h : zPar S g g' nv) (f : zFx zCq S S1) : zPar S1 g g' nv := h.c (fun k h1 h2 => f.i (by unfold zCq; omega))
theorem m_cnt {S0 : zM} {nd nj nv v : Nat} {g g' : Nat → Int32} (h : zRx S0 g nd nj nv) (hz : zBz g nd nj nv) (ht : zTg g) (hp : zPar S0 g g' nv) (hv : v < nv) {n : Nat} (hn : 120 < n) : ∃ S1 : zM, f_X12_countsNow n S0 436 (nI v) = some (zCv g' v, S1) ∧ zFx zCq S0 S1 := by
  obtain ⟨⟨hi, lo, p1, p2, p3, p4, p5, p6⟩, p7, p8⟩ := hp
  obtain ⟨q1, q2, q3, q4, q5⟩ := p8 v hv
  exact m_countsNow h hz hv ht rfl rfl rfl rfl p3 p4 p1 p2 q5 p5 p6 q4 q3 p7 hn
theorem m_dives {S : zM} {nd nj nv d : Nat} {g : Nat → Int32} {hh : Int32} (h : zRx S g nd nj nv) {n : Nat} (hn : 40 < n) : f_X12_dives n S 436 hh (nI d) = some (if zDi g hh d nv = true then 1 else 0) := by
  have r0 : zr S 436 0 = 437 := h.1.2.2.2.2.2.1.1
  have l0 : zln S 437 = 1004 := h.1.2.2.2.2.2.2.1
  have b3 := h.2.2.1.2.2.1
  have ev : zi S 437 1003 = nI nv := by rw [h.2.1]; exact h.2.2.1.2.2.2.2.2
  have key : ∀ j k n : Nat, k + j = nv → j < n → f_X12_dives_L2 S 436 hh (nI d) n (nI k) = some (if zDf g hh d k j = true then 1 else 0) := by
    intro j
    induction j with
    | zero =>
      intro k n hk hn
      obtain ⟨m, rfl⟩ : ∃ m, n = m + 1 := ⟨n - 1, by omega⟩
      have : k = nv := by omega
      subst this
      show f_X12_dives_L2b S 436 hh (nI d) (f_X12_dives_L2 S 436 hh (nI d) m) (nI k) = _
      unfold f_X12_dives_L2b
      rw [r0, zChk_t (by decide), l0, zq1003, zChk_t (zix (by omega) (by omega)), nI_clamp (by omega), ev, if_pos (Int32.le_refl _)]
      rfl
    | succ j ih =>
      intro k n hk hn
      obtain ⟨m, rfl⟩ : ∃ m, n = m + 1 := ⟨n - 1, by omega⟩
      have g0 : f_X12_get S 436 (nI k) (0 : Int32) = some (g (112 + 19 * k)) := (m_get h.1 (v := k) (k := 0) (by omega) (by omega)).trans (congrArg some (h.2.1 _))
      have g1 : f_X12_get S 436 (nI k) (1 : Int32) = some (g (112 + 19 * k + 1)) := (m_get h.1 (v := k) (k := 1) (by omega) (by omega)).trans (congrArg some (h.2.1 _))
      show f_X12_dives_L2b S 436 hh (nI d) (f_X12_dives_L2 S 436 hh (nI d) m) (nI k) = some (if (zDp g hh d k || zDf g hh d (k + 1) j) = true then 1 else 0)
      unfold f_X12_dives_L2b
      rw [r0, zChk_t (by decide), l0, zq1003, zChk_t (zix (by omega) (by omega)), nI_clamp (by omega), ev, if_neg (nI_ge (by omega) (by omega)), g0, zB1_s, g1, zB1_s, nI_1, ih (k + 1) m (by omega) (by omega)]
      unfold zDp
      by_cases q0 : g (112 + 19 * k) = hh
      · by_cases q1 : g (112 + 19 * k + 1) = nI d
        · rw [if_pos q0, if_pos q1, if_pos (by simp [q0, q1])]
        · rw [if_pos q0, if_neg q1]
          simp only [q1, decide_false, Bool.and_false, Bool.false_or]
      · rw [if_neg q0]
        simp only [q0, decide_false, Bool.false_and, Bool.false_or]
  have := key nv 0 n (by omega) (by omega)
  have e : zDf g hh d 0 nv = zDi g hh d nv := by
    have := zDf_i (g := g) (h := hh) (d := d) nv 0
    rw [Nat.zero_add] at this
    rw [← this]
    rfl
  rw [e] at this
  exact this
theorem m_totalNow {S0 : zM} {nd nj nv d : Nat} {g g' : Nat → Int32} {hh : Int32} (h : zRx S0 g nd nj nv) (hz : zBz g nd nj nv) (ht : zTg g) (hp : zPar S0 g g' nv) {n : Nat} (hn : 120 < n) : ∃ S1 : zM, f_X12_totalNow n S0 436 hh (nI d) = some (zTt g' hh (zVl g' 0) d nv, S1) ∧ zFx zCq S0 S1 := by
  have b3 := h.2.2.1.2.2.1
  unfold f_X12_totalNow
  rw [zLet_d]
  refine zloopR (fun f (s : Int64 × Int32 × zM) => f_X12_totalNow_L5 n 436 hh (nI d) (fun y1 S2 => some (y1, S2)) f s.1 s.2.1 s.2.2) (fun k s => s.1 = zTt g' hh (zVl g' 0) d k ∧ s.2.1 = nI k ∧ zFx zCq S0 s.2.2) nv (fun o => ∃ S1 : zM, o = some (zTt g' hh (zVl g' 0) d nv, S1) ∧ zFx zCq S0 S1) ?_ ?_ n (0, 0, S0) (by omega) ⟨rfl, rfl, zFx.rf⟩
  · rintro k f ⟨x, y, S⟩ hk ⟨h1, h2, h3⟩
    dsimp only at h1 h2 h3
    subst h1 h2
    have hS : zRx S g nd nj nv := h.x h3 (fun k => by unfold zCq; omega)
    have r0 : zr S 436 0 = 437 := hS.1.2.2.2.2.2.1.1
    have l0 : zln S 437 = 1004 := hS.1.2.2.2.2.2.2.1
    have ev : zi S 437 1003 = nI nv := by rw [hS.2.1]; exact hS.2.2.1.2.2.2.2.2
    obtain ⟨p0, p1, -⟩ := hp.2.2 k hk
    have g0 : f_X12_get S 436 (nI k) (0 : Int32) = some (g' (112 + 19 * k)) := ((m_get hS.1 (v := k) (k := 0) (by omega) (by omega)).trans (congrArg some (hS.2.1 _))).trans (congrArg some p0.symm)
    have g1 : f_X12_get S 436 (nI k) (1 : Int32) = some (g' (112 + 19 * k + 1)) := ((m_get hS.1 (v := k) (k := 1) (by omega) (by omega)).trans (congrArg some (hS.2.1 _))).trans (congrArg some p1.symm)
    obtain ⟨X, x1, x2⟩ := m_cnt hS hz ht (hp.x h3) hk hn
    have hT : zTt g' hh (zVl g' 0) d (k + 1) = if zDp g' hh d k = true then zTt g' hh (zVl g' 0) d k + zVl g' 0 k else zTt g' hh (zVl g' 0) d k := rfl
    have hV : zVl g' 0 k = Int32.toInt64 (zCv g' k) := by unfold zVl; rw [if_pos rfl]
    have h0 : ∀ y : Int64, y + 0 = y := fun y => Int64.add_zero y
    have hrun : f_X12_totalNow_L5 n 436 hh (nI d) (fun y1 S2 => some (y1, S2)) (f + 1) (zTt g' hh (zVl g' 0) d k) (nI k) S = if zDp g' hh d k = true then f_X12_totalNow_L5 n 436 hh (nI d) (fun y1 S2 => some (y1, S2)) f (zTt g' hh (zVl g' 0) d k + zVl g' 0 k) (nI (k + 1)) X else f_X12_totalNow_L5 n 436 hh (nI d) (fun y1 S2 => some (y1, S2)) f (zTt g' hh (zVl g' 0) d k) (nI (k + 1)) S := by
      show f_X12_totalNow_L5b n 436 hh (nI d) (fun y1 S2 => some (y1, S2)) (f_X12_totalNow_L5 n 436 hh (nI d) (fun y1 S2 => some (y1, S2)) f) (zTt g' hh (zVl g' 0) d k) (nI k) S = _
      unfold f_X12_totalNow_L5b
      rw [r0, zChk_t (by decide), l0, zq1003, zChk_t (zix (by omega) (by omega)), nI_clamp (by omega), ev, if_neg (nI_ge hk (by omega)), g0, zB1_s, zLet_d, zLet_d, g1, zB1_s, x1, zB2_s, nI_1]
      dsimp only
      rw [h0, ← hV]
      unfold zDp
      by_cases q0 : g' (112 + 19 * k) = hh
      · by_cases q1 : g' (112 + 19 * k + 1) = nI d
        · rw [if_pos q0, if_pos q1, if_pos (by simp [q0, q1])]
        · rw [if_pos q0, if_neg q1, if_neg (by simp [q1])]
      · rw [if_neg q0, if_neg (by simp [q0])]
    by_cases q : zDp g' hh d k = true
    · rw [if_pos q] at hrun hT
      exact ⟨(zTt g' hh (zVl g' 0) d k + zVl g' 0 k, nI (k + 1), X), ⟨hT.symm, rfl, h3.tr x2⟩, hrun⟩
    · rw [if_neg q] at hrun hT
      exact ⟨(zTt g' hh (zVl g' 0) d k, nI (k + 1), S), ⟨hT.symm, rfl, h3⟩, hrun⟩
  · rintro f ⟨x, y, S⟩ ⟨h1, h2, h3⟩
    dsimp only at h1 h2 h3 ⊢
    subst h1 h2
    have hS : zRx S g nd nj nv := h.x h3 (fun k => by unfold zCq; omega)
    have r0 : zr S 436 0 = 437 := hS.1.2.2.2.2.2.1.1
    have l0 : zln S 437 = 1004 := hS.1.2.2.2.2.2.2.1
    have ev : zi S 437 1003 = nI nv := by rw [hS.2.1]; exact hS.2.2.1.2.2.2.2.2
    refine ⟨S, ?_, h3⟩
    show f_X12_totalNow_L5b n 436 hh (nI d) (fun y1 S2 => some (y1, S2)) (f_X12_totalNow_L5 n 436 hh (nI d) (fun y1 S2 => some (y1, S2)) f) (zTt g' hh (zVl g' 0) d nv) (nI nv) S = _
    unfold f_X12_totalNow_L5b
    rw [r0, zChk_t (by decide), l0, zq1003, zChk_t (zix (by omega) (by omega)), nI_clamp (by omega), ev, if_pos (Int32.le_refl _)]
