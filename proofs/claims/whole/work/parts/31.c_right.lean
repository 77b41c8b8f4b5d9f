/-! is the right one winning: the reference -/
theorem m_truly {S : zM} {nd nj nv d : Nat} {g : Nat → Int32} {hh : Int32} (h : zRx S g nd nj nv) (hz : zBz g nd nj nv) {n : Nat} (hn : 40 < n) : f_X12_truly n S 436 hh (nI d) = some (zTt g hh (zVl g 1) d nv) := by
  have b3 := h.2.2.1.2.2.1
  have r0 : zr S 436 0 = 437 := h.1.2.2.2.2.2.1.1
  have l0 : zln S 437 = 1004 := h.1.2.2.2.2.2.2.1
  have ev : zi S 437 1003 = nI nv := by rw [h.2.1]; exact h.2.2.1.2.2.2.2.2
  unfold f_X12_truly
  rw [zLet_d]
  refine zloop (fun f (s : Int64 × Int32) => f_X12_truly_L5 n S 436 hh (nI d) (fun y1 => some y1) f s.1 s.2) (fun k => (zTt g hh (zVl g 1) d k, nI k)) nv ?_ ?_ n (by omega)
  · intro k f hk
    have hT : zTt g hh (zVl g 1) d (k + 1) = if zDp g hh d k = true then zTt g hh (zVl g 1) d k + zVl g 1 k else zTt g hh (zVl g 1) d k := rfl
    have hV : zVl g 1 k = Int32.toInt64 (zWorth g (g (112 + 19 * k + 2)) * g (112 + 19 * k + 4)) := by unfold zVl; rw [if_neg (by decide)]
    have g0 : f_X12_get S 436 (nI k) (0 : Int32) = some (g (112 + 19 * k)) := (m_get h.1 (v := k) (k := 0) (by omega) (by omega)).trans (congrArg some (h.2.1 _))
    have g1 : f_X12_get S 436 (nI k) (1 : Int32) = some (g (112 + 19 * k + 1)) := (m_get h.1 (v := k) (k := 1) (by omega) (by omega)).trans (congrArg some (h.2.1 _))
    have g4 : f_X12_get S 436 (nI k) (4 : Int32) = some (g (112 + 19 * k + 4)) := (m_get h.1 (v := k) (k := 4) (by omega) (by omega)).trans (congrArg some (h.2.1 _))
    have hw := m_worth h.1 (v := k) (by omega) (by rw [h.2.1]; exact (hz.2.2.2.2.2.2 k hk).2.2.1) (n := n) (by omega)
    rw [h.e] at hw
    have h0 : ∀ y : Int64, y + 0 = y := fun y => Int64.add_zero y
    show f_X12_truly_L5b n S 436 hh (nI d) (fun y1 => some y1) (f_X12_truly_L5 n S 436 hh (nI d) (fun y1 => some y1) f) (zTt g hh (zVl g 1) d k) (nI k) = f_X12_truly_L5 n S 436 hh (nI d) (fun y1 => some y1) f (zTt g hh (zVl g 1) d (k + 1)) (nI (k + 1))
    unfold f_X12_truly_L5b
    rw [r0, zChk_t (by decide), l0, zq1003, zChk_t (zix (by omega) (by omega)), nI_clamp (by omega), ev, if_neg (nI_ge hk (by omega)), g0, zB1_s, zLet_d, zLet_d, g1, zB1_s, hw, zB1_s, g4, zB1_s, nI_1]
    dsimp only
    rw [h0, ← hV, hT]
    unfold zDp
    by_cases q0 : g (112 + 19 * k) = hh
    · by_cases q1 : g (112 + 19 * k + 1) = nI d
      · rw [if_pos q0, if_pos q1, if_pos (by simp [q0, q1])]
      · rw [if_pos q0, if_neg q1, if_neg (by simp [q1])]
    · rw [if_neg q0, if_neg (by simp [q0])]
  · intro f
    show f_X12_truly_L5b n S 436 hh (nI d) (fun y1 => some y1) (f_X12_truly_L5 n S 436 hh (nI d) (fun y1 => some y1) f) (zTt g hh (zVl g 1) d nv) (nI nv) = _
    unfold f_X12_truly_L5b
    rw [r0, zChk_t (by decide), l0, zq1003, zChk_t (zix (by omega) (by omega)), nI_clamp (by omega), ev, if_pos (Int32.le_refl _)]
theorem zAd_mo {g : Nat → Int32} {h : Int32} {val : Nat → Int64} {d m k : Nat} : ∀ j : Nat, zAd g h val d m k ≤ zAd g h val d m (k + j) := by
  intro j
  induction j with
  | zero => exact Nat.le_refl _
  | succ j ih =>
    show _ ≤ (if zDi g h (k + j) m = true then (if zTt g h val (k + j) m ≤ zTt g h val d m then zAd g h val d m (k + j) else zAd g h val d m (k + j) + 1) else zAd g h val d m (k + j))
    split
    · split <;> omega
    · exact ih
theorem m_isRight {S0 : zM} {nd nj nv w : Nat} {g : Nat → Int32} {hh : Int32} (h : zRx S0 g nd nj nv) (hz : zBz g nd nj nv) (ht : zTg g) (hp : zPar S0 g g nv) (hw : zWn g hh (zVl g 0) nv nd = some w) {n : Nat} (hn : 120 < n) : ∃ S1 : zM, f_X12_isRight n S0 436 hh = some (if zAd g hh (zVl g 1) w nv nd = 0 then 1 else 0, S1) ∧ zFx zCq S0 S1 := by
  have b1 := h.2.2.1.1
  obtain ⟨A, a1, a2⟩ := m_wonNow (hh := hh) h hz ht hp hn
  rw [hw] at a1
  have hA : zRx A g nd nj nv := h.x a2 (fun k => by unfold zCq; omega)
  have r0 : zr A 436 0 = 437 := hA.1.2.2.2.2.2.1.1
  have l0 : zln A 437 = 1004 := hA.1.2.2.2.2.2.2.1
  have ev : zi A 437 1001 = nI nd := by rw [hA.2.1]; exact hA.2.2.1.2.2.2.1
  refine ⟨A, ?_, a2⟩
  unfold f_X12_isRight
  rw [a1, zB2_s, show zWi (some w) = nI w from rfl, m_truly hA hz (by omega), zB1_s]
  have key : ∀ j k f : Nat, k + j = nd → j < f → f_X12_isRight_L16 n 436 hh A (zTt g hh (zVl g 1) w nv) f (nI k) = some (if zAd g hh (zVl g 1) w nv nd = zAd g hh (zVl g 1) w nv k then 1 else 0, A) := by
    intro j
    induction j with
    | zero =>
      intro k f hk hf
      obtain ⟨m, rfl⟩ : ∃ m, f = m + 1 := ⟨f - 1, by omega⟩
      have : k = nd := by omega
      subst this
      show f_X12_isRight_L16b n 436 hh A (zTt g hh (zVl g 1) w nv) (f_X12_isRight_L16 n 436 hh A (zTt g hh (zVl g 1) w nv) m) (nI k) = _
      unfold f_X12_isRight_L16b
      rw [r0, zChk_t (by decide), l0, zq1001, zChk_t (zix (by omega) (by omega)), nI_clamp (by omega), ev, if_pos (Int32.le_refl _), if_pos rfl]
    | succ j ih =>
      intro k f hk hf
      obtain ⟨m, rfl⟩ : ∃ m, f = m + 1 := ⟨f - 1, by omega⟩
      have hAd : zAd g hh (zVl g 1) w nv (k + 1) = if zDi g hh k nv = true then (if zTt g hh (zVl g 1) k nv ≤ zTt g hh (zVl g 1) w nv then zAd g hh (zVl g 1) w nv k else zAd g hh (zVl g 1) w nv k + 1) else zAd g hh (zVl g 1) w nv k := rfl
      show f_X12_isRight_L16b n 436 hh A (zTt g hh (zVl g 1) w nv) (f_X12_isRight_L16 n 436 hh A (zTt g hh (zVl g 1) w nv) m) (nI k) = _
      unfold f_X12_isRight_L16b
      rw [r0, zChk_t (by decide), l0, zq1001, zChk_t (zix (by omega) (by omega)), nI_clamp (by omega), ev, if_neg (nI_ge (by omega) (by omega)), m_dives hA (by omega), zB1_s, m_truly hA hz (by omega), zB1_s, nI_1, ih (k + 1) m (by omega) (by omega)]
      by_cases q : zDi g hh k nv = true
      · rw [if_pos q] at hAd
        rw [if_pos q, if_neg (show ¬ (1 : Int32) = 0 by decide)]
        by_cases q2 : zTt g hh (zVl g 1) k nv ≤ zTt g hh (zVl g 1) w nv
        · rw [if_pos q2] at hAd
          rw [if_pos ((lg_cmp_le _ _).mpr q2), hAd]
        · rw [if_neg q2] at hAd
          have hm := zAd_mo (g := g) (h := hh) (val := zVl g 1) (d := w) (m := nv) (k := k + 1) j
          rw [show k + 1 + j = nd by omega, hAd] at hm
          rw [if_neg (fun z => q2 ((lg_cmp_le _ _).mp z)), if_neg (show ¬ zAd g hh (zVl g 1) w nv nd = zAd g hh (zVl g 1) w nv k by omega)]
      · rw [if_neg q] at hAd
        rw [if_neg q, if_pos rfl, hAd]
  exact key nd 0 n (by omega) (by omega)
theorem zWn_di {g : Nat → Int32} {h : Int32} {val : Nat → Int64} {m : Nat} : ∀ k w : Nat, zWn g h val m k = some w → zDi g h w m = true := by
  intro k
  induction k with
  | zero => intro w q; cases q
  | succ k ih =>
    intro w q
    have q' : (if zDi g h k m = true then (match zWn g h val m k with
    | none => some k
    | some w => if zTt g h val k m ≤ zTt g h val w m then some w else some k) else zWn g h val m k) = some w := q
    by_cases hd : zDi g h k m = true
    · rw [if_pos hd] at q'
      cases hz : zWn g h val m k with
      | none => rw [hz] at q'; rw [← Option.some.inj q']; exact hd
      | some u =>
        rw [hz] at q'
        have hu := ih u hz
        dsimp only at q'
        by_cases hl : zTt g h val k m ≤ zTt g h val u m
        · rw [if_pos hl] at q'; rw [← Option.some.inj q']; exact hu
        · rw [if_neg hl] at q'; rw [← Option.some.inj q']; exact hd
    · rw [if_neg hd] at q'
      exact ih w q'
