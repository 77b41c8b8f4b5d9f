/-! tallies: sum, number, least, greatest, distance -/
def zTk (T : Int32 × Nat × Int32 × Int32 × Int32) (d : Int32) : Int32 × Nat × Int32 × Int32 × Int32 := (T.1 + d, T.2.1 + 1, (if T.2.1 = 0 then d else if d < T.2.2.1 then d else T.2.2.1), (if T.2.1 = 0 then d else if T.2.2.2.1 < d then d else T.2.2.2.1), T.2.2.2.2 + zabs d)
def zTl (g : Nat → Int32) (j : Nat) (q : Nat → Bool) : Nat → Int32 × Nat × Int32 × Int32 × Int32
  | 0 => (0, 0, 0, 0, 0)
  | k + 1 => if q k = true then (match zBy g k j with
      | none => zTl g j q k
      | some c => zTk (zTl g j q k) (g (112 + 19 * k + 5 + c) - 1 - zMd g k)) else zTl g j q k
theorem zTl_n {g : Nat → Int32} {j : Nat} {q : Nat → Bool} : ∀ k : Nat, (zTl g j q k).2.1 ≤ k := by
  intro k
  induction k with
  | zero => exact Nat.le_refl _
  | succ k ih =>
    have e : zTl g j q (k + 1) = if q k = true then (match zBy g k j with
      | none => zTl g j q k
      | some c => zTk (zTl g j q k) (g (112 + 19 * k + 5 + c) - 1 - zMd g k)) else zTl g j q k := rfl
    rw [e]
    by_cases hq : q k = true
    · rw [if_pos hq]
      cases zBy g k j with
      | none => show (zTl g j q k).2.1 ≤ k + 1; omega
      | some c => show (zTl g j q k).2.1 + 1 ≤ k + 1; omega
    · rw [if_neg hq]; omega
def zTr (S : zM) (a : Nat) (T : Int32 × Nat × Int32 × Int32 × Int32) : Prop := zi S a 0 = T.1 ∧ zi S a 1 = nI T.2.1 ∧ zi S a 2 = T.2.2.1 ∧ zi S a 3 = T.2.2.2.1 ∧ zi S a 4 = T.2.2.2.2
theorem x_take {S : zM} {a : Nat} {T : Int32 × Nat × Int32 × Int32 × Int32} {d : Int32} (h : zTr S a T) (hn : T.2.1 ≤ 40) : zTr (f_X10_take S a d) a (zTk T d) ∧ zF (fun x _ => x = a) S (f_X10_take S a d) := by
  obtain ⟨h0, h1, h2, h3, h4⟩ := h
  have main : f_X10_take S a d = zpI (zpI (zpI (zpI (zpI S a 2 (zTk T d).2.2.1) a 3 (zTk T d).2.2.2.1) a 0 (zTk T d).1) a 4 (zTk T d).2.2.2.2) a 1 (nI (zTk T d).2.1) := by
    unfold f_X10_take zTk zmin zmax
    simp only [nLet]
    have e1 : ∀ w : Int32, zi (zpI S a 2 w) a 1 = nI T.2.1 := fun w => by rw [mi_ne _ _ (by omega)]; exact h1
    have e3 : ∀ w : Int32, zi (zpI S a 2 w) a 3 = T.2.2.2.1 := fun w => by rw [mi_ne _ _ (by omega)]; exact h3
    have e0 : ∀ w x : Int32, zi (zpI (zpI S a 2 w) a 3 x) a 0 = T.1 := fun w x => by rw [mi_ne _ _ (by omega), mi_ne _ _ (by omega)]; exact h0
    have e4 : ∀ w x y : Int32, zi (zpI (zpI (zpI S a 2 w) a 3 x) a 0 y) a 4 = T.2.2.2.2 := fun w x y => by rw [mi_ne _ _ (by omega), mi_ne _ _ (by omega), mi_ne _ _ (by omega)]; exact h4
    have e5 : ∀ w x y z : Int32, zi (zpI (zpI (zpI (zpI S a 2 w) a 3 x) a 0 y) a 4 z) a 1 = nI T.2.1 := fun w x y z => by rw [mi_ne _ _ (by omega), mi_ne _ _ (by omega), mi_ne _ _ (by omega), mi_ne _ _ (by omega)]; exact h1
    simp only [e1, e3, e0, e4, e5, h1, h2, nI_1]
    by_cases h : T.2.1 = 0
    · rw [h, if_pos (show nI 0 = (0 : Int32) from rfl), if_pos (show nI 0 = (0 : Int32) from rfl), if_pos rfl, if_pos rfl]
    · rw [if_neg (nI_ne0 (by omega) (by omega)), if_neg (nI_ne0 (by omega) (by omega)), if_neg h, if_neg h]
  rw [main]
  generalize zTk T d = U
  refine ⟨⟨?_, ?_, ?_, ?_, ?_⟩, ?_⟩
  · simp (disch := omega) only [mi_ne, mi_eq']
  · simp (disch := omega) only [mi_ne, mi_eq']
  · simp (disch := omega) only [mi_ne, mi_eq']
  · simp (disch := omega) only [mi_ne, mi_eq']
  · simp (disch := omega) only [mi_ne, mi_eq']
  · refine zF.pI ?_ rfl
    refine zF.pI ?_ rfl
    refine zF.pI ?_ rfl
    refine zF.pI ?_ rfl
    refine zF.pI ?_ rfl
    exact zF.rf
theorem x_start {S : zM} {a : Nat} : zTr (f_X10_start S a) a (0, 0, 0, 0, 0) ∧ zF (fun x _ => x = a) S (f_X10_start S a) := by
  unfold f_X10_start
  simp only [nLet]
  refine ⟨⟨?_, ?_, ?_, ?_, ?_⟩, ?_⟩
  · simp (disch := omega) only [mi_ne, mi_eq']
  · simp (disch := omega) only [mi_ne, mi_eq']; rfl
  · simp (disch := omega) only [mi_ne, mi_eq']
  · simp (disch := omega) only [mi_ne, mi_eq']
  · simp (disch := omega) only [mi_ne, mi_eq']
  · refine zF.pI ?_ rfl
    refine zF.pI ?_ rfl
    refine zF.pI ?_ rfl
    refine zF.pI ?_ rfl
    refine zF.pI ?_ rfl
    exact zF.rf
/-- a dive with a mark of somebody has marks -/
theorem zPn_pos {g : Nat → Int32} {v c : Nat} (hc : c < 7) (h : ¬ g (112 + 19 * v + 5 + c) = 0) : 0 < (zPn g v).1 := by
  have e : (zPn g v).1 = zCnt (fun c => !decide (g (112 + 19 * v + 5 + c) = 0)) 7 := zGa_cnt _ _ 7
  rw [e]
  have key : ∀ k : Nat, c < k → 0 < zCnt (fun c => !decide (g (112 + 19 * v + 5 + c) = 0)) k := by
    intro k
    induction k with
    | zero => intro q; omega
    | succ k ih =>
      intro q
      show 0 < if (!decide (g (112 + 19 * v + 5 + k) = 0)) = true then zCnt (fun c => !decide (g (112 + 19 * v + 5 + c) = 0)) k + 1 else zCnt (fun c => !decide (g (112 + 19 * v + 5 + c) = 0)) k
      by_cases hk : c = k
      · subst hk
        rw [if_pos (by simp [h])]
        omega
      · have := ih (by omega)
        split <;> omega
  exact key 7 hc
def zLq (g : Nat → Int32) (land : Int32) (k : Nat) : Bool := decide (land = -1) || decide (g (2 * zDn g k) = land)
theorem x_tallyUp {S0 : zM} {b nd nj nv j : Nat} {g : Nat → Int32} {land : Int32} (h : zCx S0 b g nd nj nv) (hz : zBz g nd nj nv) (hj : j < 12) {n : Nat} (hn : 40 < n) : ∃ S1 : zM, f_X9_tallyUp n S0 b 419 (nI j) land = some S1 ∧ zF (fun a k => zPs b a k ∨ a = 419) S0 S1 ∧ zTr S1 419 (zTl g j (zLq g land) nv) := by
  have hb := h.1
  obtain ⟨⟨b1, b2, b3⟩, e5, e6, e7⟩ := h.n
  have r9 : zr S0 b 9 = b + 10 := h.2.1.1.2.2.2.2.2.2.1
  have l10 : zln S0 (b + 10) = 40 := h.2.1.2.2.1.2.2.2.2.2.2.2.2.1
  have r11 : zr S0 b 11 = b + 12 := h.2.1.1.2.2.2.2.2.2.2.2
  unfold f_X9_tallyUp
  simp only [nLet]
  obtain ⟨s1, s2⟩ := x_start (S := S0) (a := 419)
  refine zloopR (fun f (s : Int32 × zM) => f_X9_tallyUp_L7 n b 419 (nI j) land (fun S8 => some S8) f s.1 s.2) (fun k s => s.1 = nI k ∧ zF (fun a k => zPs b a k ∨ a = 419) S0 s.2 ∧ zTr s.2 419 (zTl g j (zLq g land) k)) nv (fun o => ∃ S1 : zM, o = some S1 ∧ zF (fun a k => zPs b a k ∨ a = 419) S0 S1 ∧ zTr S1 419 (zTl g j (zLq g land) nv)) ?_ ?_ n (0, f_X10_start S0 419) (by omega) ⟨rfl, s2.mo (fun a k q => Or.inr q), s1⟩
  · rintro k f ⟨x, S⟩ hk ⟨h1, h2, h3⟩
    dsimp only at h1 h2 h3 ⊢
    subst h1
    have hS : zCx S b g nd nj nv := h.fo h2 (fun a i q => by unfold zPs at q; omega)
    have h6 := hz.2.2.2.2.2.2 k hk
    obtain ⟨d, hd, ed⟩ := h6.2.1.k
    have hdn : zDn g k = d := by
      unfold zDn
      rw [ed]
      exact nI_clamp (by omega)
    have hld := x_landOf (g := g) hS.2.1 b1 hS.n.2.1 hS.2.2.1.1 hd ((hS.d hk).2.1.trans ed)
    obtain ⟨d1, -⟩ := hS.2.1.2.2.2 k (by omega)
    have e : zTl g j (zLq g land) (k + 1) = if zLq g land k = true then (match zBy g k j with
      | none => zTl g j (zLq g land) k
      | some c => zTk (zTl g j (zLq g land) k) (g (112 + 19 * k + 5 + c) - 1 - zMd g k)) else zTl g j (zLq g land) k := rfl
    have hb0 : f_X9_tallyUp_L7 n b 419 (nI j) land (fun S8 => some S8) (f + 1) (nI k) S = match zBy g k j with
        | none => f_X9_tallyUp_L7 n b 419 (nI j) land (fun S8 => some S8) f (nI (k + 1)) S
        | some c => if zLq g land k = true then zB1 (f_X5_gather n S (b + 12) (b + 14 + 3 * k)) (fun S36 => zChk (¬ (zr S36 b 11) = 0) (zB1 (f_X5_middle S36 (zr S36 b 11)) (fun r45 => f_X9_tallyUp_L7 n b 419 (nI j) land (fun S8 => some S8) f (nI (k + 1)) (f_X10_take S36 419 (g (112 + 19 * k + 5 + c) - 1 - r45))))) else f_X9_tallyUp_L7 n b 419 (nI j) land (fun S8 => some S8) f (nI (k + 1)) S := by
      show f_X9_tallyUp_L7b n b 419 (nI j) land (fun S8 => some S8) (f_X9_tallyUp_L7 n b 419 (nI j) land (fun S8 => some S8) f) (nI k) S = _
      unfold f_X9_tallyUp_L7b
      rw [hS.n.2.2.2, if_neg (nI_ge hk (by omega)), h2.r, r9, zChk_t (by omega), h2.n, l10, zChk_t (zix (by omega) (by omega)), nI_clamp (by omega), ← h2.r, d1, zChk_t (by omega), x_markBy hS.2.1 (by omega) (hS.d hk) h6 hj (by omega), zB1_s, hld, nI_1]
      simp only [nLet, nB1]
      cases hzb : zBy g k j with
      | none =>
        dsimp only
        rw [if_pos rfl]
      | some c =>
        dsimp only
        have hs := zBy_s h6 hj hzb
        rw [if_neg (zn128 hs.2.2.2), h2.r, r11, zChk_t (by omega)]
        unfold zLq
        rw [hdn]
        by_cases q1 : land = -1
        · rw [if_pos q1, if_pos (by simp [q1])]
        · rw [if_neg q1]
          by_cases q2 : g (2 * d) = land
          · rw [if_pos q2, if_pos (by simp [q2])]
          · rw [if_neg q2, if_neg (by simp [q1, q2])]
    rw [hb0]
    cases hzb : zBy g k j with
    | none =>
      refine ⟨(nI (k + 1), S), ⟨rfl, h2, ?_⟩, rfl⟩
      rw [e, hzb]
      split <;> exact h3
    | some c =>
      dsimp only
      by_cases hq : zLq g land k = true
      · rw [if_pos hq]
        have hs := zBy_s h6 hj hzb
        obtain ⟨T, t1, t2, t3⟩ := x_gatherD (S := S) (b := b) (v := k) (g := g) hS.2.1 (by omega) (hS.d hk) h6 (n := n) (by omega)
        have hp := zPn_pos hs.1 hs.2.2.1
        have hm := x_middle (S := T) (a := b + 12) (q := b + 13) (by rw [t2.r, h2.r]; exact h.2.1.2.1.2.2.2) (by omega) (by rw [t2.n, h2.n]; exact h.2.1.2.2.1.2.2.2.2.2.2.2.2.2.2) (zPn_le g k) t3
        rw [if_neg (by omega)] at hm
        have h3T : zTr T 419 (zTl g j (zLq g land) k) := by
          obtain ⟨u0, u1, u2, u3, u4⟩ := h3
          exact ⟨by rw [t2.i (by omega)]; exact u0, by rw [t2.i (by omega)]; exact u1, by rw [t2.i (by omega)]; exact u2, by rw [t2.i (by omega)]; exact u3, by rw [t2.i (by omega)]; exact u4⟩
        have hnT := zTl_n (g := g) (j := j) (q := zLq g land) k
        obtain ⟨k1, k2⟩ := x_take (d := g (112 + 19 * k + 5 + c) - 1 - zMd g k) h3T (by omega)
        refine ⟨(nI (k + 1), f_X10_take T 419 (g (112 + 19 * k + 5 + c) - 1 - zMd g k)), ⟨rfl, (h2.tr (t2.mo (fun a i q => Or.inl ?_))).tr (k2.mo (fun a i q => Or.inr q)), ?_⟩, ?_⟩
        · unfold zPs; omega
        · rw [e, if_pos hq, hzb]; exact k1
        · rw [t1, zB1_s, t2.r, h2.r, r11, zChk_t (by omega), hm, zB1_s]
          rfl
      · rw [if_neg hq]
        refine ⟨(nI (k + 1), S), ⟨rfl, h2, ?_⟩, rfl⟩
        rw [e, if_neg hq]; exact h3
  · rintro f ⟨x, S⟩ ⟨h1, h2, h3⟩
    dsimp only at h1 h2 h3 ⊢
    subst h1
    have hS : zCx S b g nd nj nv := h.fo h2 (fun a i q => by unfold zPs at q; omega)
    refine ⟨S, ?_, h2, h3⟩
    show f_X9_tallyUp_L7b n b 419 (nI j) land (fun S8 => some S8) (f_X9_tallyUp_L7 n b 419 (nI j) land (fun S8 => some S8) f) (nI nv) S = _
    unfold f_X9_tallyUp_L7b
    rw [hS.n.2.2.2, if_pos (Int32.le_refl _)]
