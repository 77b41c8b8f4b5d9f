/-! totals: who dives in a hall, what it adds up to -/
def zDp (g : Nat → Int32) (h : Int32) (d v : Nat) : Bool := decide (g (112 + 19 * v) = h) && decide (g (112 + 19 * v + 1) = nI d)
def zDi (g : Nat → Int32) (h : Int32) (d : Nat) : Nat → Bool
  | 0 => false
  | k + 1 => zDi g h d k || zDp g h d k
def zTt (g : Nat → Int32) (h : Int32) (val : Nat → Int64) (d : Nat) : Nat → Int64
  | 0 => 0
  | k + 1 => if zDp g h d k = true then zTt g h val d k + val k else zTt g h val d k
theorem zDi_c {g g1 : Nat → Int32} {h : Int32} {d : Nat} : ∀ k : Nat, (∀ v : Nat, v < k → g1 (112 + 19 * v) = g (112 + 19 * v) ∧ g1 (112 + 19 * v + 1) = g (112 + 19 * v + 1)) → zDi g1 h d k = zDi g h d k := by
  intro k
  induction k with
  | zero => intro _; rfl
  | succ k ih =>
    intro e
    show (zDi g1 h d k || zDp g1 h d k) = (zDi g h d k || zDp g h d k)
    rw [ih (fun v hv => e v (by omega))]
    unfold zDp
    rw [(e k (by omega)).1, (e k (by omega)).2]
theorem zTt_c {g g1 : Nat → Int32} {h : Int32} {val val1 : Nat → Int64} {d : Nat} : ∀ k : Nat, (∀ v : Nat, v < k → g1 (112 + 19 * v) = g (112 + 19 * v) ∧ g1 (112 + 19 * v + 1) = g (112 + 19 * v + 1)) → (∀ v : Nat, v < k → val1 v = val v) → zTt g1 h val1 d k = zTt g h val d k := by
  intro k
  induction k with
  | zero => intro _ _; rfl
  | succ k ih =>
    intro e ev
    show (if zDp g1 h d k = true then zTt g1 h val1 d k + val1 k else zTt g1 h val1 d k) = (if zDp g h d k = true then zTt g h val d k + val k else zTt g h val d k)
    rw [ih (fun v hv => e v (by omega)) (fun v hv => ev v (by omega)), ev k (by omega)]
    unfold zDp
    rw [(e k (by omega)).1, (e k (by omega)).2]
theorem zDi_lt {g : Nat → Int32} {nd nj nv : Nat} {h : Int32} {d : Nat} (hB : zBs g nd nj nv) (hd : zDi g h d nv = true) (hdl : d < 2 ^ 31) : d < nd := by
  have key : ∀ k : Nat, k ≤ nv → zDi g h d k = true → d < nd := by
    intro k
    induction k with
    | zero => intro _ q; cases q
    | succ k ih =>
      intro hk q
      have q' : (zDi g h d k || zDp g h d k) = true := q
      rw [Bool.or_eq_true] at q'
      rcases q' with q' | q'
      · exact ih (by omega) q'
      · unfold zDp at q'
        rw [Bool.and_eq_true] at q'
        have e := of_decide_eq_true q'.2
        obtain ⟨c, hc, ec⟩ := (hB.2.2.2.2.2.2 k (by omega)).2.1.k
        have hnd := hB.1.1
        have := nI_inj (e.symm.trans ec) hdl (by omega)
        omega
  exact key nv (Nat.le_refl _) hd
/-- the bits of those who dive -/
def zTh (g : Nat → Int32) (h : Int32) : Nat → Int32
  | 0 => 0
  | k + 1 => if g (112 + 19 * k) = h then zTh g h k ||| (1 <<< (g (112 + 19 * k + 1) &&& 31)) else zTh g h k
theorem zand_or (a b c : Int32) : (a ||| b) &&& c = (a &&& c) ||| (b &&& c) := Int32.toBitVec_inj.1 (by rw [Int32.toBitVec_and, Int32.toBitVec_or, BitVec.and_or_distrib_right, Int32.toBitVec_or, Int32.toBitVec_and, Int32.toBitVec_and])
theorem zsr_or (a b c : Int32) : (a ||| b) >>> c = (a >>> c) ||| (b >>> c) := Int32.shiftRight_or
theorem zbt_or (x y : Int32) (p : Nat) : zbt (x ||| y) p = zbt x p ||| zbt y p := by
  unfold zbt
  rw [zsr_or, zand_or]
theorem zbt_sh : ∀ e : Nat, e < 8 → ∀ d : Nat, d < 8 → zbt (1 <<< (nI e &&& 31)) d = if e = d then 1 else 0 := by decide +kernel
theorem zTh_b {g : Nat → Int32} {nd nj nv : Nat} {h : Int32} (hB : zBs g nd nj nv) {d : Nat} (hd : d < 8) : ∀ k : Nat, k ≤ nv → zbt (zTh g h k) d = if zDi g h d k = true then 1 else 0 := by
  intro k
  induction k with
  | zero =>
    intro _
    have : ∀ d : Nat, d < 8 → zbt 0 d = 0 := by decide +kernel
    exact this d hd
  | succ k ih =>
    intro hk
    obtain ⟨c, hc, ec⟩ := (hB.2.2.2.2.2.2 k (by omega)).2.1.k
    have hnd := hB.1.1
    show zbt (if g (112 + 19 * k) = h then zTh g h k ||| (1 <<< (g (112 + 19 * k + 1) &&& 31)) else zTh g h k) d = if (zDi g h d k || zDp g h d k) = true then 1 else 0
    have ih' := ih (by omega)
    unfold zDp
    by_cases hh : g (112 + 19 * k) = h
    · rw [if_pos hh, zbt_or, ih', ec, zbt_sh c (by omega) d hd]
      by_cases hcd : c = d
      · subst hcd
        rw [if_pos rfl, if_pos (show (zDi g h c k || (decide (g (112 + 19 * k) = h) && decide (nI c = nI c))) = true by simp [hh])]
        split <;> decide
      · have : ¬ nI c = nI d := fun q => hcd (nI_inj q (by omega) (by omega))
        rw [if_neg hcd]
        simp only [this, decide_false, Bool.and_false, Bool.or_false]
        split <;> decide
    · rw [if_neg hh, ih']
      simp only [hh, decide_false, Bool.false_and, Bool.or_false]
theorem x_holds {g : Nat → Int32} {nd nj nv : Nat} {h : Int32} (hB : zBs g nd nj nv) {d : Nat} (hd : d < 8) : f_X11_holds (zTh g h nv) (nI d) = if zDi g h d nv = true then 1 else 0 := by
  have e := zTh_b (h := h) hB hd nv (Nat.le_refl _)
  unfold f_X11_holds
  show (if zbt (zTh g h nv) d = 0 then (0 : Int32) else 1) = _
  rw [e]
  by_cases q : zDi g h d nv = true
  · rw [if_pos q, if_neg (by decide)]
  · rw [if_neg q, if_pos rfl]
def zVl (g : Nat → Int32) (by' : Int32) (v : Nat) : Int64 := if by' = 0 then Int32.toInt64 (zCv g v) else Int32.toInt64 (zWorth g (g (112 + 19 * v + 2)) * g (112 + 19 * v + 4))
theorem x_zero {S0 : zM} {b : Nat} {K : zM → Option (Int32 × zM)} (hr : zr S0 b 10 = b + 11) (hl : zln S0 (b + 11) = 8) : ∀ n : Nat, 8 < n → ∃ S1 : zM, f_X9_addUp_L2 b K n 0 S0 = K S1 ∧ zF (fun a k => a = b + 11 ∧ k < 8) S0 S1 ∧ ∀ j : Nat, j < 8 → zl S1 (b + 11) j = 0 := by
  intro n hn
  refine zloopR (fun n (s : Int32 × zM) => f_X9_addUp_L2 b K n s.1 s.2) (fun k s => s.1 = nI k ∧ zF (fun a k => a = b + 11 ∧ k < 8) S0 s.2 ∧ ∀ j : Nat, j < k → zl s.2 (b + 11) j = 0) 8 (fun o => ∃ S1 : zM, o = K S1 ∧ zF (fun a k => a = b + 11 ∧ k < 8) S0 S1 ∧ ∀ j : Nat, j < 8 → zl S1 (b + 11) j = 0) ?_ ?_ n (0, S0) hn ⟨rfl, zF.rf, fun j hj => absurd hj (Nat.not_lt_zero _)⟩
  · rintro k f ⟨x, S⟩ hk ⟨h1, h2, h3⟩
    dsimp only at h1 h2 h3 ⊢
    subst h1
    refine ⟨(nI (k + 1), zpL S (b + 11) k 0), ⟨rfl, zF.pL h2 ⟨rfl, hk⟩, fun j hj => ?_⟩, ?_⟩
    · dsimp only
      by_cases hjk : j = k
      · subst hjk; exact ml_eq _ _ _ _
      · rw [ml_ne _ _ (by omega)]; exact h3 j (by omega)
    · show f_X9_addUp_L2b b K (f_X9_addUp_L2 b K f) (nI k) S = _
      unfold f_X9_addUp_L2b
      rw [if_neg (show ¬ (8 : Int32) ≤ nI k from nI_ge hk (by decide)), h2.r, hr, zChk_t (by omega), h2.n, hl, zChk_t (zix hk (by omega)), zLet_d, nI_clamp (by omega), nI_1]
  · rintro f ⟨x, S⟩ ⟨h1, h2, h3⟩
    dsimp only at h1 h2 h3 ⊢
    subst h1
    refine ⟨S, ?_, h2, h3⟩
    show f_X9_addUp_L2b b K (f_X9_addUp_L2 b K f) (nI 8) S = _
    unfold f_X9_addUp_L2b
    rw [if_pos (show (8 : Int32) ≤ nI 8 from Int32.le_refl _)]
theorem x_addUp {S0 : zM} {b nd nj nv : Nat} {g : Nat → Int32} {h by' : Int32} (hC : zCx S0 b g nd nj nv) (hz : zBz g nd nj nv) {n : Nat} (hn : 120 < n) : ∃ S1 : zM, f_X9_addUp n S0 b h by' = some (zTh g h nv, S1) ∧ zF (zPs b) S0 S1 ∧ ∀ d : Nat, d < 8 → zl S1 (b + 11) d = zTt g h (zVl g by') d nv := by
  have hb := hC.1
  obtain ⟨⟨b1, b2, b3⟩, e5, e6, e7⟩ := hC.n
  have r9 : zr S0 b 9 = b + 10 := hC.2.1.1.2.2.2.2.2.2.1
  have l10 : zln S0 (b + 10) = 40 := hC.2.1.2.2.1.2.2.2.2.2.2.2.2.1
  have r10 : zr S0 b 10 = b + 11 := hC.2.1.1.2.2.2.2.2.2.2.1
  have l11 : zln S0 (b + 11) = 8 := hC.2.1.2.2.1.2.2.2.2.2.2.2.2.2.1
  unfold f_X9_addUp
  rw [zLet_d]
  obtain ⟨A, a1, a2, a3⟩ := x_zero (K := fun (S2 : zM) => zLet (fun (x5 : Int32) (S6 : zM) => some ((x5, S6))) (fun K8 => f_X9_addUp_L26 n b h by' K8 n (0 : Int32) (0 : Int32) S2)) r10 l11 n (by omega)
  rw [a1, zLet_d]
  have a2' : zF (zPs b) S0 A := a2.mo (fun a k q => by unfold zPs; omega)
  refine zloopR (fun f (s : Int32 × Int32 × zM) => f_X9_addUp_L26 n b h by' (fun x5 S6 => some (x5, S6)) f s.1 s.2.1 s.2.2) (fun k s => s.1 = zTh g h k ∧ s.2.1 = nI k ∧ zF (zPs b) S0 s.2.2 ∧ ∀ d : Nat, d < 8 → zl s.2.2 (b + 11) d = zTt g h (zVl g by') d k) nv (fun o => ∃ S1 : zM, o = some (zTh g h nv, S1) ∧ zF (zPs b) S0 S1 ∧ ∀ d : Nat, d < 8 → zl S1 (b + 11) d = zTt g h (zVl g by') d nv) ?_ ?_ n (0, 0, A) (by omega) ⟨rfl, rfl, a2', a3⟩
  · rintro k f ⟨x, y, S⟩ hk ⟨h1, h2, h3, h4⟩
    dsimp only at h1 h2 h3 h4
    subst h1 h2
    have hS : zCx S b g nd nj nv := hC.fr h3
    have h6 := hz.2.2.2.2.2.2 k hk
    obtain ⟨d, hd, ed⟩ := h6.2.1.k
    obtain ⟨d1, -⟩ := hS.2.1.2.2.2 k (by omega)
    obtain ⟨f2, f3, f4, f5, f6, -⟩ := hS.d hk
    have hT1 : zTh g h (k + 1) = if g (112 + 19 * k) = h then zTh g h k ||| (1 <<< (g (112 + 19 * k + 1) &&& 31)) else zTh g h k := rfl
    have hTt : ∀ e : Nat, zTt g h (zVl g by') e (k + 1) = if zDp g h e k = true then zTt g h (zVl g by') e k + zVl g by' k else zTt g h (zVl g by') e k := fun e => rfl
    by_cases hh : g (112 + 19 * k) = h
    · -- the value, in whichever way
      have hval : ∃ T : zM, zF (zPsc b) S T ∧ f_X9_addUp_L26 n b h by' (fun x5 S6 => some (x5, S6)) (f + 1) (zTh g h k) (nI k) S = f_X9_addUp_L26 n b h by' (fun x5 S6 => some (x5, S6)) f (zTh g h k ||| (1 <<< (nI d &&& 31))) (nI (k + 1)) (zpL T (b + 11) d (zl S (b + 11) d + zVl g by' k)) := by
        have hcf := x_countOf hS hz hk hn
        have hwf := x_worthOf (S := S) (b := b) (q := b + 14 + 3 * k) (g := g) (n := n) hS.2.1 hS.2.2.1.2.2.2.2.1.1 (by omega)
        rw [f4] at hwf
        obtain ⟨T, t1, t2⟩ := hcf
        have hend : ∀ (U : zM) (y33 : Int64), zF (zPsc b) S U → (zChk (¬ (nI d < 0 ∨ zln U (b + 11) ≤ (nI d).toNatClampNeg)) (zLet (zpL U (b + 11) (Int32.toNatClampNeg (nI d)) (zl S (b + 11) (Int32.toNatClampNeg (nI d)) + y33)) (fun S38 => f_X9_addUp_L26 n b h by' (fun x5 S6 => some (x5, S6)) f (zTh g h k ||| ((1 : Int32) <<< ((zi S38 (b + 14 + 3 * k) 3) &&& 31))) (nI (k + 1)) S38))) = f_X9_addUp_L26 n b h by' (fun x5 S6 => some (x5, S6)) f (zTh g h k ||| (1 <<< (nI d &&& 31))) (nI (k + 1)) (zpL U (b + 11) d (zl S (b + 11) d + y33)) := by
          intro U y33 hU
          rw [hU.n, h3.n, l11, zChk_t (zix (by omega) (by omega)), zLet_d, nI_clamp (by omega), mi_pL, hU.i (show ¬ zPsc b (b + 14 + 3 * k) 3 by unfold zPsc; omega), f3, ed]
        have hpre : f_X9_addUp_L26 n b h by' (fun x5 S6 => some (x5, S6)) (f + 1) (zTh g h k) (nI k) S = if by' = 0 then zB2 (f_X9_countOf n S b (b + 14 + 3 * k)) (fun r46 S47 => zChk (¬ (nI d < 0 ∨ zln S47 (b + 11) ≤ (nI d).toNatClampNeg)) (zLet (zpL S47 (b + 11) (Int32.toNatClampNeg (nI d)) (zl S (b + 11) (Int32.toNatClampNeg (nI d)) + Int32.toInt64 r46)) (fun S38 => f_X9_addUp_L26 n b h by' (fun x5 S6 => some (x5, S6)) f (zTh g h k ||| ((1 : Int32) <<< ((zi S38 (b + 14 + 3 * k) 3) &&& 31))) (nI (k + 1)) S38))) else zB1 (f_X9_worthOf n S b (b + 14 + 3 * k)) (fun r55 => zChk (¬ (nI d < 0 ∨ zln S (b + 11) ≤ (nI d).toNatClampNeg)) (zLet (zpL S (b + 11) (Int32.toNatClampNeg (nI d)) (zl S (b + 11) (Int32.toNatClampNeg (nI d)) + Int32.toInt64 (r55 * g (112 + 19 * k + 4)))) (fun S38 => f_X9_addUp_L26 n b h by' (fun x5 S6 => some (x5, S6)) f (zTh g h k ||| ((1 : Int32) <<< ((zi S38 (b + 14 + 3 * k) 3) &&& 31))) (nI (k + 1)) S38))) := by
          show f_X9_addUp_L26b n b h by' (fun x5 S6 => some (x5, S6)) (f_X9_addUp_L26 n b h by' (fun x5 S6 => some (x5, S6)) f) (zTh g h k) (nI k) S = _
          unfold f_X9_addUp_L26b
          rw [hS.n.2.2.2, if_neg (nI_ge hk (by omega)), h3.r, r9, zChk_t (by omega), h3.n, l10, zChk_t (zix (by omega) (by omega)), nI_clamp (show k < 2 ^ 31 by omega), ← h3.r, d1, zChk_t (by omega), f2, if_pos hh, f3, ed, f6, zwi (n := 8) rfl, if_pos (zU_n (show d < 8 by omega) (by omega)), zLet_d, if_neg (show ¬ (1 : Int32) = 0 by decide), h3.r, r10, zChk_t (by omega), l11, zChk_t (zix (by omega) (by omega)), nI_1]
          simp only [nLet]
          rw [h3.n, l11]
        rw [hpre]
        unfold zVl
        by_cases hby : by' = 0
        · rw [if_pos hby, if_pos hby, t1, zB2_s]
          exact ⟨T, t2, hend T _ t2⟩
        · rw [if_neg hby, if_neg hby, hwf, zB1_s]
          exact ⟨S, zF.rf, hend S _ zF.rf⟩
      obtain ⟨T, t2, hrun⟩ := hval
      rw [if_pos hh, ed] at hT1
      refine ⟨(zTh g h (k + 1), nI (k + 1), zpL T (b + 11) d (zl S (b + 11) d + zVl g by' k)), ⟨rfl, rfl, ?_, fun e he => ?_⟩, ?_⟩
      · exact zF.pL (h3.tr (t2.mo (fun a j q => q.s))) (Or.inr (Or.inl rfl))
      · dsimp only
        rw [hTt]
        unfold zDp
        by_cases hed : e = d
        · subst hed
          rw [ml_eq, h4 e he, if_pos (by simp [hh, ed])]
        · have hne : ¬ g (112 + 19 * k + 1) = nI e := fun q => hed (nI_inj (q.symm.trans ed) (by omega) (by omega))
          rw [ml_ne _ _ (by omega), t2.l (by unfold zPsc; omega), h4 e he, if_neg (by simp [hne])]
      · dsimp only
        rw [hrun, hT1]
    · rw [if_neg hh] at hT1
      refine ⟨(zTh g h (k + 1), nI (k + 1), S), ⟨rfl, rfl, h3, fun e he => ?_⟩, ?_⟩
      · dsimp only
        rw [hTt]
        unfold zDp
        rw [if_neg (by simp [hh])]
        exact h4 e he
      · show f_X9_addUp_L26b n b h by' (fun x5 S6 => some (x5, S6)) (f_X9_addUp_L26 n b h by' (fun x5 S6 => some (x5, S6)) f) (zTh g h k) (nI k) S = f_X9_addUp_L26 n b h by' (fun x5 S6 => some (x5, S6)) f (zTh g h (k + 1)) (nI (k + 1)) S
        unfold f_X9_addUp_L26b
        rw [hS.n.2.2.2, if_neg (nI_ge hk (by omega)), h3.r, r9, zChk_t (by omega), h3.n, l10, zChk_t (zix (by omega) (by omega)), nI_clamp (show k < 2 ^ 31 by omega), ← h3.r, d1, zChk_t (by omega), f2, if_neg hh, hT1, nI_1]
  · rintro f ⟨x, y, S⟩ ⟨h1, h2, h3, h4⟩
    dsimp only at h1 h2 h3 h4 ⊢
    subst h1 h2
    have hS : zCx S b g nd nj nv := hC.fr h3
    refine ⟨S, ?_, h3, h4⟩
    show f_X9_addUp_L26b n b h by' (fun x5 S6 => some (x5, S6)) (f_X9_addUp_L26 n b h by' (fun x5 S6 => some (x5, S6)) f) (zTh g h nv) (nI nv) S = _
    unfold f_X9_addUp_L26b
    rw [hS.n.2.2.2, if_pos (Int32.le_refl _)]
