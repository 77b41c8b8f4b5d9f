/-! place, won: the class -/
def zAd (g : Nat → Int32) (h : Int32) (val : Nat → Int64) (d m : Nat) : Nat → Nat
  | 0 => 0
  | k + 1 => if zDi g h k m = true then (if zTt g h val k m ≤ zTt g h val d m then zAd g h val d m k else zAd g h val d m k + 1) else zAd g h val d m k
def zWn (g : Nat → Int32) (h : Int32) (val : Nat → Int64) (m : Nat) : Nat → Option Nat
  | 0 => none
  | k + 1 => if zDi g h k m = true then (match zWn g h val m k with
    | none => some k
    | some w => if zTt g h val k m ≤ zTt g h val w m then some w else some k) else zWn g h val m k
def zWi : Option Nat → Int32
  | none => -4
  | some w => nI w
theorem zWn_b {g : Nat → Int32} {h : Int32} {val : Nat → Int64} {m : Nat} : ∀ k w : Nat, zWn g h val m k = some w → w < k := by
  intro k
  induction k with
  | zero => intro w q; cases q
  | succ k ih =>
    intro w q
    have q' : (if zDi g h k m = true then (match zWn g h val m k with
    | none => some k
    | some w => if zTt g h val k m ≤ zTt g h val w m then some w else some k) else zWn g h val m k) = some w := q
    by_cases hd : zDi g h k m = true
    · rw [if_pos hd] at q'
      cases hz : zWn g h val m k with
      | none => rw [hz] at q'; have := Option.some.inj q'; omega
      | some u =>
        rw [hz] at q'
        have hu := ih u hz
        dsimp only at q'
        by_cases hl : zTt g h val k m ≤ zTt g h val u m
        · rw [if_pos hl] at q'; have := Option.some.inj q'; omega
        · rw [if_neg hl] at q'; have := Option.some.inj q'; omega
    · rw [if_neg hd] at q'
      have := ih w q'
      omega
theorem zAd_ge {g : Nat → Int32} {nd nj nv : Nat} {h : Int32} {val : Nat → Int64} {d : Nat} (hB : zBs g nd nj nv) : ∀ j : Nat, nd + j ≤ 8 → zAd g h val d nv (nd + j) = zAd g h val d nv nd := by
  intro j
  induction j with
  | zero => intro _; rfl
  | succ j ih =>
    intro hj
    show (if zDi g h (nd + j) nv = true then (if zTt g h val (nd + j) nv ≤ zTt g h val d nv then zAd g h val d nv (nd + j) else zAd g h val d nv (nd + j) + 1) else zAd g h val d nv (nd + j)) = _
    rw [if_neg (fun q => by have := zDi_lt hB q (by omega); omega)]
    exact ih (by omega)
theorem zWn_ge {g : Nat → Int32} {nd nj nv : Nat} {h : Int32} {val : Nat → Int64} (hB : zBs g nd nj nv) : ∀ j : Nat, nd + j ≤ 8 → zWn g h val nv (nd + j) = zWn g h val nv nd := by
  intro j
  induction j with
  | zero => intro _; rfl
  | succ j ih =>
    intro hj
    show (if zDi g h (nd + j) nv = true then (match zWn g h val nv (nd + j) with
    | none => some (nd + j)
    | some w => if zTt g h val (nd + j) nv ≤ zTt g h val w nv then some w else some (nd + j)) else zWn g h val nv (nd + j)) = _
    rw [if_neg (fun q => by have := zDi_lt hB q (by omega); omega)]
    exact ih (by omega)
theorem x_placeL {S : zM} {b nd nj nv d : Nat} {g : Nat → Int32} {h : Int32} {val : Nat → Int64} {K : Int32 → Option (Int32 × zM)} (hB : zBs g nd nj nv) (hb : ¬ b + 11 = 0) (hr : zr S b 10 = b + 11) (hl : zln S (b + 11) = 8) (hd : d < 8) (hT : ∀ e : Nat, e < 8 → zl S (b + 11) e = zTt g h val e nv) {n : Nat} (hn : 8 < n) : f_X9_placeOf_L35 b (nI d) (zTh g h nv) S K n 1 0 = K (nI (1 + zAd g h val d nv 8)) := by
  refine zloop (fun f (s : Int32 × Int32) => f_X9_placeOf_L35 b (nI d) (zTh g h nv) S K f s.1 s.2) (fun k => (nI (1 + zAd g h val d nv k), nI k)) 8 ?_ ?_ n hn
  · intro k f hk
    have hA : zAd g h val d nv (k + 1) = if zDi g h k nv = true then (if zTt g h val k nv ≤ zTt g h val d nv then zAd g h val d nv k else zAd g h val d nv k + 1) else zAd g h val d nv k := rfl
    show f_X9_placeOf_L35b b (nI d) (zTh g h nv) S K (f_X9_placeOf_L35 b (nI d) (zTh g h nv) S K f) (nI (1 + zAd g h val d nv k)) (nI k) = f_X9_placeOf_L35 b (nI d) (zTh g h nv) S K f (nI (1 + zAd g h val d nv (k + 1))) (nI (k + 1))
    unfold f_X9_placeOf_L35b
    rw [if_neg (show ¬ (8 : Int32) ≤ nI k from nI_ge hk (by decide)), zLet_d, x_holds hB hk, hA]
    by_cases q : zDi g h k nv = true
    · rw [if_pos q, if_pos q, if_neg (show ¬ (1 : Int32) = 0 by decide), hr, zChk_t hb, hl, zChk_t (zix hk (by omega)), zChk_t (zix hd (by omega)), nI_clamp (by omega), nI_clamp (by omega), hT k hk, hT d hd]
      by_cases q2 : zTt g h val k nv ≤ zTt g h val d nv
      · rw [if_pos ((lg_cmp_le _ _).mpr q2), if_pos q2, nI_1]
      · rw [if_neg (fun z => q2 ((lg_cmp_le _ _).mp z)), if_neg q2, nI_1, nI_1]
        rfl
    · rw [if_neg q, if_neg q, if_pos rfl, nI_1]
  · intro f
    show f_X9_placeOf_L35b b (nI d) (zTh g h nv) S K (f_X9_placeOf_L35 b (nI d) (zTh g h nv) S K f) (nI (1 + zAd g h val d nv 8)) (nI 8) = _
    unfold f_X9_placeOf_L35b
    rw [if_pos (show (8 : Int32) ≤ nI 8 from Int32.le_refl _)]
theorem x_winL {S : zM} {b nd nj nv : Nat} {g : Nat → Int32} {h : Int32} {val : Nat → Int64} {K : Int32 → Option (Int32 × zM)} (hB : zBs g nd nj nv) (hb : ¬ b + 11 = 0) (hr : zr S b 10 = b + 11) (hl : zln S (b + 11) = 8) (hT : ∀ e : Nat, e < 8 → zl S (b + 11) e = zTt g h val e nv) {n : Nat} (hn : 8 < n) : f_X9_winner_L13 b (zTh g h nv) S K n (-4) 0 = K (zWi (zWn g h val nv 8)) := by
  refine zloop (fun f (s : Int32 × Int32) => f_X9_winner_L13 b (zTh g h nv) S K f s.1 s.2) (fun k => (zWi (zWn g h val nv k), nI k)) 8 ?_ ?_ n hn
  · intro k f hk
    have hA : zWn g h val nv (k + 1) = if zDi g h k nv = true then (match zWn g h val nv k with
    | none => some k
    | some w => if zTt g h val k nv ≤ zTt g h val w nv then some w else some k) else zWn g h val nv k := rfl
    show f_X9_winner_L13b b (zTh g h nv) S K (f_X9_winner_L13 b (zTh g h nv) S K f) (zWi (zWn g h val nv k)) (nI k) = f_X9_winner_L13 b (zTh g h nv) S K f (zWi (zWn g h val nv (k + 1))) (nI (k + 1))
    unfold f_X9_winner_L13b
    rw [if_neg (show ¬ (8 : Int32) ≤ nI k from nI_ge hk (by decide)), zLet_d, x_holds hB hk, hA]
    by_cases q : zDi g h k nv = true
    · rw [if_pos q, if_pos q, if_neg (show ¬ (1 : Int32) = 0 by decide), zLet_d, hr, zChk_t hb, hl, nI_1]
      cases hz : zWn g h val nv k with
      | none => rw [if_pos (show zWi none < 0 by decide)]; rfl
      | some w =>
        have hw := zWn_b k w hz
        rw [if_neg (show ¬ zWi (some w) < 0 from nI_pos (by omega)), zChk_t (zix hk (by omega)), show zWi (some w) = nI w from rfl, zChk_t (zix (show w < 8 by omega) (by omega)), nI_clamp (by omega), nI_clamp (by omega), hT k hk, hT w (by omega)]
        dsimp only
        by_cases q2 : zTt g h val k nv ≤ zTt g h val w nv
        · rw [if_pos ((lg_cmp_le _ _).mpr q2), if_pos q2]; rfl
        · rw [if_neg (fun z => q2 ((lg_cmp_le _ _).mp z)), if_neg q2]; rfl
    · rw [if_neg q, if_neg q, if_pos rfl, nI_1]
  · intro f
    show f_X9_winner_L13b b (zTh g h nv) S K (f_X9_winner_L13 b (zTh g h nv) S K f) (zWi (zWn g h val nv 8)) (nI 8) = _
    unfold f_X9_winner_L13b
    rw [if_pos (show (8 : Int32) ≤ nI 8 from Int32.le_refl _)]
theorem x_placeOf {S0 : zM} {b nd nj nv d : Nat} {g : Nat → Int32} {h by' : Int32} (hC : zCx S0 b g nd nj nv) (hz : zBz g nd nj nv) (hd : d < 8) {n : Nat} (hn : 120 < n) : ∃ S1 : zM, f_X9_placeOf n S0 b h (nI d) by' = some (if zDi g h d nv = true then nI (1 + zAd g h (zVl g by') d nv nd) else -4, S1) ∧ zF (zPs b) S0 S1 := by
  have r10 : zr S0 b 10 = b + 11 := hC.2.1.1.2.2.2.2.2.2.2.1
  have l11 : zln S0 (b + 11) = 8 := hC.2.1.2.2.1.2.2.2.2.2.2.2.2.2.1
  have hnd := hz.s.1.1
  obtain ⟨T, t1, t2, t3⟩ := x_addUp (h := h) (by' := by') hC hz hn
  refine ⟨T, ?_, t2⟩
  unfold f_X9_placeOf
  rw [t1, zB2_s, zwi (n := 8) rfl, if_pos (zU_n hd (by omega)), zLet_d, if_neg (show ¬ (1 : Int32) = 0 by decide), zLet_d, x_holds hz.s hd]
  by_cases q : zDi g h d nv = true
  · rw [if_pos q, if_pos q, if_neg (show ¬ (1 : Int32) = 0 by decide), zLet_d, x_placeL (val := zVl g by') hz.s (by omega) (by rw [t2.r]; exact r10) (by rw [t2.n]; exact l11) hd t3 (by omega)]
    have := zAd_ge (h := h) (val := zVl g by') (d := d) hz.s (8 - nd) (by omega)
    rw [show nd + (8 - nd) = 8 by omega] at this
    rw [this]
  · rw [if_neg q, if_neg q, if_pos rfl]
theorem x_winner {S0 : zM} {b nd nj nv : Nat} {g : Nat → Int32} {h : Int32} (hC : zCx S0 b g nd nj nv) (hz : zBz g nd nj nv) {n : Nat} (hn : 120 < n) : ∃ S1 : zM, f_X9_winner n S0 b h = some (zWi (zWn g h (zVl g 0) nv nd), S1) ∧ zF (zPs b) S0 S1 := by
  have r10 : zr S0 b 10 = b + 11 := hC.2.1.1.2.2.2.2.2.2.2.1
  have l11 : zln S0 (b + 11) = 8 := hC.2.1.2.2.1.2.2.2.2.2.2.2.2.2.1
  have hnd := hz.s.1.1
  obtain ⟨T, t1, t2, t3⟩ := x_addUp (h := h) (by' := 0) hC hz hn
  refine ⟨T, ?_, t2⟩
  unfold f_X9_winner
  rw [t1, zB2_s, zLet_d, x_winL (val := zVl g 0) hz.s (by omega) (by rw [t2.r]; exact r10) (by rw [t2.n]; exact l11) t3 (by omega)]
  have := zWn_ge (h := h) (val := zVl g 0) hz.s (8 - nd) (by omega)
  rw [show nd + (8 - nd) = 8 by omega] at this
  rw [this]
