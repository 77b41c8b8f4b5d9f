/-! the reference gathers marks, under what is told -/
/-- how far judge j leans to the diver of dive v -/
def zLn (g : Nat → Int32) (v j : Nat) : Int32 := if (g (16 + 4 * j) = 2 ∧ g (2 * zDn g v) = g (17 + 4 * j)) ∨ (g (16 + 4 * j) = 3 ∧ (g (2 * zDn g v) = g (17 + 4 * j) ∨ g (2 * zDn g v) = g (19 + 4 * j))) then g (18 + 4 * j) else 0
theorem m_leanIn {S : zM} {nd nj nv v j : Nat} {g : Nat → Int32} (h : zRx S g nd nj nv) (hv : v < nv) (hj : j < 12) : f_X12_leanIn S 436 (nI v) (nI j) = some (zLn g v j) := by
  have r0 : zr S 436 0 = 437 := h.1.2.2.2.2.2.1.1
  have l0 : zln S 437 = 1004 := h.1.2.2.2.2.2.2.1
  obtain ⟨⟨b1, b2, b3, b4, b5, b6⟩, c1, c2, c3, c4, c5, c6⟩ := h.2.2
  obtain ⟨d, hd, ed⟩ := (c6 v hv).2.1.k
  have hdn : zDn g v = d := by
    unfold zDn
    rw [ed]
    exact nI_clamp (by omega)
  have g2 : f_X12_get S 436 (nI v) (1 : Int32) = some (nI d) := (m_get (k := 1) h.1 (by omega) (by omega)).trans (congrArg some ((h.2.1 _).trans ed))
  have z4 : (16 : Int32) + 4 * nI j = nI (16 + 4 * j) := by rw [zq16, show (4 : Int32) = nI 4 from rfl, nI_mul, nI_add]
  have y1 : nI (16 + 4 * j) + 1 = nI (17 + 4 * j) := by rw [nI_1, show 16 + 4 * j + 1 = 17 + 4 * j by omega]
  have y2 : nI (16 + 4 * j) + 2 = nI (18 + 4 * j) := by rw [show (2 : Int32) = nI 2 from rfl, nI_add, show 16 + 4 * j + 2 = 18 + 4 * j by omega]
  have y3 : nI (16 + 4 * j) + 3 = nI (19 + 4 * j) := by rw [show (3 : Int32) = nI 3 from rfl, nI_add, show 16 + 4 * j + 3 = 19 + 4 * j by omega]
  have w2 : (2 : Int32) * nI d = nI (2 * d) := by rw [show (2 : Int32) = nI 2 from rfl, nI_mul]
  unfold f_X12_leanIn zLn
  rw [hdn, g2, zB1_s, r0, l0, zChk_t (by decide), w2, z4, y1, y2, y3, zChk_t (zix (by omega) (by omega)), zChk_t (zix (by omega) (by omega)), nI_clamp (show 16 + 4 * j < 2 ^ 31 by omega), nI_clamp (show 2 * d < 2 ^ 31 by omega), nI_clamp (show 17 + 4 * j < 2 ^ 31 by omega), nI_clamp (show 18 + 4 * j < 2 ^ 31 by omega), nI_clamp (show 19 + 4 * j < 2 ^ 31 by omega)]
  simp only [nLet, h.2.1]
  rw [zChk_t (show ¬ (437 : Nat) = 0 by decide), zChk_t (zixc (show 16 + 4 * j < 1004 by omega) (by omega)), zChk_t (zixc (show 17 + 4 * j < 1004 by omega) (by omega)), zChk_t (zixc (show 18 + 4 * j < 1004 by omega) (by omega)), zChk_t (zixc (show 19 + 4 * j < 1004 by omega) (by omega))]
  by_cases h2 : g (16 + 4 * j) = 2
  · have h3 : ¬ g (16 + 4 * j) = 3 := by rw [h2]; decide
    rw [if_pos h2, if_neg h3]
    by_cases p1 : g (2 * d) = g (17 + 4 * j)
    · rw [if_pos p1, if_pos (Or.inl ⟨h2, p1⟩)]
    · rw [if_neg p1, if_neg (fun q => q.elim (fun z => p1 z.2) (fun z => h3 z.1))]
  · rw [if_neg h2]
    by_cases h3 : g (16 + 4 * j) = 3
    · rw [if_pos h3, zChk_t (zixc (show 17 + 4 * j < 1004 by omega) (by omega))]
      by_cases p1 : g (2 * d) = g (17 + 4 * j)
      · rw [if_pos p1, if_pos (Or.inr ⟨h3, Or.inl p1⟩)]
      · rw [if_neg p1]
        by_cases p2 : g (2 * d) = g (19 + 4 * j)
        · rw [if_pos p2, if_pos (Or.inr ⟨h3, Or.inr p2⟩)]
        · rw [if_neg p2, if_neg (fun q => q.elim (fun z => h2 z.1) (fun z => z.2.elim p1 p2))]
    · rw [if_neg h3, if_neg (fun q => q.elim (fun z => h2 z.1) (fun z => h3 z.1))]
/-- is the mark from a chair taken; what it is taken as -/
def zPe (g : Nat → Int32) (w : Int32) (v c : Nat) : Bool := !decide (g (112 + 19 * v + 5 + c) = 0) && !decide (nI c = w)
def zMe (g : Nat → Int32) (lo ms md : Int32) (v c : Nat) : Int32 :=
  if zbt ms c = 1 then (if g (112 + 19 * v + 1) = md then 20 else 0)
  else if lo = 0 ∨ g (112 + 19 * v + 12 + c) - 1 < 0 then g (112 + 19 * v + 5 + c) - 1
  else if 0 ≤ g (112 + 19 * v + 5 + c) - 1 - zLn g v ((g (112 + 19 * v + 12 + c)).toNatClampNeg - 1) then g (112 + 19 * v + 5 + c) - 1 - zLn g v ((g (112 + 19 * v + 12 + c)).toNatClampNeg - 1) else 0
theorem m_gathers {S0 : zM} {nd nj nv v : Nat} {g : Nat → Int32} {w lo ms md : Int32} (h : zRx S0 g nd nj nv) (hz : zBz g nd nj nv) (hv : v < nv) (ew : zi S0 436 29 = w) (el : zi S0 436 32 = lo) (em : zi S0 436 33 = ms) (ed : zi S0 436 34 = md) {n : Nat} (hn : 7 < n) : ∃ S1 : zM, f_X12_gathers n S0 436 (nI v) = some S1 ∧ zF (fun a k => (a = 445 ∧ k < 7) ∨ (a = 436 ∧ k = 11)) S0 S1 ∧ zPan S1 436 11 445 (zGa (zPe g w v) (zMe g lo ms md v) 7).1 (zGa (zPe g w v) (zMe g lo ms md v) 7).2 := by
  have r10 : zr S0 436 10 = 445 := h.1.2.2.2.2.2.1.2.2.2.2.2.2.2.2.1
  have l10 : zln S0 445 = 7 := h.1.2.2.2.2.2.2.2.2.2.2.2.2.2.2.1
  have b3 := h.2.2.1.2.2.1
  have b2 := h.2.2.1.2.1
  unfold f_X12_gathers
  simp only [nLet]
  refine zloopR (fun f (s : Int32 × zM) => f_X12_gathers_L7 n 436 (nI v) (fun S6 => some S6) f s.1 s.2) (fun k s => s.1 = nI k ∧ zF (fun a k => (a = 445 ∧ k < 7) ∨ (a = 436 ∧ k = 11)) S0 s.2 ∧ zPan s.2 436 11 445 (zGa (zPe g w v) (zMe g lo ms md v) k).1 (zGa (zPe g w v) (zMe g lo ms md v) k).2) 7 (fun o => ∃ S1 : zM, o = some S1 ∧ zF (fun a k => (a = 445 ∧ k < 7) ∨ (a = 436 ∧ k = 11)) S0 S1 ∧ zPan S1 436 11 445 (zGa (zPe g w v) (zMe g lo ms md v) 7).1 (zGa (zPe g w v) (zMe g lo ms md v) 7).2) ?_ ?_ n (0, zpI S0 436 11 0) hn ⟨rfl, zF_pI (Or.inr ⟨rfl, rfl⟩), mi_eq _ _ _ _, fun j hj => absurd hj (Nat.not_lt_zero _)⟩
  · rintro k f ⟨x, S⟩ hk ⟨h1, h2, h3⟩
    dsimp only at h1 h2 h3 ⊢
    subst h1
    have hS : zRx S g nd nj nv := h.fr h2 (fun k => by omega)
    have hle := zGa_le (zPe g w v) (zMe g lo ms md v) k
    obtain ⟨g1, g2⟩ := m_markW hS hv hk
    have hb6 := (hz.2.2.2.2.2.2 v hv).2.2.2.2.2.1 k hk
    have hm := (zmk hb6.1).2
    have gd : f_X12_get S 436 (nI v) (1 : Int32) = some (g (112 + 19 * v + 1)) := (m_get (k := 1) hS.1 (by omega) (by omega)).trans (congrArg some (hS.2.1 _))
    have hb0 : f_X12_gathers_L7 n 436 (nI v) (fun S6 => some S6) (f + 1) (nI k) S = if zPe g w v k = true then zB1 (f_X12_comes n S 436 (zMe g lo ms md v k)) (fun S33 => f_X12_gathers_L7 n 436 (nI v) (fun S6 => some S6) f (nI (k + 1)) S33) else f_X12_gathers_L7 n 436 (nI v) (fun S6 => some S6) f (nI (k + 1)) S := by
      show f_X12_gathers_L7b n 436 (nI v) (fun S6 => some S6) (f_X12_gathers_L7 n 436 (nI v) (fun S6 => some S6) f) (nI k) S = _
      unfold f_X12_gathers_L7b
      rw [if_neg (show ¬ (7 : Int32) ≤ nI k from nI_ge hk (by decide)), g1, zB1_s, g2, zB1_s, h2.i (show ¬ ((436 = 445 ∧ 29 < 7) ∨ (436 = 436 ∧ 29 = 11)) by omega), h2.i (show ¬ ((436 = 445 ∧ 32 < 7) ∨ (436 = 436 ∧ 32 = 11)) by omega), h2.i (show ¬ ((436 = 445 ∧ 33 < 7) ∨ (436 = 436 ∧ 33 = 11)) by omega), h2.i (show ¬ ((436 = 445 ∧ 34 < 7) ∨ (436 = 436 ∧ 34 = 11)) by omega), ew, el, em, ed, nI_1]
      simp only [nLet, gd, nB1]
      unfold zPe
      by_cases q0 : g (112 + 19 * v + 5 + k) = 0
      · rw [if_pos (Int32.not_le.mp (fun z => hm.mp z q0)), if_neg (show ¬ (!decide (g (112 + 19 * v + 5 + k) = 0) && !decide (nI k = w)) = true by simp [q0])]
      · rw [if_neg (Int32.not_lt.mpr (hm.mpr q0))]
        by_cases qw : nI k = w
        · rw [if_pos qw, if_neg (show ¬ (!decide (g (112 + 19 * v + 5 + k) = 0) && !decide (nI k = w)) = true by simp [qw])]
        · rw [if_neg qw, if_pos (show (!decide (g (112 + 19 * v + 5 + k) = 0) && !decide (nI k = w)) = true by simp [q0, qw])]
          by_cases qb : (ms >>> (nI k &&& 31)) &&& 1 = 1
          · have eM : zMe g lo ms md v k = if g (112 + 19 * v + 1) = md then 20 else 0 := by
              unfold zMe
              rw [if_pos (show zbt ms k = 1 from qb)]
            rw [eM]
            have hif : ∀ x : Int32, (if (ms >>> (nI k &&& 31)) &&& 1 = 1 then (if g (112 + 19 * v + 1) = md then zB1 (f_X12_comes n S 436 20) (fun S33 => f_X12_gathers_L7 n 436 (nI v) (fun S6 => some S6) f (nI (k + 1)) S33) else zB1 (f_X12_comes n S 436 0) (fun S33 => f_X12_gathers_L7 n 436 (nI v) (fun S6 => some S6) f (nI (k + 1)) S33)) else zB1 (f_X12_comes n S 436 x) (fun S33 => f_X12_gathers_L7 n 436 (nI v) (fun S6 => some S6) f (nI (k + 1)) S33)) = zB1 (f_X12_comes n S 436 (if g (112 + 19 * v + 1) = md then 20 else 0)) (fun S33 => f_X12_gathers_L7 n 436 (nI v) (fun S6 => some S6) f (nI (k + 1)) S33) := fun x => by
              rw [if_pos qb]
              by_cases qd : g (112 + 19 * v + 1) = md
              · rw [if_pos qd, if_pos qd]
              · rw [if_neg qd, if_neg qd]
            by_cases ql : lo = 0
            · rw [if_pos ql]; exact hif _
            · rw [if_neg ql]
              by_cases qj : g (112 + 19 * v + 12 + k) - 1 < 0
              · rw [if_pos qj]; exact hif _
              · rw [if_neg qj]
                obtain ⟨a, ha, ea⟩ := hb6.2.1.k
                rcases Nat.eq_zero_or_pos a with qa | qa
                · rw [ea, qa] at qj
                  exact absurd (show nI 0 - 1 < 0 by decide +kernel) qj
                · have hlj := m_leanIn hS hv (show a - 1 < 12 by omega)
                  rw [ea, show (1 : Int32) = nI 1 from rfl, nI_sub (show 1 ≤ a by omega), hlj, zB1_s, zB1_s]
                  split
                  · exact hif _
                  · exact hif _
          · unfold zMe
            rw [if_neg (show ¬ zbt ms k = 1 from qb)]
            by_cases ql : lo = 0
            · rw [if_pos ql, if_neg qb, if_pos (Or.inl ql)]
            · rw [if_neg ql]
              by_cases qj : g (112 + 19 * v + 12 + k) - 1 < 0
              · rw [if_pos qj, if_neg qb, if_pos (Or.inr qj)]
              · rw [if_neg qj, if_neg (show ¬ (lo = 0 ∨ g (112 + 19 * v + 12 + k) - 1 < 0) from fun z => z.elim ql qj)]
                obtain ⟨a, ha, ea⟩ := hb6.2.1.k
                rcases Nat.eq_zero_or_pos a with qa | qa
                · rw [ea, qa] at qj
                  exact absurd (show nI 0 - 1 < 0 by decide +kernel) qj
                · have hlj := m_leanIn hS hv (show a - 1 < 12 by omega)
                  rw [ea, nI_clamp (show a < 2 ^ 31 by omega), show nI a - 1 = nI (a - 1) from nI_sub (show 1 ≤ a by omega), hlj, zB1_s, zB1_s]
                  simp only [nB1, if_neg qb]
                  split <;> rfl
    rw [hb0]
    have e : zGa (zPe g w v) (zMe g lo ms md v) (k + 1) = if zPe g w v k then ((zGa (zPe g w v) (zMe g lo ms md v) k).1 + 1, zIns (zGa (zPe g w v) (zMe g lo ms md v) k).2 (zGa (zPe g w v) (zMe g lo ms md v) k).1 (zMe g lo ms md v k)) else zGa (zPe g w v) (zMe g lo ms md v) k := rfl
    by_cases hp : zPe g w v k = true
    · rw [if_pos hp]
      obtain ⟨T, t1, t2, t3⟩ := m_comes (S := S) (v := zMe g lo ms md v k) (by rw [h2.r]; exact r10) (by rw [h2.n]; exact l10) (by omega) h3 hn
      refine ⟨(nI (k + 1), T), ⟨rfl, h2.tr t2, ?_⟩, ?_⟩
      · rw [e, if_pos hp]; exact t3
      · rw [t1, zB1_s]
    · rw [if_neg hp]
      refine ⟨(nI (k + 1), S), ⟨rfl, h2, ?_⟩, rfl⟩
      rw [e, if_neg hp]; exact h3
  · rintro f ⟨x, S⟩ ⟨h1, h2, h3⟩
    dsimp only at h1 h2 h3 ⊢
    subst h1
    refine ⟨S, ?_, h2, h3⟩
    show f_X12_gathers_L7b n 436 (nI v) (fun S6 => some S6) (f_X12_gathers_L7 n 436 (nI v) (fun S6 => some S6) f) (nI 7) S = _
    unfold f_X12_gathers_L7b
    rw [if_pos (show (7 : Int32) ≤ nI 7 from Int32.le_refl _)]
/-- as told: nothing without, nothing off, nobody moved: the panel of the dive -/
theorem zbt0 (k : Nat) : k < 7 → zbt 0 k = 0 := by
  intro h
  have : ∀ k : Nat, k < 7 → zbt 0 k = 0 := by decide +kernel
  exact this k h
theorem zGa_told {g : Nat → Int32} {md : Int32} {v : Nat} : zGa (zPe g (-1) v) (zMe g 0 0 md v) 7 = zPn g v := by
  refine zGa_c (fun c hc => ?_) (fun c hc _ => ?_)
  · unfold zPe
    have : ¬ nI c = (-1 : Int32) := fun q => by
      have h0 := nI_pos (show c < 2 ^ 31 by omega)
      rw [q] at h0
      exact h0 (by decide)
    simp [this]
  · unfold zMe
    rw [zbt0 c hc, if_neg (by decide), if_pos (Or.inl rfl)]
theorem m_asTold {S : zM} (h : zLay S) : f_X12_asTold S 436 = some (zpI (zpI (zpI (zpI S 436 29 (-1)) 436 32 0) 436 30 (zi S 437 878)) 436 31 (zi S 437 879)) := by
  have r0 : zr S 436 0 = 437 := h.2.2.2.2.2.1.1
  have l0 : zln S 437 = 1004 := h.2.2.2.2.2.2.1
  unfold f_X12_asTold
  simp only [nLet]
  simp (disch := omega) only [zcT, zq878, zq879, zlt_f, zNle, zNe, not_false_eq_true, false_or, or_false, nI_clamp, nr_pI, nln_pI, mi_ne, r0, l0, zq0]
theorem m_asToldF {S : zM} (h : zLay S) : ∃ T : zM, f_X12_asTold S 436 = some T ∧ zF (fun a k => a = 436 ∧ (k = 29 ∨ k = 30 ∨ k = 31 ∨ k = 32)) S T ∧ zi T 436 29 = -1 ∧ zi T 436 32 = 0 ∧ zi T 436 30 = zi S 437 878 ∧ zi T 436 31 = zi S 437 879 := by
  refine ⟨_, m_asTold h, ?_, ?_, ?_, ?_, ?_⟩
  · refine zF.pI ?_ ⟨rfl, by omega⟩
    refine zF.pI ?_ ⟨rfl, by omega⟩
    refine zF.pI ?_ ⟨rfl, by omega⟩
    refine zF.pI ?_ ⟨rfl, by omega⟩
    exact zF.rf
  all_goals simp (disch := omega) only [mi_ne, mi_eq']
/-- the middle of a dive's marks -/
def zMd (g : Nat → Int32) (v : Nat) : Int32 := (zPn g v).2 ((zPn g v).1 / 2)
theorem m_middleOf {S : zM} {nd nj nv v : Nat} {g : Nat → Int32} (h : zRx S g nd nj nv) (hz : zBz g nd nj nv) (hv : v < nv) (em : zi S 436 33 = 0) {n : Nat} (hn : 7 < n) : ∃ S1 : zM, f_X12_middleOf n S 436 (nI v) = some (if (zPn g v).1 = 0 then -4 else zMd g v, S1) ∧ zF (fun a k => a = 445 ∨ (a = 436 ∧ (k = 11 ∨ k = 29 ∨ k = 30 ∨ k = 31 ∨ k = 32))) S S1 := by
  obtain ⟨T, t1, t2, t3, t4, -⟩ := m_asToldF h.1
  have hT : zRx T g nd nj nv := h.fr t2 (fun k => by omega)
  obtain ⟨U, u1, u2, u3⟩ := m_gathers hT hz hv t3 t4 (show zi T 436 33 = 0 by rw [t2.i (by omega)]; exact em) rfl hn
  rw [zGa_told] at u3
  have hle := zPn_le g v
  have r10 : zr U 436 10 = 445 := by rw [u2.r, t2.r]; exact h.1.2.2.2.2.2.1.2.2.2.2.2.2.2.2.1
  have l10 : zln U 445 = 7 := by rw [u2.n, t2.n]; exact h.1.2.2.2.2.2.2.2.2.2.2.2.2.2.2.1
  refine ⟨U, ?_, (t2.mo (fun a k q => by omega)).tr (u2.mo (fun a k q => by omega))⟩
  unfold f_X12_middleOf zMd
  rw [t1, zB1_s, u1, zB1_s, u3.1, r10, l10]
  rcases Nat.eq_zero_or_pos (zPn g v).1 with q | q
  · rw [q]; rfl
  · rw [if_neg (nI_ne0 q (by omega)), zChk_t (by decide), nI_div2 (by omega), zChk_t (zix (by omega) (by omega)), nI_clamp (by omega), if_neg (by omega), u3.2 _ (by omega)]
