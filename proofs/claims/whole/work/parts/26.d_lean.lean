/-! the reference's tallies; lean, near, nearest -/
def zUl (S : zM) (d : Int32) : zM := zpI (zpI (zpI (zpI S 436 35 (zi S 436 35 + d)) 436 37 (if zi S 436 36 = 0 then d else if zi S 436 37 ≤ d then zi S 436 37 else d)) 436 38 (if zi S 436 36 = 0 then d else if d ≤ zi S 436 38 then zi S 436 38 else d)) 436 36 (zi S 436 36 + 1)
theorem zUl_f (S : zM) (d : Int32) : zF (fun a k => a = 436 ∧ 35 ≤ k ∧ k ≤ 38) S (zUl S d) := by
  unfold zUl
  refine zF.pI ?_ ⟨rfl, by omega, by omega⟩
  refine zF.pI ?_ ⟨rfl, by omega, by omega⟩
  refine zF.pI ?_ ⟨rfl, by omega, by omega⟩
  refine zF.pI ?_ ⟨rfl, by omega, by omega⟩
  exact zF.rf
def zRl (S : zM) (T : Int32 × Nat × Int32 × Int32 × Int32) : Prop := zi S 436 35 = T.1 ∧ zi S 436 36 = nI T.2.1 ∧ (¬ T.2.1 = 0 → zi S 436 37 = T.2.2.1 ∧ zi S 436 38 = T.2.2.2.1)
theorem zUl_r {S : zM} {T : Int32 × Nat × Int32 × Int32 × Int32} {d : Int32} (h : zRl S T) (hn : T.2.1 ≤ 40) : zRl (zUl S d) (zTk T d) := by
  obtain ⟨h1, h2, h3⟩ := h
  unfold zUl
  refine ⟨?_, ?_, fun _ => ⟨?_, ?_⟩⟩
  · simp (disch := omega) only [mi_ne, mi_eq']
    rw [h1]; rfl
  · rw [mi_eq, h2, nI_1]; rfl
  · simp (disch := omega) only [mi_ne, mi_eq']
    rw [h2]
    unfold zTk
    dsimp only
    by_cases h : T.2.1 = 0
    · rw [h, if_pos (show nI 0 = (0 : Int32) from rfl), if_pos rfl]
    · rw [if_neg (nI_ne0 (by omega) (by omega)), if_neg h, (h3 h).1]
      by_cases q : T.2.2.1 ≤ d
      · rw [if_pos q, if_neg (Int32.not_lt.mpr q)]
      · rw [if_neg q, if_pos (Int32.not_le.mp q)]
  · simp (disch := omega) only [mi_ne, mi_eq']
    rw [h2]
    unfold zTk
    dsimp only
    by_cases h : T.2.1 = 0
    · rw [h, if_pos (show nI 0 = (0 : Int32) from rfl), if_pos rfl]
    · rw [if_neg (nI_ne0 (by omega) (by omega)), if_neg h, (h3 h).2]
      by_cases q : d ≤ T.2.2.2.1
      · rw [if_pos q, if_neg (Int32.not_lt.mpr q)]
      · rw [if_neg q, if_pos (Int32.not_le.mp q)]
theorem m_leanL {S0 : zM} {nd nj nv v j : Nat} {g : Nat → Int32} {mid : Int32} (h : zRx S0 g nd nj nv) (hz : zBz g nd nj nv) (hv : v < nv) (hj : j < 12) {K : zM → Option zM} {n : Nat} (hn : 7 < n) : f_X12_findLean_L54 436 (nI j) (nI v) mid K n 0 S0 = K (match zBy g v j with
    | none => S0
    | some c => zUl S0 (g (112 + 19 * v + 5 + c) - 1 - mid)) := by
  have h6 := hz.2.2.2.2.2.2 v hv
  have key := zOne (F := fun n i (s : zM) => f_X12_findLean_L54 436 (nI j) (nI v) mid K n i s) (zBp g v j) (fun c s => zUl s (g (112 + 19 * v + 5 + c) - 1 - mid)) K (fun s => zRx s g nd nj nv) (fun k s _ _ hi => hi.fr (zUl_f s _) (fun k => by omega)) (fun k f S hk hS => ?_) (fun f S hS => ?_) (zBp_u h6 hj) n S0 hn h
  · refine Eq.trans key ?_
    unfold zBy
    cases zFc (zBp g v j) 7 0 <;> rfl
  · show f_X12_findLean_L54b 436 (nI j) (nI v) mid K (f_X12_findLean_L54 436 (nI j) (nI v) mid K f) (nI k) S = _
    unfold f_X12_findLean_L54b
    obtain ⟨g1, g2⟩ := m_markW hS hv hk
    have ht := zBp_t h6 hj hk
    rw [if_neg (show ¬ (7 : Int32) ≤ nI k from nI_ge hk (by decide)), g1, zB1_s, g2, zB1_s, zB1_s, nI_1]
    by_cases q1 : g (112 + 19 * v + 5 + k) - 1 < 0
    · rw [if_pos q1, if_neg (fun z => (ht.mp z).1 q1)]
    · rw [if_neg q1]
      by_cases q2 : g (112 + 19 * v + 12 + k) - 1 = nI j
      · rw [if_pos q2, if_pos (ht.mpr ⟨q1, q2⟩)]
        simp only [nLet]
        generalize g (112 + 19 * v + 5 + k) - 1 - mid = d
        unfold zUl
        simp (disch := omega) only [mi_ne]
        by_cases p1 : zi S 436 36 = 0
        · simp only [p1, ↓reduceIte]
        · simp only [p1, ↓reduceIte]
          by_cases p2 : zi S 436 37 ≤ d
          · by_cases p3 : d ≤ zi S 436 38
            · simp only [p2, p3, ↓reduceIte]
            · simp only [p2, p3, ↓reduceIte]
          · by_cases p3 : d ≤ zi S 436 38
            · simp only [p2, p3, ↓reduceIte]
            · simp only [p2, p3, ↓reduceIte]
      · rw [if_neg q2, if_neg (fun z => q2 (ht.mp z).2)]
  · show f_X12_findLean_L54b 436 (nI j) (nI v) mid K (f_X12_findLean_L54 436 (nI j) (nI v) mid K f) (nI 7) S = _
    unfold f_X12_findLean_L54b
    rw [if_pos (show (7 : Int32) ≤ nI 7 from Int32.le_refl _)]
def zUn (S : zM) (d : Int32) : zM := zpI (zpI S 436 47 (zi S 436 47 + zabs d)) 436 48 (zi S 436 48 + 1)
theorem zUn_f (S : zM) (d : Int32) : zF (fun a k => a = 436 ∧ 47 ≤ k ∧ k ≤ 48) S (zUn S d) := by
  unfold zUn
  refine zF.pI ?_ ⟨rfl, by omega, by omega⟩
  refine zF.pI ?_ ⟨rfl, by omega, by omega⟩
  exact zF.rf
theorem m_nearL {S0 : zM} {nd nj nv v j : Nat} {g : Nat → Int32} {mid : Int32} (h : zRx S0 g nd nj nv) (hz : zBz g nd nj nv) (hv : v < nv) (hj : j < 12) {K : zM → Option zM} {n : Nat} (hn : 7 < n) : f_X12_findNear_L33 436 (nI j) (nI v) mid K n 0 S0 = K (match zBy g v j with
    | none => S0
    | some c => zUn S0 (g (112 + 19 * v + 5 + c) - 1 - mid)) := by
  have h6 := hz.2.2.2.2.2.2 v hv
  have key := zOne (F := fun n i (s : zM) => f_X12_findNear_L33 436 (nI j) (nI v) mid K n i s) (zBp g v j) (fun c s => zUn s (g (112 + 19 * v + 5 + c) - 1 - mid)) K (fun s => zRx s g nd nj nv) (fun k s _ _ hi => hi.fr (zUn_f s _) (fun k => by omega)) (fun k f S hk hS => ?_) (fun f S hS => ?_) (zBp_u h6 hj) n S0 hn h
  · refine Eq.trans key ?_
    unfold zBy
    cases zFc (zBp g v j) 7 0 <;> rfl
  · show f_X12_findNear_L33b 436 (nI j) (nI v) mid K (f_X12_findNear_L33 436 (nI j) (nI v) mid K f) (nI k) S = _
    unfold f_X12_findNear_L33b
    obtain ⟨g1, g2⟩ := m_markW hS hv hk
    have ht := zBp_t h6 hj hk
    rw [if_neg (show ¬ (7 : Int32) ≤ nI k from nI_ge hk (by decide)), g1, zB1_s, g2, zB1_s, zB1_s, nI_1]
    by_cases q1 : g (112 + 19 * v + 5 + k) - 1 < 0
    · rw [if_pos q1, if_neg (fun z => (ht.mp z).1 q1)]
    · rw [if_neg q1]
      by_cases q2 : g (112 + 19 * v + 12 + k) - 1 = nI j
      · rw [if_pos q2, if_pos (ht.mpr ⟨q1, q2⟩)]
        simp only [nLet]
        generalize g (112 + 19 * v + 5 + k) - 1 - mid = d
        unfold zUn zabs
        simp (disch := omega) only [mi_ne]
        by_cases p1 : 0 ≤ d
        · rw [if_pos p1, if_pos p1]
        · rw [if_neg p1, if_neg p1, Int32.zero_sub]
      · rw [if_neg q2, if_neg (fun z => q2 (ht.mp z).2)]
  · show f_X12_findNear_L33b 436 (nI j) (nI v) mid K (f_X12_findNear_L33 436 (nI j) (nI v) mid K f) (nI 7) S = _
    unfold f_X12_findNear_L33b
    rw [if_pos (show (7 : Int32) ≤ nI 7 from Int32.le_refl _)]
theorem zTl_c {g : Nat → Int32} {j : Nat} {q q1 : Nat → Bool} : ∀ k : Nat, (∀ i : Nat, i < k → q i = q1 i) → zTl g j q k = zTl g j q1 k := by
  intro k
  induction k with
  | zero => intro _; rfl
  | succ k ih =>
    intro h
    show (if q k = true then (match zBy g k j with
      | none => zTl g j q k
      | some c => zTk (zTl g j q k) (g (112 + 19 * k + 5 + c) - 1 - zMd g k)) else zTl g j q k) = (if q1 k = true then (match zBy g k j with
      | none => zTl g j q1 k
      | some c => zTk (zTl g j q1 k) (g (112 + 19 * k + 5 + c) - 1 - zMd g k)) else zTl g j q1 k)
    rw [ih (fun i hi => h i (by omega)), h k (by omega)]
theorem m_findLean {S0 : zM} {nd nj nv j : Nat} {g : Nat → Int32} {land : Int32} (h : zRx S0 g nd nj nv) (hz : zBz g nd nj nv) (hj : j < 12) (em : zi S0 436 33 = 0) {n : Nat} (hn : 40 < n) : ∃ S1 : zM, f_X12_findLean n S0 436 (nI j) land = some S1 ∧ zF zQs S0 S1 ∧ zRl S1 (zTl g j (fun k => decide (g (2 * zDn g k) = land)) nv) := by
  have b3 := h.2.2.1.2.2.1
  unfold f_X12_findLean
  simp only [nLet]
  refine zloopR (fun f (s : Int32 × zM) => f_X12_findLean_L12 n 436 (nI j) land (fun S11 => some S11) f s.1 s.2) (fun k s => s.1 = nI k ∧ zF zQs S0 s.2 ∧ zRl s.2 (zTl g j (fun k => decide (g (2 * zDn g k) = land)) k)) nv (fun o => ∃ S1 : zM, o = some S1 ∧ zF zQs S0 S1 ∧ zRl S1 (zTl g j (fun k => decide (g (2 * zDn g k) = land)) nv)) ?_ ?_ n (0, zpI (zpI S0 436 35 0) 436 36 0) (by omega) ⟨rfl, zF.pI (zF.pI zF.rf (Or.inl ⟨rfl, by decide, by decide⟩)) (Or.inl ⟨rfl, by decide, by decide⟩), by rw [mi_ne _ _ (by omega), mi_eq]; rfl, by rw [mi_eq]; rfl, fun q => absurd rfl q⟩
  · rintro k f ⟨x, S⟩ hk ⟨h1, h2, h3⟩
    dsimp only at h1 h2 h3 ⊢
    subst h1
    have hS : zRx S g nd nj nv := h.q h2
    have r0 : zr S 436 0 = 437 := hS.1.2.2.2.2.2.1.1
    have l0 : zln S 437 = 1004 := hS.1.2.2.2.2.2.2.1
    have ev : zi S 437 1003 = nI nv := by rw [hS.2.1]; exact hS.2.2.1.2.2.2.2.2
    have hnd := hS.2.2.1.1
    have h6 := hz.2.2.2.2.2.2 k hk
    obtain ⟨d, hd, ed⟩ := h6.2.1.k
    have hdn : zDn g k = d := by
      unfold zDn
      rw [ed]
      exact nI_clamp (by omega)
    have gd : f_X12_get S 436 (nI k) (1 : Int32) = some (nI d) := (m_get (k := 1) hS.1 (by omega) (by omega)).trans (congrArg some ((hS.2.1 _).trans ed))
    have e : zTl g j (fun k => decide (g (2 * zDn g k) = land)) (k + 1) = if decide (g (2 * zDn g k) = land) = true then (match zBy g k j with
      | none => zTl g j (fun k => decide (g (2 * zDn g k) = land)) k
      | some c => zTk (zTl g j (fun k => decide (g (2 * zDn g k) = land)) k) (g (112 + 19 * k + 5 + c) - 1 - zMd g k)) else zTl g j (fun k => decide (g (2 * zDn g k) = land)) k := rfl
    have hb0 : f_X12_findLean_L12 n 436 (nI j) land (fun S11 => some S11) (f + 1) (nI k) S = if g (2 * d) = land then zB2 (f_X12_middleOf n S 436 (nI k)) (fun r30 S31 => f_X12_findLean_L54 436 (nI j) (nI k) r30 (fun S37 => f_X12_findLean_L12 n 436 (nI j) land (fun S11 => some S11) f (nI (k + 1)) S37) n 0 S31) else f_X12_findLean_L12 n 436 (nI j) land (fun S11 => some S11) f (nI (k + 1)) S := by
      show f_X12_findLean_L12b n 436 (nI j) land (fun S11 => some S11) (f_X12_findLean_L12 n 436 (nI j) land (fun S11 => some S11) f) (nI k) S = _
      unfold f_X12_findLean_L12b
      rw [r0, zChk_t (by decide), l0, zq1003, zChk_t (zix (by omega) (by omega)), nI_clamp (by omega), ev, if_neg (nI_ge hk (by omega)), gd, zB1_s, show (2 : Int32) * nI d = nI (2 * d) by rw [show (2 : Int32) = nI 2 from rfl, nI_mul], zChk_t (zix (by omega) (by omega)), nI_clamp (by omega), hS.2.1, nI_1]
      simp only [nLet]
    rw [hb0]
    by_cases hq : g (2 * d) = land
    · rw [if_pos hq]
      obtain ⟨T, t1, t2⟩ := m_middleOf hS hz hk (show zi S 436 33 = 0 by rw [h2.i (by unfold zQs; omega)]; exact em) (n := n) (by omega)
      have hT : zRx T g nd nj nv := hS.fr t2 (fun k => by omega)
      rw [t1, zB2_s, m_leanL hT hz hk hj (by omega)]
      have h3T : zRl T (zTl g j (fun k => decide (g (2 * zDn g k) = land)) k) := by
        obtain ⟨u0, u1, u2⟩ := h3
        exact ⟨by rw [t2.i (by omega)]; exact u0, by rw [t2.i (by omega)]; exact u1, fun q => by rw [t2.i (by omega), t2.i (by omega)]; exact u2 q⟩
      have hST : zF zQs S0 T := h2.tr (t2.mo (fun a i q => by unfold zQs; omega))
      rw [if_pos (show decide (g (2 * zDn g k) = land) = true by rw [hdn]; exact decide_eq_true hq)] at e
      cases hzb : zBy g k j with
      | none =>
        refine ⟨(nI (k + 1), T), ⟨rfl, hST, ?_⟩, rfl⟩
        rw [e, hzb]; exact h3T
      | some c =>
        have hs := zBy_s h6 hj hzb
        have hp := zPn_pos hs.1 hs.2.2.1
        rw [if_neg (by omega)]
        refine ⟨(nI (k + 1), zUl T (g (112 + 19 * k + 5 + c) - 1 - zMd g k)), ⟨rfl, hST.tr ((zUl_f T _).mo (fun a i q => by unfold zQs; omega)), ?_⟩, rfl⟩
        rw [e, hzb]
        have hnT := zTl_n (g := g) (j := j) (q := fun k => decide (g (2 * zDn g k) = land)) k
        exact zUl_r h3T (by omega)
    · rw [if_neg hq]
      refine ⟨(nI (k + 1), S), ⟨rfl, h2, ?_⟩, rfl⟩
      rw [e, if_neg (show ¬ decide (g (2 * zDn g k) = land) = true by rw [hdn]; simp [hq])]; exact h3
  · rintro f ⟨x, S⟩ ⟨h1, h2, h3⟩
    dsimp only at h1 h2 h3 ⊢
    subst h1
    have hS : zRx S g nd nj nv := h.q h2
    have r0 : zr S 436 0 = 437 := hS.1.2.2.2.2.2.1.1
    have l0 : zln S 437 = 1004 := hS.1.2.2.2.2.2.2.1
    have ev : zi S 437 1003 = nI nv := by rw [hS.2.1]; exact hS.2.2.1.2.2.2.2.2
    refine ⟨S, ?_, h2, h3⟩
    show f_X12_findLean_L12b n 436 (nI j) land (fun S11 => some S11) (f_X12_findLean_L12 n 436 (nI j) land (fun S11 => some S11) f) (nI nv) S = _
    unfold f_X12_findLean_L12b
    rw [r0, zChk_t (by decide), l0, zq1003, zChk_t (zix (by omega) (by omega)), nI_clamp (by omega), ev, if_pos (Int32.le_refl _)]
theorem m_findNear {S0 : zM} {nd nj nv j : Nat} {g : Nat → Int32} (h : zRx S0 g nd nj nv) (hz : zBz g nd nj nv) (hj : j < 12) (em : zi S0 436 33 = 0) {n : Nat} (hn : 40 < n) : ∃ S1 : zM, f_X12_findNear n S0 436 (nI j) = some S1 ∧ zF zQs S0 S1 ∧ zi S1 436 47 = (zTl g j (fun _ => true) nv).2.2.2.2 ∧ zi S1 436 48 = nI (zTl g j (fun _ => true) nv).2.1 := by
  have b3 := h.2.2.1.2.2.1
  unfold f_X12_findNear
  simp only [nLet]
  refine zloopR (fun f (s : Int32 × zM) => f_X12_findNear_L12 n 436 (nI j) (fun S11 => some S11) f s.1 s.2) (fun k s => s.1 = nI k ∧ zF zQs S0 s.2 ∧ zi s.2 436 47 = (zTl g j (fun _ => true) k).2.2.2.2 ∧ zi s.2 436 48 = nI (zTl g j (fun _ => true) k).2.1) nv (fun o => ∃ S1 : zM, o = some S1 ∧ zF zQs S0 S1 ∧ zi S1 436 47 = (zTl g j (fun _ => true) nv).2.2.2.2 ∧ zi S1 436 48 = nI (zTl g j (fun _ => true) nv).2.1) ?_ ?_ n (0, zpI (zpI S0 436 47 0) 436 48 0) (by omega) ⟨rfl, zF.pI (zF.pI zF.rf (Or.inl ⟨rfl, by decide, by decide⟩)) (Or.inl ⟨rfl, by decide, by decide⟩), by rw [mi_ne _ _ (by omega), mi_eq]; rfl, by rw [mi_eq]; rfl⟩
  · rintro k f ⟨x, S⟩ hk ⟨h1, h2, h3, h4⟩
    dsimp only at h1 h2 h3 h4 ⊢
    subst h1
    have hS : zRx S g nd nj nv := h.q h2
    have r0 : zr S 436 0 = 437 := hS.1.2.2.2.2.2.1.1
    have l0 : zln S 437 = 1004 := hS.1.2.2.2.2.2.2.1
    have ev : zi S 437 1003 = nI nv := by rw [hS.2.1]; exact hS.2.2.1.2.2.2.2.2
    have h6 := hz.2.2.2.2.2.2 k hk
    have e : zTl g j (fun _ => true) (k + 1) = (match zBy g k j with
      | none => zTl g j (fun _ => true) k
      | some c => zTk (zTl g j (fun _ => true) k) (g (112 + 19 * k + 5 + c) - 1 - zMd g k)) := if_pos rfl
    have hb0 : f_X12_findNear_L12 n 436 (nI j) (fun S11 => some S11) (f + 1) (nI k) S = zB2 (f_X12_middleOf n S 436 (nI k)) (fun r23 S24 => f_X12_findNear_L33 436 (nI j) (nI k) r23 (fun S30 => f_X12_findNear_L12 n 436 (nI j) (fun S11 => some S11) f (nI (k + 1)) S30) n 0 S24) := by
      show f_X12_findNear_L12b n 436 (nI j) (fun S11 => some S11) (f_X12_findNear_L12 n 436 (nI j) (fun S11 => some S11) f) (nI k) S = _
      unfold f_X12_findNear_L12b
      rw [r0, zChk_t (by decide), l0, zq1003, zChk_t (zix (by omega) (by omega)), nI_clamp (by omega), ev, if_neg (nI_ge hk (by omega)), nI_1]
      simp only [nLet]
    rw [hb0]
    obtain ⟨T, t1, t2⟩ := m_middleOf hS hz hk (show zi S 436 33 = 0 by rw [h2.i (by unfold zQs; omega)]; exact em) (n := n) (by omega)
    have hT : zRx T g nd nj nv := hS.fr t2 (fun k => by omega)
    rw [t1, zB2_s, m_nearL hT hz hk hj (by omega)]
    have h3T : zi T 436 47 = (zTl g j (fun _ => true) k).2.2.2.2 := by rw [t2.i (by omega)]; exact h3
    have h4T : zi T 436 48 = nI (zTl g j (fun _ => true) k).2.1 := by rw [t2.i (by omega)]; exact h4
    have hST : zF zQs S0 T := h2.tr (t2.mo (fun a i q => by unfold zQs; omega))
    cases hzb : zBy g k j with
    | none =>
      rw [hzb] at e
      exact ⟨(nI (k + 1), T), ⟨rfl, hST, by rw [e]; exact h3T, by rw [e]; exact h4T⟩, rfl⟩
    | some c =>
      rw [hzb] at e
      have hs := zBy_s h6 hj hzb
      have hp := zPn_pos hs.1 hs.2.2.1
      rw [if_neg (by omega)]
      refine ⟨(nI (k + 1), zUn T (g (112 + 19 * k + 5 + c) - 1 - zMd g k)), ⟨rfl, hST.tr ((zUn_f T _).mo (fun a i q => by unfold zQs; omega)), ?_, ?_⟩, rfl⟩
      · rw [e]
        unfold zUn
        rw [mi_ne _ _ (by omega), mi_eq, h3T]; rfl
      · rw [e]
        unfold zUn
        rw [mi_eq, h4T, nI_1]; rfl
  · rintro f ⟨x, S⟩ ⟨h1, h2, h3, h4⟩
    dsimp only at h1 h2 h3 h4 ⊢
    subst h1
    have hS : zRx S g nd nj nv := h.q h2
    have r0 : zr S 436 0 = 437 := hS.1.2.2.2.2.2.1.1
    have l0 : zln S 437 = 1004 := hS.1.2.2.2.2.2.2.1
    have ev : zi S 437 1003 = nI nv := by rw [hS.2.1]; exact hS.2.2.1.2.2.2.2.2
    refine ⟨S, ?_, h2, h3, h4⟩
    show f_X12_findNear_L12b n 436 (nI j) (fun S11 => some S11) (f_X12_findNear_L12 n 436 (nI j) (fun S11 => some S11) f) (nI nv) S = _
    unfold f_X12_findNear_L12b
    rw [r0, zChk_t (by decide), l0, zq1003, zChk_t (zix (by omega) (by omega)), nI_clamp (by omega), ev, if_pos (Int32.le_refl _)]
theorem zQs33 {S S1 : zM} (f : zF zQs S S1) : zi S1 436 33 = zi S 436 33 := f.i (by unfold zQs; omega)
theorem zLq_t {g : Nat → Int32} {nd nj nv k l : Nat} (hl : l < 6) : zLq g (nI l) k = decide (g (2 * zDn g k) = nI l) := by
  unfold zLq
  have : ¬ nI l = (-1 : Int32) := fun q => by
    have h0 := nI_pos (show l < 2 ^ 31 by omega)
    rw [q] at h0
    exact h0 (by decide)
  simp [this]
theorem zLay.t {S : zM} (h : zLay S) : zr S 1 7 = 419 := h.2.2.2.2.1.1.2.2.2.2.2.2.2.1
theorem s_lean {S : zM} (h : zInv S) (v1 v2 v3 v4 v5 : Int32) : ∃ S' : zM, zs_18 1 436 v1 v2 v3 v4 v5 S S' ∧ zInv S' := by
  suffices hh : ∃ (S' : zM) (r : Int32) (S1 : zM), f_X11_lean 200 S 1 v1 v2 v3 = some (r, S1) ∧ f_X12_lean 200 S1 436 v1 v2 v3 = some (r, S') ∧ zInv S' by
    obtain ⟨S', r, S1, q1, q2, q3⟩ := hh
    exact ⟨S', ⟨r, 200, S1, q1, q2⟩, q3⟩
  obtain ⟨nd, nj, nv, hC, hz, hR⟩ := h.z
  obtain ⟨⟨b1, b2, b3⟩, e5, e6, e7⟩ := hC.n
  have r0 : zr S 1 0 = 2 := h.1.2.2.2.2.1.1.1
  have r7 := h.1.t
  have ej : zi S 437 1002 = nI nj := hz.1.2.2.2.2.1
  unfold f_X11_lean
  rw [r0, zChk_t (by decide), e6, zwN (by omega), zwi (v := v2) (n := 6) rfl, zwi (v := v3) (n := 4) rfl, r7]
  by_cases h1 : zU v1 nj
  · obtain ⟨j, hj, rfl⟩ := h1.k
    rw [if_pos h1, zLet_d, if_neg (show ¬ (1 : Int32) = 0 by decide)]
    by_cases h2 : zU v2 6
    · obtain ⟨l, hl, rfl⟩ := h2.k
      rw [if_pos h2, zLet_d, if_neg (show ¬ (1 : Int32) = 0 by decide)]
      by_cases h3 : zU v3 4
      · obtain ⟨w, hw, rfl⟩ := h3.k
        rw [if_pos h3, zLet_d, if_neg (show ¬ (1 : Int32) = 0 by decide), zChk_t (by decide)]
        obtain ⟨X, x1, x2, x3⟩ := x_tallyUp (land := nI l) hC hz (show j < 12 by omega) (n := 200) (by omega)
        have hX : zInv X := h.fr (x2.mo (fun a k q => by
          rcases q with q | q
          · exact zPs_scr (Or.inl rfl) q
          · unfold zScr; omega))
        have eX : ∀ k : Nat, zi X 437 k = zi S 437 k := fun k => x2.i (by unfold zPs; omega)
        have hRX : zRx X (zi S 437) nd nj nv := ⟨hX.1, eX, hC.2.2.2⟩
        obtain ⟨Y, y1, y2, y3⟩ := m_findLean (land := nI l) hRX hz (show j < 12 by omega) hX.2.2.2.2.2.2 (n := 200) (by omega)
        rw [zTl_c (q1 := fun k => decide (zi S 437 (2 * zDn (zi S 437) k) = nI l)) nv (fun i _ => zLq_t (nd := nd) (nj := nj) (nv := nv) hl)] at x3
        generalize zTl (zi S 437) j (fun k => decide (zi S 437 (2 * zDn (zi S 437) k) = nI l)) nv = T at x3 y3
        have hY : zInv Y := hX.fr (y2.mo (fun a k q => zQs_scr q))
        have t7 : zr X 1 7 = 419 := by rw [x2.r]; exact r7
        obtain ⟨u0, u1, u2, u3, u4⟩ := x3
        obtain ⟨w0, w1, w2⟩ := y3
        rw [x1, zB1_s, t7, zChk_t (by decide), zChk_t (by decide), zChk_t (by decide), u0, u1, u2, u3]
        refine ⟨Y, (if nI w = 0 then T.1 else if nI w = 1 then nI T.2.1 else if nI T.2.1 = 0 then -1000000004 else if nI w = 2 then T.2.2.1 else T.2.2.2.1), X, ?_, ?_, hY⟩
        · repeat' split
          all_goals rfl
        · unfold f_X12_lean
          rw [m_isJudge hX.1 (show nj ≤ 40 by omega) (by rw [eX]; exact ej), if_pos h1, zB1_s, if_neg (show ¬ (1 : Int32) = 0 by decide), zisI (n := 6) rfl, if_pos h2, zLet_d, if_neg (show ¬ (1 : Int32) = 0 by decide), zisI (n := 4) rfl, if_pos h3, zLet_d, if_neg (show ¬ (1 : Int32) = 0 by decide), y1, zB1_s, w0, w1]
          by_cases q0 : nI w = 0
          · rw [if_pos q0, if_pos q0]
          · rw [if_neg q0, if_neg q0]
            by_cases q1 : nI w = 1
            · rw [if_pos q1, if_pos q1]
            · rw [if_neg q1, if_neg q1]
              by_cases q2 : nI T.2.1 = 0
              · rw [if_pos q2, if_pos q2]
              · have := w2 (fun z => q2 (by rw [z]; rfl))
                rw [if_neg q2, if_neg q2, this.1, this.2]
                split <;> rfl
      · rw [if_neg h3, zLet_d, if_pos (show (0 : Int32) = 0 from rfl)]
        refine ⟨S, -1000000001, S, rfl, ?_, h⟩
        unfold f_X12_lean
        rw [m_isJudge h.1 (show nj ≤ 40 by omega) ej, if_pos h1, zB1_s, if_neg (show ¬ (1 : Int32) = 0 by decide), zisI (n := 6) rfl, if_pos h2, zLet_d, if_neg (show ¬ (1 : Int32) = 0 by decide), zisI (n := 4) rfl, if_neg h3]; rfl
    · rw [if_neg h2, zLet_d, if_pos (show (0 : Int32) = 0 from rfl)]
      refine ⟨S, -1000000001, S, rfl, ?_, h⟩
      unfold f_X12_lean
      rw [m_isJudge h.1 (show nj ≤ 40 by omega) ej, if_pos h1, zB1_s, if_neg (show ¬ (1 : Int32) = 0 by decide), zisI (n := 6) rfl, if_neg h2]; rfl
  · rw [if_neg h1, zLet_d, if_pos (show (0 : Int32) = 0 from rfl)]
    refine ⟨S, -1000000001, S, rfl, ?_, h⟩
    unfold f_X12_lean
    rw [m_isJudge h.1 (show nj ≤ 40 by omega) ej, if_neg h1]; rfl
theorem zLq_m {g : Nat → Int32} {k : Nat} : zLq g (-1) k = true := by
  unfold zLq
  simp
theorem s_near {S : zM} (h : zInv S) (v1 v2 v3 v4 v5 : Int32) : ∃ S' : zM, zs_24 1 436 v1 v2 v3 v4 v5 S S' ∧ zInv S' := by
  suffices hh : ∃ (S' : zM) (r : Int32) (S1 : zM), f_X11_near 200 S 1 v1 = some (r, S1) ∧ f_X12_near 200 S1 436 v1 = some (r, S') ∧ zInv S' by
    obtain ⟨S', r, S1, q1, q2, q3⟩ := hh
    exact ⟨S', ⟨r, 200, S1, q1, q2⟩, q3⟩
  obtain ⟨nd, nj, nv, hC, hz, hR⟩ := h.z
  obtain ⟨⟨b1, b2, b3⟩, e5, e6, e7⟩ := hC.n
  have r0 : zr S 1 0 = 2 := h.1.2.2.2.2.1.1.1
  have r7 := h.1.t
  have ej : zi S 437 1002 = nI nj := hz.1.2.2.2.2.1
  unfold f_X11_near
  rw [r0, zChk_t (by decide), e6, zwN (by omega), r7]
  by_cases h1 : zU v1 nj
  · obtain ⟨j, hj, rfl⟩ := h1.k
    rw [if_pos h1, zLet_d, if_neg (show ¬ (1 : Int32) = 0 by decide), zChk_t (by decide)]
    obtain ⟨X, x1, x2, x3⟩ := x_tallyUp (land := -1) hC hz (show j < 12 by omega) (n := 200) (by omega)
    have hX : zInv X := h.fr (x2.mo (fun a k q => by
      rcases q with q | q
      · exact zPs_scr (Or.inl rfl) q
      · unfold zScr; omega))
    have eX : ∀ k : Nat, zi X 437 k = zi S 437 k := fun k => x2.i (by unfold zPs; omega)
    have hRX : zRx X (zi S 437) nd nj nv := ⟨hX.1, eX, hC.2.2.2⟩
    obtain ⟨Y, y1, y2, y3, y4⟩ := m_findNear hRX hz (show j < 12 by omega) hX.2.2.2.2.2.2 (n := 200) (by omega)
    rw [zTl_c (q1 := fun _ => true) nv (fun i _ => zLq_m)] at x3
    have hY : zInv Y := hX.fr (y2.mo (fun a k q => zQs_scr q))
    have t7 : zr X 1 7 = 419 := by rw [x2.r]; exact r7
    obtain ⟨u0, u1, u2, u3, u4⟩ := x3
    rw [x1, zB1_s, t7, zChk_t (by decide), u1, u4]
    refine ⟨Y, (if nI (zTl (zi S 437) j (fun _ => true) nv).2.1 = 0 then -4 else (zTl (zi S 437) j (fun _ => true) nv).2.2.2.2), X, ?_, ?_, hY⟩
    · split <;> rfl
    · unfold f_X12_near
      rw [m_isJudge hX.1 (show nj ≤ 40 by omega) (by rw [eX]; exact ej), if_pos h1, zB1_s, if_neg (show ¬ (1 : Int32) = 0 by decide), y1, zB1_s, y3, y4]
      split <;> rfl
  · rw [if_neg h1, zLet_d, if_pos (show (0 : Int32) = 0 from rfl)]
    refine ⟨S, -1, S, rfl, ?_, h⟩
    unfold f_X12_near
    rw [m_isJudge h.1 (show nj ≤ 40 by omega) ej, if_neg h1]; rfl
/-! nearest -/
theorem zMd_b {g : Nat → Int32} {nd nj v : Nat} (hb : zB6p g nd nj (112 + 19 * v)) (hp : 0 < (zPn g v).1) : zU (zMd g v) 21 := by
  unfold zMd
  refine zGa_all (P := fun x => zU x 21) 7 (fun c hc hq => ?_) _ (show (zPn g v).1 / 2 < (zPn g v).1 by omega)
  obtain ⟨k, hk, ek⟩ := (hb.2.2.2.2.2.1 c hc).1.k
  have hne : ¬ g (112 + 19 * v + 5 + c) = 0 := by simpa using hq
  rw [ek] at hne ⊢
  rcases Nat.eq_zero_or_pos k with q | q
  · rw [q] at hne
    exact absurd rfl hne
  · rw [show (1 : Int32) = nI 1 from rfl, nI_sub q]
    exact zU_n (by omega) (by omega)
theorem zabs_b {x y : Int32} (hx : zU x 21) (hy : zU y 21) : zU (zabs (x - y)) 21 := by
  obtain ⟨a, ha, rfl⟩ := hx.k
  obtain ⟨b, hb, rfl⟩ := hy.k
  have : ∀ a : Nat, a < 21 → ∀ b : Nat, b < 21 → (0 ≤ (zabs (nI a - nI b)).toInt ∧ (zabs (nI a - nI b)).toInt < (21 : Nat)) := by decide +kernel
  exact this a ha b hb
theorem zTl_d {g : Nat → Int32} {nd nj nv j : Nat} {q : Nat → Bool} (h40 : nv ≤ 40) (h6 : ∀ v : Nat, v < nv → zB6p g nd nj (112 + 19 * v)) (hj : j < 12) : ∀ k : Nat, k ≤ nv → zU (zTl g j q k).2.2.2.2 (20 * k + 1) := by
  intro k
  induction k with
  | zero => intro _; exact zU_n (k := 0) (by omega) (by omega)
  | succ k ih =>
    intro hk
    have h1 := ih (by omega)
    have e : zTl g j q (k + 1) = if q k = true then (match zBy g k j with
      | none => zTl g j q k
      | some c => zTk (zTl g j q k) (g (112 + 19 * k + 5 + c) - 1 - zMd g k)) else zTl g j q k := rfl
    rw [e]
    by_cases hq : q k = true
    · rw [if_pos hq]
      cases hzb : zBy g k j with
      | none => exact h1.le (by omega)
      | some c =>
        have hs := zBy_s (h6 k (by omega)) hj hzb
        exact zU_add (n := 20 * k) (m := 20) h1 (zabs_b hs.2.2.2 (zMd_b (h6 k (by omega)) (zPn_pos hs.1 hs.2.2.1))) (by omega)
    · rw [if_neg hq]; exact h1.le (by omega)
/-- the nearest of the judges before k: who (or -4), how far, of how many -/
def zNr (g : Nat → Int32) (nv : Nat) : Nat → Option (Nat × Nat × Nat)
  | 0 => none
  | j + 1 =>
    let d := (zTl g j (fun _ => true) nv).2.2.2.2.toNatClampNeg
    let m := (zTl g j (fun _ => true) nv).2.1
    if m = 0 then zNr g nv j else match zNr g nv j with
      | none => some (j, d, m)
      | some (b, bd, bm) => if d * bm < bd * m then some (j, d, m) else some (b, bd, bm)
theorem zNr_b {g : Nat → Int32} {nd nj nv : Nat} (h40 : nv ≤ 40) (h6 : ∀ v : Nat, v < nv → zB6p g nd nj (112 + 19 * v)) : ∀ j : Nat, j ≤ 12 → ∀ b d m : Nat, zNr g nv j = some (b, d, m) → b < j ∧ d ≤ 800 ∧ m ≤ 40 ∧ 0 < m := by
  intro j
  induction j with
  | zero => intro _ b d m hh; cases hh
  | succ j ih =>
    intro hj b d m hh
    obtain ⟨k, hk, ek⟩ := (zTl_d (q := fun _ => true) h40 h6 (show j < 12 by omega) nv (Nat.le_refl _)).k
    have hm := zTl_n (g := g) (j := j) (q := fun _ => true) nv
    have hd : (zTl g j (fun _ => true) nv).2.2.2.2.toNatClampNeg = k := by rw [ek]; exact nI_clamp (by omega)
    have e : zNr g nv (j + 1) = if (zTl g j (fun _ => true) nv).2.1 = 0 then zNr g nv j else match zNr g nv j with
      | none => some (j, k, (zTl g j (fun _ => true) nv).2.1)
      | some (b, bd, bm) => if k * bm < bd * (zTl g j (fun _ => true) nv).2.1 then some (j, k, (zTl g j (fun _ => true) nv).2.1) else some (b, bd, bm) := by
      rw [← hd]; rfl
    rw [e] at hh
    by_cases q : (zTl g j (fun _ => true) nv).2.1 = 0
    · rw [if_pos q] at hh
      have := ih (by omega) b d m hh
      omega
    · rw [if_neg q] at hh
      cases hz : zNr g nv j with
      | none =>
        rw [hz] at hh
        cases hh
        omega
      | some t =>
        obtain ⟨b1, d1, m1⟩ := t
        rw [hz] at hh
        have := ih (by omega) b1 d1 m1 hz
        dsimp only at hh
        by_cases q2 : k * m1 < d1 * (zTl g j (fun _ => true) nv).2.1
        · rw [if_pos q2] at hh
          cases hh
          omega
        · rw [if_neg q2] at hh
          cases hh
          omega
def zNw (t : Option (Nat × Nat × Nat)) : Int32 := match t with
  | none => -4
  | some (b, _, _) => nI b
