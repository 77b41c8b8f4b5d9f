/-! order, orderOdds -/
def zBo (X : Nat → Int32) : Nat → Nat → Nat → Nat → Int32 := fun _ t _ m => if X m ≤ X t then (if X t ≤ X m then 0 else -1) else 1
def zOs (g : Nat → Int32) (hh : Int32) : Nat → Nat × (Nat → Int32)
  | 0 => (0, fun _ => 0)
  | k + 1 => if g (112 + 19 * k) = hh then ((zOs g hh k).1 + 1, fun j => if j = (zOs g hh k).1 then zCv g k else (zOs g hh k).2 j) else zOs g hh k
theorem zOs_le {g : Nat → Int32} {hh : Int32} : ∀ k : Nat, (zOs g hh k).1 ≤ k := by
  intro k
  induction k with
  | zero => exact Nat.le_refl _
  | succ k ih =>
    show (if g (112 + 19 * k) = hh then ((zOs g hh k).1 + 1, fun j => if j = (zOs g hh k).1 then zCv g k else (zOs g hh k).2 j) else zOs g hh k).1 ≤ k + 1
    split
    · show (zOs g hh k).1 + 1 ≤ k + 1; omega
    · omega
theorem x_btwO {S : zM} {N : Nat} {X : Nat → Int32} (r3 : zr S 411 3 = 413) (l3 : zln S 413 = 40) (hX : ∀ t : Nat, t < N → zi S 413 t = X t) (hN : N ≤ 40) {p t l m : Nat} (ht : t < N) (hm : m < N) : f_X4_between S 411 (nI p) (nI t) (nI l) (nI m) = some (zBo X p t l m) := by
  have w1 : ∀ k : Nat, k < N → f_X11_within (nI k) (40 : Int32) = 1 := fun k hk => by rw [zwi (n := 40) rfl, if_pos (zU_n (by omega) (by omega))]
  unfold f_X4_between zBo
  rw [w1 t ht, zLet_d, if_neg (show ¬ (1 : Int32) = 0 by decide), w1 m hm, zLet_d, if_neg (show ¬ (1 : Int32) = 0 by decide), r3, zChk_t (by decide), l3, zChk_t (zix (by omega) (by omega)), zChk_t (zix (by omega) (by omega)), nI_clamp (show t < 2 ^ 31 by omega), nI_clamp (show m < 2 ^ 31 by omega), hX t ht, hX m hm]
  by_cases q : X m ≤ X t
  · rw [if_pos q, if_pos q]
    by_cases q2 : X t ≤ X m
    · rw [if_pos q2, if_pos q2]
    · rw [if_neg q2, if_neg q2]
  · rw [if_neg q, if_neg q]
def zWt (a k : Nat) : Prop := zPsc 2 a k ∨ a = 413 ∨ (a = 411 ∧ k = 2)
theorem x_takeO {S0 : zM} {nd nj nv : Nat} {g : Nat → Int32} {hh : Int32} (h : zCx S0 2 g nd nj nv) (hz : zBz g nd nj nv) (r3 : zr S0 411 3 = 413) (l3 : zln S0 413 = 40) {n : Nat} (hn : 120 < n) : ∃ S1 : zM, f_X4_takeFrom n S0 411 2 hh = some S1 ∧ zF zWt S0 S1 ∧ zi S1 411 2 = nI (zOs g hh nv).1 ∧ ∀ j : Nat, j < (zOs g hh nv).1 → zi S1 413 j = (zOs g hh nv).2 j := by
  obtain ⟨⟨b1, b2, b3⟩, e5, e6, e7⟩ := h.n
  unfold f_X4_takeFrom
  rw [zLet_d, zLet_d]
  refine zloopR (fun f (s : Int32 × zM) => f_X4_takeFrom_L7 n 411 2 hh (fun S7 => some S7) f s.1 s.2) (fun k s => s.1 = nI k ∧ zF zWt S0 s.2 ∧ zi s.2 411 2 = nI (zOs g hh k).1 ∧ ∀ j : Nat, j < (zOs g hh k).1 → zi s.2 413 j = (zOs g hh k).2 j) nv (fun o => ∃ S1 : zM, o = some S1 ∧ zF zWt S0 S1 ∧ zi S1 411 2 = nI (zOs g hh nv).1 ∧ ∀ j : Nat, j < (zOs g hh nv).1 → zi S1 413 j = (zOs g hh nv).2 j) ?_ ?_ n (0, zpI S0 411 2 0) (by omega) ⟨rfl, zF_pI (Or.inr (Or.inr ⟨rfl, rfl⟩)), mi_eq _ _ _ _, fun j hj => absurd hj (Nat.not_lt_zero _)⟩
  · rintro k f ⟨y, S⟩ hk ⟨i1, i2, i3, i4⟩
    dsimp only at i1 i2 i3 i4
    subst i1
    have hS : zCx S 2 g nd nj nv := h.fo i2 (fun a k q => by unfold zWt zPsc at q; omega)
    obtain ⟨-, -, -, f7⟩ := hS.n
    have hle := zOs_le (g := g) (hh := hh) k
    have hs : zOs g hh (k + 1) = if g (112 + 19 * k) = hh then ((zOs g hh k).1 + 1, fun j => if j = (zOs g hh k).1 then zCv g k else (zOs g hh k).2 j) else zOs g hh k := rfl
    have hd := (hS.d hk).1
    have hrun : f_X4_takeFrom_L7 n 411 2 hh (fun S7 => some S7) (f + 1) (nI k) S = f_X4_takeFrom_L7b n 411 2 hh (fun S7 => some S7) (f_X4_takeFrom_L7 n 411 2 hh (fun S7 => some S7) f) (nI k) S := rfl
    unfold f_X4_takeFrom_L7b at hrun
    rw [f7, if_neg (nI_ge hk (by omega)), x_diveAt hS.2.1 b3 f7 hk, zB1_s, if_neg (by omega), hd] at hrun
    by_cases q : g (112 + 19 * k) = hh
    · rw [if_pos q] at hs
      obtain ⟨X, x1, x2⟩ := x_countOf hS hz hk hn
      rw [if_pos q, i3, zwi (n := 40) rfl, if_pos (zU_n (by omega) (by omega)), zLet_d, if_neg (show ¬ (1 : Int32) = 0 by decide), i2.r, r3, zChk_t (by decide), x1, zB2_s, x2.n, i2.n, l3, zChk_t (zix (by omega) (by omega)), nI_clamp (show (zOs g hh k).1 < 2 ^ 31 by omega), zLet_d, zLet_d, mi_ne _ _ (by omega), x2.i (by unfold zPsc; omega), i3, nI_1, nI_1] at hrun
      have fX : zF zWt S0 X := i2.tr (x2.mo (fun a k q => Or.inl q))
      refine ⟨(nI (k + 1), zpI (zpI X 413 (zOs g hh k).1 (zCv g k)) 411 2 (nI ((zOs g hh k).1 + 1))), ⟨rfl, (fX.tr (zF_pI (Or.inr (Or.inl rfl)))).tr (zF_pI (Or.inr (Or.inr ⟨rfl, rfl⟩))), ?_, ?_⟩, hrun⟩
      · dsimp only
        rw [hs, mi_eq]
      · rw [hs]
        intro j hj
        dsimp only at hj ⊢
        rw [mi_ne _ _ (by omega)]
        by_cases e : j = (zOs g hh k).1
        · rw [if_pos e, e, mi_eq]
        · rw [if_neg e, mi_ne _ _ (by omega), x2.i (by unfold zPsc; omega)]
          exact i4 j (by omega)
    · rw [if_neg q] at hs hrun
      rw [nI_1] at hrun
      exact ⟨(nI (k + 1), S), ⟨rfl, i2, by rw [hs]; exact i3, by rw [hs]; exact i4⟩, hrun⟩
  · rintro f ⟨y, S⟩ ⟨i1, i2, i3, i4⟩
    dsimp only at i1 i2 i3 i4 ⊢
    subst i1
    have hS : zCx S 2 g nd nj nv := h.fo i2 (fun a k q => by unfold zWt zPsc at q; omega)
    obtain ⟨-, -, -, f7⟩ := hS.n
    refine ⟨S, ?_, i2, i3, i4⟩
    show f_X4_takeFrom_L7b n 411 2 hh (fun S7 => some S7) (f_X4_takeFrom_L7 n 411 2 hh (fun S7 => some S7) f) (nI nv) S = _
    unfold f_X4_takeFrom_L7b
    rw [f7, if_pos (Int32.le_refl _)]
theorem zIO_of {S : zM} {N : Nat} {X : Nat → Int32} (h : zLay S) (hN : N ≤ 40) (e : zi S 411 2 = nI N) (hX : ∀ t : Nat, t < N → zi S 413 t = X t) : zIO S N (zBo X) := by
  have hl := h.2.2.2.2.1.2.2.1
  refine ⟨hl.1, hl.2.2.1, e, fun S1 f p t l m _ ht _ hm => x_btwO (by rw [f.r]; exact hl.2.1) (by rw [f.n]; exact hl.2.2.2.1) (fun t ht => by rw [f.i (by omega)]; exact hX t ht) hN ht hm⟩
theorem m_orderIn {S : zM} {N i : Nat} {X : Nat → Int32} {D : Nat → Nat} (r5 : zr S 436 45 = 450) (l5 : zln S 450 = 40) (hD : ∀ j : Nat, j < N → zi S 450 j = X (D j)) (hN : N ≤ 40) (hi : i < N) {x : Int32} {K : Int32 → Option Int32} {n : Nat} (hn : 40 < n) : f_X12_orderNow_L14 S 436 (nI i) K n x 0 = K (x + zGn (zBo X) D i) := by
  have key := zloop (fun f (s : Int32 × Int32) => f_X12_orderNow_L14 S 436 (nI i) K f s.1 s.2) (fun k => (x + zSum (fun j => zBo X j (D j) i (D i)) k, nI k)) i (res := K (x + zGn (zBo X) D i)) (fun k f hk => ?_) (fun f => ?_) n (by omega)
  · have e : x + zSum (fun j => zBo X j (D j) i (D i)) 0 = x := Int32.add_zero x
    have key' : f_X12_orderNow_L14 S 436 (nI i) K n (x + zSum (fun j => zBo X j (D j) i (D i)) 0) (nI 0) = K (x + zGn (zBo X) D i) := key
    rw [e] at key'
    exact key'
  · show f_X12_orderNow_L14b S 436 (nI i) K (f_X12_orderNow_L14 S 436 (nI i) K f) (x + zSum (fun j => zBo X j (D j) i (D i)) k) (nI k) = f_X12_orderNow_L14 S 436 (nI i) K f (x + (zSum (fun j => zBo X j (D j) i (D i)) k + zBo X k (D k) i (D i))) (nI (k + 1))
    unfold f_X12_orderNow_L14b
    rw [if_neg (nI_ge hk (by omega)), r5, zChk_t (by decide), l5, zChk_t (zix (by omega) (by omega)), zChk_t (zix (by omega) (by omega)), zLet_d, nI_clamp (show k < 2 ^ 31 by omega), nI_clamp (show i < 2 ^ 31 by omega), hD k (by omega), hD i hi, zChk_t (zixc (by omega) (by omega)), zChk_t (zixc (by omega) (by omega)), nI_1, ← Int32.add_assoc]
    unfold zBo
    by_cases q : X (D i) ≤ X (D k)
    · rw [if_pos q, if_pos q]
      by_cases q2 : X (D k) ≤ X (D i)
      · rw [if_pos q2, if_pos q2]
      · rw [if_neg q2, if_neg q2]
    · rw [if_neg q, if_neg q]
  · show f_X12_orderNow_L14b S 436 (nI i) K (f_X12_orderNow_L14 S 436 (nI i) K f) (x + zSum (fun j => zBo X j (D j) i (D i)) i) (nI i) = _
    unfold f_X12_orderNow_L14b
    rw [if_pos (Int32.le_refl _)]
    rfl
theorem m_orderNow {S : zM} {N : Nat} {X : Nat → Int32} {D : Nat → Nat} (r5 : zr S 436 45 = 450) (l5 : zln S 450 = 40) (e : zi S 436 46 = nI N) (hD : ∀ j : Nat, j < N → zi S 450 j = X (D j)) (hN : N ≤ 40) {n : Nat} (hn : 40 < n) : f_X12_orderNow n S 436 = some (zAl (zBo X) D N) := by
  unfold f_X12_orderNow
  rw [zLet_d]
  refine zloop (fun f (s : Int32 × Int32) => f_X12_orderNow_L4 n S 436 (fun x1 => some x1) f s.1 s.2) (fun k => (zAl (zBo X) D k, nI k)) N (fun k f hk => ?_) (fun f => ?_) n (by omega)
  · show f_X12_orderNow_L4b n S 436 (fun x1 => some x1) (f_X12_orderNow_L4 n S 436 (fun x1 => some x1) f) (zAl (zBo X) D k) (nI k) = f_X12_orderNow_L4 n S 436 (fun x1 => some x1) f (zAl (zBo X) D k + zGn (zBo X) D k) (nI (k + 1))
    unfold f_X12_orderNow_L4b
    rw [e, if_neg (nI_ge hk (by omega)), zLet_d, m_orderIn r5 l5 hD hN hk hn, nI_1]
  · show f_X12_orderNow_L4b n S 436 (fun x1 => some x1) (f_X12_orderNow_L4 n S 436 (fun x1 => some x1) f) (zAl (zBo X) D N) (nI N) = _
    unfold f_X12_orderNow_L4b
    rw [e, if_pos (Int32.le_refl _)]
theorem zJO_of {S : zM} {N : Nat} {X : Nat → Int32} (h : zLay S) (hN : N ≤ 40) (e : zi S 436 46 = nI N) (hX : ∀ t : Nat, t < N → zi S 449 t = X t) {n : Nat} (hn : 40 < n) : zJO n S N X (zBo X) := by
  obtain ⟨hr, hl⟩ := h.2.2.2.2.2
  have r4 : zr S 436 44 = 449 := hr.2.2.2.2.2.2.2.2.2.2.2.2.1
  have r5 : zr S 436 45 = 450 := hr.2.2.2.2.2.2.2.2.2.2.2.2.2.1
  have l4 : zln S 449 = 40 := hl.2.2.2.2.2.2.2.2.2.2.2.2.1
  have l5 : zln S 450 = 40 := hl.2.2.2.2.2.2.2.2.2.2.2.2.2.1
  exact ⟨⟨r4, r5, l4, l5, e⟩, hX, fun S1 f D hD => m_orderNow (by rw [f.r]; exact r5) (by rw [f.n]; exact l5) (by rw [f.i (by omega)]; exact e) (fun j hj => (hD j hj).2) hN hn⟩
def zWc (a k : Nat) : Prop := zCq a k ∨ a = 449 ∨ a = 450 ∨ (a = 436 ∧ k = 46)
theorem m_takeO {S0 : zM} {nd nj nv : Nat} {g : Nat → Int32} {hh : Int32} (h : zRx S0 g nd nj nv) (hz : zBz g nd nj nv) (ht : zTg g) (hp : zPar S0 g g nv) (e0 : zi S0 436 46 = 0) {n : Nat} (hn : 120 < n) : ∃ S1 : zM, f_X12_findCounts_L11 n 436 hh (fun S12 => some S12) n 0 S0 = some S1 ∧ zFx zWc S0 S1 ∧ zi S1 436 46 = nI (zOs g hh nv).1 ∧ ∀ j : Nat, j < (zOs g hh nv).1 → zi S1 449 j = (zOs g hh nv).2 j ∧ zi S1 450 j = (zOs g hh nv).2 j := by
  have b3 := h.2.2.1.2.2.1
  refine zloopR (fun f (s : Int32 × zM) => f_X12_findCounts_L11 n 436 hh (fun S7 => some S7) f s.1 s.2) (fun k s => s.1 = nI k ∧ zFx zWc S0 s.2 ∧ zi s.2 436 46 = nI (zOs g hh k).1 ∧ ∀ j : Nat, j < (zOs g hh k).1 → zi s.2 449 j = (zOs g hh k).2 j ∧ zi s.2 450 j = (zOs g hh k).2 j) nv (fun o => ∃ S1 : zM, o = some S1 ∧ zFx zWc S0 S1 ∧ zi S1 436 46 = nI (zOs g hh nv).1 ∧ ∀ j : Nat, j < (zOs g hh nv).1 → zi S1 449 j = (zOs g hh nv).2 j ∧ zi S1 450 j = (zOs g hh nv).2 j) ?_ ?_ n (0, S0) (by omega) ⟨rfl, zFx.rf, e0, fun j hj => absurd hj (Nat.not_lt_zero _)⟩
  · rintro k f ⟨y, S⟩ hk ⟨i1, i2, i3, i4⟩
    dsimp only at i1 i2 i3 i4
    subst i1
    have hS : zRx S g nd nj nv := h.x i2 (fun k => by unfold zWc zCq; omega)
    have hpS : zPar S g g nv := hp.c (fun k h1 h2 => i2.i (by unfold zWc zCq; omega))
    obtain ⟨hr, hl⟩ := hS.1.2.2.2.2.2
    have r0 : zr S 436 0 = 437 := hr.1
    have l0 : zln S 437 = 1004 := hl.1
    have r4 : zr S 436 44 = 449 := hr.2.2.2.2.2.2.2.2.2.2.2.2.1
    have r5 : zr S 436 45 = 450 := hr.2.2.2.2.2.2.2.2.2.2.2.2.2.1
    have l4 : zln S 449 = 40 := hl.2.2.2.2.2.2.2.2.2.2.2.2.1
    have l5 : zln S 450 = 40 := hl.2.2.2.2.2.2.2.2.2.2.2.2.2.1
    have ev : zi S 437 1003 = nI nv := by rw [hS.2.1]; exact hS.2.2.1.2.2.2.2.2
    have hle := zOs_le (g := g) (hh := hh) k
    have hs : zOs g hh (k + 1) = if g (112 + 19 * k) = hh then ((zOs g hh k).1 + 1, fun j => if j = (zOs g hh k).1 then zCv g k else (zOs g hh k).2 j) else zOs g hh k := rfl
    have g0 : f_X12_get S 436 (nI k) (0 : Int32) = some (g (112 + 19 * k)) := (m_get hS.1 (v := k) (k := 0) (by omega) (by omega)).trans (congrArg some (hS.2.1 _))
    have hrun : f_X12_findCounts_L11 n 436 hh (fun S7 => some S7) (f + 1) (nI k) S = f_X12_findCounts_L11b n 436 hh (fun S7 => some S7) (f_X12_findCounts_L11 n 436 hh (fun S7 => some S7) f) (nI k) S := rfl
    unfold f_X12_findCounts_L11b at hrun
    rw [r0, zChk_t (by decide), l0, zq1003, zChk_t (zix (by omega) (by omega)), nI_clamp (show 1003 < 2 ^ 31 by omega), ev, if_neg (nI_ge hk (by omega)), g0, zB1_s] at hrun
    by_cases q : g (112 + 19 * k) = hh
    · rw [if_pos q] at hs
      obtain ⟨X, x1, x2⟩ := m_cnt hS hz ht hpS hk hn
      have rx4 : zr X 436 44 = 449 := by rw [x2.r (by omega) (by omega)]; exact r4
      have rx5 : zr X 436 45 = 450 := by rw [x2.r (by omega) (by omega)]; exact r5
      have lx4 : zln X 449 = 40 := by rw [x2.2.1]; exact l4
      have lx5 : zln X 450 = 40 := by rw [x2.2.1]; exact l5
      have ex : zi X 436 46 = nI (zOs g hh k).1 := by rw [x2.i (by unfold zCq; omega)]; exact i3
      rw [if_pos q, r4, zChk_t (by decide), x1, zB2_s, i3] at hrun
      simp (disch := omega) only [nLet, nB1, nB2, nL2, zcT, zq0, zq1, zq2, zq3, zq4, zq5, zq6, zq7, zq8, zq10, zq12, zq13, zq15, zq16, zq19, zq20, zq21, zq40, zq42, zq64, zq70, zq72, zq100, zq112, zq120, zq200, zq600, zq872, zq878, zq879, zq880, zq1000, zq1001, zq1002, zq1003, zq1004, zq4100, zle_t, zle_f, zlt_t, zlt_f, zeq_t, zeq_f, zNle, zNleT, zNe, not_false_eq_true, not_true_eq_false, false_or, or_false, or_self, true_and, and_true, and_self, ↓reduceIte, nI_clamp, nI_add, nI_mul, nI_sub, mi_eq', mi_ne, ni_pR, ni_pL, nr_pI, nr_pL, mr_eq', mr_ne, nl_pI, nl_pR, ml_eq', ml_ne, nsz_pI, nsz_pR, nsz_pL, nln_pI, nln_pR, nln_pL, mi_nwn, mr_nwn, ml_nwn, mln_nwn, nsz_nw, nr_cp, nl_cp, nsz_cp, nln_cp, ni_cp, ni_cp', rx4, rx5, lx4, lx5, ex] at hrun
      have fX : zFx zWc S0 X := i2.tr (x2.mo (fun a k q => Or.inl q))
      refine ⟨(nI (k + 1), zpI (zpI (zpI X 449 (zOs g hh k).1 (zCv g k)) 450 (zOs g hh k).1 (zCv g k)) 436 46 (nI ((zOs g hh k).1 + 1))), ⟨rfl, zFx.pI (zFx.pI (zFx.pI fX (Or.inr (Or.inl rfl))) (Or.inr (Or.inr (Or.inl rfl)))) (Or.inr (Or.inr (Or.inr ⟨rfl, rfl⟩))), ?_, ?_⟩, hrun⟩
      · dsimp only
        rw [hs, mi_eq]
      · rw [hs]
        intro j hj
        dsimp only at hj ⊢
        by_cases e : j = (zOs g hh k).1
        · rw [if_pos e, e]
          simp (disch := omega) only [mi_ne, mi_eq']
          exact ⟨trivial, trivial⟩
        · rw [if_neg e]
          simp (disch := omega) only [mi_ne]
          rw [x2.i (by unfold zCq; omega), x2.i (by unfold zCq; omega)]
          exact i4 j (by omega)
    · rw [if_neg q] at hs hrun
      rw [nI_1] at hrun
      exact ⟨(nI (k + 1), S), ⟨rfl, i2, by rw [hs]; exact i3, by rw [hs]; exact i4⟩, hrun⟩
  · rintro f ⟨y, S⟩ ⟨i1, i2, i3, i4⟩
    dsimp only at i1 i2 i3 i4 ⊢
    subst i1
    have hS : zRx S g nd nj nv := h.x i2 (fun k => by unfold zWc zCq; omega)
    obtain ⟨hr, hl⟩ := hS.1.2.2.2.2.2
    have r0 : zr S 436 0 = 437 := hr.1
    have l0 : zln S 437 = 1004 := hl.1
    have ev : zi S 437 1003 = nI nv := by rw [hS.2.1]; exact hS.2.2.1.2.2.2.2.2
    refine ⟨S, ?_, i2, i3, i4⟩
    show f_X12_findCounts_L11b n 436 hh (fun S7 => some S7) (f_X12_findCounts_L11 n 436 hh (fun S7 => some S7) f) (nI nv) S = _
    unfold f_X12_findCounts_L11b
    rw [r0, zChk_t (by decide), l0, zq1003, zChk_t (zix (by omega) (by omega)), nI_clamp (show 1003 < 2 ^ 31 by omega), ev, if_pos (Int32.le_refl _)]
def zWd2 (a k : Nat) : Prop := zWc a k ∨ (a = 436 ∧ 29 ≤ k ∧ k ≤ 32)
theorem m_findCounts {S0 : zM} {nd nj nv : Nat} {g : Nat → Int32} {hh : Int32} (h : zRx S0 g nd nj nv) (hz : zBz g nd nj nv) (ht : zTg g) (e33 : zi S0 436 33 = 0) {n : Nat} (hn : 120 < n) : ∃ S1 : zM, f_X12_findCounts n S0 436 hh = some S1 ∧ zFx zWd2 S0 S1 ∧ zi S1 436 46 = nI (zOs g hh nv).1 ∧ ∀ j : Nat, j < (zOs g hh nv).1 → zi S1 449 j = (zOs g hh nv).2 j ∧ zi S1 450 j = (zOs g hh nv).2 j := by
  have f1 : zF (fun a k => a = 436 ∧ k = 46) S0 (zpI S0 436 46 0) := zF_pI ⟨rfl, rfl⟩
  have h1 : zRx (zpI S0 436 46 0) g nd nj nv := h.fr f1 (fun k => by omega)
  obtain ⟨T, t1, t2, t3, t4, t5, t6⟩ := m_asToldF h1.1
  have hT : zRx T g nd nj nv := h1.fr t2 (fun k => by omega)
  have hp : zPar T g g nv := zPar_told hz t3 t4 (by rw [t2.i (by omega), mi_ne _ _ (by omega)]; exact e33) (by rw [t5]; exact h1.2.1 _) (by rw [t6]; exact h1.2.1 _)
  obtain ⟨Y, y1, y2, y3, y4⟩ := m_takeO (hh := hh) hT hz ht hp (by rw [t2.i (by omega), mi_eq]) hn
  refine ⟨Y, ?_, ((f1.mo (fun a k q => Or.inl (Or.inr (Or.inr (Or.inr q))))).tr (t2.mo (fun a k q => Or.inr (by omega)))).x.tr (y2.mo (fun a k q => Or.inl q)), y3, y4⟩
  unfold f_X12_findCounts
  rw [zLet_d, t1, zB1_s, zLet_d]
  exact y1
theorem s_order {S : zM} (h : zInv S) (v1 v2 v3 v4 v5 : Int32) : ∃ S' : zM, zs_21 1 436 v1 v2 v3 v4 v5 S S' ∧ zInv S' := by
  suffices hh : ∃ (S' : zM) (r : Int32) (S1 : zM), f_X11_order 200 S 1 v1 = some (r, S1) ∧ f_X12_order 200 S1 436 v1 = some (r, S') ∧ zInv S' by
    obtain ⟨S', r, S1, q1, q2, q3⟩ := hh
    exact ⟨S', ⟨r, 200, S1, q1, q2⟩, q3⟩
  obtain ⟨nd, nj, nv, hC, hz, hR⟩ := h.z
  obtain ⟨⟨b1, b2, b3⟩, e5, e6, e7⟩ := hC.n
  have hL := h.1
  have r0 : zr S 1 0 = 2 := hL.2.2.2.2.1.1.1
  have r5 : zr S 1 5 = 411 := hL.2.2.2.2.1.1.2.2.2.2.2.1
  have hl := hL.2.2.2.2.1.2.2.1
  unfold f_X11_order
  rw [zwi (n := 6) rfl]
  by_cases hv : zU v1 6
  · obtain ⟨X, x1, x2, x3, x4⟩ := x_takeO (hh := v1) hC hz hl.2.1 hl.2.2.2.1 (n := 200) (by omega)
    have hX : zInv X := h.fr (x2.mo (fun a k q => by unfold zWt zPsc at q; unfold zScr; omega))
    have eX : ∀ k : Nat, zi X 437 k = zi S 437 k := fun k => x2.i (by unfold zWt zPsc; omega)
    have hRX : zRx X (zi S 437) nd nj nv := ⟨hX.1, eX, hC.2.2.2⟩
    have hle := zOs_le (g := zi S 437) (hh := v1) nv
    obtain ⟨Y, y1, y2, y3, y4⟩ := m_findCounts (hh := v1) hRX hz hC.tg hX.2.2.2.2.2.2 (n := 200) (by omega)
    have hY : zInv Y := hX.x (y2.mo (fun a k q => by unfold zWd2 zWc zCq at q; unfold zScr; omega))
    obtain ⟨hr, hl2⟩ := hY.1.2.2.2.2.2
    rw [if_pos hv, zLet_d, if_neg (show ¬ (1 : Int32) = 0 by decide), r5, zChk_t (by decide), r0, zChk_t (by decide), x1, zB1_s, x2.r, r5, zChk_t (by decide), xO_asIt (zIO_of hX.1 (by omega) x3 x4) (by omega) (by omega), zB1_s]
    refine ⟨Y, _, X, rfl, ?_, hY⟩
    unfold f_X12_order
    rw [m_isHall, if_pos hv, zB1_s, if_neg (show ¬ (1 : Int32) = 0 by decide), y1, zB1_s, m_orderNow hr.2.2.2.2.2.2.2.2.2.2.2.2.2.1 hl2.2.2.2.2.2.2.2.2.2.2.2.2.2.1 y3 (D := fun j => j) (fun j hj => (y4 j hj).2) (by omega) (by omega), zB1_s]
  · rw [if_neg hv, zLet_d, if_pos rfl]
    refine ⟨S, _, S, rfl, ?_, h⟩
    unfold f_X12_order
    rw [m_isHall, if_neg hv, zB1_s, if_pos rfl]
theorem s_orderOdds {S : zM} (h : zInv S) (v1 v2 v3 v4 v5 : Int32) : ∃ S' : zM, zs_22 1 436 v1 v2 v3 v4 v5 S S' ∧ zInv S' := by
  suffices hh : ∃ (S' : zM) (r : Int32) (S1 : zM), f_X11_orderOdds 200 S 1 v1 v2 = some (r, S1) ∧ f_X12_orderOdds 200 S1 436 v1 v2 = some (r, S') ∧ zInv S' by
    obtain ⟨S', r, S1, q1, q2, q3⟩ := hh
    exact ⟨S', ⟨r, 200, S1, q1, q2⟩, q3⟩
  obtain ⟨nd, nj, nv, hC, hz, hR⟩ := h.z
  obtain ⟨⟨b1, b2, b3⟩, e5, e6, e7⟩ := hC.n
  have hL := h.1
  have r0 : zr S 1 0 = 2 := hL.2.2.2.2.1.1.1
  have r5 : zr S 1 5 = 411 := hL.2.2.2.2.1.1.2.2.2.2.2.1
  have hl := hL.2.2.2.2.1.2.2.1
  have n10 : ¬ (1 : Int32) = 0 := by decide
  unfold f_X11_orderOdds
  rw [zwi (n := 6) rfl, zwi (n := 2) rfl]
  by_cases hv : zU v1 6
  · by_cases hw : zU v2 2
    · obtain ⟨X, x1, x2, x3, x4⟩ := x_takeO (hh := v1) hC hz hl.2.1 hl.2.2.2.1 (n := 200) (by omega)
      have hX : zInv X := h.fr (x2.mo (fun a k q => by unfold zWt zPsc at q; unfold zScr; omega))
      have hle := zOs_le (g := zi S 437) (hh := v1) nv
      have hIO := zIO_of hX.1 (by omega) x3 x4
      have hm : ∀ Z : zM, zF (fun a k => a = 412 ∨ (a = 411 ∧ k = 1)) X Z → ∃ Y : zM, f_X12_findCounts 200 Z 436 v1 = some Y ∧ zInv Y ∧ zi Y 436 46 = nI (zOs (zi S 437) v1 nv).1 ∧ zJO 200 Y (zOs (zi S 437) v1 nv).1 (zOs (zi S 437) v1 nv).2 (zBo (zOs (zi S 437) v1 nv).2) ∧ ∀ j : Nat, j < (zOs (zi S 437) v1 nv).1 → zi Y 450 j = (zOs (zi S 437) v1 nv).2 j := by
        intro Z f
        have hZ : zInv Z := hX.fr (f.mo (fun a k q => by unfold zScr; omega))
        have eZ : ∀ k : Nat, zi Z 437 k = zi S 437 k := fun k => by rw [f.i (by omega), x2.i (by unfold zWt zPsc; omega)]
        obtain ⟨Y, y1, y2, y3, y4⟩ := m_findCounts (hh := v1) ⟨hZ.1, eZ, hC.2.2.2⟩ hz hC.tg hZ.2.2.2.2.2.2 (n := 200) (by omega)
        have hY : zInv Y := hZ.x (y2.mo (fun a k q => by unfold zWd2 zWc zCq at q; unfold zScr; omega))
        exact ⟨Y, y1, hY, y3, zJO_of hY.1 (by omega) y3 (fun t ht => (y4 t ht).1) (by omega), fun j hj => (y4 j hj).2⟩
      rw [if_pos hv, zLet_d, if_neg n10, if_pos hw, zLet_d, if_neg n10, r5, zChk_t (by decide), r0, zChk_t (by decide), x1, zB1_s, x2.r, r5, zChk_t (by decide), x3]
      generalize hN : (zOs (zi S 437) v1 nv).1 = N at hm hIO hle x3 ⊢
      generalize (zOs (zi S 437) v1 nv).2 = C at hm hIO
      by_cases h7 : N ≤ 7
      · have hm2 : ∀ Z : zM, zF (fun a k => a = 412 ∨ (a = 411 ∧ k = 1)) X Z → ∃ Y : zM, f_X12_orderOdds 200 Z 436 v1 v2 = some (if v2 = 0 then zWy (zBo C) N (zAl (zBo C) (fun j => j) N) N 0 (fun j => j) else nI (zFa N), Y) ∧ zInv Y := by
          intro Z f
          obtain ⟨Y, y1, hY, y3, y4, y5⟩ := hm Z f
          have g1 : zF (fun a k => a = 436 ∧ (k = 42 ∨ k = 43)) Y (zpI (zpI Y 436 42 0) 436 43 0) := (zF_pI ⟨rfl, Or.inl rfl⟩).tr (zF_pI ⟨rfl, Or.inr rfl⟩)
          have hJ : zJO 200 (zpI (zpI Y 436 42 0) 436 43 0) N C (zBo C) := y4.fr (g1.mo (fun a k q => Or.inr q))
          have hnow := y4.2.2 _ (g1.mo (fun a k q => Or.inr q)) (fun j => j) (fun j hj => ⟨hj, by rw [mi_ne _ _ (by omega), mi_ne _ _ (by omega)]; exact y5 j hj⟩)
          obtain ⟨V, k1, k2, k3, k4⟩ := mO_ways (w := zAl (zBo C) (fun j => j) N) h7 (n := 200) (by omega) N 9 0 _ 0 (fun j => j) (by omega) (by omega) hJ (fun j hj => absurd hj (Nat.not_lt_zero _))
          have k1' : f_X12_orders 200 9 (zpI (zpI Y 436 42 0) 436 43 0) 436 (0 : Int32) (0 : Int32) (zAl (zBo C) (fun j => j) N) = some V := k1
          rw [mi_ne _ _ (by omega), mi_eq, Int32.zero_add, zLv_0 h7] at k3
          rw [mi_eq, Int32.zero_add] at k4
          refine ⟨V, ?_, hY.fr ((g1.mo (fun a k q => by unfold zScr; omega)).tr (k2.mo (fun a k q => by unfold zScr; omega)))⟩
          unfold f_X12_orderOdds
          rw [m_isHall, if_pos hv, zB1_s, if_neg n10, zisI (n := 2) rfl, if_pos hw, zLet_d, if_neg n10, y1, zB1_s, y3, if_pos (show nI N ≤ (7 : Int32) from nI_le (b := 7) h7 (by omega)), zLet_d, zLet_d, hnow, zB1_s, k1', zB1_s, k3, k4]
          by_cases q : v2 = 0
          · rw [if_pos q, if_pos q]
          · rw [if_neg q, if_neg q]
        rw [if_pos (show nI N ≤ (7 : Int32) from nI_le (b := 7) h7 (by omega))]
        by_cases q : v2 = 0
        · obtain ⟨Z, z1, z2⟩ := xO_good hIO h7 (n := 200) (by omega)
          obtain ⟨Y, y1, y2⟩ := hm2 Z z2
          rw [if_pos q, z1, zB2_s]
          rw [if_pos q] at y1
          exact ⟨Y, _, Z, rfl, y1, y2⟩
        · obtain ⟨Y, y1, y2⟩ := hm2 X zF.rf
          rw [if_neg q, xO_all h7 x3 (by omega), zB1_s]
          rw [if_neg q] at y1
          exact ⟨Y, _, X, rfl, y1, y2⟩
      · rw [if_neg (show ¬ nI N ≤ (7 : Int32) from nI_ge (a := 7) (by omega) (by omega))]
        obtain ⟨Y, y1, hY, y3, y4, y5⟩ := hm X zF.rf
        refine ⟨Y, _, X, rfl, ?_, hY⟩
        unfold f_X12_orderOdds
        rw [m_isHall, if_pos hv, zB1_s, if_neg n10, zisI (n := 2) rfl, if_pos hw, zLet_d, if_neg n10, y1, zB1_s, y3, if_neg (show ¬ nI N ≤ (7 : Int32) from nI_ge (a := 7) (by omega) (by omega))]
    · rw [if_pos hv, zLet_d, if_neg n10, if_neg hw, zLet_d, if_pos rfl]
      refine ⟨S, _, S, rfl, ?_, h⟩
      unfold f_X12_orderOdds
      rw [m_isHall, if_pos hv, zB1_s, if_neg n10, zisI (n := 2) rfl, if_neg hw, zLet_d, if_pos rfl]
  · rw [if_neg hv, zLet_d, if_pos rfl]
    refine ⟨S, _, S, rfl, ?_, h⟩
    unfold f_X12_orderOdds
    rw [m_isHall, if_neg hv, zB1_s, if_pos rfl]
