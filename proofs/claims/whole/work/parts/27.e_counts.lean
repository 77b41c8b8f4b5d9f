/-! frames where a text's place may change -/
def zFx (W : Nat → Nat → Prop) (S S1 : zM) : Prop := zsz S1 = zsz S ∧ zln S1 = zln S ∧ (∀ a k : Nat, ¬ (a = 436 ∧ k = 17) → ¬ (a = 405 ∧ k = 1) → zr S1 a k = zr S a k) ∧ ∀ a k : Nat, ¬ W a k → zi S1 a k = zi S a k
theorem zFx.rf {W : Nat → Nat → Prop} {S : zM} : zFx W S S := ⟨rfl, rfl, fun _ _ _ _ => rfl, fun _ _ _ => rfl⟩
theorem zFx.tr {W : Nat → Nat → Prop} {S S1 S2 : zM} (h : zFx W S S1) (h2 : zFx W S1 S2) : zFx W S S2 :=
  ⟨h2.1.trans h.1, h2.2.1.trans h.2.1, fun a k g1 g2 => (h2.2.2.1 a k g1 g2).trans (h.2.2.1 a k g1 g2), fun a k hw => (h2.2.2.2 a k hw).trans (h.2.2.2 a k hw)⟩
theorem zFx.mo {W V : Nat → Nat → Prop} {S S1 : zM} (h : zFx W S S1) (hv : ∀ a k : Nat, W a k → V a k) : zFx V S S1 := ⟨h.1, h.2.1, h.2.2.1, fun a k hw => h.2.2.2 a k (fun q => hw (hv a k q))⟩
theorem zF.x {W : Nat → Nat → Prop} {S S1 : zM} (h : zF W S S1) : zFx W S S1 := ⟨h.s, h.n, fun a k _ _ => by rw [h.r], fun a k hw => h.i hw⟩
theorem zFx.i {W : Nat → Nat → Prop} {S S1 : zM} (h : zFx W S S1) {a k : Nat} (hw : ¬ W a k) : zi S1 a k = zi S a k := h.2.2.2 a k hw
theorem zFx.r {W : Nat → Nat → Prop} {S S1 : zM} (h : zFx W S S1) {a k : Nat} (g1 : ¬ (a = 436 ∧ k = 17)) (g2 : ¬ (a = 405 ∧ k = 1)) : zr S1 a k = zr S a k := h.2.2.1 a k g1 g2
theorem zLay.x {W : Nat → Nat → Prop} {S S1 : zM} (h : zLay S) (f : zFx W S S1) : zLay S1 :=
  h.c (by rw [f.1]; exact Nat.le_refl _) (fun a k _ _ _ h4 h5 => f.r (by omega) (by omega)) (fun a _ => by rw [f.2.1])
theorem zRx.x {S S1 : zM} {nd nj nv : Nat} {g : Nat → Int32} (h : zRx S g nd nj nv) {W : Nat → Nat → Prop} (f : zFx W S S1) (hW : ∀ k : Nat, ¬ W 437 k) : zRx S1 g nd nj nv :=
  ⟨h.1.x f, fun k => by rw [f.i (hW k)]; exact h.2.1 k, h.2.2⟩
theorem zInv.x {S S1 : zM} (h : zInv S) (f : zFx zScr S S1) : zInv S1 := by
  obtain ⟨h1, h2, h3, h4, h5, h6, h7⟩ := h
  have e : ∀ a : Nat, a ≠ 10 ∧ a ≠ 13 ∧ a ≠ 14 ∧ a ≠ 15 ∧ (a < 270 ∨ 403 < a) ∧ (a < 405 ∨ 419 < a) ∧ a ≠ 436 ∧ (a < 445 ∨ 452 < a) → zi S1 a = zi S a := fun a ha => funext fun k => f.i (zScr_n ha)
  have e8 : zi S1 436 8 = zi S 436 8 := f.i (by unfold zScr; omega)
  have e33 : zi S1 436 33 = zi S 436 33 := f.i (by unfold zScr; omega)
  have e437 := e 437 (by omega)
  have e438 := e 438 (by omega)
  have e1 := e 1 (by omega)
  have hs : zsz S ≤ zsz S1 := by rw [f.1]; exact Nat.le_refl _
  refine ⟨h1.x f, ?_, by rw [e437]; exact h3, by rw [e1, e8]; exact h4, ?_, fun d hd => ?_, by rw [e33]; exact h7⟩
  · rw [e437]
    exact h2.fr hs (fun j => f.r (by omega) (by omega)) (fun a k ha => by rw [e a (by omega)])
  · rw [e1, e438]
    intro hq
    exact ⟨(h5 hq).1.fr hs (fun j => f.r (by omega) (by omega)) (fun a k ha => by rw [e a (by omega)]), (h5 hq).2⟩
  · exact (h6 d hd).fr hs (f.r (by omega) (by omega)) (fun a k ha => by rw [e a (by omega)])
theorem zFx.pI {W : Nat → Nat → Prop} {S S1 : zM} (h : zFx W S S1) {a k : Nat} {v : Int32} (hw : W a k) : zFx W S (zpI S1 a k v) := h.tr (zF_pI hw).x
theorem zFx.pR {W : Nat → Nat → Prop} {S S1 : zM} (h : zFx W S S1) {a k v : Nat} (hw : (a = 436 ∧ k = 17) ∨ (a = 405 ∧ k = 1)) : zFx W S (zpR S1 a k v) :=
  h.tr ⟨rfl, rfl, fun x j g1 g2 => mr_ne _ _ (by omega), fun _ _ _ => rfl⟩
/-! what a dive counts: the reference's side -/
/-- the row's text is a rule's -/
def zTg (g : Nat → Int32) : Prop := ∃ (n : Nat) (cd : List Int32), n ≤ 120 ∧ g 1000 = nI n ∧ zp 1000 0 6 [] (zTx g 880 n) = some (cd, [])
theorem zTx_g {g : Nat → Int32} {t n k : Nat} (hk : k < n) : (zTx g t n)[k]? = some (g (t + k)) := by
  unfold zTx
  simp [hk]
theorem zTx_l {g : Nat → Int32} {t n : Nat} : (zTx g t n).length = n := by
  unfold zTx
  simp
theorem m_sumL {S0 : zM} {n0 lo hi : Nat} {f : Nat → Int32} {K : zM → Option (Int32 × zM)} (hr : zr S0 436 10 = 445) (hl : zln S0 445 = 7) (hP : zPan S0 436 11 445 n0 f) (hn7 : n0 ≤ 7) (h30 : zi S0 436 30 = nI hi) (h22 : zi S0 436 22 = 0) (hlh : lo + hi ≤ n0) {n : Nat} (hn : 7 < n) : ∃ S1 : zM, f_X12_countsNow_L53 436 K n (nI lo) S0 = K S1 ∧ zF (fun a k => a = 436 ∧ k = 22) S0 S1 ∧ zi S1 436 22 = zSm f n0 lo hi := by
  refine zloopR (fun m (s : Int32 × zM) => f_X12_countsNow_L53 436 K m s.1 s.2) (fun k s => s.1 = nI (lo + k) ∧ zF (fun a k => a = 436 ∧ k = 22) S0 s.2 ∧ zi s.2 436 22 = zSum (fun i => f (lo + i)) k) (n0 - hi - lo) (fun o => ∃ S1 : zM, o = K S1 ∧ zF (fun a k => a = 436 ∧ k = 22) S0 S1 ∧ zi S1 436 22 = zSm f n0 lo hi) ?_ ?_ n (nI lo, S0) (by omega) ⟨rfl, zF.rf, h22⟩
  · rintro k m ⟨x, S⟩ hk ⟨h1, h2, h3⟩
    dsimp only at h1 h2 h3 ⊢
    subst h1
    refine ⟨(nI (lo + (k + 1)), zpI S 436 22 (zSum (fun i => f (lo + i)) k + f (lo + k))), ⟨rfl, zF.pI h2 ⟨rfl, rfl⟩, mi_eq _ _ _ _⟩, ?_⟩
    show f_X12_countsNow_L53b 436 K (f_X12_countsNow_L53 436 K m) (nI (lo + k)) S = _
    unfold f_X12_countsNow_L53b
    rw [h2.i (by omega), hP.1, h2.i (by omega), h30, nI_sub (by omega), if_neg (nI_ge (by omega) (by omega)), h2.r, hr, zChk_t (by decide), h2.n, hl, zChk_t (zix (by omega) (by omega)), zLet_d, nI_clamp (by omega), h3, h2.i (by omega), hP.2 _ (by omega), nI_1]
    rfl
  · rintro m ⟨x, S⟩ ⟨h1, h2, h3⟩
    dsimp only at h1 h2 h3 ⊢
    subst h1
    refine ⟨S, ?_, h2, h3⟩
    show f_X12_countsNow_L53b 436 K (f_X12_countsNow_L53 436 K m) (nI (lo + (n0 - hi - lo))) S = _
    unfold f_X12_countsNow_L53b
    rw [h2.i (by omega), hP.1, h2.i (by omega), h30, nI_sub (by omega), if_pos (nI_le (by omega) (by omega))]
def zCq (a k : Nat) : Prop := a = 445 ∨ (a = 436 ∧ 11 ≤ k ∧ k ≤ 28)
theorem m_countsNow {S0 : zM} {nd nj nv v hi lo : Nat} {g g' : Nat → Int32} {w lf ms md : Int32} (h : zRx S0 g nd nj nv) (hz : zBz g nd nj nv) (hv : v < nv) (ht : zTg g) (ew : zi S0 436 29 = w) (el : zi S0 436 32 = lf) (em : zi S0 436 33 = ms) (ed : zi S0 436 34 = md) (ehi : zi S0 436 30 = nI hi) (elo : zi S0 436 31 = nI lo) (hhi : hi < 4) (hlo : lo < 4)
    (p1 : zGa (zPe g w v) (zMe g lf ms md v) 7 = zPn g' v) (p2 : g' 878 = nI hi) (p3 : g' 879 = nI lo) (p4 : g' (112 + 19 * v + 4) = g (112 + 19 * v + 4)) (p5 : g' (112 + 19 * v + 3) = g (112 + 19 * v + 3)) (p6 : ∀ k : Nat, 880 ≤ k → k ≤ 1000 → g' k = g k) {n : Nat} (hn : 120 < n) : ∃ S1 : zM, f_X12_countsNow n S0 436 (nI v) = some (zCv g' v, S1) ∧ zFx zCq S0 S1 := by
  have r10 : zr S0 436 10 = 445 := h.1.2.2.2.2.2.1.2.2.2.2.2.2.2.2.1
  have l10 : zln S0 445 = 7 := h.1.2.2.2.2.2.2.2.2.2.2.2.2.2.2.1
  have r0 : zr S0 436 0 = 437 := h.1.2.2.2.2.2.1.1
  have l0 : zln S0 437 = 1004 := h.1.2.2.2.2.2.2.1
  have b3 := hz.1.2.2.1
  obtain ⟨T, t1, t2, t3⟩ := m_gathers h hz hv ew el em ed (n := n) (by omega)
  rw [p1] at t3
  have hT : zRx T g nd nj nv := h.fr t2 (fun k => by omega)
  have hle := zPn_le g' v
  have zhi : zHi g' = hi := by unfold zHi; rw [p2]; exact nI_clamp (by omega)
  have zlo : zLo g' = lo := by unfold zLo; rw [p3]; exact nI_clamp (by omega)
  have hTf : zFx zCq S0 T := (t2.mo (fun a k q => by unfold zCq; omega)).x
  unfold f_X12_countsNow zCv
  rw [zhi, zlo, t1, zB1_s, t2.i (show ¬ ((436 = 445 ∧ 30 < 7) ∨ (436 = 436 ∧ 30 = 11)) by omega), t2.i (show ¬ ((436 = 445 ∧ 31 < 7) ∨ (436 = 436 ∧ 31 = 11)) by omega), ehi, elo, t3.1, nI_add, nI_1]
  by_cases hlt : (zPn g' v).1 < hi + lo + 1
  · rw [if_neg (nI_ge hlt (by omega)), if_pos hlt]
    exact ⟨T, rfl, hTf⟩
  · rw [if_pos (nI_le (by omega) (by omega)), if_neg hlt]
    obtain ⟨m, cd, hm, em2, hzp⟩ := ht
    have hcd : zCd g' = cd := by
      unfold zCd
      rw [p6 1000 (by omega) (by omega), em2, nI_clamp (by omega), zTx_c (g := g) (fun k hk => p6 _ (by omega) (by omega)), hzp]
    rw [hcd]
    generalize hn0 : (zPn g' v).1 = n0 at t3 hle hlt
    generalize hf0 : (zPn g' v).2 = f at t3
    have main : ∀ P : Option (Int32 × zM) → Prop, (∀ U : zM, zFx zCq S0 U → zRx U g nd nj nv → zTs U 437 880 (zTx g 880 m) 0 → zFl U (zFe g' v) → P (zB2 (f_X12_sumOf n 8 U 436) (fun r89 S90 => some (r89, S90)))) → P (zLet (zpI T 436 22 (0 : Int32)) (fun S8 => zLet (zpI S8 436 23 (((zi S8 436 11) - (zi S8 436 30)) - (zi S8 436 31))) (fun S13 => zLet (fun (S19 : zM) => zB1 (f_X12_get S19 436 (nI v) (4 : Int32)) (fun r23 => zLet (zpI S19 436 24 r23) (fun S26 => zChk (¬ (zr S26 436 10) = 0) (zChk (¬ (((zi S26 436 11) / (2 : Int32)) < 0 ∨ zln S26 (zr S26 436 10) ≤ (((zi S26 436 11) / (2 : Int32))).toNatClampNeg)) (zLet (zpI S26 436 25 (zi S26 (zr S26 436 10) (Int32.toNatClampNeg ((zi S26 436 11) / (2 : Int32))))) (fun S34 => zChk (¬ (zr S34 436 10) = 0) (zChk (¬ (((zi S34 436 11) - (1 : Int32)) < 0 ∨ zln S34 (zr S34 436 10) ≤ (((zi S34 436 11) - (1 : Int32))).toNatClampNeg)) (zLet (zpI S34 436 26 (zi S34 (zr S34 436 10) (Int32.toNatClampNeg ((zi S34 436 11) - (1 : Int32))))) (fun S42 => zChk (¬ (zr S42 436 10) = 0) (zChk (¬ ((0 : Int32) < 0 ∨ zln S42 (zr S42 436 10) ≤ ((0 : Int32)).toNatClampNeg)) (zLet (zpI S42 436 27 (zi S42 (zr S42 436 10) (Int32.toNatClampNeg (0 : Int32)))) (fun S50 => zB1 (f_X12_get S50 436 (nI v) (3 : Int32)) (fun r56 => zLet (zpI S50 436 28 r56) (fun S59 => zLet (zpR S59 436 17 (zr S59 436 0)) (fun S65 => zLet (zpI S65 436 13 (880 : Int32)) (fun S70 => zChk (¬ (zr S70 436 0) = 0) (zChk (¬ ((1000 : Int32) < 0 ∨ zln S70 (zr S70 436 0) ≤ ((1000 : Int32)).toNatClampNeg)) (zLet (zpI S70 436 14 (zi S70 (zr S70 436 0) (Int32.toNatClampNeg (1000 : Int32)))) (fun S78 => zLet (zpI S78 436 12 (0 : Int32)) (fun S83 => zB2 (f_X12_sumOf n 8 S83 436) (fun r89 S90 => some ((r89, S90))))))))))))))))))))))) (fun K21 => f_X12_countsNow_L53 436 K21 n (zi S13 436 31) S13)))) := by
      intro P hP
      rw [zLet_d, zLet_d, zLet_d]
      have e31 : zi (zpI (zpI T 436 22 0) 436 23 (zi (zpI T 436 22 0) 436 11 - zi (zpI T 436 22 0) 436 30 - zi (zpI T 436 22 0) 436 31)) 436 31 = nI lo := by
        rw [mi_ne _ _ (by omega), mi_ne _ _ (by omega), t2.i (by omega)]; exact elo
      have e23 : zi (zpI T 436 22 0) 436 11 - zi (zpI T 436 22 0) 436 30 - zi (zpI T 436 22 0) 436 31 = nI n0 - nI lo - nI hi := by
        rw [mi_ne _ _ (by omega), mi_ne _ _ (by omega), mi_ne _ _ (by omega), t3.1, t2.i (by omega), t2.i (by omega), ehi, elo, nI_sub (by omega), nI_sub (by omega), nI_sub (by omega), nI_sub (by omega), show n0 - hi - lo = n0 - lo - hi by omega]
      rw [e31, e23]
      have hA : zF (fun a k => a = 436 ∧ (k = 22 ∨ k = 23)) T (zpI (zpI T 436 22 0) 436 23 (nI n0 - nI lo - nI hi)) := zF.pI (zF.pI zF.rf ⟨rfl, Or.inl rfl⟩) ⟨rfl, Or.inr rfl⟩
      have a22 : zi (zpI (zpI T 436 22 0) 436 23 (nI n0 - nI lo - nI hi)) 436 22 = 0 := by rw [mi_ne _ _ (by omega), mi_eq]
      have a23 : zi (zpI (zpI T 436 22 0) 436 23 (nI n0 - nI lo - nI hi)) 436 23 = nI n0 - nI lo - nI hi := mi_eq _ _ _ _
      generalize zpI (zpI T 436 22 0) 436 23 (nI n0 - nI lo - nI hi) = A at hA a22 a23
      have hPA : zPan A 436 11 445 n0 f := ⟨by rw [hA.i (by omega)]; exact t3.1, fun j hj => by rw [hA.i (by omega)]; exact t3.2 j hj⟩
      generalize hK : (fun (S19 : zM) => zB1 (f_X12_get S19 436 (nI v) (4 : Int32)) (fun r23 => zLet (zpI S19 436 24 r23) (fun S26 => zChk (¬ (zr S26 436 10) = 0) (zChk (¬ (((zi S26 436 11) / (2 : Int32)) < 0 ∨ zln S26 (zr S26 436 10) ≤ (((zi S26 436 11) / (2 : Int32))).toNatClampNeg)) (zLet (zpI S26 436 25 (zi S26 (zr S26 436 10) (Int32.toNatClampNeg ((zi S26 436 11) / (2 : Int32))))) (fun S34 => zChk (¬ (zr S34 436 10) = 0) (zChk (¬ (((zi S34 436 11) - (1 : Int32)) < 0 ∨ zln S34 (zr S34 436 10) ≤ (((zi S34 436 11) - (1 : Int32))).toNatClampNeg)) (zLet (zpI S34 436 26 (zi S34 (zr S34 436 10) (Int32.toNatClampNeg ((zi S34 436 11) - (1 : Int32))))) (fun S42 => zChk (¬ (zr S42 436 10) = 0) (zChk (¬ ((0 : Int32) < 0 ∨ zln S42 (zr S42 436 10) ≤ ((0 : Int32)).toNatClampNeg)) (zLet (zpI S42 436 27 (zi S42 (zr S42 436 10) (Int32.toNatClampNeg (0 : Int32)))) (fun S50 => zB1 (f_X12_get S50 436 (nI v) (3 : Int32)) (fun r56 => zLet (zpI S50 436 28 r56) (fun S59 => zLet (zpR S59 436 17 (zr S59 436 0)) (fun S65 => zLet (zpI S65 436 13 (880 : Int32)) (fun S70 => zChk (¬ (zr S70 436 0) = 0) (zChk (¬ ((1000 : Int32) < 0 ∨ zln S70 (zr S70 436 0) ≤ ((1000 : Int32)).toNatClampNeg)) (zLet (zpI S70 436 14 (zi S70 (zr S70 436 0) (Int32.toNatClampNeg (1000 : Int32)))) (fun S78 => zLet (zpI S78 436 12 (0 : Int32)) (fun S83 => zB2 (f_X12_sumOf n 8 S83 436) (fun r89 S90 => some ((r89, S90))))))))))))))))))))))) = K
      obtain ⟨B, k1, k2, k3⟩ := m_sumL (K := K) (S0 := A) (by rw [hA.r, t2.r]; exact r10) (by rw [hA.n, t2.n]; exact l10) hPA hle (show zi A 436 30 = nI hi by rw [hA.i (by omega), t2.i (by omega)]; exact ehi) a22 (show lo + hi ≤ n0 by omega) (n := n) (by omega)
      show P (f_X12_countsNow_L53 436 K n (nI lo) A)
      rw [k1, ← hK]
      have hTB : zF (fun a k => a = 436 ∧ (k = 22 ∨ k = 23)) T B := hA.tr (k2.mo (fun a k q => ⟨q.1, Or.inl q.2⟩))
      have q0 : zr B 436 0 = 437 := by rw [hTB.r, t2.r]; exact r0
      have q10 : zr B 436 10 = 445 := by rw [hTB.r, t2.r]; exact r10
      have m0 : zln B 437 = 1004 := by rw [hTB.n, t2.n]; exact l0
      have m10 : zln B 445 = 7 := by rw [hTB.n, t2.n]; exact l10
      have b11 : zi B 436 11 = nI n0 := by rw [hTB.i (by omega)]; exact t3.1
      have bf : ∀ j : Nat, j < n0 → zi B 445 j = f j := fun j hj => by rw [hTB.i (by omega)]; exact t3.2 j hj
      have bg : ∀ k : Nat, zi B 437 k = g k := fun k => by rw [hTB.i (by omega)]; exact hT.2.1 k
      have b23 : zi B 436 23 = nI n0 - nI lo - nI hi := by rw [k2.i (by omega)]; exact a23
      have hSB : zFx zCq S0 B := hTf.tr (hTB.mo (fun a k q => by unfold zCq; omega)).x
      have hU : ∀ U : zM, U = zpI (zpI (zpI (zpR (zpI (zpI (zpI (zpI (zpI B 436 24 (g (112 + 19 * v + 4))) 436 25 (f (n0 / 2))) 436 26 (f (n0 - 1))) 436 27 (f 0)) 436 28 (g (112 + 19 * v + 3))) 436 17 437) 436 13 (nI 880)) 436 14 (nI m)) 436 12 (nI 0) → P (zB2 (f_X12_sumOf n 8 U 436) (fun r89 S90 => some (r89, S90))) := by
        intro U hUe
        have uF : zFx zCq B U := by
          rw [hUe]
          refine zFx.pI ?_ (Or.inr ⟨rfl, by omega, by omega⟩)
          refine zFx.pI ?_ (Or.inr ⟨rfl, by omega, by omega⟩)
          refine zFx.pI ?_ (Or.inr ⟨rfl, by omega, by omega⟩)
          refine zFx.pR ?_ (Or.inl ⟨rfl, rfl⟩)
          refine zFx.pI ?_ (Or.inr ⟨rfl, by omega, by omega⟩)
          refine zFx.pI ?_ (Or.inr ⟨rfl, by omega, by omega⟩)
          refine zFx.pI ?_ (Or.inr ⟨rfl, by omega, by omega⟩)
          refine zFx.pI ?_ (Or.inr ⟨rfl, by omega, by omega⟩)
          refine zFx.pI ?_ (Or.inr ⟨rfl, by omega, by omega⟩)
          exact zFx.rf
        have u17 : zr U 436 17 = 437 := by rw [hUe]; simp (disch := omega) only [nr_pI, mr_eq']
        have u12 : zi U 436 12 = nI 0 := by rw [hUe, mi_eq]
        have u14 : zi U 436 14 = nI m := by rw [hUe]; simp (disch := omega) only [mi_ne, mi_eq']
        have u13 : zi U 436 13 = nI 880 := by rw [hUe]; simp (disch := omega) only [mi_ne, mi_eq']
        have u28 : zi U 436 28 = g (112 + 19 * v + 3) := by rw [hUe]; simp (disch := omega) only [mi_ne, mi_eq', ni_pR]
        have u27 : zi U 436 27 = f 0 := by rw [hUe]; simp (disch := omega) only [mi_ne, mi_eq', ni_pR]
        have u26 : zi U 436 26 = f (n0 - 1) := by rw [hUe]; simp (disch := omega) only [mi_ne, mi_eq', ni_pR]
        have u25 : zi U 436 25 = f (n0 / 2) := by rw [hUe]; simp (disch := omega) only [mi_ne, mi_eq', ni_pR]
        have u24 : zi U 436 24 = g (112 + 19 * v + 4) := by rw [hUe]; simp (disch := omega) only [mi_ne, mi_eq', ni_pR]
        have u23 : zi U 436 23 = nI n0 - nI lo - nI hi := by rw [hUe]; simp (disch := omega) only [mi_ne, mi_eq', ni_pR]; exact b23
        have u22 : zi U 436 22 = zSm f n0 lo hi := by rw [hUe]; simp (disch := omega) only [mi_ne, mi_eq', ni_pR]; exact k3
        clear hUe
        have hRU : zRx U g nd nj nv := h.x (hSB.tr uF) (fun k => by unfold zCq; omega)
        refine hP U (hSB.tr uF) hRU ⟨u17, by omega, by omega, u13, by rw [zTx_l]; exact u14, u12, Nat.zero_le _, by rw [zTx_l]; exact hm, by omega, by rw [zTx_l]; have := hRU.1.2.2.2.2.2.2.1; omega, fun k hk => ?_⟩ ?_
        · rw [zTx_l] at hk
          rw [zTx_g hk, hRU.2.1]
        · have hne0 : ¬ n0 = 0 := by omega
          unfold zFl zFe
          rw [hn0, hf0, zhi, zlo, p4, p5, u22, u23, u24, u25, u26, u27, u28]
          unfold zFd
          rw [if_neg hne0, if_neg hne0, if_neg hne0]
          refine ⟨rfl, rfl, rfl, rfl, rfl, rfl, rfl⟩
      have e880 : (880 : Int32) = nI 880 := rfl
      have fin := hU _ rfl
      refine Eq.mp (congrArg P ?_) fin
      dsimp only
      simp (disch := omega) only [nLet, nB1, nB2, nL2, zcT, zq0, zq1, zq2, zq3, zq4, zq5, zq6, zq7, zq8, zq10, zq12, zq13, zq15, zq16, zq19, zq20, zq21, zq40, zq42, zq64, zq70, zq72, zq100, zq112, zq120, zq200, zq600, zq872, zq878, zq879, zq880, zq1000, zq1001, zq1002, zq1003, zq1004, zq4100, zle_t, zle_f, zlt_t, zlt_f, zeq_t, zeq_f, zNle, zNleT, zNe, not_false_eq_true, not_true_eq_false, false_or, or_false, or_self, true_and, and_true, and_self, ↓reduceIte, nI_clamp, nI_add, nI_mul, nI_sub, mi_eq', mi_ne, ni_pR, ni_pL, nr_pI, nr_pL, mr_eq', mr_ne, nl_pI, nl_pR, ml_eq', ml_ne, nsz_pI, nsz_pR, nsz_pL, nln_pI, nln_pR, nln_pL, mi_nwn, mr_nwn, ml_nwn, mln_nwn, nsz_nw, nr_cp, nl_cp, nsz_cp, nln_cp, ni_cp, ni_cp', f_X12_get, nI_div, q0, q10, m0, m10, b11, bf, bg, em2]
    refine main (fun o => ∃ S1 : zM, o = some ((zcR (zFe g' v) cd []).headD 0, S1) ∧ zFx zCq S0 S1) (fun U u1 u2 u3 u4 => ?_)
    have hd0 : zp 1000 0 6 [] ((zTx g 880 m).drop 0) = some (cd, []) := hzp
    obtain ⟨val, p', c, S', k1, k2, k3, k4, k5, k6, k7⟩ := (z_eval (row := 437) (base := 880) (fld := zFe g' v) hn 1000 6 0 [] cd []).1 hd0 U 8 u3 u4 (by omega)
    rw [List.nil_append] at k1
    have hval : zcR (zFe g' v) cd [] = [val] := by rw [k1]; exact k7 []
    rw [hval, k4, zB2_s]
    exact ⟨S', rfl, u1.tr (k6.mo (fun a k q => by unfold zTwr at q; unfold zCq; omega)).x⟩
theorem zRepR.tg {S : zM} {q : Nat} {g : Nat → Int32} (h : zRepR S q g) : zTg g := by
  obtain ⟨-, -, -, n, cd, h1, h2, h3, -⟩ := h
  exact ⟨n, cd, h1, h2, h3⟩
theorem zCx.tg {S : zM} {b nd nj nv : Nat} {g : Nat → Int32} (h : zCx S b g nd nj nv) : zTg g := h.2.2.1.2.2.2.2.1.tg
/-- as told -/
theorem m_countsTold {S0 : zM} {nd nj nv v : Nat} {g : Nat → Int32} (h : zRx S0 g nd nj nv) (hz : zBz g nd nj nv) (hv : v < nv) (ht : zTg g) (ew : zi S0 436 29 = -1) (el : zi S0 436 32 = 0) (em : zi S0 436 33 = 0) (ehi : zi S0 436 30 = g 878) (elo : zi S0 436 31 = g 879) {n : Nat} (hn : 120 < n) : ∃ S1 : zM, f_X12_countsNow n S0 436 (nI v) = some (zCv g v, S1) ∧ zFx zCq S0 S1 := by
  obtain ⟨hi, hhi, e1⟩ := hz.2.2.2.2.2.1.2.1.k
  obtain ⟨lo, hlo, e2⟩ := hz.2.2.2.2.2.1.2.2.k
  exact m_countsNow h hz hv ht ew el em rfl (ehi.trans e1) (elo.trans e2) hhi hlo zGa_told e1 e2 rfl rfl (fun _ _ _ => rfl) hn
theorem s_counts {S : zM} (h : zInv S) (v1 v2 v3 v4 v5 : Int32) : ∃ S' : zM, zs_12 1 436 v1 v2 v3 v4 v5 S S' ∧ zInv S' := by
  suffices hh : ∃ (S' : zM) (r : Int32) (S1 : zM), f_X11_counts 200 S 1 v1 = some (r, S1) ∧ f_X12_counts 200 S1 436 v1 = some (r, S') ∧ zInv S' by
    obtain ⟨S', r, S1, q1, q2, q3⟩ := hh
    exact ⟨S', ⟨r, 200, S1, q1, q2⟩, q3⟩
  obtain ⟨nd, nj, nv, hC, hz, hR⟩ := h.z
  obtain ⟨⟨b1, b2, b3⟩, e5, e6, e7⟩ := hC.n
  have r0 : zr S 1 0 = 2 := h.1.2.2.2.2.1.1.1
  have ev : zi S 437 1003 = nI nv := hz.1.2.2.2.2.2
  unfold f_X11_counts
  rw [r0, zChk_t (by decide)]
  by_cases hv : zU v1 nv
  · obtain ⟨v, hv1, rfl⟩ := hv.k
    rw [x_diveAt hC.2.1 b3 e7 hv1, zB1_s, if_neg (by omega)]
    obtain ⟨X, x1, x2⟩ := x_countOf hC hz hv1 (n := 200) (by omega)
    have hX : zInv X := h.fr (x2.mo (fun a k q => zPs_scr (Or.inl rfl) q.s))
    have eX : ∀ k : Nat, zi X 437 k = zi S 437 k := fun k => x2.i (by unfold zPsc; omega)
    have hRX : zRx X (zi S 437) nd nj nv := ⟨hX.1, eX, hC.2.2.2⟩
    obtain ⟨T, t1, t2, t3, t4, t5, t6⟩ := m_asToldF hX.1
    have hRT : zRx T (zi S 437) nd nj nv := hRX.fr t2 (fun k => by omega)
    obtain ⟨Y, y1, y2⟩ := m_countsTold hRT hz hv1 hC.tg t3 t4 (by rw [t2.i (by omega)]; exact hX.2.2.2.2.2.2) (by rw [t5, eX]) (by rw [t6, eX]) (n := 200) (by omega)
    rw [x1, zB2_s]
    refine ⟨Y, _, X, rfl, ?_, (hX.fr (t2.mo (fun a k q => by unfold zScr; omega))).x (y2.mo (fun a k q => by unfold zCq at q; unfold zScr; omega))⟩
    unfold f_X12_counts
    rw [m_isDive hX.1 b3 (by rw [eX]; exact ev), if_pos hv, zB1_s, if_neg (show ¬ (1 : Int32) = 0 by decide), t1, zB1_s, y1, zB2_s]
  · rw [x_diveAt0 b3 e7 hv, zB1_s, if_pos rfl]
    refine ⟨S, -1000000001, S, rfl, ?_, h⟩
    unfold f_X12_counts
    rw [m_isDive h.1 b3 ev, if_neg hv]; rfl
