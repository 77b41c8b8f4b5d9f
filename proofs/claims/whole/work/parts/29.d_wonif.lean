/-! won if: other droppings -/
def zDw (g : Nat → Int32) (hi lo : Nat) : Nat → Int32 := fun k => if k = 878 then nI hi else if k = 879 then nI lo else g k
theorem zDw_o {g : Nat → Int32} {hi lo k : Nat} (h1 : ¬ k = 878) (h2 : ¬ k = 879) : zDw g hi lo k = g k := by
  unfold zDw
  rw [if_neg h1, if_neg h2]
theorem zDw_c {S : zM} {nd nj nv hi lo : Nat} {g : Nat → Int32} (h : zCx S 270 g nd nj nv) (hz : zBz g nd nj nv) (hhi : hi < 4) (hlo : lo < 4) : zCx (zpI (zpI S 275 1 (nI hi)) 275 2 (nI lo)) 270 (zDw g hi lo) nd nj nv ∧ zBz (zDw g hi lo) nd nj nv := by
  have hzz : zBz (zDw g hi lo) nd nj nv := by
    obtain ⟨⟨b1, b2, b3, b4, b5, b6⟩, c1, c2, c3, c4, c5, c6⟩ := hz
    refine ⟨⟨b1, b2, b3, by rw [zDw_o (by omega) (by omega)]; exact b4, by rw [zDw_o (by omega) (by omega)]; exact b5, by rw [zDw_o (by omega) (by omega)]; exact b6⟩, c1.g b1 (fun k _ => zDw_o (by omega) (by omega)), c2.g b2 (fun k _ _ => zDw_o (by omega) (by omega)), c3.g (fun k _ _ => zDw_o (by omega) (by omega)), c4.g (fun k _ _ => zDw_o (by omega) (by omega)), ⟨fun p hp => by rw [zDw_o (by omega) (by omega)]; exact c5.1 p hp, ?_, ?_⟩, fun w hw => (c6 w hw).g (fun k _ _ => zDw_o (by omega) (by omega))⟩
    · have : zDw g hi lo 878 = nI hi := if_pos rfl
      rw [this]; exact zU_n hhi (by omega)
    · have : zDw g hi lo 879 = nI lo := by unfold zDw; rw [if_neg (by omega), if_pos rfl]
      rw [this]; exact zU_n hlo (by omega)
  refine ⟨?_, hzz⟩
  have f : zF (fun a k => a = 275 ∧ (k = 1 ∨ k = 2)) S (zpI (zpI S 275 1 (nI hi)) 275 2 (nI lo)) := zF.pI (zF.pI zF.rf ⟨rfl, Or.inl rfl⟩) ⟨rfl, Or.inr rfl⟩
  have e1 : zi (zpI (zpI S 275 1 (nI hi)) 275 2 (nI lo)) 275 1 = nI hi := by rw [mi_ne _ _ (by omega), mi_eq]
  have e2 : zi (zpI (zpI S 275 1 (nI hi)) 275 2 (nI lo)) 275 2 = nI lo := mi_eq _ _ _ _
  generalize zpI (zpI S 275 1 (nI hi)) 275 2 (nI lo) = Y at f e1 e2
  obtain ⟨h0, h1, h2, h3⟩ := h
  refine ⟨h0, by rw [f.r, f.n]; exact h1, ?_, hzz.s⟩
  refine zRep.lay (zg1 h2 (fun a k ha => f.i (by omega)) (fun k hk => zDw_o (by omega) (by omega))) (zg2 h2 (fun a k ha => f.i (by omega)) (fun k hk _ => zDw_o (by omega) (by omega))) (zg3 h2 (fun a k ha => f.i (by omega)) (fun k hk _ => zDw_o (by omega) (by omega))) (zg4 h2 (fun a k ha => f.i (by omega)) (fun k hk _ => zDw_o (by omega) (by omega))) ?_ (zg6 h2 (by rw [f.s]; exact Nat.le_refl _) (fun j => by rw [f.r]) (fun a k ha => f.i (by omega)) (fun k hk _ => zDw_o (by omega) (by omega)) (zDw_o (by omega) (by omega))) (fun w hw1 hw2 => ?_)
  · obtain ⟨r1, r2, r3, n, cd, c1, c2, c3, c4, c5, c6⟩ := h2.2.2.2.2.1
    refine ⟨fun p hp => by rw [f.i (by omega), zDw_o (by omega) (by omega)]; exact r1 p hp, e1.trans (if_pos rfl).symm, ?_, n, cd, c1, by rw [zDw_o (by omega) (by omega)]; exact c2, by rw [zTx_c (g := g) (fun k hk => zDw_o (by omega) (by omega))]; exact c3, c4, by rw [f.i (by omega)]; exact c5, fun k hk => by rw [f.i (by omega)]; exact c6 k hk⟩
    rw [e2]
    unfold zDw
    rw [if_neg (by omega), if_pos rfl]
  · rw [zDw_o (by omega) (by omega)] at hw1
    exact ((h2.2.2.2.2.2.2 w hw1 hw2).fr (fun a k h1 h2 => f.i (by omega))).g (fun k h1 h2 => zDw_o (by omega) (by omega))
theorem zDw_par {g : Nat → Int32} {nd nj nv hi lo : Nat} (hz : zBz g nd nj nv) (hhi : hi < 4) (hlo : lo < 4) {U : zM} (e29 : zi U 436 29 = -1) (e32 : zi U 436 32 = 0) (e33 : zi U 436 33 = 0) (e30 : zi U 436 30 = nI hi) (e31 : zi U 436 31 = nI lo) : zPar U g (zDw g hi lo) nv := by
  have b3 := hz.1.2.2.1
  refine ⟨⟨hi, lo, hhi, hlo, e30, e31, if_pos rfl, ?_⟩, fun k h1 h2 => zDw_o (by omega) (by omega), fun v hv => ⟨zDw_o (by omega) (by omega), zDw_o (by omega) (by omega), zDw_o (by omega) (by omega), zDw_o (by omega) (by omega), ?_⟩⟩
  · unfold zDw
    rw [if_neg (by omega), if_pos rfl]
  · rw [e29, e32, e33, zGa_told]
    unfold zPn
    exact zGa_c (fun c hc => by rw [zDw_o (by omega) (by omega)]) (fun c hc _ => by rw [zDw_o (by omega) (by omega)])
/-! won if -/
theorem m_wonU {X T : zM} {nd nj nv : Nat} {g g' : Nat → Int32} {v1 w lf hi lo : Int32} (hX : zInv X) (hR : zRx X g nd nj nv) (hz : zBz g nd nj nv) (ht : zTg g) (hT : f_X12_asTold X 436 = some T) (hp : ∀ U : zM, zi U 436 29 = w → zi U 436 32 = lf → zi U 436 33 = 0 → zi U 436 30 = hi → zi U 436 31 = lo → zPar U g g' nv) : zi T 436 30 = g 878 ∧ zi T 436 31 = g 879 ∧ ∃ Y Z : zM, f_X12_wonNow 200 (zpI (zpI (zpI (zpI T 436 29 w) 436 32 lf) 436 30 hi) 436 31 lo) 436 v1 = some (zWi (zWn g' v1 (zVl g' 0) nv nd), Y) ∧ f_X12_asTold Y 436 = some Z ∧ zInv Z := by
  obtain ⟨T1, t1, t2, t3, t4, t5, t6, t7, t8, t9, t10⟩ := m_told hX hR hz
  rw [hT] at t1
  have := Option.some.inj t1
  subst this
  refine ⟨t9, t10, ?_⟩
  have f : zF (fun a k => a = 436 ∧ (k = 29 ∨ k = 30 ∨ k = 31 ∨ k = 32)) T (zpI (zpI (zpI (zpI T 436 29 w) 436 32 lf) 436 30 hi) 436 31 lo) := zF.pI (zF.pI (zF.pI (zF.pI zF.rf ⟨rfl, by omega⟩) ⟨rfl, by omega⟩) ⟨rfl, by omega⟩) ⟨rfl, by omega⟩
  have hp' := hp (zpI (zpI (zpI (zpI T 436 29 w) 436 32 lf) 436 30 hi) 436 31 lo) (by rw [mi_ne _ _ (by omega), mi_ne _ _ (by omega), mi_ne _ _ (by omega), mi_eq]) (by rw [mi_ne _ _ (by omega), mi_ne _ _ (by omega), mi_eq]) (by rw [f.i (by omega)]; exact t8) (by rw [mi_ne _ _ (by omega), mi_eq]) (mi_eq _ _ _ _)
  generalize zpI (zpI (zpI (zpI T 436 29 w) 436 32 lf) 436 30 hi) 436 31 lo = U at f hp'
  have hU : zInv U := t2.fr (f.mo (fun a k q => by unfold zScr; omega))
  have hRU : zRx U g nd nj nv := t3.fr f (fun k => by omega)
  obtain ⟨Y, y1, y2⟩ := m_wonNow (hh := v1) hRU hz ht hp' (n := 200) (by omega)
  have hY : zInv Y := zFx.inv hU y2
  obtain ⟨Z, z1, z2, -⟩ := m_told hY (hRU.x y2 (fun k => by unfold zCq; omega)) hz
  exact ⟨Y, Z, y1, z1, z2⟩
theorem zWm_s {a k : Nat} (h : zWm a k) : zScr a k := by
  unfold zWm at h
  unfold zScr
  omega
/-- after the class's part, the reference's -/
theorem s_wonIf {S : zM} (h : zInv S) (v1 v2 v3 v4 v5 : Int32) : ∃ S' : zM, zs_16 1 436 v1 v2 v3 v4 v5 S S' ∧ zInv S' := by
  suffices hh : ∃ (S' : zM) (r : Int32) (S1 : zM), f_X11_wonIf 200 S 1 v1 v2 v3 = some (r, S1) ∧ f_X12_wonIf 200 S1 436 v1 v2 v3 = some (r, S') ∧ zInv S' by
    obtain ⟨S', r, S1, q1, q2, q3⟩ := hh
    exact ⟨S', ⟨r, 200, S1, q1, q2⟩, q3⟩
  obtain ⟨nd, nj, nv, hC, hz, hR⟩ := h.z
  have hL := h.1
  have r0 : zr S 1 0 = 2 := hL.2.2.2.2.1.1.1
  have r2 : zr S 1 2 = 270 := hL.2.2.2.2.1.1.2.2.1
  obtain ⟨X, x1, x2, x3⟩ := h.mind hC (n := 200) (by omega)
  have hX : zInv X := h.jj x2
  have rX : zr X 1 2 = 270 := (x2.2.2.1 1 2 (by omega)).trans r2
  have hz0 : ¬ (0 : Int32) = 1 := by decide
  -- what the winner of a changed copy makes
  have fin : ∀ (Y : zM) (g' : Nat → Int32), zFj X Y → zCx Y 270 g' nd nj nv → zBz g' nd nj nv → ∃ Z : zM, f_X9_winner 200 Y 270 v1 = some (zWi (zWn g' v1 (zVl g' 0) nv nd), Z) ∧ zInv Z ∧ zRx Z (zi S 437) nd nj nv := by
    intro Y g' hj hc hb
    obtain ⟨Z, z1, z2⟩ := x_winner (h := v1) hc hb (n := 200) (by omega)
    have hf : zFj S Z := (x2.tr hj).tr (z2.j (fun a k q => zPs_scr (Or.inr rfl) q))
    have hZ := h.jj hf
    exact ⟨Z, z1, hZ, hZ.1, fun k => hf.2.2.2 437 k (by unfold zScr; omega), hz.s⟩
  have hno : (f_X11_isSupposable v2 v3 = some 0) → (∀ S1 : zM, f_X12_wonIf 200 S1 436 v1 v2 v3 = some (-1, S1)) → ∃ (S' : zM) (r : Int32) (S1 : zM), f_X11_wonIf 200 S 1 v1 v2 v3 = some (r, S1) ∧ f_X12_wonIf 200 S1 436 v1 v2 v3 = some (r, S') ∧ zInv S' := by
    intro e1 e2
    refine ⟨S, -1, S, ?_, e2 S, h⟩
    unfold f_X11_wonIf
    rw [zwi (n := 6) rfl, zLet_d, e1, zB1_s, if_pos rfl]
    split <;> rfl
  by_cases h6 : zU v1 6
  · by_cases q0 : v2 = 0
    · have n1 : ¬ v2 = 1 := by rw [q0]; decide
      have n2 : ¬ v2 = 2 := by rw [q0]; decide
      have u3 : zU v2 3 := by rw [q0]; exact zU_n (k := 0) (by omega) (by omega)
      have p0 : (v2 = 0) = True := eq_true q0
      have p1 : (v2 = 1) = False := eq_false n1
      have p2 : (v2 = 2) = False := eq_false n2
      by_cases hc : zU v3 7
      · obtain ⟨c0, hc0, rfl⟩ := hc.k
        obtain ⟨Y, y1, y2, y3⟩ := x_takeChairOff (c0 := c0) x3 hc0 (n := 200) (by omega)
        have rY : zr Y 1 2 = 270 := by rw [y2.r]; exact rX
        obtain ⟨Z, z1, z2, z3⟩ := fin Y _ (y2.j (fun a k q => zWm_s q)) y3 (zOc_b hz)
        obtain ⟨T, t1, -⟩ := m_told z2 z3 hz
        obtain ⟨t30, t31, A, B, a1, a2, a3⟩ := m_wonU (v1 := v1) (w := nI c0) (lf := 0) (hi := zi S 437 878) (lo := zi S 437 879) z2 z3 hz hC.tg t1 (fun U u1 u2 u3 u4 u5 => zOc_par hz hc0 u1 u2 u3 u4 u5)
        refine ⟨B, zWi (zWn (zIm (zOc (zi S 437) c0) (zi S 437) nv) v1 (zVl (zIm (zOc (zi S 437) c0) (zi S 437) nv) 0) nv nd), Z, ?_, ?_, a3⟩
        · unfold f_X11_wonIf f_X11_isSupposable
          rw [zwi (n := 6) rfl, if_pos h6, zLet_d, if_neg (show ¬ (1 : Int32) = 0 by decide), if_pos q0, zwi (n := 7) rfl, if_pos hc, zLet_d, zChk_t (Or.inr rfl), zB1_s, if_neg (show ¬ (1 : Int32) = 0 by decide), r2, r0, zChk_t (by decide), zChk_t (by decide), x1, zB1_s, zLet_d, if_pos q0, rX, zChk_t (by decide), y1, zB1_s]
          refine Eq.trans (b := zChk (¬ zr Y 1 2 = 0) (zB2 (f_X9_winner 200 Y (zr Y 1 2) v1) (fun r28 S29 => some (r28, S29)))) rfl ?_
          rw [rY, zChk_t (by decide), z1, zB2_s]
        · unfold f_X12_wonIf
          rw [m_isHall, if_pos h6, zB1_s, if_neg (show ¬ (1 : Int32) = 0 by decide), zisI (n := 3) rfl, if_pos u3, zLet_d, if_neg (show ¬ (1 : Int32) = 0 by decide), zLet_d, if_pos q0, m_isChair, if_pos hc, zB1_s, if_neg (show ¬ (1 : Int32) = 0 by decide), zLet_d, if_neg n1, zLet_d, if_neg n2, t1, zB1_s]
          simp (disch := omega) only [nLet, nB1, nB2, zcT, mi_ne, mi_eq', p0, p1, p2, ↓reduceIte, eq_self, true_or, or_true, t30, t31, a1, a2]
      · refine hno ?_ (fun S1 => ?_)
        · unfold f_X11_isSupposable
          rw [if_pos q0, zwi (n := 7) rfl, if_neg hc, zLet_d, zChk_t (Or.inl rfl)]
        · unfold f_X12_wonIf
          rw [m_isHall, if_pos h6, zB1_s, if_neg (show ¬ (1 : Int32) = 0 by decide), zisI (n := 3) rfl, if_pos u3, zLet_d, if_neg (show ¬ (1 : Int32) = 0 by decide), zLet_d, if_pos q0, m_isChair, if_neg hc, zB1_s, if_pos rfl]
    · by_cases q1 : v2 = 1
      · have n2 : ¬ v2 = 2 := by rw [q1]; decide
        have u3 : zU v2 3 := by rw [q1]; exact zU_n (k := 1) (by omega) (by omega)
        have p0 : (v2 = 0) = False := eq_false q0
        have p1 : (v2 = 1) = True := eq_true q1
        have p2 : (v2 = 2) = False := eq_false n2
        by_cases hc : zU v3 34
        · obtain ⟨w, hw, rfl⟩ := hc.k
          have e10 : nI w / (10 : Int32) = nI (w / 10) := nI_div (by omega) (by decide)
          have em : nI w - nI (w / 10) * (10 : Int32) = nI (w % 10) := by
            rw [← e10]; exact nI_mod (by omega) (by decide)
          by_cases h3 : w % 10 < 4
          · obtain ⟨y3, y4⟩ := zDw_c x3 hz (show w / 10 < 4 by omega) h3
            have r4 : zr X 270 4 = 275 := x3.2.1.1.2.2.2.2.1
            obtain ⟨Z, z1, z2, z3⟩ := fin _ _ ((zF.pI (zF.pI (W := fun a k => a = 275) zF.rf rfl) rfl).j (fun a k q => by unfold zScr; omega)) y3 y4
            obtain ⟨T, t1, -⟩ := m_told z2 z3 hz
            obtain ⟨t30, t31, A, B, a1, a2, a3⟩ := m_wonU (v1 := v1) (w := -1) (lf := 0) (hi := nI (w / 10)) (lo := nI (w % 10)) z2 z3 hz hC.tg t1 (fun U u1 u2 u3 u4 u5 => zDw_par hz (show w / 10 < 4 by omega) h3 u1 u2 u3 u4 u5)
            have hn3 : ¬ (3 : Int32) < nI (w % 10) := nI_nlt (a := 3) (b := w % 10) (by omega) (by omega)
            refine ⟨B, zWi (zWn (zDw (zi S 437) (w / 10) (w % 10)) v1 (zVl (zDw (zi S 437) (w / 10) (w % 10)) 0) nv nd), Z, ?_, ?_, a3⟩
            · unfold f_X11_wonIf f_X11_isSupposable
              rw [zwi (n := 6) rfl, if_pos h6, zLet_d, if_neg (show ¬ (1 : Int32) = 0 by decide), if_neg q0, if_pos q1, zwi (n := 34) rfl, if_pos hc, zLet_d, if_neg (show ¬ (1 : Int32) = 0 by decide), e10, em, if_neg hn3, zB1_s, if_neg (show ¬ (1 : Int32) = 0 by decide), r2, r0, zChk_t (by decide), zChk_t (by decide), x1, zB1_s, zLet_d, if_neg q0, if_pos q1, rX, zChk_t (by decide), r4, zChk_t (by decide), zLet_d, nr_pI, rX, zChk_t (by decide), nr_pI, r4, zChk_t (by decide), zLet_d]
              refine Eq.trans (b := zChk (¬ zr (zpI (zpI X 275 1 (nI (w / 10))) 275 2 (nI (w % 10))) 1 2 = 0) (zB2 (f_X9_winner 200 (zpI (zpI X 275 1 (nI (w / 10))) 275 2 (nI (w % 10))) (zr (zpI (zpI X 275 1 (nI (w / 10))) 275 2 (nI (w % 10))) 1 2) v1) (fun r28 S29 => some (r28, S29)))) rfl ?_
              rw [nr_pI, nr_pI, rX, zChk_t (by decide), z1, zB2_s]
            · unfold f_X12_wonIf
              rw [m_isHall, if_pos h6, zB1_s, if_neg (show ¬ (1 : Int32) = 0 by decide), zisI (n := 3) rfl, if_pos u3, zLet_d, if_neg (show ¬ (1 : Int32) = 0 by decide), zLet_d, if_neg q0, zLet_d, if_pos q1, zisI (n := 34) rfl, if_pos hc, zLet_d, if_neg (show ¬ (1 : Int32) = 0 by decide), e10, em, if_neg hn3, zLet_d, if_neg n2, t1, zB1_s]
              simp (disch := omega) only [nLet, nB1, nB2, zcT, mi_ne, mi_eq', p0, p1, p2, ↓reduceIte, eq_self, true_or, or_true, t30, t31, a1, a2]
          · have hn3 : (3 : Int32) < nI (w % 10) := by
              have : nI 3 < nI (w % 10) := nI_lt (by omega) (by omega)
              exact this
            refine hno ?_ (fun S1 => ?_)
            · unfold f_X11_isSupposable
              rw [if_neg q0, if_pos q1, zwi (n := 34) rfl, if_pos hc, zLet_d, if_neg (show ¬ (1 : Int32) = 0 by decide), e10, em, if_pos hn3]
            · unfold f_X12_wonIf
              rw [m_isHall, if_pos h6, zB1_s, if_neg (show ¬ (1 : Int32) = 0 by decide), zisI (n := 3) rfl, if_pos u3, zLet_d, if_neg (show ¬ (1 : Int32) = 0 by decide), zLet_d, if_neg q0, zLet_d, if_pos q1, zisI (n := 34) rfl, if_pos hc, zLet_d, if_neg (show ¬ (1 : Int32) = 0 by decide), e10, em, if_pos hn3]
        · refine hno ?_ (fun S1 => ?_)
          · unfold f_X11_isSupposable
            rw [if_neg q0, if_pos q1, zwi (n := 34) rfl, if_neg hc, zLet_d, if_pos rfl]
          · unfold f_X12_wonIf
            rw [m_isHall, if_pos h6, zB1_s, if_neg (show ¬ (1 : Int32) = 0 by decide), zisI (n := 3) rfl, if_pos u3, zLet_d, if_neg (show ¬ (1 : Int32) = 0 by decide), zLet_d, if_neg q0, zLet_d, if_pos q1, zisI (n := 34) rfl, if_neg hc, zLet_d, if_pos rfl]
      · by_cases q2 : v2 = 2
        · have u3 : zU v2 3 := by rw [q2]; exact zU_n (k := 2) (by omega) (by omega)
          have p0 : (v2 = 0) = False := eq_false q0
          have p1 : (v2 = 1) = False := eq_false q1
          have p2 : (v2 = 2) = True := eq_true q2
          by_cases hc : v3 = 0
          · obtain ⟨Y, y1, y2, y3⟩ := x_takeLeansOff x3 hz (n := 200) (by omega)
            have rY : zr Y 1 2 = 270 := by rw [y2.r]; exact rX
            obtain ⟨Z, z1, z2, z3⟩ := fin Y _ (y2.j (fun a k q => zWm_s q)) y3 (zLf_b hz)
            obtain ⟨T, t1, -⟩ := m_told z2 z3 hz
            obtain ⟨t30, t31, A, B, a1, a2, a3⟩ := m_wonU (v1 := v1) (w := -1) (lf := 1) (hi := zi S 437 878) (lo := zi S 437 879) z2 z3 hz hC.tg t1 (fun U u1 u2 u3 u4 u5 => zLf_par hz u1 u2 u3 u4 u5)
            refine ⟨B, zWi (zWn (zIm (zLf (zi S 437)) (zi S 437) nv) v1 (zVl (zIm (zLf (zi S 437)) (zi S 437) nv) 0) nv nd), Z, ?_, ?_, a3⟩
            · unfold f_X11_wonIf f_X11_isSupposable
              rw [zwi (n := 6) rfl, if_pos h6, zLet_d, if_neg (show ¬ (1 : Int32) = 0 by decide), if_neg q0, if_neg q1, if_pos q2, if_pos hc, zB1_s, if_neg (show ¬ (1 : Int32) = 0 by decide), r2, r0, zChk_t (by decide), zChk_t (by decide), x1, zB1_s, zLet_d, if_neg q0, if_neg q1, rX, zChk_t (by decide), y1, zB1_s]
              refine Eq.trans (b := zChk (¬ zr Y 1 2 = 0) (zB2 (f_X9_winner 200 Y (zr Y 1 2) v1) (fun r28 S29 => some (r28, S29)))) rfl ?_
              rw [rY, zChk_t (by decide), z1, zB2_s]
            · unfold f_X12_wonIf
              rw [m_isHall, if_pos h6, zB1_s, if_neg (show ¬ (1 : Int32) = 0 by decide), zisI (n := 3) rfl, if_pos u3, zLet_d, if_neg (show ¬ (1 : Int32) = 0 by decide), zLet_d, if_neg q0, zLet_d, if_neg q1, zLet_d, if_pos q2, if_pos hc, t1, zB1_s]
              simp (disch := omega) only [nLet, nB1, nB2, zcT, mi_ne, mi_eq', p0, p1, p2, ↓reduceIte, eq_self, true_or, or_true, t30, t31, a1, a2]
          · refine hno ?_ (fun S1 => ?_)
            · unfold f_X11_isSupposable
              rw [if_neg q0, if_neg q1, if_pos q2, if_neg hc]
            · unfold f_X12_wonIf
              rw [m_isHall, if_pos h6, zB1_s, if_neg (show ¬ (1 : Int32) = 0 by decide), zisI (n := 3) rfl, if_pos u3, zLet_d, if_neg (show ¬ (1 : Int32) = 0 by decide), zLet_d, if_neg q0, zLet_d, if_neg q1, zLet_d, if_pos q2, if_neg hc]
        · have h3 : ¬ zU v2 3 := fun q => by
            obtain ⟨k, hk, rfl⟩ := q.k
            have : k = 0 ∨ k = 1 ∨ k = 2 := by omega
            rcases this with rfl | rfl | rfl
            · exact q0 rfl
            · exact q1 rfl
            · exact q2 rfl
          refine hno ?_ (fun S1 => ?_)
          · unfold f_X11_isSupposable
            rw [if_neg q0, if_neg q1, if_neg q2]
          · unfold f_X12_wonIf
            rw [m_isHall, if_pos h6, zB1_s, if_neg (show ¬ (1 : Int32) = 0 by decide), zisI (n := 3) rfl, if_neg h3, zLet_d, if_pos rfl]
  · refine ⟨S, -1, S, ?_, ?_, h⟩
    · unfold f_X11_wonIf
      rw [zwi (n := 6) rfl, if_neg h6, zLet_d, if_pos rfl]
    · unfold f_X12_wonIf
      rw [m_isHall, if_neg h6]; rfl
