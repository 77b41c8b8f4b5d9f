theorem zUp_b {g : Nat → Int32} {nd nj nv d : Nat} {hh ms : Int32} (hz : zBz g nd nj nv) : zBz (zIm (zUp g hh d ms) g nv) nd nj nv := by
  refine zIm_b hz (fun v hv => ?_) nv (Nat.le_refl _)
  have h6 := (hz.2.2.2.2.2.2 v hv).2.2.2.2.2
  refine ⟨fun c hc => ?_, fun c c1 hc hc1 hne => h6.2 c c1 hc hc1 hne⟩
  obtain ⟨a1, a2, a3⟩ := h6.1 c hc
  show zU (zUm g hh d ms v c) 22 ∧ zU (g (112 + 19 * v + 12 + c)) (nj + 1) ∧ (zUm g hh d ms v c = 0 → g (112 + 19 * v + 12 + c) = 0)
  unfold zUm
  by_cases q : g (112 + 19 * v) = hh ∧ zbt ms c = 1 ∧ ¬ g (112 + 19 * v + 5 + c) = 0
  · rw [if_pos q]
    by_cases q3 : g (112 + 19 * v + 1) = nI d
    · rw [if_pos q3]
      exact ⟨zU_n (k := 21) (by omega) (by omega), a2, fun z => absurd z (by decide)⟩
    · rw [if_neg q3]
      exact ⟨zU_n (k := 1) (by omega) (by omega), a2, fun z => absurd z (by decide)⟩
  · rw [if_neg q]
    exact ⟨a1, a2, a3⟩
/-- the reference moves marks in every hall -/
def zUr (g : Nat → Int32) (d : Nat) (ms : Int32) (v : Nat) : (Nat → Int32) × (Nat → Int32) := (fun c => if zbt ms c = 1 ∧ ¬ g (112 + 19 * v + 5 + c) = 0 then (if g (112 + 19 * v + 1) = nI d then 21 else 1) else g (112 + 19 * v + 5 + c), fun c => g (112 + 19 * v + 12 + c))
theorem zUr_par {g : Nat → Int32} {nd nj nv d : Nat} {ms : Int32} (hz : zBz g nd nj nv) {U : zM} (e29 : zi U 436 29 = -1) (e32 : zi U 436 32 = 0) (e33 : zi U 436 33 = ms) (e34 : zi U 436 34 = nI d) (e30 : zi U 436 30 = g 878) (e31 : zi U 436 31 = g 879) : zPar U g (zIm (zUr g d ms) g nv) nv := by
  refine zIm_par hz e30 e31 (fun v hv => ?_)
  rw [e29, e32, e33, e34]
  have hpe : ∀ c : Nat, c < 7 → zPe g (-1) v c = !decide (g (112 + 19 * v + 5 + c) = 0) := fun c hc => by
    unfold zPe
    have : ¬ nI c = (-1 : Int32) := fun q => by
      have h0 := nI_pos (show c < 2 ^ 31 by omega)
      rw [q] at h0
      exact h0 (by decide)
    simp [this]
  refine zGa_c (fun c hc => ?_) (fun c hc hp => ?_)
  · rw [hpe c hc]
    show _ = !decide ((if zbt ms c = 1 ∧ ¬ g (112 + 19 * v + 5 + c) = 0 then (if g (112 + 19 * v + 1) = nI d then (21 : Int32) else 1) else g (112 + 19 * v + 5 + c)) = 0)
    by_cases q1 : g (112 + 19 * v + 5 + c) = 0
    · rw [if_neg (fun z => z.2 q1)]
    · by_cases q2 : zbt ms c = 1
      · rw [if_pos ⟨q2, q1⟩]
        have : ¬ (if g (112 + 19 * v + 1) = nI d then (21 : Int32) else 1) = 0 := by split <;> decide
        simp only [q1, this]
      · rw [if_neg (fun z => q2 z.1)]
  · rw [hpe c hc] at hp
    have q1 : ¬ g (112 + 19 * v + 5 + c) = 0 := fun z => by simp [z] at hp
    show zMe g 0 ms (nI d) v c = (if zbt ms c = 1 ∧ ¬ g (112 + 19 * v + 5 + c) = 0 then (if g (112 + 19 * v + 1) = nI d then (21 : Int32) else 1) else g (112 + 19 * v + 5 + c)) - 1
    unfold zMe
    by_cases q2 : zbt ms c = 1
    · rw [if_pos q2, if_pos (show zbt ms c = 1 ∧ ¬ g (112 + 19 * v + 5 + c) = 0 from ⟨q2, q1⟩)]
      by_cases q3 : g (112 + 19 * v + 1) = nI d
      · rw [if_pos q3, if_pos q3]; decide
      · rw [if_neg q3, if_neg q3]; decide
    · rw [if_neg q2, if_pos (Or.inl rfl), if_neg (show ¬ (zbt ms c = 1 ∧ ¬ g (112 + 19 * v + 5 + c) = 0) from fun z => q2 z.1)]
theorem zTt_h {g g1 : Nat → Int32} {h : Int32} {val val1 : Nat → Int64} {d : Nat} : ∀ k : Nat, (∀ v : Nat, v < k → g1 (112 + 19 * v) = g (112 + 19 * v) ∧ g1 (112 + 19 * v + 1) = g (112 + 19 * v + 1)) → (∀ v : Nat, v < k → g (112 + 19 * v) = h → val1 v = val v) → zTt g1 h val1 d k = zTt g h val d k := by
  intro k
  induction k with
  | zero => intro _ _; rfl
  | succ k ih =>
    intro e ev
    show (if zDp g1 h d k = true then zTt g1 h val1 d k + val1 k else zTt g1 h val1 d k) = (if zDp g h d k = true then zTt g h val d k + val k else zTt g h val d k)
    have eD : zDp g1 h d k = zDp g h d k := by
      unfold zDp
      rw [(e k (by omega)).1, (e k (by omega)).2]
    rw [ih (fun v hv => e v (by omega)) (fun v hv => ev v (by omega)), eD]
    by_cases q : zDp g h d k = true
    · have q' := q
      unfold zDp at q'
      rw [Bool.and_eq_true] at q'
      rw [if_pos q, if_pos q, ev k (by omega) (of_decide_eq_true q'.1)]
    · rw [if_neg q, if_neg q]
theorem zAd_c {g g1 : Nat → Int32} {h : Int32} {val val1 : Nat → Int64} {d m : Nat} (e1 : ∀ e : Nat, zDi g1 h e m = zDi g h e m) (e2 : ∀ e : Nat, zTt g1 h val1 e m = zTt g h val e m) : ∀ k : Nat, zAd g1 h val1 d m k = zAd g h val d m k := by
  intro k
  induction k with
  | zero => rfl
  | succ k ih =>
    show (if zDi g1 h k m = true then (if zTt g1 h val1 k m ≤ zTt g1 h val1 d m then zAd g1 h val1 d m k else zAd g1 h val1 d m k + 1) else zAd g1 h val1 d m k) = (if zDi g h k m = true then (if zTt g h val k m ≤ zTt g h val d m then zAd g h val d m k else zAd g h val d m k + 1) else zAd g h val d m k)
    rw [ih, e1, e2, e2]
theorem zAd_le {g : Nat → Int32} {h : Int32} {val : Nat → Int64} {d m : Nat} : ∀ k : Nat, zAd g h val d m k ≤ k := by
  intro k
  induction k with
  | zero => exact Nat.le_refl _
  | succ k ih =>
    show (if zDi g h k m = true then (if zTt g h val k m ≤ zTt g h val d m then zAd g h val d m k else zAd g h val d m k + 1) else zAd g h val d m k) ≤ k + 1
    split
    · split <;> omega
    · omega
theorem zCv_c {g g1 : Nat → Int32} {v : Nat} (hv : v < 40) (hp : zPn g1 v = zPn g v) (e : ∀ k : Nat, zNm k → g1 k = g k) : zCv g1 v = zCv g v := by
  unfold zCv zFe zCd zHi zLo
  rw [hp, e 878 (by unfold zNm; omega), e 879 (by unfold zNm; omega), e 1000 (by unfold zNm; omega), e (112 + 19 * v + 4) (by unfold zNm; omega), e (112 + 19 * v + 3) (by unfold zNm; omega), zTx_c (g := g) (fun k hk => e _ (by unfold zNm; omega))]
/-- in the hall both rows count the same -/
theorem zUr_ad {g : Nat → Int32} {nd nj nv d : Nat} {hh ms : Int32} (hz : zBz g nd nj nv) (k : Nat) : zAd (zIm (zUr g d ms) g nv) hh (zVl (zIm (zUr g d ms) g nv) 0) d nv k = zAd (zIm (zUp g hh d ms) g nv) hh (zVl (zIm (zUp g hh d ms) g nv) 0) d nv k := by
  have b3 := hz.1.2.2.1
  have n1 : ∀ i : Nat, zNm i → zIm (zUr g d ms) g nv i = g i := fun i hi => zIm_n b3 hi
  have n2 : ∀ i : Nat, zNm i → zIm (zUp g hh d ms) g nv i = g i := fun i hi => zIm_n b3 hi
  have hf : ∀ v : Nat, v < nv → zIm (zUr g d ms) g nv (112 + 19 * v) = zIm (zUp g hh d ms) g nv (112 + 19 * v) ∧ zIm (zUr g d ms) g nv (112 + 19 * v + 1) = zIm (zUp g hh d ms) g nv (112 + 19 * v + 1) := fun v hv => ⟨by rw [n1 _ (by unfold zNm; omega), n2 _ (by unfold zNm; omega)], by rw [n1 _ (by unfold zNm; omega), n2 _ (by unfold zNm; omega)]⟩
  refine zAd_c (fun e => zDi_c nv hf) (fun e => zTt_h nv hf (fun v hv hq => ?_)) k
  rw [n2 _ (by unfold zNm; omega)] at hq
  unfold zVl
  rw [if_pos rfl, if_pos rfl]
  refine congrArg Int32.toInt64 (zCv_c (by omega) ?_ (fun i hi => (n1 i hi).trans (n2 i hi).symm))
  unfold zPn
  have hm : ∀ c : Nat, c < 7 → zIm (zUr g d ms) g nv (112 + 19 * v + 5 + c) = zIm (zUp g hh d ms) g nv (112 + 19 * v + 5 + c) := fun c hc => by
    rw [(zIm_m hc nv hv).1, (zIm_m hc nv hv).1]
    show (if zbt ms c = 1 ∧ ¬ g (112 + 19 * v + 5 + c) = 0 then (if g (112 + 19 * v + 1) = nI d then (21 : Int32) else 1) else g (112 + 19 * v + 5 + c)) = zUm g hh d ms v c
    unfold zUm
    simp only [hq, true_and]
  exact zGa_c (fun c hc => by rw [hm c hc]) (fun c hc _ => by rw [hm c hc])
theorem zCx.inv {S : zM} (h : zInv S) {nd nj nv : Nat} {g : Nat → Int32} (e : zi S 437 = g) (hB : zBs g nd nj nv) : zCx S 2 g nd nj nv := ⟨Or.inl rfl, h.1.2.1, by rw [← e]; exact h.2.1, hB⟩
/-- the place of diver d when the marks of the mask are moved -/
def zMp (g : Nat → Int32) (hh : Int32) (d nv nd k : Nat) : Nat := 1 + zAd (zIm (zUp g hh d (nI k)) g nv) hh (zVl (zIm (zUp g hh d (nI k)) g nv) 0) d nv nd
theorem x_movedBy {S : zM} (h : zInv S) {nd nj nv d k : Nat} {g : Nat → Int32} {hh : Int32} (e : zi S 437 = g) (hz : zBz g nd nj nv) (hd : d < 8) (hk : k < 128) {n : Nat} (hn : 120 < n) : ∃ Z : zM, f_X11_placeMovedBy n S 1 hh (nI d) (nI k) = some (if zDi g hh d nv = true then nI (zMp g hh d nv nd k) else -4, Z) ∧ zInv Z ∧ zi Z 437 = g := by
  subst e
  have hC := zCx.inv h rfl hz.s
  have hL := h.1
  have r0 : zr S 1 0 = 2 := hL.2.2.2.2.1.1.1
  have r2 : zr S 1 2 = 270 := hL.2.2.2.2.1.1.2.2.1
  obtain ⟨X, x1, x2, x3⟩ := h.mind hC (n := n) (by omega)
  have rX : zr X 1 2 = 270 := (x2.2.2.1 1 2 (by omega)).trans r2
  obtain ⟨Y, y1, y2, y3⟩ := x_moveUp (hh := hh) (d := d) (ms := nI k) x3 hz (fun c hc => zbt_k k hk c hc) (n := n) (by omega)
  have rY : zr Y 1 2 = 270 := by rw [y2.r]; exact rX
  obtain ⟨Z, z1, z2⟩ := x_placeOf (h := hh) (by' := 0) y3 (zUp_b hz) hd hn
  have hf : zFj S Z := (x2.tr (y2.j (fun a k q => zWm_s q))).tr (z2.j (fun a k q => zPs_scr (Or.inr rfl) q))
  refine ⟨Z, ?_, h.jj hf, funext fun i => hf.2.2.2 437 i (by unfold zScr; omega)⟩
  have b3 := hz.1.2.2.1
  have eD : zDi (zIm (zUp (zi S 437) hh d (nI k)) (zi S 437) nv) hh d nv = zDi (zi S 437) hh d nv := zDi_c nv (fun v hv => ⟨zIm_n b3 (by unfold zNm; omega), zIm_n b3 (by unfold zNm; omega)⟩)
  rw [eD] at z1
  unfold f_X11_placeMovedBy zMp
  rw [r2, r0, zChk_t (by decide), zChk_t (by decide), x1, zB1_s, rX, zChk_t (by decide), y1, zB1_s, rY, zChk_t (by decide), z1, zB2_s]
