/-! what a judge would mark: the pure picture -/
/-- the parts seen from a chair under a splash, the first k of them, as bits -/
def zPst (v0 v1 : Int32) : Nat → Int32
  | 0 => 0
  | k + 1 => if f_X12_isSeen (nI k) v0 v1 = 0 then zPst v0 v1 k else zPst v0 v1 k ||| (1 <<< (nI k &&& 31))
theorem x_partsSeen {v0 v1 : Int32} {n : Nat} (hn : 6 < n) : f_X11_partsSeen n v0 v1 = some (zPst v0 v1 6) := by
  unfold f_X11_partsSeen
  rw [zLet_d]
  refine zloop (fun n (s : Int32 × Int32) => f_X11_partsSeen_L4 v0 v1 (fun x1 => some x1) n s.1 s.2) (fun k => (zPst v0 v1 k, nI k)) 6 (fun k f hk => ?_) (fun f => ?_) n hn
  · show f_X11_partsSeen_L4b v0 v1 (fun x1 => some x1) (f_X11_partsSeen_L4 v0 v1 (fun x1 => some x1) f) (zPst v0 v1 k) (nI k) = f_X11_partsSeen_L4 v0 v1 (fun x1 => some x1) f (if f_X12_isSeen (nI k) v0 v1 = 0 then zPst v0 v1 k else zPst v0 v1 k ||| (1 <<< (nI k &&& 31))) (nI (k + 1))
    unfold f_X11_partsSeen_L4b f_X12_isSeen
    simp only [nLet]
    rw [if_neg (show ¬ (6 : Int32) ≤ nI k from nI_ge hk (by decide)), nI_1]
    by_cases h1 : nI k + v0 - (nI k + v0) / 3 * 3 = 0
    · simp [h1]
    · by_cases h5 : nI k = 5
      · by_cases h6 : v1 < 5
        · have h7 : ¬ 5 ≤ v1 := Int32.not_le.mpr h6
          rw [h5] at h1
          simp [h1, h5, h6, h7]
        · have h7 : 5 ≤ v1 := Int32.not_lt.mp h6
          rw [h5] at h1
          simp [h1, h5, h6, h7]
      · simp [h1, h5]
  · show f_X11_partsSeen_L4b v0 v1 (fun x1 => some x1) (f_X11_partsSeen_L4 v0 v1 (fun x1 => some x1) f) (zPst v0 v1 6) (nI 6) = _
    unfold f_X11_partsSeen_L4b
    rw [if_pos (show (6 : Int32) ≤ nI 6 from Int32.le_refl _)]
def zbt (x : Int32) (p : Nat) : Int32 := (x >>> (nI p &&& 31)) &&& 1
theorem zPst_b : ∀ c : Nat, c < 7 → ∀ s : Nat, s < 10 → ∀ p : Nat, p < 6 → (zbt (zPst (nI c) (nI s) 6) p = 0 ∨ zbt (zPst (nI c) (nI s) 6) p = 1) ∧ (zbt (zPst (nI c) (nI s) 6) p = 0 ↔ f_X12_isSeen (nI p) (nI c) (nI s) = 0) := by decide +kernel
theorem z7_b : ∀ p : Nat, p < 6 → (zbt 7 p = 0 ∨ zbt 7 p = 1) ∧ (zbt 7 p = 0 ↔ 3 ≤ p) := by decide +kernel
theorem zbt_and (x y : Int32) (p : Nat) : zbt (x &&& y) p = zbt x p &&& zbt y p := by
  unfold zbt
  rw [Int32.shiftRight_and, Int32.and_assoc, Int32.and_assoc, ← Int32.and_assoc 1, Int32.and_comm 1, Int32.and_assoc, Int32.and_self]
theorem zbt_and0 {x y : Int32} {p : Nat} (hx : zbt x p = 0 ∨ zbt x p = 1) (hy : zbt y p = 0 ∨ zbt y p = 1) : zbt (x &&& y) p = 0 ↔ ¬ (zbt x p = 1 ∧ ¬ zbt y p = 0) := by
  rw [zbt_and]
  rcases hx with hx | hx <;> rcases hy with hy | hy <;> rw [hx, hy] <;> decide
/-- what is off stays small -/
theorem zOff_b {g : Nat → Int32} (hg : ∀ p : Nat, p < 6 → zU (g (872 + p)) 21) (fl : Int32) : ∀ k : Nat, k ≤ 6 → zU (zOff g fl k) (20 * k + 1) := by
  intro k
  induction k with
  | zero => intro _; exact zU_n (k := 0) (by omega) (by omega)
  | succ k ih =>
    intro hk
    obtain ⟨a, ha, ea⟩ := (ih (by omega)).k
    obtain ⟨b, hb, eb⟩ := (hg k (by omega)).k
    show zU (zOff g fl k + (if zbt fl k = 0 then 0 else g (872 + k))) (20 * (k + 1) + 1)
    rw [ea, eb]
    split
    · rw [Int32.add_zero]; exact zU_n (by omega) (by omega)
    · rw [nI_add]; exact zU_n (by omega) (by omega)
theorem zgood {x : Int32} (h : zU x 121) : zmax 0 (20 - x) < 15 ↔ 5 < x := by
  obtain ⟨k, hk, rfl⟩ := h.k
  have : ∀ k : Nat, k < 121 → (zmax 0 (20 - nI k) < 15 ↔ 5 < nI k) := by decide +kernel
  exact this k hk
theorem zeven {x : Int32} (h : zU x 121) : (if (20 - x) - (20 - x) / 2 * 2 = 0 then (20 - x) else (20 - x) - 1) = (20 - x) - ((20 - x) &&& 1) := by
  obtain ⟨k, hk, rfl⟩ := h.k
  have : ∀ k : Nat, k < 121 → (if (20 - nI k) - (20 - nI k) / 2 * 2 = 0 then (20 - nI k) else (20 - nI k) - 1) = (20 - nI k) - ((20 - nI k) &&& 1) := by decide +kernel
  exact this k hk
/-- the dive ahead in the hall h, before k -/
def zAh (g : Nat → Int32) (h : Int32) : Nat → Option Nat
  | 0 => none
  | k + 1 => if g (112 + 19 * k) = h then some k else zAh g h k
theorem zAh_lt {g : Nat → Int32} {h : Int32} {k e : Nat} (q : zAh g h k = some e) : e < k := by
  induction k with
  | zero => cases q
  | succ k ih =>
    have q' : (if g (112 + 19 * k) = h then some k else zAh g h k) = some e := q
    by_cases h1 : g (112 + 19 * k) = h
    · rw [if_pos h1] at q'
      cases q'
      omega
    · rw [if_neg h1] at q'
      have := ih q'
      omega
def zDr (g : Nat → Int32) (v : Nat) : Int32 := match zAh g (g (112 + 19 * v)) v with
  | none => 0
  | some e => if 5 < zOff g (g (112 + 19 * e + 2)) 6 then 0 else 1
def zDn (g : Nat → Int32) (v : Nat) : Nat := (g (112 + 19 * v + 1)).toNatClampNeg
def zFr (g : Nat → Int32) (v c j : Nat) : Int32 := 20 - zOff g (g (112 + 19 * v + 2) &&& (if g (16 + 4 * j) = 7 then 7 else zPst (nI c) (g (112 + 19 * v + 3)) 6)) 6
/-- the mark of judge j from chair c, if the judge's kind is none that looks at others -/
def zMk (g : Nat → Int32) (v c j : Nat) : Int32 :=
  if g (16 + 4 * j) = 1 then f_X12_held (zFr g v c j - (zFr g v c j &&& 1))
  else if g (16 + 4 * j) = 2 then f_X12_held (if g (2 * zDn g v) = g (17 + 4 * j) then zFr g v c j + g (18 + 4 * j) else zFr g v c j)
  else if g (16 + 4 * j) = 3 then f_X12_held (if g (2 * zDn g v) = g (17 + 4 * j) ∨ g (2 * zDn g v) = g (19 + 4 * j) then zFr g v c j + g (18 + 4 * j) else zFr g v c j)
  else if g (16 + 4 * j) = 4 then f_X12_held (zFr g v c j + (g (2 * zDn g v + 1) / 2 + zDr g v))
  else f_X12_held (zFr g v c j)
/-! the class's side -/
theorem x_landOf {S : zM} {b d nd : Nat} {q : Nat} {g : Nat → Int32} (hL : zLayS (zr S) (zln S) b) (hn : nd ≤ 8) (ed : zi S b 5 = nI nd) (hg : ∀ i : Nat, i < 8 → zi S (b + 1) i = g (2 * i) ∧ zi S (b + 2) i = g (2 * i + 1)) (hd : d < nd) (e : zi S q 3 = nI d) : f_X9_landOf S b q = some (g (2 * d)) := by
  have r0 : zr S b 0 = b + 1 := hL.1.1
  have l1 : zln S (b + 1) = 8 := hL.2.2.1.1
  unfold f_X9_landOf
  rw [e, ed, zwN (by omega), if_pos (zU_n hd (by omega)), zLet_d, if_neg (show ¬ (1 : Int32) = 0 by decide), r0, zChk_t (by omega), l1, zChk_t (zix (by omega) (by omega)), nI_clamp (by omega), (hg d (by omega)).1]
theorem x_drawnL {S : zM} {b q v : Nat} {g : Nat → Int32} {h x7 : Int32} {K : Int32 → Option Int32} (hL : zLayS (zr S) (zln S) b) (eh : zi S q 2 = h) (hv : v ≤ 40) (hD : ∀ w : Nat, w < v → zi S (b + 14 + 3 * w) 2 = g (112 + 19 * w)) : ∀ n : Nat, v < n → f_X9_drawnBy_L42 S b q x7 K n (nI v - 1) = match zAh g h v with
    | none => some x7
    | some e => K (nI e) := by
  have r9 : zr S b 9 = b + 10 := hL.1.2.2.2.2.2.2.1
  have l10 : zln S (b + 10) = 40 := hL.2.2.1.2.2.2.2.2.2.2.2.1
  induction v with
  | zero =>
    intro n hn
    obtain ⟨f, rfl⟩ : ∃ f, n = f + 1 := ⟨n - 1, by omega⟩
    show f_X9_drawnBy_L42b S b q x7 K (f_X9_drawnBy_L42 S b q x7 K f) (nI 0 - 1) = some x7
    unfold f_X9_drawnBy_L42b
    rw [if_pos (show nI 0 - 1 < 0 by decide +kernel)]
  | succ v ih =>
    intro n hn
    obtain ⟨f, rfl⟩ : ∃ f, n = f + 1 := ⟨n - 1, by omega⟩
    rw [nI_pred]
    have ih' := ih (by omega) (fun w hw => hD w (by omega)) f (by omega)
    show f_X9_drawnBy_L42b S b q x7 K (f_X9_drawnBy_L42 S b q x7 K f) (nI v) = match (if g (112 + 19 * v) = h then some v else zAh g h v) with
      | none => some x7
      | some e => K (nI e)
    unfold f_X9_drawnBy_L42b
    obtain ⟨d1, -⟩ := hL.2.2.2 v (by omega)
    rw [if_neg (nI_pos (by omega)), r9, zChk_t (by omega), l10, zChk_t (zix (by omega) (by omega)), nI_clamp (by omega), d1, zChk_t (by omega), hD v (by omega), eh, show nI v + (-1 : Int32) = nI v - 1 from (Int32.sub_eq_add_neg _ _).symm, ih']
    by_cases h1 : g (112 + 19 * v) = h
    · rw [if_pos h1, if_pos h1]
    · rw [if_neg h1, if_neg h1]
theorem x_drawnBy {S : zM} {b v d nd nv : Nat} {g : Nat → Int32} (hL : zLayS (zr S) (zln S) b) (hn : nd ≤ 8) (ed : zi S b 5 = nI nd) (hg : ∀ i : Nat, i < 8 → zi S (b + 1) i = g (2 * i) ∧ zi S (b + 2) i = g (2 * i + 1)) (hd : d < nd) (e : zi S (b + 14 + 3 * v) 3 = nI d) (hv : v < nv) (hnv : nv ≤ 40) (ev : zi S b 7 = nI nv) (hD : ∀ w : Nat, w < nv → zi S (b + 14 + 3 * w) 2 = g (112 + 19 * w) ∧ zi S (b + 14 + 3 * w) 4 = g (112 + 19 * w + 2)) (ho : ∀ p : Nat, p < 6 → zi S (b + 6) p = g (872 + p)) {n : Nat} (hn40 : 40 < n) : f_X9_drawnBy n S b (nI v) (b + 14 + 3 * v) = some (g (2 * d + 1) / 2 + zDr g v) := by
  have r1 : zr S b 1 = b + 2 := hL.1.2.1
  have r4 : zr S b 4 = b + 5 := hL.1.2.2.2.2.1
  have r5 : zr S (b + 5) 0 = b + 6 := hL.2.1.1
  have l2 : zln S (b + 2) = 8 := hL.2.2.1.2.1
  have l6 : zln S (b + 6) = 6 := hL.2.2.1.2.2.2.2.1
  have r9 : zr S b 9 = b + 10 := hL.1.2.2.2.2.2.2.1
  have l10 : zln S (b + 10) = 40 := hL.2.2.1.2.2.2.2.2.2.2.2.1
  unfold f_X9_drawnBy
  rw [e, ed, zwN (by omega), if_pos (zU_n hd (by omega)), ev, show zmin (nI v) (nI nv) = nI v from if_neg (nI_nlt (by omega) (by omega))]
  simp only [nLet]
  rw [if_neg (show ¬ (1 : Int32) = 0 by decide), r1, zChk_t (by omega), l2, zChk_t (zix (by omega) (by omega)), nI_clamp (by omega), (hg d (by omega)).2, x_drawnL (v := v) (g := g) (h := g (112 + 19 * v)) hL (hD v hv).1 (by omega) (fun w hw => (hD w (by omega)).1) n (by omega)]
  unfold zDr
  cases hz : zAh g (g (112 + 19 * v)) v with
  | none =>
    dsimp only
    rw [Int32.add_zero]
  | some w =>
    dsimp only
    have hwv := zAh_lt hz
    obtain ⟨d1, -⟩ := hL.2.2.2 w (by omega)
    rw [r4, zChk_t (by omega), r9, zChk_t (by omega), l10, zChk_t (zix (by omega) (by omega)), nI_clamp (by omega), d1, zChk_t (by omega), (hD w (by omega)).2, x_offFor r5 (by omega) l6 ho (by omega), zB1_s]
    by_cases h5 : 5 < zOff g (g (112 + 19 * w + 2)) 6
    · rw [if_pos h5, if_pos h5, if_pos trivial, Int32.add_zero]
    · rw [if_neg h5, if_neg h5, if_neg (show ¬ (1 : Int32) = 0 by decide)]
theorem x_leanTo {S : zM} {q : Nat} {land : Int32} : f_X2_leanTo S q land = if ((zi S q 1 = 2 ∨ zi S q 1 = 3) ∧ land = zi S q 2) ∨ (zi S q 1 = 3 ∧ land = zi S q 4) then zi S q 3 else 0 := by
  unfold f_X2_leanTo
  simp only [nLet]
  by_cases h2 : zi S q 1 = 2
  · have h3 : ¬ zi S q 1 = 3 := by rw [h2]; decide
    by_cases hl : land = zi S q 2
    · simp [h2, hl]
    · simp [h2, hl]
  · by_cases h3 : zi S q 1 = 3
    · by_cases hl : land = zi S q 2
      · simp [h3, hl]
      · by_cases hp : land = zi S q 4
        · simp [h3, hl, hp]
        · simp [h3, hl, hp]
    · simp [h2, h3]
theorem x_markFor {S : zM} {q : Nat} {fair land drawn : Int32} : f_X2_markFor S q fair land drawn =
    if zi S q 1 = 1 then f_X12_held (fair - (fair &&& 1))
    else if zi S q 1 = 2 then f_X12_held (if land = zi S q 2 then fair + zi S q 3 else fair)
    else if zi S q 1 = 3 then f_X12_held (if land = zi S q 2 ∨ land = zi S q 4 then fair + zi S q 3 else fair)
    else if zi S q 1 = 4 then f_X12_held (fair + drawn) else f_X12_held fair := by
  have hh : ∀ x : Int32, f_X2_held x = f_X12_held x := fun x => rfl
  unfold f_X2_markFor
  simp only [nLet, x_leanTo, hh]
  by_cases h1 : zi S q 1 = 1
  · rw [if_pos h1, if_pos h1]
  · rw [if_neg h1, if_neg h1]
    by_cases h2 : zi S q 1 = 2
    · rw [if_pos h2, if_pos h2, h2]
      by_cases hl : land = zi S q 2
      · simp [hl]
      · simp [hl]
    · rw [if_neg h2, if_neg h2]
      by_cases h3 : zi S q 1 = 3
      · rw [if_pos h3, if_pos h3, h3]
        by_cases hl : land = zi S q 2
        · simp [hl]
        · by_cases hp : land = zi S q 4
          · simp [hl, hp]
          · simp [hl, hp]
      · rw [if_neg h3, if_neg h3]
