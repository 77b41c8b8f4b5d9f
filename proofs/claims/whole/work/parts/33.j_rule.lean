/-! rule -/
theorem zRepR.cp {S X : zM} {q0 q1 : Nat} {g : Nat → Int32} (h : zRepR S q1 g) (e1 : zi X q0 1 = zi S q1 1) (e2 : zi X q0 2 = zi S q1 2) (e4 : zi X q0 4 = zi S q1 4) (o : ∀ c : Nat, c < 6 → zi X (q0 + 1) c = zi S (q1 + 1) c) (k : ∀ c : Nat, c < 120 → zi X (q0 + 2) c = zi S (q1 + 2) c) : zRepR X q0 g := by
  obtain ⟨r1, r2, r3, n, cd, r4, r5, r6, r7, r8, r9⟩ := h
  exact ⟨fun i hi => by rw [o i hi]; exact r1 i hi, by rw [e1]; exact r2, by rw [e2]; exact r3, n, cd, r4, r5, r6, r7, by rw [e4]; exact r8, fun i hi => by rw [k i (by omega)]; exact r9 i hi⟩
theorem zRepR.ln {S : zM} {q : Nat} {g : Nat → Int32} (h : zRepR S q g) : ∃ L : Nat, L ≤ 120 ∧ zi S q 4 = nI L := by
  obtain ⟨r1, r2, r3, n, cd, r4, r5, r6, r7, r8, r9⟩ := h
  exact ⟨cd.length, by omega, r8⟩
theorem x_ruleA {S : zM} (h : zInv S) {d s : Nat} (hd : d < 8) (hs : s ≤ 120) (es : zi S (420 + 2 * d) 3 = nI s) : ∃ X : zM, zFx zScr S X ∧ zYk X (421 + 2 * d) (zTx (zi S (421 + 2 * d)) 0 s) 0 ∧ zi X 405 5 = -4 ∧ zRepR X 406 (zi S 437) ∧ ∀ n : Nat, f_X7_read n S 405 (420 + 2 * d) 7 = f_X7_read_L50 n 405 zK43 n 0 X := by
  have hL := h.1
  have hX := hL.2.2.2.2.1
  have hS2 := hL.2.1
  have rd := hX.2.2.2 d hd
  have hrep : zRepR S 7 (zi S 437) := h.2.1.2.2.2.2.1
  have r1 : zr S 406 0 = 407 := hX.2.1.2.1
  have r2 : zr S 406 3 = 408 := hX.2.1.2.2.1
  have r3 : zr S 7 0 = 8 := hS2.2.1.1
  have r4 : zr S 7 3 = 9 := hS2.2.1.2.1
  have n1 : zln S 407 = 6 := hX.2.1.2.2.2.2.1
  have n2 : zln S 408 = 120 := hX.2.1.2.2.2.2.2.1
  have n3 : zln S 8 = 6 := hS2.2.2.1.2.2.2.2.1
  have n4 : zln S 9 = 120 := hS2.2.2.1.2.2.2.2.2.1
  obtain ⟨A, a1, a2, a3, a4, a5, a6, a7⟩ := x6_copyFrom (S := S) (q0 := 406) (q1 := 7) r1 r2 r3 r4 n1 n2 n3 n4 (Or.inr (by decide))
  have hRA : zRepR A 406 (zi S 437) := hrep.cp a3 a4 a5 a6 a7
  have fA : zFx zScr S A := (a2.mo (fun a k q => by unfold zScr; omega)).x
  have e2 : zmin (nI s) (Int32.ofNat 120) = nI s := by
    unfold zmin
    exact if_neg (show ¬ nI 120 < nI s from nI_nlt hs (by omega))
  have fX : zFx zScr S (zpI (zpI (zpI (zpI (zpR A 405 1 (421 + 2 * d)) 405 2 (nI s)) 405 3 0) 405 4 0) 405 5 (-4)) := by
    refine zFx.pI (zFx.pI (zFx.pI (zFx.pI (zFx.pR fA (Or.inr ⟨rfl, rfl⟩)) ?_) ?_) ?_) ?_ <;> (unfold zScr; omega)
  have eX : ∀ a k : Nat, ¬ a = 405 → zi (zpI (zpI (zpI (zpI (zpR A 405 1 (421 + 2 * d)) 405 2 (nI s)) 405 3 0) 405 4 0) 405 5 (-4)) a k = zi A a k := fun a k ha => by
    rw [mi_ne _ _ (by omega), mi_ne _ _ (by omega), mi_ne _ _ (by omega), mi_ne _ _ (by omega), ni_pR]
  obtain ⟨L, hL1, hL2⟩ := hRA.ln
  refine ⟨zpI (zpI (zpI (zpI (zpR A 405 1 (421 + 2 * d)) 405 2 (nI s)) 405 3 0) 405 4 0) 405 5 (-4), fX, ⟨⟨⟨?_, ?_, ?_, ?_⟩, ⟨?_, ?_, ?_⟩, ⟨by omega, by omega⟩, by rw [zTx_l]; exact hs, Nat.zero_le _, ?_, ?_, fun k hk => ?_⟩, ?_, L, hL1, ?_⟩, mi_eq _ _ _ _, ?_, fun n => ?_⟩
  · rw [fX.r (by omega) (by omega)]; exact hX.2.1.1
  · rw [fX.r (by omega) (by omega)]; exact r2
  · simp (disch := omega) only [nr_pI, mr_eq']
  · rw [fX.r (by omega) (by omega)]; exact r1
  · rw [fX.2.1]; exact n2
  · rw [fX.2.1]; exact rd.2.2
  · rw [fX.2.1]; exact n1
  · rw [zTx_l]; simp (disch := omega) only [mi_ne, mi_eq']
  · simp (disch := omega) only [mi_ne, mi_eq']; rfl
  · rw [zTx_l] at hk
    rw [zTx_g hk, Nat.zero_add, eX _ _ (by omega), a2.i (by omega)]
  · simp (disch := omega) only [mi_ne, mi_eq']
  · rw [eX _ _ (by omega)]; exact hL2
  · exact hRA.fr (fun a k h1 h2 => eX a k (by omega))
  · have ra : zr A (420 + 2 * d) 0 = 421 + 2 * d := by rw [a2.r]; exact rd.2.1
    have rl : zln A (421 + 2 * d) = 120 := by rw [a2.n]; exact rd.2.2
    have rs : zi A (420 + 2 * d) 3 = nI s := by rw [a2.i (by omega)]; exact es
    have rx : zr (zpR A 405 1 (421 + 2 * d)) 405 1 = 421 + 2 * d := mr_eq' _ _ ⟨rfl, rfl⟩
    have rx2 : zln (zpR A 405 1 (421 + 2 * d)) (421 + 2 * d) = 120 := rl
    have rx3 : zi (zpR A 405 1 (421 + 2 * d)) (420 + 2 * d) 3 = nI s := rs
    unfold f_X7_read
    rw [hX.2.1.1, zChk_t (by decide), a1, zB1_s, ra, zLet_d, rx, zChk_t (by omega), rx2, rx3, e2]
    rfl
theorem m_begins {S : zM} (hL : zLay S) {d s : Nat} (hd : d < 8) (hs : s ≤ 120) (es : zi S 441 d = nI s) : ∃ R : zM, f_X12_begins S 436 (nI d) = some R ∧ zTs R 442 (120 * d) (zTx (zi S 442) (120 * d) s) 0 ∧ zFx (fun a k => a = 436 ∧ 12 ≤ k ∧ k ≤ 14) S R ∧ ∀ a k : Nat, zr R a k = if a = 436 ∧ k = 17 then 442 else zr S a k := by
  obtain ⟨hr, hl⟩ := id hL.2.2.2.2.2
  have r5 : zr S 436 5 = 442 := hr.2.2.2.2.2.1
  have r4 : zr S 436 4 = 441 := hr.2.2.2.2.1
  have l5 : zln S 442 = 960 := hl.2.2.2.2.2.1
  have l4 : zln S 441 = 8 := hl.2.2.2.2.1
  have f : zFx (fun a k => a = 436 ∧ 12 ≤ k ∧ k ≤ 14) S (zpI (zpI (zpI (zpR S 436 17 442) 436 13 (nI (120 * d))) 436 14 (nI s)) 436 12 0) := by
    refine zFx.pI (zFx.pI (zFx.pI (zFx.pR zFx.rf (Or.inl ⟨rfl, rfl⟩)) ?_) ?_) ?_ <;> exact ⟨rfl, by decide, by decide⟩
  refine ⟨zpI (zpI (zpI (zpR S 436 17 442) 436 13 (nI (120 * d))) 436 14 (nI s)) 436 12 0, ?_, ⟨?_, by decide, by decide, ?_, ?_, ?_, Nat.zero_le _, by rw [zTx_l]; exact hs, by omega, ?_, fun k hk => ?_⟩, f, fun a k => ?_⟩
  · have q4 : zr (zpI (zpR S 436 17 442) 436 13 (nI (120 * d))) 436 4 = 441 := by rw [nr_pI, mr_ne _ _ (by omega)]; exact r4
    have q5 : zln (zpI (zpR S 436 17 442) 436 13 (nI (120 * d))) 441 = 8 := l4
    have q6 : zi (zpI (zpR S 436 17 442) 436 13 (nI (120 * d))) 441 d = nI s := by rw [mi_ne _ _ (by omega), ni_pR]; exact es
    unfold f_X12_begins
    rw [r5, zLet_d, show (120 : Int32) * nI d = nI (120 * d) by rw [zq120, nI_mul], zLet_d, q4, zChk_t (by decide), q5, zChk_t (zix hd (by omega)), nI_clamp (show d < 2 ^ 31 by omega), q6, zLet_d, zLet_d]
  · simp (disch := omega) only [nr_pI, mr_eq']
  · simp (disch := omega) only [mi_ne, mi_eq']
  · rw [zTx_l]; simp (disch := omega) only [mi_ne, mi_eq']
  · rw [mi_eq]; rfl
  · rw [zTx_l, f.2.1, l5]; omega
  · rw [zTx_l] at hk
    rw [zTx_g hk, f.i (by omega)]
  · rfl
theorem zFx.o {S S1 : zM} {g : Nat → Int32} (f : zFx zScr S S1) (e : ∀ k : Nat, zi S 437 k = g k) : ∀ k : Nat, zi S1 437 k = g k := fun k => by rw [f.i (zScr_n (by omega))]; exact e k
theorem zch_len {T : List Int32} {N : Nat} : ∀ (xs : List (Nat × zRc)) (p : Nat) (r : Option Nat), zCh T N xs p r → xs.length + p ≤ T.length := by
  intro xs
  induction xs with
  | nil =>
    intro p r h
    show 0 + p ≤ T.length
    rcases h with ⟨h, -⟩ | ⟨-, h, -⟩ <;> omega
  | cons px xs ih =>
    obtain ⟨p0, x⟩ := px
    intro p r h
    obtain ⟨rfl, p1, h1, h2, h3, h4, h5⟩ := h
    have := ih p1 r h5
    have hlt := h1.1
    show xs.length + 1 + p0 ≤ T.length
    omega
def zRv (r fo : Option Nat) (n : Nat) : Int32 := match r with
  | some p => -1000 - nI p
  | none => match fo with
    | some w => -2000 - nI w
    | none => nI n
def zRw (T : List Int32) (xs : List (Nat × zRc)) (r : Option Nat) (g : Nat → Int32) : Nat → Int32 := match r with
  | some _ => g
  | none => match zFo xs with
    | some _ => g
    | none => zYas T xs g
def zK33 (x13 : Int32) (S31 : zM) : Option (Int32 × zM) := some ((x13, S31))
def zK25 (x13 : Int32) (S23 : zM) : Option (Int32 × zM) := f_X12_rule_L146 200 436 (zK33 x13) 200 (zpI S23 436 12 (0 : Int32))
def zK16 (x13 : Int32) (S14 : zM) : Option (Int32 × zM) := f_X12_rule_L55 200 436 (zK25 x13) 200 (zpI S14 436 12 (0 : Int32))
theorem m_rule0 {X R : zM} {d : Int32} (w0 : f_X12_wrongRow X 436 d 0 = some 0) (b1 : f_X12_begins X 436 d = some R) : f_X12_rule 200 X 436 d = f_X12_rule_L20 200 436 zK16 200 (nI 0) R := by
  unfold f_X12_rule
  rw [w0, zB1_s, if_pos rfl, b1, zB1_s]
  rfl
def zW4 (a k : Nat) : Prop := (a = 436 ∧ 12 ≤ k ∧ k ≤ 21) ∨ (a = 437 ∧ 872 ≤ k ∧ k ≤ 1000)
theorem m_ruleD {X : zM} (hL : zLay X) {d s : Nat} (hd : d < 8) (hs : s ≤ 120) (e39 : zi X 439 d = 2) (e40 : zi X 440 d = 0) (e41 : zi X 441 d = nI s) {xs : List (Nat × zRc)} {r : Option Nat} (hc : zCh (zTx (zi X 442) (120 * d) s) 200 xs 0 r) (hx : xs = [] → ¬ r = none) {g : Nat → Int32} (hg : ∀ k : Nat, zi X 437 k = g k) :
    ∃ Y : zM, f_X12_rule 200 X 436 (nI d) = some (zRv r (zFo xs) xs.length, Y) ∧ zFx zW4 X Y ∧ (∀ a k : Nat, zr Y a k = if a = 436 ∧ k = 17 then 442 else zr X a k) ∧ ∀ k : Nat, zi Y 437 k = zRw (zTx (zi X 442) (120 * d) s) xs r g k := by
  obtain ⟨R, b1, b2, b3, b4⟩ := m_begins hL hd hs e41
  have w0 : f_X12_wrongRow X 436 (nI d) 0 = some 0 := by rw [m_wrongRow hL hd, e39, e40]; rfl
  have hlen := zch_len xs 0 r hc
  rw [zTx_l] at hlen
  rw [m_rule0 w0 b1]
  have fR : zFx zW4 X R := b3.mo (fun a k q => by unfold zW4; omega)
  have tw : ∀ a k : Nat, zTwr a k → zW4 a k := fun a k q => by unfold zTwr at q; unfold zW4; omega
  have hgR : ∀ k : Nat, zi R 437 k = g k := fun k => by rw [b3.i (by omega)]; exact hg k
  obtain ⟨A, p1, p2, p3⟩ := m_pass1 (K := zK16) xs 0 0 200 R r hc b2 hx (by omega)
  have hgA : ∀ k : Nat, zi A 437 k = g k := fun k => by rw [p1.i (by unfold zTwr; omega)]; exact hgR k
  cases r with
  | some p =>
    refine ⟨A, p2 p rfl, fR.tr (p1.x.mo tw), fun a k => by rw [p1.r]; exact b4 a k, hgA⟩
  | none =>
    obtain ⟨c1, c2⟩ := p3 rfl
    rw [Nat.zero_add] at c1
    have f2 : zF zTwr A (zpI A 436 12 0) := zF_pI ⟨rfl, Or.inl rfl⟩
    have h2 : zTs (zpI A 436 12 0) 442 (120 * d) (zTx (zi X 442) (120 * d) s) 0 := c2.fr f2 (by rw [mi_eq]; rfl) (Nat.zero_le _)
    obtain ⟨B, q1, q2, q3⟩ := m_pass2 (K := zK25 (nI xs.length)) xs 0 200 _ hc h2 (by omega)
    have hgB : ∀ k : Nat, zi B 437 k = g k := fun k => by rw [q1.i (by unfold zTwr; omega), mi_ne _ _ (by omega)]; exact hgA k
    have fB : zF zTwr R B := (p1.tr f2).tr q1
    cases hf : zFo xs with
    | some w =>
      refine ⟨B, c1.trans (q2 w hf), fR.tr (fB.x.mo tw), fun a k => by rw [fB.r]; exact b4 a k, fun k => ?_⟩
      unfold zRw
      rw [hf]
      exact hgB k
    | none =>
      have f3 : zF zTwr B (zpI B 436 12 0) := zF_pI ⟨rfl, Or.inl rfl⟩
      have h3 : zTs (zpI B 436 12 0) 442 (120 * d) (zTx (zi X 442) (120 * d) s) 0 := h2.fr (q1.tr f3) (by rw [mi_eq]; rfl) (Nat.zero_le _)
      have hL3 : zLay (zpI B 436 12 0) := (hL.x b3).fr (fB.tr f3)
      obtain ⟨C, u1, u2, u3⟩ := m_pass3 (K := zK33 (nI xs.length)) (N := 200) (base := 120 * d) (by decide) (by omega) xs 0 200 _ g hc hf h3 hL3 (fun k => by rw [mi_ne _ _ (by omega)]; exact hgB k) (by omega)
      have fC := (fB.tr f3).mo (V := zW3) (fun a k q => Or.inl q)
      have fD := fC.tr u2
      refine ⟨C, c1.trans ((q3 hf).trans u1), fR.tr (fD.x.mo (fun a k q => by unfold zW3 zTwr at q; unfold zW4; omega)), fun a k => by rw [fD.r]; exact b4 a k, fun k => ?_⟩
      unfold zRw
      rw [hf]
      exact u3 k
theorem z1000 : ∀ p : Nat, p < 121 → ((-1000 : Int32) - nI p) ≤ 0 := by decide
theorem z2000 : ∀ p : Nat, p < 121 → ((-2000 : Int32) - nI p) ≤ 0 := by decide
theorem zFo_b {T : List Int32} {N : Nat} : ∀ (xs : List (Nat × zRc)) (p : Nat) (r : Option Nat) (w : Nat), zCh T N xs p r → zFo xs = some w → w < T.length := by
  intro xs
  induction xs with
  | nil => intro p r w _ h; cases h
  | cons px xs ih =>
    obtain ⟨p0, x⟩ := px
    intro p r w h hf
    obtain ⟨rfl, p1, h1, h2, h3, h4, h5⟩ := h
    have hlt := (List.getElem?_eq_some_iff.mp h1.2.1).1
    have hf' : (if zWg x = true then some p0 else zFo xs) = some w := hf
    by_cases q : zWg x = true
    · rw [if_pos q] at hf'; cases hf'; exact hlt
    · rw [if_neg q] at hf'; exact ih p1 r w h5 hf'
theorem zch_r {T : List Int32} {N : Nat} : ∀ (xs : List (Nat × zRc)) (p : Nat) (w : Nat), zCh T N xs p (some w) → w ≤ T.length := by
  intro xs
  induction xs with
  | nil =>
    intro p w h
    rcases h with ⟨-, h⟩ | ⟨-, -, p1, x, h, h2, -⟩
    · cases h
    · cases h; exact h2
  | cons px xs ih =>
    obtain ⟨p0, x⟩ := px
    intro p w h
    obtain ⟨rfl, p1, h1, h2, h3, h4, h5⟩ := h
    exact ih p1 w h5
/-- the invariant behind a rule that holds -/
theorem zInv.rl {X Y : zM} {g : Nat → Int32} (h : zInv X) (f : zFx (fun a k => zW4 a k ∨ a = 7 ∨ a = 8 ∨ a = 9) X Y) (hr : ∀ a k : Nat, zr Y a k = if a = 436 ∧ k = 17 then 442 else zr X a k) (hg : ∀ k : Nat, zi Y 437 k = g k) (hR : zRepR Y 7 g) (h5 : zB5p g) (ho : ∀ k : Nat, (k < 872 ∨ 1000 < k) → g k = zi X 437 k) : zInv Y := by
  have fX : zFx zScr X (zpR X 436 17 442) := zFx.pR zFx.rf (Or.inl ⟨rfl, rfl⟩)
  have hX := h.x fX
  have er : ∀ a k : Nat, zr Y a k = zr (zpR X 436 17 442) a k := fun a k => hr a k
  have ei : ∀ a k : Nat, ¬ (zW4 a k ∨ a = 7 ∨ a = 8 ∨ a = 9) → zi Y a k = zi (zpR X 436 17 442) a k := fun a k q => f.i q
  have hfe : zi Y 437 = g := funext hg
  have hLY : zLay Y := h.1.x f
  have hrep := hX.2.1
  have eg : ∀ k : Nat, (k < 872 ∨ 1000 < k) → zi Y 437 k = zi (zpR X 436 17 442) 437 k := fun k hk => by rw [hg]; exact ho k hk
  refine hX.now hLY (by rw [f.1]; exact Nat.le_refl _) (fun a k _ _ => er a k) (fun a k q => ei a k (by unfold zW4; omega)) ?_ ?_
  · refine zRep.lay (zg1 hrep (fun a k q => ei a k (by unfold zW4; omega)) (fun k hk => eg k (by omega))) (zg2 hrep (fun a k q => ei a k (by unfold zW4; omega)) (fun k hk _ => eg k (by omega))) (zg3 hrep (fun a k q => ei a k (by unfold zW4; omega)) (fun k hk _ => eg k (by omega))) (zg4 hrep (fun a k q => ei a k (by unfold zW4; omega)) (fun k hk _ => eg k (by omega))) (by rw [hfe]; exact hR) (zg6 hrep (by rw [f.1]; exact Nat.le_refl _) (fun j => er _ _) (fun a k q => ei a k (by unfold zW4; omega)) (fun k hk _ => eg k (by omega)) (eg 1002 (by omega))) (zg7 hrep (fun a k q => ei a k (by unfold zW4; omega)) (fun k hk _ => eg k (by omega)) (eg 1003 (by omega)))
  · obtain ⟨nd, nj, nv, ⟨b1, b2, b3, b4, b5, b6⟩, c1, c2, c3, c4, c5, c6⟩ := zBd_iff.mp hX.2.2.1
    refine zBd_iff.mpr ⟨nd, nj, nv, ⟨b1, b2, b3, by rw [eg 1001 (by omega)]; exact b4, by rw [eg 1002 (by omega)]; exact b5, by rw [eg 1003 (by omega)]; exact b6⟩, c1.g b1 (fun k hk => eg k (by omega)), c2.g b2 (fun k _ hk => eg k (by omega)), c3.g (fun k _ hk => eg k (by omega)), c4.g (fun k _ hk => eg k (by omega)), by rw [hfe]; exact h5, fun v hv => (c6 v hv).g (fun k _ hk => eg k (by omega))⟩
theorem s_rule {S : zM} (h : zInv S) (v1 v2 v3 v4 v5 : Int32) : ∃ S' : zM, zs_11 1 436 v1 v2 v3 v4 v5 S S' ∧ zInv S' := by
  suffices hh : ∃ (S' : zM) (r : Int32) (S1 : zM), f_X11_rule 200 S 1 v1 = some (r, S1) ∧ f_X12_rule 200 S1 436 v1 = some (r, S') ∧ zInv S' by
    obtain ⟨S', r, S1, q1, q2, q3⟩ := hh
    exact ⟨S', ⟨r, 200, S1, q1, q2⟩, q3⟩
  have hL := h.1
  have hXX := hL.2.2.2.2.1
  have r0 : zr S 1 0 = 2 := hXX.1.1
  have r4 : zr S 1 4 = 405 := hXX.1.2.2.2.2.1
  have rule0 : zr S 2 4 = 7 := hL.2.1.1.2.2.2.2.1
  by_cases hv : zU v1 8
  · obtain ⟨d, hd, rfl⟩ := hv.k
    have rd := hXX.2.2.2 d hd
    have bad : ∀ e : Int32, ¬ e = 0 → f_X8_refusalAsText S (420 + 2 * d) = some e → f_X12_wrongRow S 436 (nI d) 0 = some e → ∃ (S' : zM) (r : Int32) (S1 : zM), f_X11_rule 200 S 1 (nI d) = some (r, S1) ∧ f_X12_rule 200 S1 436 (nI d) = some (r, S') ∧ zInv S' := by
      intro e he h1 h2
      refine ⟨S, e, S, ?_, ?_, h⟩
      · unfold f_X11_rule
        rw [x_shelfAt hL hd, zB1_s, if_neg (by omega), h1, zB1_s, if_neg he]
      · unfold f_X12_rule
        rw [h2, zB1_s, if_neg he]
    rcases h.2.2.2.2.2.1 d hd with ⟨k1, k2, k3⟩ | ⟨k1, k2, k3, -⟩ | ⟨k1, k2, k3, k4, k5, k6, k7, k8⟩
    · refine bad (-11) (by decide) ?_ ?_
      · unfold f_X8_refusalAsText f_X8_refusalAsRow
        rw [k2, zLet_d, if_pos rfl, if_pos rfl, if_pos k3, zB1_s]
      · rw [m_wrongRow hL hd, k1]; rfl
    · refine bad (-12) (by decide) ?_ ?_
      · unfold f_X8_refusalAsText f_X8_refusalAsRow
        rw [k2, zLet_d, if_pos rfl, if_pos rfl, if_neg (by omega), zB1_s]
      · rw [m_wrongRow hL hd, k1]; rfl
    · by_cases hso : zi S 440 d = 0
      · obtain ⟨s, hs, es⟩ := k7.k
        have hs' : s ≤ 120 := by omega
        have hrf : f_X8_refusalAsText S (420 + 2 * d) = some 0 := by
          unfold f_X8_refusalAsText f_X8_refusalAsRow
          rw [k2, zLet_d, if_neg (show ¬ (1 : Int32) = 0 by decide), k4, if_pos hso, if_neg (show ¬ (1 : Int32) = 0 by decide), zB1_s]
        obtain ⟨X0, f0, y0, e5, rr, run⟩ := x_ruleA h hd hs' (by rw [k6, es])
        have hT : zTx (zi S (421 + 2 * d)) 0 s = zTx (zi S 442) (120 * d) s := by
          unfold zTx
          apply List.map_congr_left
          intro k hk
          have hk' : k < s := List.mem_range.mp hk
          rw [Nat.zero_add]
          exact (k8 k (by omega)).1
        rw [hT] at y0
        have hT2 : (zTx (zi S 442) (120 * d) s).length ≤ 120 := by rw [zTx_l]; exact hs'
        obtain ⟨xs, r, hc, hne⟩ := zch_ex (N := 200) (by decide) hT2 _ 0 rfl (Nat.zero_le _)
        have hlen := zch_len xs 0 r hc
        rw [zTx_l] at hlen
        obtain ⟨m, X, x1, x2, x3, x4⟩ := x_loop (K := zK43) hT2 xs 0 0 200 X0 r hc y0 (Nat.le_refl _) (fun _ => ⟨rfl, hne rfl⟩) (by omega)
        have fX : zFx zScr S X := f0.tr (x2.x.mo (fun a k q => by unfold zYv at q; unfold zScr; omega))
        have hX := h.x fX
        have gX : ∀ k : Nat, zi X 437 k = zi S 437 k := fX.o (fun _ => rfl)
        have eo : ∀ a k : Nat, 439 ≤ a → a ≤ 444 → zi X a k = zi S a k := fun a k h1 h2 => fX.i (zScr_n (by omega))
        have e442 : zi X 442 = zi S 442 := funext fun k => eo 442 k (by omega) (by omega)
        have run2 := (run 200).trans x1
        have hg5 := (zBd_iff.mp h.2.2.1)
        have hd2 : ∀ X7 : zM, zLay X7 → (∀ a k : Nat, 437 ≤ a → a ≤ 444 → zi X7 a k = zi X a k) → ∃ Y : zM, f_X12_rule 200 X7 436 (nI d) = some (zRv r (zFo xs) xs.length, Y) ∧ zFx zW4 X7 Y ∧ (∀ a k : Nat, zr Y a k = if a = 436 ∧ k = 17 then 442 else zr X7 a k) ∧ ∀ k : Nat, zi Y 437 k = zRw (zTx (zi S 442) (120 * d) s) xs r (zi S 437) k := by
          intro X7 hL7 e7
          have e42 : zi X7 442 = zi S 442 := by rw [← e442]; exact funext fun k => e7 442 k (by omega) (by omega)
          have := m_ruleD hL7 hd hs' (by rw [e7 439 d (by omega) (by omega), eo 439 d (by omega) (by omega)]; exact k1) (by rw [e7 440 d (by omega) (by omega), eo 440 d (by omega) (by omega)]; exact hso) (by rw [e7 441 d (by omega) (by omega), eo 441 d (by omega) (by omega)]; exact es) (xs := xs) (r := r) (by rw [e42]; exact hc) (hne rfl) (g := zi S 437) (fun k => by rw [e7 437 k (by omega) (by omega)]; exact gX k)
          rw [e42] at this
          exact this
        have xrun : f_X11_rule 200 S 1 (nI d) = zB2 (zK43 m X) (fun r19 S20 => if r19 ≤ 0 then some ((r19, S20)) else zChk (¬ (zr S20 1 0) = 0) (zChk (¬ (zr S20 (zr S20 1 0) 4) = 0) (zChk (¬ (zr S20 1 4) = 0) (zChk (¬ (zr S20 (zr S20 1 4) 0) = 0) (zB1 (f_X6_copyFrom S20 (zr S20 (zr S20 1 0) 4) (zr S20 (zr S20 1 4) 0)) (fun S35 => some ((r19, S35)))))))) := by
          unfold f_X11_rule
          rw [x_shelfAt hL hd, zB1_s, if_neg (by omega), hrf, zB1_s, if_pos rfl, r4, zChk_t (by decide), r0, zChk_t (by decide), rule0, zChk_t (by decide), run2]
        have noChange : ∀ e : Int32, e ≤ 0 → zK43 m X = some (e, X) → zRv r (zFo xs) xs.length = e → (∀ k : Nat, zRw (zTx (zi S 442) (120 * d) s) xs r (zi S 437) k = zi S 437 k) → ∃ (S' : zM) (r : Int32) (S1 : zM), f_X11_rule 200 S 1 (nI d) = some (r, S1) ∧ f_X12_rule 200 S1 436 (nI d) = some (r, S') ∧ zInv S' := by
          intro e he hk43 hv2 hrow
          obtain ⟨Y, q1, q2, q3, q4⟩ := hd2 X hX.1 (fun _ _ _ _ => rfl)
          refine ⟨Y, e, X, by rw [xrun, hk43, zB2_s, if_pos he], by rw [q1, hv2], ?_⟩
          have q2' : zFx (fun a k => zW4 a k ∧ ¬ a = 437) X Y := by
            refine ⟨q2.1, q2.2.1, q2.2.2.1, fun a k hw => ?_⟩
            by_cases ha : a = 437
            · rw [ha, q4, hrow, gX]
            · exact q2.i (fun z => hw ⟨z, ha⟩)
          exact hX.x (q2'.mo (fun a k q => by unfold zW4 at q; unfold zScr; omega))
        cases r with
        | some p1 =>
          have hst := x3 p1 rfl
          have hb := zch_r xs 0 p1 hc
          rw [zTx_l] at hb
          refine noChange (-1000 - nI p1) (z1000 p1 (by omega)) ?_ rfl (fun k => rfl)
          unfold zK43
          rw [hst.2.1, if_neg (show ¬ (1 : Int32) = 0 by decide), hst.1.2.2.2.2.2.2.1]
        | none =>
          obtain ⟨m1, m2, m3, m4⟩ := x4 rfl
          rw [Nat.zero_add] at m1
          cases hf : zFo xs with
          | some w =>
            have hb := zFo_b xs 0 none w hc hf
            rw [zTx_l] at hb
            have e55 : zi X 405 5 = nI w := by rw [m3, e5, hf]; unfold zWv; rw [if_neg (by decide)]
            refine noChange (-2000 - nI w) (z2000 w (by omega)) ?_ (by rw [hf]; rfl) (fun k => by unfold zRw; rw [hf])
            unfold zK43
            rw [m2.2.1, if_pos rfl, e55, if_neg (Int32.not_lt.mpr (nI_nn (by omega)))]
          | none =>
            have e55 : zi X 405 5 = -4 := by rw [m3, e5, hf]; unfold zWv; rw [if_neg (by decide)]
            have hxs : 0 < xs.length := by
              cases xs with
              | nil => exact absurd rfl (hne rfl rfl)
              | cons _ _ => exact Nat.succ_pos _
            have hk43 : zK43 m X = some (nI xs.length, X) := by
              unfold zK43
              rw [m2.2.1, if_pos rfl, e55, if_pos (by decide), m1]
            have hXL := hX.1
            have hXX2 := hXL.2.2.2.2.1
            have hS2 := hXL.2.1
            obtain ⟨X7, a1, a2, a3, a4, a5, a6, a7⟩ := x6_copyFrom (S := X) (q0 := 7) (q1 := 406) hS2.2.1.1 hS2.2.1.2.1 hXX2.2.1.2.1 hXX2.2.1.2.2.1 hS2.2.2.1.2.2.2.2.1 hS2.2.2.1.2.2.2.2.2.1 hXX2.2.1.2.2.2.2.1 hXX2.2.1.2.2.2.2.2.1 (Or.inl (by decide))
            have hnew : zRepR X7 7 (zYas (zTx (zi S 442) (120 * d) s) xs (zi S 437)) := (m4 hf _ rr).cp a3 a4 a5 a6 a7
            obtain ⟨Y, q1, q2, q3, q4⟩ := hd2 X7 (hXL.fr a2) (fun a k h1 h2 => a2.i (by omega))
            have hrow : ∀ k : Nat, zi Y 437 k = zYas (zTx (zi S 442) (120 * d) s) xs (zi S 437) k := fun k => by rw [q4]; unfold zRw; rw [hf]
            obtain ⟨w1, w2⟩ := zYas_ok (N := 200) hT2 xs 0 (zi S 437) hc hf
            obtain ⟨nd, nj, nv, -, c1, c2, c3, c4, c5, c6⟩ := hg5
            refine ⟨Y, nI xs.length, X7, ?_, by rw [q1, hf]; rfl, ?_⟩
            · rw [xrun, hk43, zB2_s, if_neg (show ¬ nI xs.length ≤ 0 from nI_ge (a := 0) hxs (by omega)), hXX2.1.1, zChk_t (by decide), hS2.1.2.2.2.2.1, zChk_t (by decide), hXX2.1.2.2.2.2.1, zChk_t (by decide), hXX2.2.1.1, zChk_t (by decide), a1, zB1_s]
            · refine hX.rl (g := zYas (zTx (zi S 442) (120 * d) s) xs (zi S 437)) ((a2.x.mo (fun a k q => Or.inr (by omega))).tr (q2.mo (fun a k q => Or.inl q))) (fun a k => by rw [q3, a2.r]) hrow (hnew.fr (fun a k h1 h2 => q2.i (by unfold zW4; omega))) (w2 c5) (fun k hk => by rw [w1 k hk, gX])
      · refine bad (-12) (by decide) ?_ ?_
        · unfold f_X8_refusalAsText
          rw [k2, zLet_d, if_neg (show ¬ (1 : Int32) = 0 by decide), k4, if_neg hso]
        · rw [m_wrongRow hL hd, k1, if_neg (show ¬ (2 : Int32) = 0 by decide), if_pos rfl, if_neg (show ¬ (0 : Int32) < 0 by decide), if_neg hso]
  · refine ⟨S, -1, S, ?_, ?_, h⟩
    · unfold f_X11_rule
      rw [x_shelfAt0 hv, zB1_s, if_pos rfl]
    · unfold f_X12_rule
      rw [m_wrongRow0 hv, zB1_s, if_neg (show ¬ (-1 : Int32) = 0 by decide)]
