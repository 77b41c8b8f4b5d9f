/-! a statement, read alike: kind, two numbers, where its sum ends, its code -/
abbrev zRc : Type := Int32 × Nat × Nat × Nat × List Int32
def zWg (x : zRc) : Bool := (decide (x.1 = 111) && (decide (5 < x.2.1) || decide (20 < x.2.2.1))) || (decide (x.1 = 100) && (decide (3 < x.2.1) || decide (3 < x.2.2.1)))
def zYa (T : List Int32) (p : Nat) (x : zRc) (g : Nat → Int32) : Nat → Int32 := if x.1 = 111 then (fun k => if k = 872 + x.2.1 then nI x.2.2.1 else g k) else if x.1 = 100 then (fun k => if k = 878 then nI x.2.1 else if k = 879 then nI x.2.2.1 else g k) else (fun k => if k = 1000 then nI (x.2.2.2.1 - (p + 1)) else if 880 ≤ k ∧ k < 880 + (x.2.2.2.1 - (p + 1)) then (T[p + 1 + (k - 880)]?).getD 0 else g k)
def zSx (T : List Int32) (p p1 : Nat) (x : zRc) : Prop := p < p1 ∧ T[p]? = some x.1 ∧ (x.1 = 111 ∨ x.1 = 100 ∨ x.1 = 102) ∧ x.2.1 < 1000 ∧ x.2.2.1 < 1000 ∧ (x.1 = 102 → p + 1 ≤ x.2.2.2.1 ∧ x.2.2.2.1 ≤ T.length ∧ x.2.2.2.2.length ≤ x.2.2.2.1 - (p + 1) ∧ zp 1000 0 6 [] ((T.take x.2.2.2.1).drop (p + 1)) = some (x.2.2.2.2, []))
def zSc (T : List Int32) (N p : Nat) (ok : Bool) (p1 : Nat) (x : zRc) : Prop := ∀ (q : Nat) (S : zM), zYk S q T p → ∃ S1 : zM, f_X7_readStatement N S 405 = some S1 ∧ zF zYv S S1 ∧ (ok = false → zYs S1 q T p1) ∧ (ok = true → zYk S1 q T p1 ∧ zi S1 405 5 = (if zWg x = true then (if 0 ≤ zi S 405 5 then zi S 405 5 else nI p) else zi S 405 5) ∧ (zWg x = false → ∀ g : Nat → Int32, zRepR S 406 g → zRepR S1 406 (zYa T p x g)))
def zSr (T : List Int32) (N p : Nat) (ok : Bool) (p1 : Nat) (x : zRc) : Prop := ∀ (row base : Nat) (R : zM), zTs R row base T p → ∃ R1 : zM, f_X12_readsStatement N R 436 = some (if ok = true then 1 else 0, R1) ∧ zF zTwr R R1 ∧ zTs R1 row base T p1 ∧ (ok = true → (¬ x.1 = 102 → zi R1 436 18 = nI x.2.1 ∧ zi R1 436 19 = nI x.2.2.1) ∧ (x.1 = 102 → zi R1 436 20 = nI (p + 1) ∧ zi R1 436 21 = nI x.2.2.2.1))
def zYz (a k : Nat) : Prop := a = 407 ∨ (a = 405 ∧ k = 5) ∨ (a = 406 ∧ (k = 1 ∨ k = 2))
theorem zYz.v {a k : Nat} (h : zYz a k) : zYv a k := by unfold zYz at h; unfold zYv; omega
theorem zYk.tl {S S1 : zM} {q p : Nat} {T : List Int32} (h : zYk S q T p) (f : zF zYz S S1) : zYk S1 q T p := by
  obtain ⟨ht, hs, L, hL, e⟩ := h
  refine ⟨ht.fr (f.mo (fun a k q => q.v)) ?_ ht.2.2.2.2.1, ?_, L, hL, ?_⟩
  · rw [f.i (by unfold zYz; omega)]; exact ht.2.2.2.2.2.2.1
  · rw [f.i (by unfold zYz; omega)]; exact hs
  · rw [f.i (by unfold zYz; omega)]; exact e
theorem zYs.tl {S S1 : zM} {q p : Nat} {T : List Int32} (h : zYs S q T p) (f : zF zYz S S1) : zYs S1 q T p := by
  obtain ⟨ht, hs, L, hL, e⟩ := h
  refine ⟨ht.fr (f.mo (fun a k q => q.v)) ?_ ht.2.2.2.2.1, ?_, L, hL, ?_⟩
  · rw [f.i (by unfold zYz; omega)]; exact ht.2.2.2.2.2.2.1
  · rw [f.i (by unfold zYz; omega)]; exact hs
  · rw [f.i (by unfold zYz; omega)]; exact e
def zWa (S : zM) (v1 : Int32) : zM := if 0 ≤ zi S 405 5 then S else zpI S 405 5 v1
theorem zWa_f (S : zM) (v1 : Int32) : zF zYz S (zWa S v1) := by
  unfold zWa
  split
  · exact zF.rf
  · exact zF_pI (Or.inr (Or.inl ⟨rfl, rfl⟩))
theorem zWa_5 (S : zM) (v1 : Int32) : zi (zWa S v1) 405 5 = if 0 ≤ zi S 405 5 then zi S 405 5 else v1 := by
  unfold zWa
  split
  · rfl
  · rw [mi_eq]
theorem x_wrongAt (S : zM) (v1 : Int32) : f_X7_wrongAt S 405 v1 = zWa S v1 := rfl
def zTlO (v1 r2 r15 : Int32) (S16 : zM) : Option zM := zLet (f_X11_within r2 (6 : Int32)) (fun r22 => zLet (zLet (f_X7_wrongAt S16 405 v1) (fun S29 => some S29)) (fun K27 => if r22 = 0 then K27 else if (20 : Int32) < r15 then K27 else zChk (¬ (zr S16 405 0) = 0) (zChk (¬ (zr S16 (zr S16 405 0) 0) = 0) (zChk (¬ (r2 < 0 ∨ zln S16 (zr S16 (zr S16 405 0) 0) ≤ (r2).toNatClampNeg)) (zLet (zpI S16 (zr S16 (zr S16 405 0) 0) (Int32.toNatClampNeg r2) r15) (fun S40 => some S40))))))
def zTlD (v1 r2 r15 : Int32) (S16 : zM) : Option zM := zLet (zLet (f_X7_wrongAt S16 405 v1) (fun S25 => some S25)) (fun K23 => if (3 : Int32) < r2 then K23 else if (3 : Int32) < r15 then K23 else zChk (¬ (zr S16 405 0) = 0) (zLet (zpI S16 (zr S16 405 0) 1 r2) (fun S33 => zChk (¬ (zr S33 405 0) = 0) (zLet (zpI S33 (zr S33 405 0) 2 r15) (fun S40 => some S40)))))
theorem x_readOff {N : Nat} {S : zM} {v1 : Int32} : f_X7_readOff N S 405 v1 = zTwo N (zTlO v1) S := rfl
theorem x_readDropped {N : Nat} {S : zM} {v1 : Int32} : f_X7_readDropped N S 405 v1 = zTwo N (zTlD v1) S := rfl
theorem x_tailO {S : zM} {q p o t : Nat} {T : List Int32} {v1 : Int32} (h : zYt S q T p) (ho : o < 1000) (ht : t < 1000) : zTlO v1 (nI o) (nI t) S = some (if o < 6 ∧ t ≤ 20 then zpI S 407 o (nI t) else zWa S v1) := by
  unfold zTlO
  rw [x_wrongAt, zwi (n := 6) rfl]
  simp only [nLet]
  by_cases h1 : o < 6
  · rw [if_pos (zU_n h1 (by omega)), if_neg (show ¬ (1 : Int32) = 0 by decide)]
    by_cases h2 : t ≤ 20
    · rw [if_neg (show ¬ (20 : Int32) < nI t from nI_nlt (a := 20) h2 (by omega)), h.1.1, zChk_t (by decide), h.1.2.2.2, zChk_t (by decide), h.2.1.2.2, zChk_t (zix (by omega) (by omega)), nI_clamp (by omega), if_pos ⟨h1, h2⟩]
    · rw [if_pos (show (20 : Int32) < nI t from nI_lt (a := 20) (by omega) (by omega)), if_neg (fun z => h2 z.2)]
  · rw [if_neg (fun z => h1 ((zU_i (by omega)).mp z)), if_pos rfl, if_neg (fun z => h1 z.1)]
theorem x_tailD {S : zM} {q p o t : Nat} {T : List Int32} {v1 : Int32} (h : zYt S q T p) (ho : o < 1000) (ht : t < 1000) : zTlD v1 (nI o) (nI t) S = some (if o ≤ 3 ∧ t ≤ 3 then zpI (zpI S 406 1 (nI o)) 406 2 (nI t) else zWa S v1) := by
  unfold zTlD
  rw [x_wrongAt]
  simp only [nLet]
  by_cases h1 : o ≤ 3
  · rw [if_neg (show ¬ (3 : Int32) < nI o from nI_nlt (a := 3) h1 (by omega))]
    by_cases h2 : t ≤ 3
    · rw [if_neg (show ¬ (3 : Int32) < nI t from nI_nlt (a := 3) h2 (by omega)), h.1.1, zChk_t (by decide), nr_pI, h.1.1, zChk_t (by decide), if_pos ⟨h1, h2⟩]
    · rw [if_pos (show (3 : Int32) < nI t from nI_lt (a := 3) (by omega) (by omega)), if_neg (fun z => h2 z.2)]
  · rw [if_pos (show (3 : Int32) < nI o from nI_lt (a := 3) (by omega) (by omega)), if_neg (fun z => h1 z.1)]
theorem zTx_T {T : List Int32} {p to : Nat} {g : Nat → Int32} (h1 : p ≤ to) (h2 : to ≤ T.length) (hg : ∀ k : Nat, k < to - p → g (880 + k) = (T[p + k]?).getD 0) : zTx g 880 (to - p) = (T.take to).drop p := by
  apply List.ext_getElem?
  intro k
  rw [List.getElem?_drop]
  by_cases hk : k < to - p
  · rw [zTx_g hk, hg k hk, List.getElem?_take_of_lt (by omega), List.getElem?_eq_getElem (show p + k < T.length by omega)]
    rfl
  · rw [List.getElem?_eq_none_iff.mpr (by rw [zTx_l]; omega), List.getElem?_eq_none_iff.mpr (by rw [List.length_take]; omega)]
theorem zRep_o {S S1 : zM} {g : Nat → Int32} {T : List Int32} {p o t to : Nat} {c : List Int32} (h : zRepR S 406 g) (hf : zF zYx S S1) (ho : o < 6) : zRepR (zpI S1 407 o (nI t)) 406 (zYa T p (111, o, t, to, c) g) := by
  have h1 : zRepR S1 406 g := h.fr (fun a k ha hb => hf.i (by unfold zYx; omega))
  obtain ⟨r1, r2, r3, n, cd, r4, r5, r6, r7, r8, r9⟩ := h1
  have eA : ∀ k : Nat, zYa T p (111, o, t, to, c) g k = if k = 872 + o then nI t else g k := fun k => by unfold zYa; rw [if_pos rfl]
  refine ⟨fun i hi => ?_, ?_, ?_, n, cd, r4, ?_, ?_, r7, ?_, fun k hk => ?_⟩
  · rw [eA]
    by_cases e : i = o
    · rw [e, mi_eq, if_pos rfl]
    · rw [mi_ne _ _ (by omega), if_neg (by omega)]
      exact r1 i hi
  · rw [eA, mi_ne _ _ (by omega), if_neg (by omega)]; exact r2
  · rw [eA, mi_ne _ _ (by omega), if_neg (by omega)]; exact r3
  · rw [eA, if_neg (by omega)]; exact r5
  · rw [zTx_c (g := g) (fun k hk => by rw [eA, if_neg (by omega)])]; exact r6
  · rw [mi_ne _ _ (by omega)]; exact r8
  · rw [mi_ne _ _ (by omega)]; exact r9 k hk
theorem zRep_d {S S1 : zM} {g : Nat → Int32} {T : List Int32} {p o t to : Nat} {c : List Int32} (h : zRepR S 406 g) (hf : zF zYx S S1) : zRepR (zpI (zpI S1 406 1 (nI o)) 406 2 (nI t)) 406 (zYa T p (100, o, t, to, c) g) := by
  have h1 : zRepR S1 406 g := h.fr (fun a k ha hb => hf.i (by unfold zYx; omega))
  obtain ⟨r1, r2, r3, n, cd, r4, r5, r6, r7, r8, r9⟩ := h1
  have eA : ∀ k : Nat, zYa T p (100, o, t, to, c) g k = if k = 878 then nI o else if k = 879 then nI t else g k := fun k => by unfold zYa; rw [if_neg (show ¬ (100 : Int32) = 111 by decide), if_pos rfl]
  refine ⟨fun i hi => ?_, ?_, ?_, n, cd, r4, ?_, ?_, r7, ?_, fun k hk => ?_⟩
  · rw [eA, mi_ne _ _ (by omega), mi_ne _ _ (by omega), if_neg (by omega), if_neg (by omega)]
    exact r1 i hi
  · rw [eA, mi_ne _ _ (by omega), mi_eq, if_pos rfl]
  · rw [eA, mi_eq, if_neg (by omega), if_pos rfl]
  · rw [eA, if_neg (by omega), if_neg (by omega)]; exact r5
  · rw [zTx_c (g := g) (fun k hk => by rw [eA, if_neg (by omega), if_neg (by omega)])]; exact r6
  · rw [mi_ne _ _ (by omega), mi_ne _ _ (by omega)]; exact r8
  · rw [mi_ne _ _ (by omega), mi_ne _ _ (by omega)]; exact r9 k hk
theorem zRep_f {S S1 : zM} {g : Nat → Int32} {T : List Int32} {p o t to : Nat} {c : List Int32} (h : zRepR S 406 g) (hf : zF zYw S S1) (hc : zYc S1 c) (h1 : p + 1 ≤ to) (h2 : to ≤ T.length) (hT : T.length ≤ 120) (hl : c.length ≤ to - (p + 1)) (hz : zp 1000 0 6 [] ((T.take to).drop (p + 1)) = some (c, [])) : zRepR S1 406 (zYa T p (102, o, t, to, c) g) := by
  obtain ⟨r1, r2, r3, -⟩ := h
  have eA : ∀ k : Nat, zYa T p (102, o, t, to, c) g k = if k = 1000 then nI (to - (p + 1)) else if 880 ≤ k ∧ k < 880 + (to - (p + 1)) then (T[p + 1 + (k - 880)]?).getD 0 else g k := fun k => by unfold zYa; rw [if_neg (show ¬ (102 : Int32) = 111 by decide), if_neg (show ¬ (102 : Int32) = 100 by decide)]
  refine ⟨fun i hi => ?_, ?_, ?_, to - (p + 1), c, by omega, ?_, ?_, hl, hc.1, hc.2⟩
  · rw [eA, hf.i (by unfold zYw; omega), if_neg (by omega), if_neg (by omega)]
    exact r1 i hi
  · rw [eA, hf.i (by unfold zYw; omega), if_neg (by omega), if_neg (by omega)]; exact r2
  · rw [eA, hf.i (by unfold zYw; omega), if_neg (by omega), if_neg (by omega)]; exact r3
  · rw [eA, if_pos rfl]
  · rw [zTx_T h1 h2 (fun k hk => by rw [eA, if_neg (by omega), if_pos (by omega), show 880 + k - 880 = k by omega])]
    exact hz
/-- what stands before each kind of statement: the class -/
theorem x_stO {N p q : Nat} {T : List Int32} {S : zM} (hS : zYk S q T p) (hy : T[p]? = some 111) : f_X7_readStatement N S 405 = zB1 (zTwo N (zTlO (nI p)) (zpI S 405 3 (zi S 405 3 + 1))) (fun S53 => zB1 (f_X7_expect S53 405 (59 : Int32)) (fun S10 => some S10)) := by
  have hy2 : zYn T p = 111 := by unfold zYn; rw [hy]
  unfold f_X7_readStatement
  rw [x_next hS.1, hy2, zB1_s]
  simp only [nLet]
  rw [if_neg (show ¬ (111 : Int32) = 100 by decide), if_neg (show ¬ (111 : Int32) = 102 by decide), if_pos trivial, x_readOff, hS.1.2.2.2.2.2.2.1]
theorem x_stD {N p q : Nat} {T : List Int32} {S : zM} (hS : zYk S q T p) (hy : T[p]? = some 100) : f_X7_readStatement N S 405 = zB1 (zTwo N (zTlD (nI p)) (zpI S 405 3 (zi S 405 3 + 1))) (fun S53 => zB1 (f_X7_expect S53 405 (59 : Int32)) (fun S10 => some S10)) := by
  have hy2 : zYn T p = 100 := by unfold zYn; rw [hy]
  unfold f_X7_readStatement
  rw [x_next hS.1, hy2, zB1_s]
  simp only [nLet]
  rw [if_pos trivial, x_readDropped, hS.1.2.2.2.2.2.2.1]
theorem x_stF {N p q : Nat} {T : List Int32} {S : zM} (hS : zYk S q T p) (hy : T[p]? = some 102) : f_X7_readStatement N S 405 = zB1 (f_X7_readSum N 8 (zpI (zpI S 405 3 (zi S 405 3 + 1)) 406 4 0) 405 0) (fun S53 => zB1 (f_X7_expect S53 405 (59 : Int32)) (fun S10 => some S10)) := by
  have hy2 : zYn T p = 102 := by unfold zYn; rw [hy]
  unfold f_X7_readStatement f_X6_forgetSum
  rw [x_next hS.1, hy2, zB1_s]
  simp only [nLet]
  rw [if_neg (show ¬ (102 : Int32) = 100 by decide), if_pos trivial, nr_pI, hS.1.1.1, zChk_t (by decide)]
theorem m_stN {N p row base : Nat} {T : List Int32} {R : zM} {y : Int32} (hR : zTs R row base T p) (hy : T[p]? = some y) (hk : y = 111 ∨ y = 100) : ∃ R1 : zM, zTs R1 row base T (p + 1) ∧ zF zTwr R R1 ∧ f_X12_readsStatement N R 436 = zTwoR N R1 := by
  have hlt : p < T.length := (List.getElem?_eq_some_iff.mp hy).1
  have hy3 : zSg T p = y := by unfold zSg; rw [hy]
  obtain ⟨s1, s2⟩ := hR.step hlt
  have f1 : zF zTwr (zpI R 436 12 (zi R 436 12 + 1)) (zpI (zpI R 436 12 (zi R 436 12 + 1)) 436 15 0) := zF_pI ⟨rfl, Or.inr ⟨by omega, by omega⟩⟩
  have f2 : zF zTwr (zpI (zpI R 436 12 (zi R 436 12 + 1)) 436 15 0) (zpI (zpI (zpI R 436 12 (zi R 436 12 + 1)) 436 15 0) 436 20 (zi (zpI (zpI R 436 12 (zi R 436 12 + 1)) 436 15 0) 436 12)) := zF_pI ⟨rfl, Or.inr ⟨by omega, by omega⟩⟩
  refine ⟨_, s1.fr (f1.tr f2) (by rw [mi_ne _ _ (by omega), mi_ne _ _ (by omega)]; exact s1.2.2.2.2.2.1) hlt, (s2.tr f1).tr f2, ?_⟩
  unfold f_X12_readsStatement
  rw [m_sg hR, hy3, zB1_s]
  simp only [nLet]
  rcases hk with rfl | rfl
  · rw [if_pos rfl, if_neg (show ¬ (111 : Int32) = 102 by decide)]
    rfl
  · rw [if_neg (show ¬ (100 : Int32) = 111 by decide), if_pos rfl, if_neg (show ¬ (100 : Int32) = 102 by decide)]
    rfl
theorem zj_stO {N p : Nat} {T : List Int32} (hN : 122 < N) (hy : T[p]? = some 111) : ∃ (ok : Bool) (p1 : Nat) (x : zRc), p ≤ p1 ∧ p1 ≤ T.length ∧ (ok = true → zSx T p p1 x) ∧ zSc T N p ok p1 x ∧ zSr T N p ok p1 x := by
  have hlt : p < T.length := (List.getElem?_eq_some_iff.mp hy).1
  obtain ⟨ok, one, two, pm, l1, l2, l3, l4, l5, l6⟩ := zj_two (p := p + 1) hN hlt
  have n10 : ¬ (1 : Int32) = 0 := by decide
  have hfr : ∀ S2 : zM, zF zYx S2 S2 := fun _ => zF.rf
  by_cases hs : ok = true ∧ T[pm]? = some 59
  · obtain ⟨rfl, h59⟩ := hs
    have hlt2 : pm < T.length := (List.getElem?_eq_some_iff.mp h59).1
    have hw : zWg (111, one, two, 0, []) = !decide (one < 6 ∧ two ≤ 20) := by
      unfold zWg
      by_cases c1 : one < 6 <;> by_cases c2 : two ≤ 20 <;> simp [c1, c2] <;> omega
    refine ⟨true, pm + 1, (111, one, two, 0, []), by omega, hlt2, fun _ => ⟨by omega, hy, Or.inl rfl, l1, l2, fun z => absurd (show (111 : Int32) = 102 from z) (by decide)⟩, fun q S hS => ?_, fun row base R hR => ?_⟩
    · obtain ⟨s1, s2⟩ := hS.step hlt
      obtain ⟨o, t, A, a1, a2, a3, a4, a5, a6⟩ := l5 q _ s1
      obtain ⟨rfl, rfl, a7, a8⟩ := a5 rfl
      have fA : zF zYx S A := s2.tr a8
      have e5 : zi A 405 5 = zi S 405 5 := fA.i (by unfold zYx; omega)
      have run := x_stO (N := N) hS hy
      rw [a3, x_tailO a7.1 a1 a2, zB1_s] at run
      by_cases hg : o < 6 ∧ t ≤ 20
      · rw [if_pos hg] at run
        have fB : zF zYz A (zpI A 407 o (nI t)) := zF_pI (Or.inl rfl)
        have hB := a7.tl fB
        obtain ⟨C, c1, c2, c3⟩ := (x_expectK (ch := 59) hB).1 h59
        rw [c1, zB1_s] at run
        have hwf : zWg (111, o, t, 0, []) = false := by rw [hw]; simp [hg]
        refine ⟨C, run, ((fA.mo (fun a k q => q.v)).tr (fB.mo (fun a k q => q.v))).tr (c2.mo (fun a k q => q.v)), fun z => absurd z (by decide), fun _ => ⟨c3, ?_, fun _ g hgr => ?_⟩⟩
        · rw [if_neg (by rw [hwf]; decide), c2.i (by unfold zYx; omega), mi_ne _ _ (by omega)]
          exact e5
        · exact (zRep_o hgr fA hg.1).fr (fun a k h1 h2 => c2.i (by unfold zYx; omega))
      · rw [if_neg hg] at run
        have fB := zWa_f A (nI p)
        have hB := a7.tl fB
        obtain ⟨C, c1, c2, c3⟩ := (x_expectK (ch := 59) hB).1 h59
        rw [c1, zB1_s] at run
        have hwf : zWg (111, o, t, 0, []) = true := by rw [hw]; simp [hg]
        refine ⟨C, run, ((fA.mo (fun a k q => q.v)).tr (fB.mo (fun a k q => q.v))).tr (c2.mo (fun a k q => q.v)), fun z => absurd z (by decide), fun _ => ⟨c3, ?_, fun z => absurd z (by rw [hwf]; decide)⟩⟩
        rw [if_pos hwf, c2.i (by unfold zYx; omega), zWa_5, e5]
    · obtain ⟨R1, r1, r2, r3⟩ := m_stN (N := N) hR hy (Or.inl rfl)
      obtain ⟨R2, q1, q2, q3, q4⟩ := l6 row base R1 r1
      obtain ⟨t1, t2⟩ := q2.step hlt2
      refine ⟨_, ?_, (r2.tr q1).tr t2, t1, fun _ => ⟨fun _ => ?_, fun z => absurd (show (111 : Int32) = 102 from z) (by decide)⟩⟩
      · rw [r3, q3, if_pos rfl, (m_takes q2 (by decide)).1 h59, zB2_s, zChk_t (Or.inr rfl)]
        rfl
      · obtain ⟨w1, w2⟩ := q4 rfl
        exact ⟨by rw [mi_ne _ _ (by omega)]; exact w1, by rw [mi_ne _ _ (by omega)]; exact w2⟩
  · refine ⟨false, pm, (111, 0, 0, 0, []), by omega, l4, fun z => absurd z (by decide), fun q S hS => ?_, fun row base R hR => ?_⟩
    · obtain ⟨s1, s2⟩ := hS.step hlt
      obtain ⟨o, t, A, a1, a2, a3, a4, a5, a6⟩ := l5 q _ s1
      have run := x_stO (N := N) hS hy
      have fA : zF zYv S A := (s2.mo (fun a k q => q.v)).tr (a4.mo (fun a k q => q.v))
      have htA : zYt A q T pm := by
        cases ok with
        | false => exact (a6 rfl).1
        | true => exact (a5 rfl).2.2.1.1
      rw [a3, x_tailO htA a1 a2, zB1_s] at run
      obtain ⟨B, hB, fB⟩ : ∃ B : zM, (if o < 6 ∧ t ≤ 20 then zpI A 407 o (nI t) else zWa A (nI p)) = B ∧ zF zYz A B := by
        refine ⟨_, rfl, ?_⟩
        split
        · exact zF_pI (Or.inl rfl)
        · exact zWa_f A (nI p)
      rw [hB] at run
      cases ok with
      | false =>
        obtain ⟨C, c1, c2, c3⟩ := x_expectS (ch := 59) ((a6 rfl).tl fB)
        rw [c1, zB1_s] at run
        exact ⟨C, run, (fA.tr (fB.mo (fun a k q => q.v))).tr (c2.mo (fun a k q => q.v)), fun _ => c3, fun z => absurd z (by decide)⟩
      | true =>
        have h59 : ¬ T[pm]? = some 59 := fun z => hs ⟨rfl, z⟩
        obtain ⟨C, c1, c2, c3⟩ := (x_expectK (ch := 59) ((a5 rfl).2.2.1.tl fB)).2 h59
        rw [c1, zB1_s] at run
        exact ⟨C, run, (fA.tr (fB.mo (fun a k q => q.v))).tr (c2.mo (fun a k q => q.v)), fun _ => c3, fun z => absurd z (by decide)⟩
    · obtain ⟨R1, r1, r2, r3⟩ := m_stN (N := N) hR hy (Or.inl rfl)
      obtain ⟨R2, q1, q2, q3, q4⟩ := l6 row base R1 r1
      refine ⟨R2, ?_, r2.tr q1, q2, fun z => absurd z (by decide)⟩
      rw [r3, q3]
      cases ok with
      | false => rfl
      | true =>
        have h59 : ¬ T[pm]? = some 59 := fun z => hs ⟨rfl, z⟩
        rw [if_pos rfl, (m_takes q2 (by decide)).2 h59, zB2_s, zChk_t (Or.inl rfl)]
        rfl
theorem zj_stD {N p : Nat} {T : List Int32} (hN : 122 < N) (hy : T[p]? = some 100) : ∃ (ok : Bool) (p1 : Nat) (x : zRc), p ≤ p1 ∧ p1 ≤ T.length ∧ (ok = true → zSx T p p1 x) ∧ zSc T N p ok p1 x ∧ zSr T N p ok p1 x := by
  have hlt : p < T.length := (List.getElem?_eq_some_iff.mp hy).1
  obtain ⟨ok, one, two, pm, l1, l2, l3, l4, l5, l6⟩ := zj_two (p := p + 1) hN hlt
  have n10 : ¬ (1 : Int32) = 0 := by decide
  have hfr : ∀ S2 : zM, zF zYx S2 S2 := fun _ => zF.rf
  by_cases hs : ok = true ∧ T[pm]? = some 59
  · obtain ⟨rfl, h59⟩ := hs
    have hlt2 : pm < T.length := (List.getElem?_eq_some_iff.mp h59).1
    have hw : zWg (100, one, two, 0, []) = !decide (one ≤ 3 ∧ two ≤ 3) := by
      unfold zWg
      by_cases c1 : one ≤ 3 <;> by_cases c2 : two ≤ 3 <;> simp [c1, c2] <;> omega
    refine ⟨true, pm + 1, (100, one, two, 0, []), by omega, hlt2, fun _ => ⟨by omega, hy, Or.inr (Or.inl rfl), l1, l2, fun z => absurd (show (100 : Int32) = 102 from z) (by decide)⟩, fun q S hS => ?_, fun row base R hR => ?_⟩
    · obtain ⟨s1, s2⟩ := hS.step hlt
      obtain ⟨o, t, A, a1, a2, a3, a4, a5, a6⟩ := l5 q _ s1
      obtain ⟨rfl, rfl, a7, a8⟩ := a5 rfl
      have fA : zF zYx S A := s2.tr a8
      have e5 : zi A 405 5 = zi S 405 5 := fA.i (by unfold zYx; omega)
      have run := x_stD (N := N) hS hy
      rw [a3, x_tailD a7.1 a1 a2, zB1_s] at run
      by_cases hg : o ≤ 3 ∧ t ≤ 3
      · rw [if_pos hg] at run
        have fB : zF zYz A (zpI (zpI A 406 1 (nI o)) 406 2 (nI t)) := (zF_pI (Or.inr (Or.inr ⟨rfl, Or.inl rfl⟩))).tr (zF_pI (Or.inr (Or.inr ⟨rfl, Or.inr rfl⟩)))
        have hB := a7.tl fB
        obtain ⟨C, c1, c2, c3⟩ := (x_expectK (ch := 59) hB).1 h59
        rw [c1, zB1_s] at run
        have hwf : zWg (100, o, t, 0, []) = false := by rw [hw]; simp [hg]
        refine ⟨C, run, ((fA.mo (fun a k q => q.v)).tr (fB.mo (fun a k q => q.v))).tr (c2.mo (fun a k q => q.v)), fun z => absurd z (by decide), fun _ => ⟨c3, ?_, fun _ g hgr => ?_⟩⟩
        · rw [if_neg (by rw [hwf]; decide), c2.i (by unfold zYx; omega), mi_ne _ _ (by omega), mi_ne _ _ (by omega)]
          exact e5
        · exact (zRep_d hgr fA).fr (fun a k h1 h2 => c2.i (by unfold zYx; omega))
      · rw [if_neg hg] at run
        have fB := zWa_f A (nI p)
        have hB := a7.tl fB
        obtain ⟨C, c1, c2, c3⟩ := (x_expectK (ch := 59) hB).1 h59
        rw [c1, zB1_s] at run
        have hwf : zWg (100, o, t, 0, []) = true := by rw [hw]; simp [hg]
        refine ⟨C, run, ((fA.mo (fun a k q => q.v)).tr (fB.mo (fun a k q => q.v))).tr (c2.mo (fun a k q => q.v)), fun z => absurd z (by decide), fun _ => ⟨c3, ?_, fun z => absurd z (by rw [hwf]; decide)⟩⟩
        rw [if_pos hwf, c2.i (by unfold zYx; omega), zWa_5, e5]
    · obtain ⟨R1, r1, r2, r3⟩ := m_stN (N := N) hR hy (Or.inr rfl)
      obtain ⟨R2, q1, q2, q3, q4⟩ := l6 row base R1 r1
      obtain ⟨t1, t2⟩ := q2.step hlt2
      refine ⟨_, ?_, (r2.tr q1).tr t2, t1, fun _ => ⟨fun _ => ?_, fun z => absurd (show (100 : Int32) = 102 from z) (by decide)⟩⟩
      · rw [r3, q3, if_pos rfl, (m_takes q2 (by decide)).1 h59, zB2_s, zChk_t (Or.inr rfl)]
        rfl
      · obtain ⟨w1, w2⟩ := q4 rfl
        exact ⟨by rw [mi_ne _ _ (by omega)]; exact w1, by rw [mi_ne _ _ (by omega)]; exact w2⟩
  · refine ⟨false, pm, (100, 0, 0, 0, []), by omega, l4, fun z => absurd z (by decide), fun q S hS => ?_, fun row base R hR => ?_⟩
    · obtain ⟨s1, s2⟩ := hS.step hlt
      obtain ⟨o, t, A, a1, a2, a3, a4, a5, a6⟩ := l5 q _ s1
      have run := x_stD (N := N) hS hy
      have fA : zF zYv S A := (s2.mo (fun a k q => q.v)).tr (a4.mo (fun a k q => q.v))
      have htA : zYt A q T pm := by
        cases ok with
        | false => exact (a6 rfl).1
        | true => exact (a5 rfl).2.2.1.1
      rw [a3, x_tailD htA a1 a2, zB1_s] at run
      obtain ⟨B, hB, fB⟩ : ∃ B : zM, (if o ≤ 3 ∧ t ≤ 3 then zpI (zpI A 406 1 (nI o)) 406 2 (nI t) else zWa A (nI p)) = B ∧ zF zYz A B := by
        refine ⟨_, rfl, ?_⟩
        split
        · exact (zF_pI (Or.inr (Or.inr ⟨rfl, Or.inl rfl⟩))).tr (zF_pI (Or.inr (Or.inr ⟨rfl, Or.inr rfl⟩)))
        · exact zWa_f A (nI p)
      rw [hB] at run
      cases ok with
      | false =>
        obtain ⟨C, c1, c2, c3⟩ := x_expectS (ch := 59) ((a6 rfl).tl fB)
        rw [c1, zB1_s] at run
        exact ⟨C, run, (fA.tr (fB.mo (fun a k q => q.v))).tr (c2.mo (fun a k q => q.v)), fun _ => c3, fun z => absurd z (by decide)⟩
      | true =>
        have h59 : ¬ T[pm]? = some 59 := fun z => hs ⟨rfl, z⟩
        obtain ⟨C, c1, c2, c3⟩ := (x_expectK (ch := 59) ((a5 rfl).2.2.1.tl fB)).2 h59
        rw [c1, zB1_s] at run
        exact ⟨C, run, (fA.tr (fB.mo (fun a k q => q.v))).tr (c2.mo (fun a k q => q.v)), fun _ => c3, fun z => absurd z (by decide)⟩
    · obtain ⟨R1, r1, r2, r3⟩ := m_stN (N := N) hR hy (Or.inr rfl)
      obtain ⟨R2, q1, q2, q3, q4⟩ := l6 row base R1 r1
      refine ⟨R2, ?_, r2.tr q1, q2, fun z => absurd z (by decide)⟩
      rw [r3, q3]
      cases ok with
      | false => rfl
      | true =>
        have h59 : ¬ T[pm]? = some 59 := fun z => hs ⟨rfl, z⟩
        rw [if_pos rfl, (m_takes q2 (by decide)).2 h59, zB2_s, zChk_t (Or.inl rfl)]
        rfl
theorem zj_stF {N p : Nat} {T : List Int32} (hN : 122 < N) (hT : T.length ≤ 120) (hy : T[p]? = some 102) : ∃ (ok : Bool) (p1 : Nat) (x : zRc), p ≤ p1 ∧ p1 ≤ T.length ∧ (ok = true → zSx T p p1 x) ∧ zSc T N p ok p1 x ∧ zSr T N p ok p1 x := by
  have hlt : p < T.length := (List.getElem?_eq_some_iff.mp hy).1
  have hy3 : zSg T p = 102 := by unfold zSg; rw [hy]
  have n10 : ¬ (1 : Int32) = 0 := by decide
  obtain ⟨ok, pm, c, l1, l2, l3, l4, l5, l6⟩ := (zj_all hN hT (T.length - (p + 1)) (p + 1) rfl hlt 0 (by omega)).1
  have hcl : ∀ (q : Nat) (S : zM), zYk S q T p → ∃ A : zM, f_X7_readStatement N S 405 = zB1 (f_X7_expect A 405 (59 : Int32)) (fun S10 => some S10) ∧ zF zYw S A ∧ zYo ok A q T pm c := by
    intro q S hS
    obtain ⟨s1, s2⟩ := hS.step hlt
    have f1 : zF zYw (zpI S 405 3 (zi S 405 3 + 1)) (zpI (zpI S 405 3 (zi S 405 3 + 1)) 406 4 0) := zF_pI (Or.inr (Or.inr ⟨rfl, rfl⟩))
    have hG : zYg (zpI (zpI S 405 3 (zi S 405 3 + 1)) 406 4 0) q T (p + 1) [] := by
      refine ⟨s1.1.fr (f1.mo (fun a k q => q.v)) (by rw [mi_ne _ _ (by omega)]; exact s1.1.2.2.2.2.2.2.1) hlt, by rw [mi_ne _ _ (by omega)]; exact s1.2.1, ⟨mi_eq _ _ _ _, fun k hk => absurd hk (Nat.not_lt_zero _)⟩, Nat.zero_le _⟩
    obtain ⟨A, a1, a2, a3⟩ := l4 q _ [] hG
    have a1' : f_X7_readSum N 8 (zpI (zpI S 405 3 (zi S 405 3 + 1)) 406 4 0) 405 0 = some A := a1
    refine ⟨A, ?_, ((s2.mo (fun a k q => q.w)).tr f1).tr a2, a3⟩
    rw [x_stF hS hy, a1', zB1_s]
  have hrf : ∀ (row base : Nat) (R : zM), zTs R row base T p → ∃ A : zM, f_X12_readsStatement N R 436 = (if (if ok = true then (1 : Int32) else 0) = 0 then some (((0 : Int32), A)) else zLet (zpI A 436 21 (zi A 436 12)) (fun S73 => zB2 (f_X12_takes S73 436 (59 : Int32)) (fun r79 S80 => zChk (r79 = 0 ∨ r79 = 1) (some ((r79, S80)))))) ∧ zF zTwr R A ∧ zTs A row base T pm ∧ zi A 436 20 = nI (p + 1) := by
    intro row base R hR
    obtain ⟨s1, s2⟩ := hR.step hlt
    have f1 : zF zTwr (zpI R 436 12 (zi R 436 12 + 1)) (zpI (zpI R 436 12 (zi R 436 12 + 1)) 436 15 0) := zF_pI ⟨rfl, Or.inr ⟨by omega, by omega⟩⟩
    have f2 : zF zTwr (zpI (zpI R 436 12 (zi R 436 12 + 1)) 436 15 0) (zpI (zpI (zpI R 436 12 (zi R 436 12 + 1)) 436 15 0) 436 20 (zi (zpI (zpI R 436 12 (zi R 436 12 + 1)) 436 15 0) 436 12)) := zF_pI ⟨rfl, Or.inr ⟨by omega, by omega⟩⟩
    have h1 : zTs (zpI (zpI (zpI R 436 12 (zi R 436 12 + 1)) 436 15 0) 436 20 (zi (zpI (zpI R 436 12 (zi R 436 12 + 1)) 436 15 0) 436 12)) row base T (p + 1) := s1.fr (f1.tr f2) (by rw [mi_ne _ _ (by omega), mi_ne _ _ (by omega)]; exact s1.2.2.2.2.2.1) hlt
    obtain ⟨A, a1, a2, a3, a4⟩ := l5 row base _ h1 (by rw [mi_ne _ _ (by omega), mi_eq]; rfl)
    have a1' : f_X12_readsSum N 8 (zpI (zpI (zpI R 436 12 (zi R 436 12 + 1)) 436 15 0) 436 20 (zi (zpI (zpI R 436 12 (zi R 436 12 + 1)) 436 15 0) 436 12)) 436 = some (if ok = true then 1 else 0, A) := a1
    refine ⟨A, ?_, ((s2.tr f1).tr f2).tr (a2.mo (fun a k q => q.t)), a3, by rw [a2.i (by unfold zTw2; omega), mi_eq, mi_ne _ _ (by omega)]; exact s1.2.2.2.2.2.1⟩
    unfold f_X12_readsStatement
    rw [m_sg hR, hy3, zB1_s, zLet_d, if_neg (show ¬ (102 : Int32) = 111 by decide), if_neg (show ¬ (102 : Int32) = 100 by decide), if_pos rfl, zLet_d, zLet_d, zLet_d, if_pos rfl, a1', zB2_s]
  by_cases hs : ok = true ∧ T[pm]? = some 59
  · obtain ⟨rfl, h59⟩ := hs
    have hlt2 : pm < T.length := (List.getElem?_eq_some_iff.mp h59).1
    obtain ⟨g1, g2⟩ := l6 rfl
    have hz := g2 pm 1000 [] (Nat.le_refl _) l2 (by omega)
    rw [List.nil_append, ztn (Nat.le_refl _)] at hz
    have hz' : zp 1000 0 6 [] ((T.take pm).drop (p + 1)) = some (c, []) := hz
    have hw : zWg (102, 0, 0, pm, c) = false := rfl
    refine ⟨true, pm + 1, (102, 0, 0, pm, c), by omega, hlt2, fun _ => ⟨by omega, hy, Or.inr (Or.inr rfl), (by decide : 0 < 1000), (by decide : 0 < 1000), fun _ => ⟨l1, l2, by show c.length ≤ pm - (p + 1); omega, hz'⟩⟩, fun q S hS => ?_, fun row base R hR => ?_⟩
    · obtain ⟨A, a1, a2, a3⟩ := hcl q S hS
      have a4 := a3.1 rfl
      have hK : zYk A q T pm := ⟨a4.1, a4.2.1, c.length, by omega, a4.2.2.1.1⟩
      obtain ⟨C, c1, c2, c3⟩ := (x_expectK (ch := 59) hK).1 h59
      rw [c1, zB1_s] at a1
      refine ⟨C, a1, (a2.mo (fun a k q => q.v)).tr (c2.mo (fun a k q => q.v)), fun z => absurd z (by decide), fun _ => ⟨c3, ?_, fun _ g hgr => ?_⟩⟩
      · rw [hw, if_neg (by decide), c2.i (by unfold zYx; omega), a2.i (by unfold zYw; omega)]
      · exact (zRep_f hgr a2 a4.2.2.1 l1 l2 hT (by omega) hz').fr (fun a k h1 h2 => c2.i (by unfold zYx; omega))
    · obtain ⟨A, a1, a2, a3, a4⟩ := hrf row base R hR
      have f3 : zF zTwr A (zpI A 436 21 (zi A 436 12)) := zF_pI ⟨rfl, Or.inr ⟨by omega, by omega⟩⟩
      have h3 : zTs (zpI A 436 21 (zi A 436 12)) row base T pm := a3.fr f3 (by rw [mi_ne _ _ (by omega)]; exact a3.2.2.2.2.2.1) l2
      obtain ⟨t1, t2⟩ := h3.step hlt2
      refine ⟨_, ?_, (a2.tr f3).tr t2, t1, fun _ => ⟨fun z => absurd (show (102 : Int32) = 102 from rfl) z, fun _ => ⟨?_, ?_⟩⟩⟩
      · rw [a1, if_pos rfl, if_neg n10, zLet_d, (m_takes h3 (by decide)).1 h59, zB2_s, zChk_t (Or.inr rfl)]
      · rw [mi_ne _ _ (by omega), mi_ne _ _ (by omega)]
        exact a4
      · rw [mi_ne _ _ (by omega), mi_eq]
        exact a3.2.2.2.2.2.1
  · refine ⟨false, pm, (102, 0, 0, 0, []), by omega, l2, fun z => absurd z (by decide), fun q S hS => ?_, fun row base R hR => ?_⟩
    · obtain ⟨A, a1, a2, a3⟩ := hcl q S hS
      cases ok with
      | false =>
        obtain ⟨C, c1, c2, c3⟩ := x_expectS (ch := 59) (a3.2 rfl)
        rw [c1, zB1_s] at a1
        exact ⟨C, a1, (a2.tr c2).mo (fun a k q => q.v), fun _ => c3, fun z => absurd z (by decide)⟩
      | true =>
        obtain ⟨C, c1, c2, c3⟩ := (x_expectG (ch := 59) (a3.1 rfl)).2 (fun z => hs ⟨rfl, z⟩)
        rw [c1, zB1_s] at a1
        exact ⟨C, a1, (a2.tr c2).mo (fun a k q => q.v), fun _ => c3, fun z => absurd z (by decide)⟩
    · obtain ⟨A, a1, a2, a3, a4⟩ := hrf row base R hR
      cases ok with
      | false => exact ⟨A, a1, a2, a3, fun z => absurd z (by decide)⟩
      | true =>
        have f3 : zF zTwr A (zpI A 436 21 (zi A 436 12)) := zF_pI ⟨rfl, Or.inr ⟨by omega, by omega⟩⟩
        have h3 : zTs (zpI A 436 21 (zi A 436 12)) row base T pm := a3.fr f3 (by rw [mi_ne _ _ (by omega)]; exact a3.2.2.2.2.2.1) l2
        refine ⟨_, ?_, a2.tr f3, h3, fun z => absurd z (by decide)⟩
        rw [a1, if_pos rfl, if_neg n10, zLet_d, (m_takes h3 (by decide)).2 (fun z => hs ⟨rfl, z⟩), zB2_s, zChk_t (Or.inl rfl)]
        rfl
theorem zj_st {N p : Nat} {T : List Int32} (hN : 122 < N) (hT : T.length ≤ 120) (hp : p ≤ T.length) : ∃ (ok : Bool) (p1 : Nat) (x : zRc), p ≤ p1 ∧ p1 ≤ T.length ∧ (ok = true → zSx T p p1 x) ∧ zSc T N p ok p1 x ∧ zSr T N p ok p1 x := by
  by_cases h1 : T[p]? = some 111
  · exact zj_stO hN h1
  · by_cases h2 : T[p]? = some 100
    · exact zj_stD hN h2
    · by_cases h3 : T[p]? = some 102
      · exact zj_stF hN hT h3
      · have e1 : ¬ zYn T p = 111 ∧ ¬ zYn T p = 100 ∧ ¬ zYn T p = 102 := by
          unfold zYn
          cases hx : T[p]? with
          | none => exact ⟨by decide, by decide, by decide⟩
          | some y => exact ⟨fun e => h1 (by rw [hx]; exact congrArg some e), fun e => h2 (by rw [hx]; exact congrArg some e), fun e => h3 (by rw [hx]; exact congrArg some e)⟩
        have e2 : ¬ zSg T p = 111 ∧ ¬ zSg T p = 100 ∧ ¬ zSg T p = 102 := by
          unfold zSg
          cases hx : T[p]? with
          | none => exact ⟨by decide, by decide, by decide⟩
          | some y => exact ⟨fun e => h1 (by rw [hx]; exact congrArg some e), fun e => h2 (by rw [hx]; exact congrArg some e), fun e => h3 (by rw [hx]; exact congrArg some e)⟩
        refine ⟨false, p, (102, 0, 0, 0, []), Nat.le_refl _, hp, fun z => absurd z (by decide), fun q S hS => ?_, fun row base R hR => ?_⟩
        · obtain ⟨s1, s2⟩ := hS.sto
          obtain ⟨C, c1, c2, c3⟩ := x_expectS (ch := 59) s1
          refine ⟨C, ?_, (s2.mo (fun a k q => q.v)).tr (c2.mo (fun a k q => q.v)), fun _ => c3, fun z => absurd z (by decide)⟩
          unfold f_X7_readStatement
          rw [x_next hS.1, zB1_s, zLet_d, if_neg e1.2.1, if_neg e1.2.2, if_neg e1.1, zLet_d]
          dsimp only
          rw [c1, zB1_s]
        · refine ⟨R, ?_, zF.rf, hR, fun z => absurd z (by decide)⟩
          unfold f_X12_readsStatement
          rw [m_sg hR, zB1_s, zLet_d, if_neg e2.1, if_neg e2.2.1, if_neg e2.2.2]
          rfl
