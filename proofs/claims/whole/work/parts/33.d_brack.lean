/-! brackets, read alike -/
/-- the brackets do not open any more -/
theorem zj_deep {N p : Nat} {T : List Int32} {rc : zM → Nat → Int32 → Option zM} {rf : zM → Nat → Option (Int32 × zM)} {y : Int32} (hy : T[p]? = some y) (hc : y = 40 ∨ y = 91 ∨ y = 123) : zJo T (fun S => f_X7_readAtom N rc S 405 (nI 6)) (fun R => f_X12_readsAtom N rf R 436) 4 6 p (3 * (T.length - p) + 1) := by
  have hlt : p < T.length := (List.getElem?_eq_some_iff.mp hy).1
  have hy2 : zYn T p = y := by unfold zYn; rw [hy]
  have hy3 : zSg T p = y := by unfold zSg; rw [hy]
  refine ⟨false, p, [], Nat.le_refl _, by omega, fun z => absurd z (by decide), fun q S a hS => ?_, fun row base R hR hd => ?_, fun z => absurd z (by decide)⟩
  · obtain ⟨s1, s2⟩ := hS.sto
    refine ⟨_, ?_, s2, fun z => absurd z (by decide), fun _ => s1⟩
    dsimp only
    have hbr : ∀ v2 : Int32, zB1 (f_X7_readBrackets N rc S 405 y v2 (nI 6 + (1 : Int32))) (fun S7 => some S7) = some (zpI S 405 4 1) := by
      intro v2
      unfold f_X7_readBrackets
      rw [hS.2.1, if_pos rfl, nI_1, if_neg (show ¬ nI (6 + 1) ≤ (6 : Int32) from nI_ge (a := 6) (by omega) (by omega)), zLet_d, zB1_s]
    unfold f_X7_readAtom
    rw [x_next hS.1, hy2, zB1_s]
    rcases hc with rfl | rfl | rfl
    · exact hbr 41
    · exact hbr 93
    · exact hbr 125
  · refine ⟨R, ?_, zF.rf, hR, fun z => absurd z (by decide)⟩
    dsimp only
    unfold f_X12_readsAtom
    rw [m_sg hR, hy3, zB1_s, zLet_d, hd, if_pos (show nI 6 = (6 : Int32) by rfl)]
    rcases hc with rfl | rfl | rfl <;> rfl
/-- the reference behind an opening bracket -/
theorem m_open {N p dep row base : Nat} {T : List Int32} {R : zM} {rf : zM → Nat → Option (Int32 × zM)} {y : Int32} (hy : T[p]? = some y) (hc : y = 40 ∨ y = 91 ∨ y = 123) (hR : zTs R row base T p) (hd : zi R 436 15 = nI dep) (hdep : dep < 6) : ∃ R1 : zM, zTs R1 row base T (p + 1) ∧ zF zTw2 R R1 ∧ zi R1 436 15 = nI (dep + 1) ∧ f_X12_readsAtom N rf R 436 = zB2 (rf R1 436) (fun r20 S21 => if r20 = 0 then some (((0 : Int32), S21)) else if y = 40 then zB2 (f_X12_takes S21 436 41) (fun r36 S37 => if r36 = 0 then some (((0 : Int32), S37)) else some (((1 : Int32), zpI S37 436 15 ((zi S37 436 15) - (1 : Int32))))) else zB2 (f_X12_takes S21 436 44) (fun r51 S52 => if r51 = 0 then some (((0 : Int32), S52)) else zB2 (rf S52 436) (fun r59 S60 => if r59 = 0 then some (((0 : Int32), S60)) else zB2 (f_X12_takes S60 436 (y + 2)) (fun r36 S37 => if r36 = 0 then some (((0 : Int32), S37)) else some (((1 : Int32), zpI S37 436 15 ((zi S37 436 15) - (1 : Int32)))))))) := by
  have hlt : p < T.length := (List.getElem?_eq_some_iff.mp hy).1
  have hy3 : zSg T p = y := by unfold zSg; rw [hy]
  obtain ⟨s1, s2, s3⟩ := hR.st hlt hd
  have f2 : zF zTw2 (zpI R 436 12 (zi R 436 12 + 1)) (zpI (zpI R 436 12 (zi R 436 12 + 1)) 436 15 (zi (zpI R 436 12 (zi R 436 12 + 1)) 436 15 + 1)) := zF_pI ⟨rfl, Or.inr (Or.inl rfl)⟩
  refine ⟨_, s1.fr (f2.mo (fun a k q => q.t)) (by rw [mi_ne _ _ (by omega)]; exact s1.2.2.2.2.2.1) hlt, s2.tr f2, by rw [mi_eq, s3, nI_1], ?_⟩
  unfold f_X12_readsAtom
  rw [m_sg hR, hy3, zB1_s]
  simp only [nLet]
  rw [hd, if_neg (show ¬ nI dep = (6 : Int32) from fun z => by have := nI_inj (b := 6) z (by omega) (by omega); omega)]
  rcases hc with rfl | rfl | rfl <;> rfl
theorem zTs.up {R : zM} {row base p dep : Nat} {T : List Int32} (h : zTs R row base T p) (hd : zi R 436 15 = nI (dep + 1)) : zTs (zpI R 436 15 (zi R 436 15 - 1)) row base T p ∧ zF zTw2 R (zpI R 436 15 (zi R 436 15 - 1)) ∧ zi (zpI R 436 15 (zi R 436 15 - 1)) 436 15 = nI dep := by
  have f2 : zF zTw2 R (zpI R 436 15 (zi R 436 15 - 1)) := zF_pI ⟨rfl, Or.inr (Or.inl rfl)⟩
  exact ⟨h.fr (f2.mo (fun a k q => q.t)) (by rw [mi_ne _ _ (by omega)]; exact h.2.2.2.2.2.1) h.2.2.2.2.2.2.1, f2, by rw [mi_eq, hd, ← nI_1, Int32.add_sub_cancel]⟩
/-- the class behind an opening bracket -/
theorem x_open {N p dep q : Nat} {T : List Int32} {S : zM} {a : List Int32} {rc : zM → Nat → Int32 → Option zM} {y : Int32} (hy : T[p]? = some y) (hc : y = 40 ∨ y = 91 ∨ y = 123) (hS : zYg S q T p a) (hdep : dep < 6) : f_X7_readAtom N rc S 405 (nI dep) = zB1 (rc (zpI S 405 3 (zi S 405 3 + 1)) 405 (nI (dep + 1))) (fun S13 => if y = 40 then zB1 (f_X7_expect S13 405 41) (fun S23 => some S23) else zB1 (f_X7_expect S13 405 44) (fun S29 => if (zi S29 405 4) = 0 then zB1 (rc S29 405 (nI (dep + 1))) (fun S36 => zChk (¬ (zr S36 405 0) = 0) (zB1 (f_X6_append S36 (zr S36 405 0) (-y)) (fun S44 => zB1 (f_X7_expect S44 405 (y + 2)) (fun S23 => some S23)))) else zB1 (f_X7_expect S29 405 (y + 2)) (fun S23 => some S23))) := by
  have hy2 : zYn T p = y := by unfold zYn; rw [hy]
  have hbr : ∀ v2 : Int32, f_X7_readBrackets N rc S 405 y v2 (nI dep + (1 : Int32)) = zB1 (rc (zpI S 405 3 (zi S 405 3 + 1)) 405 (nI (dep + 1))) (fun S13 => if y = 40 then zB1 (f_X7_expect S13 405 v2) (fun S23 => some S23) else zB1 (f_X7_expect S13 405 44) (fun S29 => if (zi S29 405 4) = 0 then zB1 (rc S29 405 (nI (dep + 1))) (fun S36 => zChk (¬ (zr S36 405 0) = 0) (zB1 (f_X6_append S36 (zr S36 405 0) (-y)) (fun S44 => zB1 (f_X7_expect S44 405 v2) (fun S23 => some S23)))) else zB1 (f_X7_expect S29 405 v2) (fun S23 => some S23))) := by
    intro v2
    unfold f_X7_readBrackets
    rw [hS.2.1, if_pos rfl, nI_1, if_pos (show nI (dep + 1) ≤ (6 : Int32) from nI_le (b := 6) (by omega) (by omega)), zLet_d]
    simp only [nLet]
  have hid : ∀ o : Option zM, zB1 o (fun S7 => some S7) = o := fun o => by cases o <;> rfl
  unfold f_X7_readAtom
  rw [x_next hS.1, hy2, zB1_s]
  rcases hc with rfl | rfl | rfl
  · exact (hid _).trans (hbr 41)
  · exact (hid _).trans (hbr 93)
  · exact (hid _).trans (hbr 125)
theorem zj_par {N dep p : Nat} {T : List Int32} {rc : zM → Nat → Int32 → Option zM} {rf : zM → Nat → Option (Int32 × zM)} (hT : T.length ≤ 120) (hy : T[p]? = some 40) (hdep : dep < 6) (h0 : ∀ p1 : Nat, p < p1 → p1 ≤ T.length → zJo T (fun S => rc S 405 (nI (dep + 1))) (fun R => rf R 436) 0 (dep + 1) p1 (3 * (T.length - p1) + 3)) : zJo T (fun S => f_X7_readAtom N rc S 405 (nI dep)) (fun R => f_X12_readsAtom N rf R 436) 4 dep p (3 * (T.length - p) + 1) := by
  have hlt : p < T.length := (List.getElem?_eq_some_iff.mp hy).1
  have n10 : ¬ (1 : Int32) = 0 := by decide
  obtain ⟨ok1, p1, c1, l1, l2, l3, l4, l5, l6⟩ := h0 (p + 1) (by omega) hlt
  cases ok1 with
  | false =>
    refine ⟨false, p1, [], by omega, l2, fun z => absurd z (by decide), fun q S a hS => ?_, fun row base R hR hd => ?_, fun z => absurd z (by decide)⟩
    · obtain ⟨s1, s2⟩ := hS.step hlt
      obtain ⟨A, a1, a2, a3⟩ := l4 q _ a s1
      have a1' : rc (zpI S 405 3 (zi S 405 3 + 1)) 405 (nI (dep + 1)) = some A := a1
      obtain ⟨B, b1, b2, b3⟩ := x_expectS (ch := 41) (a3.2 rfl)
      refine ⟨B, ?_, (s2.tr a2).tr b2, fun z => absurd z (by decide), fun _ => b3⟩
      dsimp only
      rw [x_open hy (Or.inl rfl) hS hdep, a1', zB1_s, if_pos rfl, b1, zB1_s]
    · obtain ⟨R1, r1, r2, r3, r4⟩ := m_open (N := N) (rf := rf) hy (Or.inl rfl) hR hd hdep
      obtain ⟨A, a1, a2, a3, a4⟩ := l5 row base R1 r1 r3
      have a1' : rf R1 436 = some (0, A) := a1
      refine ⟨A, ?_, r2.tr a2, a3, fun z => absurd z (by decide)⟩
      dsimp only
      rw [r4, a1', zB2_s, if_pos rfl]
      rfl
  | true =>
    have hp1 := l3 rfl
    obtain ⟨g1, g2⟩ := l6 rfl
    by_cases hcl : T[p1]? = some 41
    · have hlt1 : p1 < T.length := (List.getElem?_eq_some_iff.mp hcl).1
      refine ⟨true, p1 + 1, c1, by omega, hlt1, fun _ => by omega, fun q S a hS => ?_, fun row base R hR hd => ?_, fun _ => ⟨by omega, fun e f a he1 he2 hf => ?_⟩⟩
      · obtain ⟨s1, s2⟩ := hS.step hlt
        obtain ⟨A, a1, a2, a3⟩ := l4 q _ a s1
        have a1' : rc (zpI S 405 3 (zi S 405 3 + 1)) 405 (nI (dep + 1)) = some A := a1
        obtain ⟨B, b1, b2, b3⟩ := (x_expectG (ch := 41) (a3.1 rfl)).1 hcl
        refine ⟨B, ?_, (s2.tr a2).tr b2, fun _ => b3, fun z => absurd z (by decide)⟩
        dsimp only
        rw [x_open hy (Or.inl rfl) hS hdep, a1', zB1_s, if_pos rfl, b1, zB1_s]
      · obtain ⟨R1, r1, r2, r3, r4⟩ := m_open (N := N) (rf := rf) hy (Or.inl rfl) hR hd hdep
        obtain ⟨A, a1, a2, a3, a4⟩ := l5 row base R1 r1 r3
        have a1' : rf R1 436 = some (1, A) := a1
        obtain ⟨t1, t2, t3⟩ := a3.st hlt1 (a4 rfl)
        obtain ⟨u1, u2, u3⟩ := t1.up t3
        refine ⟨_, ?_, ((r2.tr a2).tr t2).tr u2, u1, fun _ => u3⟩
        dsimp only
        rw [r4, a1', zB2_s, if_neg n10, if_pos rfl, (m_takes a3 (by decide)).1 hcl, zB2_s, if_neg n10]
        rfl
      · obtain ⟨f, rfl⟩ : ∃ i, f = i + 1 := ⟨f - 1, by omega⟩
        rw [ztk (by omega) hy, zYp4, if_pos rfl, if_neg (by omega), show 6 - dep - 1 = 6 - (dep + 1) by omega, g2 e f a (by omega) he2 (by omega)]
        show zpA 41 (a ++ c1, (T.take e).drop p1) = _
        rw [ztk (by omega) hcl]
        unfold zpA
        dsimp only
        rw [if_pos rfl]
    · refine ⟨false, p1, [], by omega, l2, fun z => absurd z (by decide), fun q S a hS => ?_, fun row base R hR hd => ?_, fun z => absurd z (by decide)⟩
      · obtain ⟨s1, s2⟩ := hS.step hlt
        obtain ⟨A, a1, a2, a3⟩ := l4 q _ a s1
        have a1' : rc (zpI S 405 3 (zi S 405 3 + 1)) 405 (nI (dep + 1)) = some A := a1
        obtain ⟨B, b1, b2, b3⟩ := (x_expectG (ch := 41) (a3.1 rfl)).2 hcl
        refine ⟨B, ?_, (s2.tr a2).tr b2, fun z => absurd z (by decide), fun _ => b3⟩
        dsimp only
        rw [x_open hy (Or.inl rfl) hS hdep, a1', zB1_s, if_pos rfl, b1, zB1_s]
      · obtain ⟨R1, r1, r2, r3, r4⟩ := m_open (N := N) (rf := rf) hy (Or.inl rfl) hR hd hdep
        obtain ⟨A, a1, a2, a3, a4⟩ := l5 row base R1 r1 r3
        have a1' : rf R1 436 = some (1, A) := a1
        refine ⟨A, ?_, r2.tr a2, a3, fun z => absurd z (by decide)⟩
        dsimp only
        rw [r4, a1', zB2_s, if_neg n10, if_pos rfl, (m_takes a3 (by decide)).2 hcl, zB2_s, if_pos rfl]
        rfl
theorem zj_brk {N dep p : Nat} {T : List Int32} {rc : zM → Nat → Int32 → Option zM} {rf : zM → Nat → Option (Int32 × zM)} {y : Int32} (hT : T.length ≤ 120) (hy : T[p]? = some y) (hc : y = 91 ∨ y = 123) (hdep : dep < 6) (h0 : ∀ p1 : Nat, p < p1 → p1 ≤ T.length → zJo T (fun S => rc S 405 (nI (dep + 1))) (fun R => rf R 436) 0 (dep + 1) p1 (3 * (T.length - p1) + 3)) : zJo T (fun S => f_X7_readAtom N rc S 405 (nI dep)) (fun R => f_X12_readsAtom N rf R 436) 4 dep p (3 * (T.length - p) + 1) := by
  have hlt : p < T.length := (List.getElem?_eq_some_iff.mp hy).1
  have n10 : ¬ (1 : Int32) = 0 := by decide
  have e40 : ¬ y = 40 := by rcases hc with rfl | rfl <;> decide
  have hc2 : ¬ (-1000 : Int32) = y + 2 := by rcases hc with rfl | rfl <;> decide
  have hneg : -y = 0 - y := (Int32.zero_sub y).symm
  obtain ⟨ok1, p1, c1, l1, l2, l3, l4, l5, l6⟩ := h0 (p + 1) (by omega) hlt
  cases ok1 with
  | false =>
    refine ⟨false, p1, [], by omega, l2, fun z => absurd z (by decide), fun q S a hS => ?_, fun row base R hR hd => ?_, fun z => absurd z (by decide)⟩
    · obtain ⟨s1, s2⟩ := hS.step hlt
      obtain ⟨A, a1, a2, a3⟩ := l4 q _ a s1
      have a1' : rc (zpI S 405 3 (zi S 405 3 + 1)) 405 (nI (dep + 1)) = some A := a1
      obtain ⟨B, b1, b2, b3⟩ := x_expectS (ch := 44) (a3.2 rfl)
      obtain ⟨C, d1, d2, d3⟩ := x_expectS (ch := y + 2) b3
      refine ⟨C, ?_, ((s2.tr a2).tr b2).tr d2, fun z => absurd z (by decide), fun _ => d3⟩
      dsimp only
      rw [x_open hy (Or.inr hc) hS hdep, a1', zB1_s, if_neg e40, b1, zB1_s, b3.2.1, if_neg n10, d1, zB1_s]
    · obtain ⟨R1, r1, r2, r3, r4⟩ := m_open (N := N) (rf := rf) hy (Or.inr hc) hR hd hdep
      obtain ⟨A, a1, a2, a3, a4⟩ := l5 row base R1 r1 r3
      have a1' : rf R1 436 = some (0, A) := a1
      refine ⟨A, ?_, r2.tr a2, a3, fun z => absurd z (by decide)⟩
      dsimp only
      rw [r4, a1', zB2_s, if_pos rfl]
      rfl
  | true =>
    have hp1 := l3 rfl
    obtain ⟨g1, g2⟩ := l6 rfl
    by_cases hcm : T[p1]? = some 44
    · have hlt1 : p1 < T.length := (List.getElem?_eq_some_iff.mp hcm).1
      obtain ⟨ok2, p2, c2, m1, m2, m3, m4, m5, m6⟩ := h0 (p1 + 1) (by omega) hlt1
      have hx : ∀ (q : Nat) (S : zM) (a : List Int32), zYg S q T p a → ∃ B C : zM, zF zYw S C ∧ zYo ok2 C q T p2 (a ++ c1 ++ c2) ∧ f_X7_readAtom N rc S 405 (nI dep) = zChk (¬ (zr C 405 0) = 0) (zB1 (f_X6_append C (zr C 405 0) (-y)) (fun S44 => zB1 (f_X7_expect S44 405 (y + 2)) (fun S23 => some S23))) := by
        intro q S a hS
        obtain ⟨s1, s2⟩ := hS.step hlt
        obtain ⟨A, a1, a2, a3⟩ := l4 q _ a s1
        have a1' : rc (zpI S 405 3 (zi S 405 3 + 1)) 405 (nI (dep + 1)) = some A := a1
        obtain ⟨B, b1, b2, b3⟩ := (x_expectG (ch := 44) (a3.1 rfl)).1 hcm
        obtain ⟨C, d1, d2, d3⟩ := m4 q B _ b3
        have d1' : rc B 405 (nI (dep + 1)) = some C := d1
        refine ⟨B, C, ((s2.tr a2).tr b2).tr d2, d3, ?_⟩
        rw [x_open hy (Or.inr hc) hS hdep, a1', zB1_s, if_neg e40, b1, zB1_s, b3.2.1, if_pos rfl, d1', zB1_s]
      have hm : ∀ (row base : Nat) (R : zM), zTs R row base T p → zi R 436 15 = nI dep → ∃ C : zM, zF zTw2 R C ∧ zTs C row base T p2 ∧ (ok2 = true → zi C 436 15 = nI (dep + 1)) ∧ f_X12_readsAtom N rf R 436 = if (if ok2 = true then (1 : Int32) else 0) = 0 then some (((0 : Int32), C)) else zB2 (f_X12_takes C 436 (y + 2)) (fun r36 S37 => if r36 = 0 then some (((0 : Int32), S37)) else some (((1 : Int32), zpI S37 436 15 ((zi S37 436 15) - (1 : Int32))))) := by
        intro row base R hR hd
        obtain ⟨R1, r1, r2, r3, r4⟩ := m_open (N := N) (rf := rf) hy (Or.inr hc) hR hd hdep
        obtain ⟨A, a1, a2, a3, a4⟩ := l5 row base R1 r1 r3
        have a1' : rf R1 436 = some (1, A) := a1
        obtain ⟨t1, t2, t3⟩ := a3.st hlt1 (a4 rfl)
        obtain ⟨C, d1, d2, d3, d4⟩ := m5 row base _ t1 t3
        have d1' : rf (zpI A 436 12 (zi A 436 12 + 1)) 436 = some (if ok2 = true then 1 else 0, C) := d1
        refine ⟨C, ((r2.tr a2).tr t2).tr d2, d3, d4, ?_⟩
        rw [r4, a1', zB2_s, if_neg n10, if_neg e40, (m_takes a3 (by decide)).1 hcm, zB2_s, if_neg n10, d1', zB2_s]
      cases ok2 with
      | false =>
        refine ⟨false, p2, [], by omega, m2, fun z => absurd z (by decide), fun q S a hS => ?_, fun row base R hR hd => ?_, fun z => absurd z (by decide)⟩
        · obtain ⟨B, C, x1, x2, x3⟩ := hx q S a hS
          have x4 := x2.2 rfl
          obtain ⟨D, d1, d2, d3⟩ := x_appS (x := -y) x4
          obtain ⟨E, e1, e2, e3⟩ := x_expectS (ch := y + 2) d3
          refine ⟨E, ?_, (x1.tr d2).tr e2, fun z => absurd z (by decide), fun _ => e3⟩
          dsimp only
          rw [x3, x4.1.1.1, zChk_t (by decide), d1, zB1_s, e1, zB1_s]
        · obtain ⟨C, x1, x2, x3, x4⟩ := hm row base R hR hd
          refine ⟨C, ?_, x1, x2, fun z => absurd z (by decide)⟩
          dsimp only
          rw [x4]
          rfl
      | true =>
        have hp2 := m3 rfl
        obtain ⟨g3, g4⟩ := m6 rfl
        by_cases hcl : T[p2]? = some (y + 2)
        · have hlt2 : p2 < T.length := (List.getElem?_eq_some_iff.mp hcl).1
          refine ⟨true, p2 + 1, c1 ++ c2 ++ [0 - y], by omega, hlt2, fun _ => by omega, fun q S a hS => ?_, fun row base R hR hd => ?_, fun _ => ⟨?_, fun e f a he1 he2 hf => ?_⟩⟩
          · obtain ⟨B, C, x1, x2, x3⟩ := hx q S a hS
            have x4 := x2.1 rfl
            have hla := hS.2.2.2
            have hlen : (a ++ c1 ++ c2).length + 1 ≤ p2 := by rw [List.length_append, List.length_append]; omega
            obtain ⟨D, d1, d2, d3⟩ := x_appG (x := -y) x4 (by omega) hlen
            obtain ⟨E, e1, e2, e3⟩ := (x_expectG (ch := y + 2) d3).1 hcl
            have el : a ++ (c1 ++ c2 ++ [0 - y]) = a ++ c1 ++ c2 ++ [-y] := by rw [hneg]; simp only [List.append_assoc]
            refine ⟨E, ?_, (x1.tr d2).tr e2, fun _ => by rw [el]; exact e3, fun z => absurd z (by decide)⟩
            dsimp only
            rw [x3, x4.1.1.1, zChk_t (by decide), d1, zB1_s, e1, zB1_s]
          · obtain ⟨C, x1, x2, x3, x4⟩ := hm row base R hR hd
            obtain ⟨t1, t2, t3⟩ := x2.st hlt2 (x3 rfl)
            obtain ⟨u1, u2, u3⟩ := t1.up t3
            refine ⟨_, ?_, (x1.tr t2).tr u2, u1, fun _ => u3⟩
            dsimp only
            rw [x4, if_pos rfl, if_neg n10, (m_takes x2 hc2).1 hcl, zB2_s, if_neg n10]
          · rw [List.length_append, List.length_append]
            show c1.length + c2.length + 1 + p ≤ p2 + 1
            omega
          · obtain ⟨f, rfl⟩ : ∃ i, f = i + 1 := ⟨f - 1, by omega⟩
            rw [ztk (by omega) hy, zYp4, if_neg e40, if_pos hc, if_neg (by omega), show 6 - dep - 1 = 6 - (dep + 1) by omega, g2 e f a (by omega) he2 (by omega)]
            show ((zpA 44 (a ++ c1, (T.take e).drop p1)).bind fun q => (zp f 0 (6 - (dep + 1)) q.1 q.2).bind fun q => zpA (y + 2) (q.1 ++ [0 - y], q.2)) = _
            have k1 : zpA 44 (a ++ c1, (T.take e).drop p1) = some (a ++ c1, (T.take e).drop (p1 + 1)) := by
              rw [ztk (by omega) hcm]
              unfold zpA
              dsimp only
              rw [if_pos rfl]
            rw [k1]
            show ((zp f 0 (6 - (dep + 1)) (a ++ c1) ((T.take e).drop (p1 + 1))).bind fun q => zpA (y + 2) (q.1 ++ [0 - y], q.2)) = _
            rw [g4 e f _ (by omega) he2 (by omega)]
            show zpA (y + 2) (a ++ c1 ++ c2 ++ [0 - y], (T.take e).drop p2) = _
            rw [ztk (by omega) hcl]
            unfold zpA
            dsimp only
            rw [if_pos rfl]
            simp only [List.append_assoc]
        · refine ⟨false, p2, [], by omega, m2, fun z => absurd z (by decide), fun q S a hS => ?_, fun row base R hR hd => ?_, fun z => absurd z (by decide)⟩
          · obtain ⟨B, C, x1, x2, x3⟩ := hx q S a hS
            have x4 := x2.1 rfl
            have hla := hS.2.2.2
            have hlen : (a ++ c1 ++ c2).length + 1 ≤ p2 := by rw [List.length_append, List.length_append]; omega
            obtain ⟨D, d1, d2, d3⟩ := x_appG (x := -y) x4 (by omega) hlen
            obtain ⟨E, e1, e2, e3⟩ := (x_expectG (ch := y + 2) d3).2 hcl
            refine ⟨E, ?_, (x1.tr d2).tr e2, fun z => absurd z (by decide), fun _ => e3⟩
            dsimp only
            rw [x3, x4.1.1.1, zChk_t (by decide), d1, zB1_s, e1, zB1_s]
          · obtain ⟨C, x1, x2, x3, x4⟩ := hm row base R hR hd
            refine ⟨C, ?_, x1, x2, fun z => absurd z (by decide)⟩
            dsimp only
            rw [x4, if_pos rfl, if_neg n10, (m_takes x2 hc2).2 hcl, zB2_s, if_pos rfl]
            rfl
    · refine ⟨false, p1, [], by omega, l2, fun z => absurd z (by decide), fun q S a hS => ?_, fun row base R hR hd => ?_, fun z => absurd z (by decide)⟩
      · obtain ⟨s1, s2⟩ := hS.step hlt
        obtain ⟨A, a1, a2, a3⟩ := l4 q _ a s1
        have a1' : rc (zpI S 405 3 (zi S 405 3 + 1)) 405 (nI (dep + 1)) = some A := a1
        obtain ⟨B, b1, b2, b3⟩ := (x_expectG (ch := 44) (a3.1 rfl)).2 hcm
        obtain ⟨C, d1, d2, d3⟩ := x_expectS (ch := y + 2) b3
        refine ⟨C, ?_, ((s2.tr a2).tr b2).tr d2, fun z => absurd z (by decide), fun _ => d3⟩
        dsimp only
        rw [x_open hy (Or.inr hc) hS hdep, a1', zB1_s, if_neg e40, b1, zB1_s, b3.2.1, if_neg n10, d1, zB1_s]
      · obtain ⟨R1, r1, r2, r3, r4⟩ := m_open (N := N) (rf := rf) hy (Or.inr hc) hR hd hdep
        obtain ⟨A, a1, a2, a3, a4⟩ := l5 row base R1 r1 r3
        have a1' : rf R1 436 = some (1, A) := a1
        refine ⟨A, ?_, r2.tr a2, a3, fun z => absurd z (by decide)⟩
        dsimp only
        rw [r4, a1', zB2_s, if_neg n10, if_neg e40, (m_takes a3 (by decide)).2 hcm, zB2_s, if_pos rfl]
        rfl
