/-! the start: the reference, all of it -/
theorem x12_tail {S Q Z : zM} (sS : zsz S = 437) (sQ : zsz Q = 452) (g : zGw 436 0 S Q) (f : zF (fun a _ => a = 437) Q Z) (hr : zR436 Q) (hl : zL436 Q) (h0 : ∀ k : Nat, zi Z 437 k = zR0 k) (h9 : ∀ k : Nat, zi Q 439 k = 0) (h8 : zi Q 436 8 = 0) (h33 : zi Q 436 33 = 0) : zsz Z = 452 ∧ zGw 436 0 S Z ∧ zQ12 Z := by
  refine ⟨f.s.trans sQ, g.f f (fun a k h => by rw [sS]; exact Nat.le_of_eq h.symm), ?_, ?_, h0, fun k => (f.i (by decide)).trans (h9 k), (f.i (by decide)).trans h8, (f.i (by decide)).trans h33⟩
  · unfold zR436
    rw [f.r]
    exact hr
  · unfold zL436
    rw [f.n]
    exact hl
theorem x12_init {S : zM} (e : zsz S = 437) (h0 : ∀ k : Nat, zi S 436 k = 0) : zP12 S (f_X12_init 200 S 436) := by
  unfold f_X12_init
  refine zal_k (P := zP12 S) (z := 437) e (by decide) ?_
  intro A hA
  refine zal_k (P := zP12 S) (z := 438) hA.1 (by decide) ?_
  intro B hB
  refine zal_k (P := zP12 S) (z := 439) hB.1 (by decide) ?_
  intro C hC
  refine zal_k (P := zP12 S) (z := 440) hC.1 (by decide) ?_
  intro D hD
  refine zal_k (P := zP12 S) (z := 441) hD.1 (by decide) ?_
  intro E hE
  refine zal_k (P := zP12 S) (z := 442) hE.1 (by decide) ?_
  intro F hF
  refine zal_k (P := zP12 S) (z := 443) hF.1 (by decide) ?_
  intro G hG
  refine zal_k (P := zP12 S) (z := 444) hG.1 (by decide) ?_
  intro H hH
  refine zal_k (P := zP12 S) (z := 445) hH.1 (by decide) ?_
  intro I hI
  rw [zLet_d, zLet_d, zLet_d]
  have gJ : zGw 436 17 I (zpI (zpI (zpR I 436 17 (zr I 436 5)) 436 29 (-1)) 436 34 (-1)) := ((zGw.rf.pR (Or.inl ⟨rfl, by decide⟩)).pI (Or.inl ⟨rfl, by decide⟩)).pI (Or.inl ⟨rfl, by decide⟩)
  have iJ : ∀ a k : Nat, ¬ (a = 436 ∧ (k = 29 ∨ k = 34)) → zi (zpI (zpI (zpR I 436 17 (zr I 436 5)) 436 29 (-1)) 436 34 (-1)) a k = zi I a k := fun a k h => by
    rw [mi_ne _ _ (fun q => h ⟨q.1, Or.inr q.2⟩), mi_ne _ _ (fun q => h ⟨q.1, Or.inl q.2⟩)]
    rfl
  have sJ : zsz (zpI (zpI (zpR I 436 17 (zr I 436 5)) 436 29 (-1)) 436 34 (-1)) = 446 := hI.1
  generalize zpI (zpI (zpR I 436 17 (zr I 436 5)) 436 29 (-1)) 436 34 (-1) = J at gJ iJ sJ ⊢
  refine zal_k (P := zP12 S) (z := 446) sJ (by decide) ?_
  intro K hK
  refine zal_k (P := zP12 S) (z := 447) hK.1 (by decide) ?_
  intro L hL
  refine zal_k (P := zP12 S) (z := 448) hL.1 (by decide) ?_
  intro M hM
  refine zal_k (P := zP12 S) (z := 449) hM.1 (by decide) ?_
  intro N hN
  refine zal_k (P := zP12 S) (z := 450) hN.1 (by decide) ?_
  intro O hO
  refine zal_k (P := zP12 S) (z := 451) hO.1 (by decide) ?_
  intro Q hQ
  have sA : zsz A = 438 := hA.1
  have sB : zsz B = 439 := hB.1
  have sC : zsz C = 440 := hC.1
  have sD : zsz D = 441 := hD.1
  have sE : zsz E = 442 := hE.1
  have sF : zsz F = 443 := hF.1
  have sG : zsz G = 444 := hG.1
  have sH : zsz H = 445 := hH.1
  have sI : zsz I = 446 := hI.1
  have sK : zsz K = 447 := hK.1
  have sL : zsz L = 448 := hL.1
  have sM : zsz M = 449 := hM.1
  have sN : zsz N = 450 := hN.1
  have sO : zsz O = 451 := hO.1
  have sQ : zsz Q = 452 := hQ.1
  have tO : zGw 436 49 O Q := hQ.2.2.2.2.1
  have tN : zGw 436 45 N Q := hO.2.2.2.2.1.tr tO (by decide)
  have tM : zGw 436 44 M Q := hN.2.2.2.2.1.tr tN (by decide)
  have tL : zGw 436 41 L Q := hM.2.2.2.2.1.tr tM (by decide)
  have tK : zGw 436 40 K Q := hL.2.2.2.2.1.tr tL (by decide)
  have tJ : zGw 436 39 J Q := hK.2.2.2.2.1.tr tK (by decide)
  have tI : zGw 436 17 I Q := gJ.tr tJ (by decide)
  have tH : zGw 436 10 H Q := hI.2.2.2.2.1.tr tI (by decide)
  have tG : zGw 436 7 G Q := hH.2.2.2.2.1.tr tH (by decide)
  have tF : zGw 436 6 F Q := hG.2.2.2.2.1.tr tG (by decide)
  have tE : zGw 436 5 E Q := hF.2.2.2.2.1.tr tF (by decide)
  have tD : zGw 436 4 D Q := hE.2.2.2.2.1.tr tE (by decide)
  have tC : zGw 436 3 C Q := hD.2.2.2.2.1.tr tD (by decide)
  have tB : zGw 436 2 B Q := hC.2.2.2.2.1.tr tC (by decide)
  have tA : zGw 436 1 A Q := hB.2.2.2.2.1.tr tB (by decide)
  have tS : zGw 436 0 S Q := hA.2.2.2.2.1.tr tA (by decide)
  have hr : zR436 Q := ⟨(tA.r (by rw [sA]; decide) (by decide)).trans hA.2.1, (tB.r (by rw [sB]; decide) (by decide)).trans hB.2.1, (tC.r (by rw [sC]; decide) (by decide)).trans hC.2.1, (tD.r (by rw [sD]; decide) (by decide)).trans hD.2.1, (tE.r (by rw [sE]; decide) (by decide)).trans hE.2.1, (tF.r (by rw [sF]; decide) (by decide)).trans hF.2.1, (tG.r (by rw [sG]; decide) (by decide)).trans hG.2.1, (tH.r (by rw [sH]; decide) (by decide)).trans hH.2.1, (tI.r (by rw [sI]; decide) (by decide)).trans hI.2.1, (tK.r (by rw [sK]; decide) (by decide)).trans hK.2.1, (tL.r (by rw [sL]; decide) (by decide)).trans hL.2.1, (tM.r (by rw [sM]; decide) (by decide)).trans hM.2.1, (tN.r (by rw [sN]; decide) (by decide)).trans hN.2.1, (tO.r (by rw [sO]; decide) (by decide)).trans hO.2.1, hQ.2.1⟩
  have hl : zL436 Q := ⟨(tA.n (by rw [sA]; decide)).trans hA.2.2.1, (tB.n (by rw [sB]; decide)).trans hB.2.2.1, (tC.n (by rw [sC]; decide)).trans hC.2.2.1, (tD.n (by rw [sD]; decide)).trans hD.2.2.1, (tE.n (by rw [sE]; decide)).trans hE.2.2.1, (tF.n (by rw [sF]; decide)).trans hF.2.2.1, (tG.n (by rw [sG]; decide)).trans hG.2.2.1, (tH.n (by rw [sH]; decide)).trans hH.2.2.1, (tI.n (by rw [sI]; decide)).trans hI.2.2.1, (tK.n (by rw [sK]; decide)).trans hK.2.2.1, (tL.n (by rw [sL]; decide)).trans hL.2.2.1, (tM.n (by rw [sM]; decide)).trans hM.2.2.1, (tN.n (by rw [sN]; decide)).trans hN.2.2.1, (tO.n (by rw [sO]; decide)).trans hO.2.2.1, hQ.2.2.1⟩
  have kJ : ∀ a k : Nat, a < 446 → zi Q a k = zi J a k := fun a k h => by
    rw [hQ.2.2.2.2.2 a k (Nat.lt_trans h (by decide)), hO.2.2.2.2.2 a k (Nat.lt_trans h (by decide)), hN.2.2.2.2.2 a k (Nat.lt_trans h (by decide)), hM.2.2.2.2.2 a k (Nat.lt_trans h (by decide)), hL.2.2.2.2.2 a k (Nat.lt_trans h (by decide)), hK.2.2.2.2.2 a k h]
  have kC : ∀ a k : Nat, a < 440 → ¬ a = 436 → zi Q a k = zi C a k := fun a k h h2 => by
    rw [kJ a k (Nat.lt_trans h (by decide)), iJ a k (fun q => h2 q.1), hI.2.2.2.2.2 a k (Nat.lt_trans h (by decide)), hH.2.2.2.2.2 a k (Nat.lt_trans h (by decide)), hG.2.2.2.2.2 a k (Nat.lt_trans h (by decide)), hF.2.2.2.2.2 a k (Nat.lt_trans h (by decide)), hE.2.2.2.2.2 a k (Nat.lt_trans h (by decide)), hD.2.2.2.2.2 a k h]
  have kS : ∀ k : Nat, ¬ (k = 29 ∨ k = 34) → zi Q 436 k = 0 := fun k h => by
    rw [kJ 436 k (by decide), iJ 436 k (fun q => h q.2), hI.2.2.2.2.2 436 k (by decide), hH.2.2.2.2.2 436 k (by decide), hG.2.2.2.2.2 436 k (by decide), hF.2.2.2.2.2 436 k (by decide), hE.2.2.2.2.2 436 k (by decide), hD.2.2.2.2.2 436 k (by decide), hC.2.2.2.2.2 436 k (by decide), hB.2.2.2.2.2 436 k (by decide), hA.2.2.2.2.2 436 k (by decide)]
    exact h0 k
  have z9 : ∀ k : Nat, zi Q 439 k = 0 := fun k => (kC 439 k (by decide) (by decide)).trans (hC.2.2.2.1 k).1
  have z7 : ∀ k : Nat, zi Q 437 k = 0 := fun k => by
    rw [kC 437 k (by decide) (by decide), hC.2.2.2.2.2 437 k (by decide), hB.2.2.2.2.2 437 k (by decide)]
    exact (hA.2.2.2.1 k).1
  rw [zLet_d]
  obtain ⟨R, r1, r2, r3⟩ := m12_loop (S0 := Q) (K := fun S183 => zChk (¬ (zr S183 436 0) = 0) (zChk (¬ ((878 : Int32) < 0 ∨ zln S183 (zr S183 436 0) ≤ ((878 : Int32)).toNatClampNeg)) (zLet (zpI S183 (zr S183 436 0) (Int32.toNatClampNeg (878 : Int32)) (1 : Int32)) (fun S189 => zChk (¬ (zr S189 436 0) = 0) (zChk (¬ ((879 : Int32) < 0 ∨ zln S189 (zr S189 436 0) ≤ ((879 : Int32)).toNatClampNeg)) (zLet (zpI S189 (zr S189 436 0) (Int32.toNatClampNeg (879 : Int32)) (1 : Int32)) (fun S197 => zChk (¬ (zr S197 436 0) = 0) (zChk (¬ ((880 : Int32) < 0 ∨ zln S197 (zr S197 436 0) ≤ ((880 : Int32)).toNatClampNeg)) (zLet (zpI S197 (zr S197 436 0) (Int32.toNatClampNeg (880 : Int32)) (115 : Int32)) (fun S205 => zChk (¬ (zr S205 436 0) = 0) (zChk (¬ ((881 : Int32) < 0 ∨ zln S205 (zr S205 436 0) ≤ ((881 : Int32)).toNatClampNeg)) (zLet (zpI S205 (zr S205 436 0) (Int32.toNatClampNeg (881 : Int32)) (42 : Int32)) (fun S213 => zChk (¬ (zr S213 436 0) = 0) (zChk (¬ ((882 : Int32) < 0 ∨ zln S213 (zr S213 436 0) ≤ ((882 : Int32)).toNatClampNeg)) (zLet (zpI S213 (zr S213 436 0) (Int32.toNatClampNeg (882 : Int32)) (104 : Int32)) (fun S221 => zChk (¬ (zr S221 436 0) = 0) (zChk (¬ ((883 : Int32) < 0 ∨ zln S221 (zr S221 436 0) ≤ ((883 : Int32)).toNatClampNeg)) (zLet (zpI S221 (zr S221 436 0) (Int32.toNatClampNeg (883 : Int32)) (47 : Int32)) (fun S229 => zChk (¬ (zr S229 436 0) = 0) (zChk (¬ ((884 : Int32) < 0 ∨ zln S229 (zr S229 436 0) ≤ ((884 : Int32)).toNatClampNeg)) (zLet (zpI S229 (zr S229 436 0) (Int32.toNatClampNeg (884 : Int32)) (49 : Int32)) (fun S237 => zChk (¬ (zr S237 436 0) = 0) (zChk (¬ ((885 : Int32) < 0 ∨ zln S237 (zr S237 436 0) ≤ ((885 : Int32)).toNatClampNeg)) (zLet (zpI S237 (zr S237 436 0) (Int32.toNatClampNeg (885 : Int32)) (48 : Int32)) (fun S245 => zChk (¬ (zr S245 436 0) = 0) (zChk (¬ ((1000 : Int32) < 0 ∨ zln S245 (zr S245 436 0) ≤ ((1000 : Int32)).toNatClampNeg)) (zLet (zpI S245 (zr S245 436 0) (Int32.toNatClampNeg (1000 : Int32)) (6 : Int32)) (fun S253 => some S253)))))))))))))))))))))))))))) hr.1 hl.1 z7 (n := 200) (by decide)
  obtain ⟨Z, y1, y2, y3⟩ := m12_row (S := S) (n := 0) rfl r2 hr.1 hl.1 r3
  rw [r1]
  exact ⟨Z, y1, x12_tail e sQ tS y2 hr hl y3 z9 (kS 8 (by decide)) (kS 33 (by decide))⟩
