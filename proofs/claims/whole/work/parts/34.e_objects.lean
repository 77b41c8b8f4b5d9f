/-! the start: objects told to fields -/
/-- an object of m cells at z, told to a field k of a0 -/
def zOb (S X : zM) (a0 k z m : Nat) : Prop := zsz X = z + m ∧ zr X a0 k = z ∧ zGw a0 k S X ∧ ∀ a j : Nat, a < z → zi X a j = zi S a j
theorem zOb_of {S D : zM} {a0 k z m : Nat} (e : zsz S = z) (h1 : zsz D = z + m) (h2 : zOld S D) : zOb S (zpR D a0 k z) a0 k z m := by
  refine ⟨h1, mr_eq _ _ _ _, (h2.g (by rw [e, h1]; exact Nat.le_add_right _ _)).pR (Or.inl ⟨rfl, Nat.le_refl _⟩), fun a j h => ((h2 a (by rw [e]; exact h)).2 j).2⟩
theorem zQ6.pR {S : zM} {q a k v : Nat} (h : zQ6 S q) (ha : a < q) : zQ6 (zpR S a k v) q := by
  obtain ⟨⟨h1, h2, h3⟩, h4, h5⟩ := h
  exact ⟨⟨by rw [mr_ne _ _ (fun z => by clear h1 h2 h3; omega)]; exact h1, by rw [mr_ne _ _ (fun z => by clear h1 h2 h3; omega)]; exact h2, by rw [mr_ne _ _ (fun z => by clear h1 h2 h3; omega)]; exact h3⟩, h4, h5⟩
theorem x6_ob {S : zM} {a0 k z n : Nat} {C : zM → Option zM} (e : zsz S = z) (ha : a0 < z) (hn : 6 < n) : ∃ X : zM, zLet (znw S 6 0) (fun S45 => zB1 (f_X6_init n S45 (zsz S)) (fun S52 => zLet (zpR S52 a0 k (zsz S)) C)) = C X ∧ zOb S X a0 k z 4 ∧ zQ6 X z := by
  have e45 := znw_o (t := 6) (n := 0) (S := S) e
  obtain ⟨D, x1, x2, x3, x4⟩ := x6_init (S := znw S 6 0) (q := z) (n := n) e45.1 (e45.2.1 4).1 hn
  have o : zOld S D := ((zGw.nw (a0 := z) (lo := 0)).tr x3 (Nat.le_refl _)).old (Nat.le_of_eq e)
  refine ⟨zpR D a0 k z, ?_, zOb_of e x2 o, x4.pR ha⟩
  rw [zLet_d, e, x1, zB1_s, zLet_d]
theorem x5_new {S : zM} {z : Nat} (e : zsz S = z) : ∃ D : zM, f_X5_init (znw S 5 0) (zsz S) = D ∧ zsz D = z + 2 ∧ zOld S D ∧ zr D z 0 = z + 1 ∧ zln D (z + 1) = 7 := by
  obtain ⟨h1, h2, h3, h4⟩ := x5_init e
  exact ⟨_, rfl, h1, h2, h3, h4⟩
theorem x5_ob {S : zM} {a0 k z : Nat} {C : zM → Option zM} (e : zsz S = z) (ha : a0 < z) : ∃ X : zM, zLet (znw S 5 0) (fun S96 => zLet (f_X5_init S96 (zsz S)) (fun S103 => zLet (zpR S103 a0 k (zsz S)) C)) = C X ∧ zOb S X a0 k z 2 ∧ zr X z 0 = z + 1 ∧ zln X (z + 1) = 7 := by
  obtain ⟨D, hD, x1, x2, x3, x4⟩ := x5_new e
  refine ⟨zpR D a0 k z, ?_, zOb_of e x1 x2, ?_, x4⟩
  · rw [zLet_d, zLet_d, zLet_d, hD, e]
  · rw [mr_ne _ _ (fun q => Nat.ne_of_gt ha q.1)]
    exact x3
theorem x9_init {S : zM} {b n : Nat} (hn : 42 < n) (e : zsz S = b + 1) (h0 : ∀ k : Nat, zi S b k = 0) : zP9 S b (f_X9_init n S b) := by
  have lb : ∀ i : Nat, b < b + (i + 1) := fun i => Nat.lt_add_of_pos_right (Nat.succ_pos i)
  have lt : ∀ i j : Nat, i < j → b + i < b + j := fun i j h => Nat.add_lt_add_left h b
  have nk : ∀ i k : Nat, ¬ (b + (i + 1) = b ∧ k ≤ 0) := fun i k q => absurd q.1 (Nat.ne_of_gt (lb i))
  unfold f_X9_init
  refine zal_k (P := zP9 S b) (z := b + 1) e (lb 0) ?_
  intro A hA
  refine zal_k (P := zP9 S b) (z := b + 2) hA.1 (lb 1) ?_
  intro B hB
  refine zal_k (P := zP9 S b) (z := b + 3) hB.1 (lb 2) ?_
  intro C hC
  refine zal_k (P := zP9 S b) (z := b + 4) hC.1 (lb 3) ?_
  intro D hD
  obtain ⟨E, xE, hE, qE⟩ := x6_ob (S := D) (a0 := b) (k := 4) (z := b + 5) (n := n) (C := fun S58 => zLet (znw S58 24 12) (fun S63 => zLet (zpR S63 b 8 (zsz S58)) (fun S69 => zLet (znw S69 23 40) (fun S74 => zLet (zpR S74 b 9 (zsz S69)) (fun S80 => zLet (znw S80 21 8) (fun S85 => zLet (zpR S85 b 10 (zsz S80)) (fun S91 => zLet (znw S91 5 0) (fun S96 => zLet (f_X5_init S96 (zsz S91)) (fun S103 => zLet (zpR S103 b 11 (zsz S91)) (fun S109 => zLet (fun (S115 : zM) => zLet (fun (S118 : zM) => some S118) (fun K120 => f_X9_init_L107 b K120 n (0 : Int32) S115)) (fun K117 => f_X9_init_L86 b K117 n (0 : Int32) S109))))))))))) hD.1 (lb 4) (Nat.lt_trans (by decide) hn)
  rw [xE]
  refine zal_k (P := zP9 S b) (z := b + 9) hE.1 (lb 8) ?_
  intro F hF
  refine zal_k (P := zP9 S b) (z := b + 10) hF.1 (lb 9) ?_
  intro G hG
  refine zal_k (P := zP9 S b) (z := b + 11) hG.1 (lb 10) ?_
  intro H hH
  obtain ⟨J, xJ, hJ, rJ, lJ⟩ := x5_ob (S := H) (a0 := b) (k := 11) (z := b + 12) (C := fun S109 => zLet (fun (S115 : zM) => zLet (fun (S118 : zM) => some S118) (fun K120 => f_X9_init_L107 b K120 n (0 : Int32) S115)) (fun K117 => f_X9_init_L86 b K117 n (0 : Int32) S109)) hH.1 (lb 11)
  rw [xJ, zLet_d]
  have tH : zGw b 11 H J := hJ.2.2.1
  have tG : zGw b 10 G J := hH.2.2.2.2.1.tr tH (by decide)
  have tF : zGw b 9 F J := hG.2.2.2.2.1.tr tG (by decide)
  have tE : zGw b 8 E J := hF.2.2.2.2.1.tr tF (by decide)
  have tD : zGw b 4 D J := hE.2.2.1.tr tE (by decide)
  have tC : zGw b 3 C J := hD.2.2.2.2.1.tr tD (by decide)
  have tB : zGw b 2 B J := hC.2.2.2.2.1.tr tC (by decide)
  have tA : zGw b 1 A J := hB.2.2.2.2.1.tr tB (by decide)
  have tS : zGw b 0 S J := hA.2.2.2.2.1.tr tA (by decide)
  have kH : ∀ a k : Nat, a < b + 12 → zi J a k = zi H a k := hJ.2.2.2
  have kG : ∀ a k : Nat, a < b + 11 → zi J a k = zi G a k := fun a k h => (kH a k (Nat.lt_trans h (lt 11 12 (by decide)))).trans (hH.2.2.2.2.2 a k h)
  have kF : ∀ a k : Nat, a < b + 10 → zi J a k = zi F a k := fun a k h => (kG a k (Nat.lt_trans h (lt 10 11 (by decide)))).trans (hG.2.2.2.2.2 a k h)
  have kE : ∀ a k : Nat, a < b + 9 → zi J a k = zi E a k := fun a k h => (kF a k (Nat.lt_trans h (lt 9 10 (by decide)))).trans (hF.2.2.2.2.2 a k h)
  have kD : ∀ a k : Nat, a < b + 5 → zi J a k = zi D a k := fun a k h => (kE a k (Nat.lt_trans h (lt 5 9 (by decide)))).trans (hE.2.2.2 a k h)
  have kC : ∀ a k : Nat, a < b + 4 → zi J a k = zi C a k := fun a k h => (kD a k (Nat.lt_trans h (lt 4 5 (by decide)))).trans (hD.2.2.2.2.2 a k h)
  have kB : ∀ a k : Nat, a < b + 3 → zi J a k = zi B a k := fun a k h => (kC a k (Nat.lt_trans h (lt 3 4 (by decide)))).trans (hC.2.2.2.2.2 a k h)
  have kA : ∀ a k : Nat, a < b + 2 → zi J a k = zi A a k := fun a k h => (kB a k (Nat.lt_trans h (lt 2 3 (by decide)))).trans (hB.2.2.2.2.2 a k h)
  have kS : ∀ k : Nat, zi J b k = 0 := fun k => ((kA b k (lb 1)).trans (hA.2.2.2.2.2 b k (lb 0))).trans (h0 k)
  have sA : zsz A = b + 2 := hA.1
  have sB : zsz B = b + 3 := hB.1
  have sC : zsz C = b + 4 := hC.1
  have sD : zsz D = b + 5 := hD.1
  have sE : zsz E = b + 9 := hE.1
  have sF : zsz F = b + 10 := hF.1
  have sG : zsz G = b + 11 := hG.1
  have sH : zsz H = b + 12 := hH.1
  have hHr : zHr J b := ⟨(tA.r (by rw [sA]; exact lb 1) (fun q => absurd q.2 (by decide))).trans hA.2.1, (tB.r (by rw [sB]; exact lb 2) (fun q => absurd q.2 (by decide))).trans hB.2.1, (tC.r (by rw [sC]; exact lb 3) (fun q => absurd q.2 (by decide))).trans hC.2.1, (tD.r (by rw [sD]; exact lb 4) (fun q => absurd q.2 (by decide))).trans hD.2.1, (tE.r (by rw [sE]; exact lb 8) (fun q => absurd q.2 (by decide))).trans hE.2.1, (tF.r (by rw [sF]; exact lb 9) (fun q => absurd q.2 (by decide))).trans hF.2.1, (tG.r (by rw [sG]; exact lb 10) (fun q => absurd q.2 (by decide))).trans hG.2.1, (tH.r (by rw [sH]; exact lb 11) (fun q => absurd q.2 (by decide))).trans hH.2.1, hJ.2.1⟩
  have hHl : zHl J b := ⟨(tA.n (by rw [sA]; exact lt 1 2 (by decide))).trans hA.2.2.1, (tB.n (by rw [sB]; exact lt 2 3 (by decide))).trans hB.2.2.1, (tC.n (by rw [sC]; exact lt 3 4 (by decide))).trans hC.2.2.1, (tD.n (by rw [sD]; exact lt 4 5 (by decide))).trans hD.2.2.1, (tF.n (by rw [sF]; exact lt 9 10 (by decide))).trans hF.2.2.1, (tG.n (by rw [sG]; exact lt 10 11 (by decide))).trans hG.2.2.1, (tH.n (by rw [sH]; exact lt 11 12 (by decide))).trans hH.2.2.1, lJ⟩
  have hH0 : zH0 J b := ⟨fun i => ⟨(kA _ i (lt 1 2 (by decide))).trans (hA.2.2.2.1 i).1, (kB _ i (lt 2 3 (by decide))).trans (hB.2.2.2.1 i).1⟩, fun i => (kC _ i (lt 3 4 (by decide))).trans (hC.2.2.2.1 i).1, kS⟩
  have q6 : zQ6 J (b + 5) := qE.fr tE (by rw [sE]; exact lt 8 9 (by decide)) (fun q => absurd q.1 (Nat.not_le_of_lt (lb 4)))
  exact x9_tail hn e hJ.1 tS hHr rJ hHl hH0 q6
