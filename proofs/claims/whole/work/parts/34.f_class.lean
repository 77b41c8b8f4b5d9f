/-! the start: the class -/
theorem zLayS.eq {r r1 : Nat → Nat → Nat} {l l1 : Nat → Nat} {b : Nat} (h : zLayS r l b) (er : ∀ i k : Nat, i < 134 → r1 (b + i) k = r (b + i) k) (el : ∀ i : Nat, i < 134 → l1 (b + i) = l (b + i)) : zLayS r1 l1 b := by
  obtain ⟨⟨a0, a1, a2, a3, a4, a8, a9, a10, a11⟩, ⟨p1, p2, p3, p4⟩, ⟨l1, l2, l3, l4, l6, l7, l8, l9, l10, l11, l13⟩, hd⟩ := h
  have eb : ∀ k : Nat, r1 b k = r b k := fun k => er 0 k (by decide)
  refine ⟨⟨(eb 0).trans a0, (eb 1).trans a1, (eb 2).trans a2, (eb 3).trans a3, (eb 4).trans a4, (eb 8).trans a8, (eb 9).trans a9, (eb 10).trans a10, (eb 11).trans a11⟩, ⟨(er 5 0 (by decide)).trans p1, (er 5 3 (by decide)).trans p2, (er 5 5 (by decide)).trans p3, (er 12 0 (by decide)).trans p4⟩, ⟨(el 1 (by decide)).trans l1, (el 2 (by decide)).trans l2, (el 3 (by decide)).trans l3, (el 4 (by decide)).trans l4, (el 6 (by decide)).trans l6, (el 7 (by decide)).trans l7, (el 8 (by decide)).trans l8, (el 9 (by decide)).trans l9, (el 10 (by decide)).trans l10, (el 11 (by decide)).trans l11, (el 13 (by decide)).trans l13⟩, fun d hd1 => ?_⟩
  obtain ⟨d1, d2, d3, d4, d5⟩ := hd d hd1
  have e1 := er (14 + 3 * d) 0 (by clear er el eb d1 d2 d3 d4 d5; omega)
  have e2 := er (14 + 3 * d) 1 (by clear er el eb d1 d2 d3 d4 d5 e1; omega)
  have e3 := el (15 + 3 * d) (by clear er el eb d1 d2 d3 d4 d5 e1 e2; omega)
  have e4 := el (16 + 3 * d) (by clear er el eb d1 d2 d3 d4 d5 e1 e2 e3; omega)
  rw [← Nat.add_assoc] at e1 e2 e3 e4
  exact ⟨(er 10 d (by decide)).trans d1, e1.trans d2, e2.trans d3, e3.trans d4, e4.trans d5⟩
theorem zQ9.eq {S S1 : zM} {b : Nat} (h : zQ9 S b) (er : ∀ i k : Nat, i < 134 → zr S1 (b + i) k = zr S (b + i) k) (el : ∀ i : Nat, i < 134 → zln S1 (b + i) = zln S (b + i)) (ei : ∀ i k : Nat, i < 14 → zi S1 (b + i) k = zi S (b + i) k) : zQ9 S1 b := by
  obtain ⟨h1, h2, h3, h4, ⟨h5, h6, h7⟩, ⟨⟨q1, q2, q3⟩, ⟨q4, q5, q6⟩, q7, ⟨q8, q9, q10⟩, q11⟩⟩ := h
  have eb : ∀ k : Nat, zi S1 b k = zi S b k := fun k => ei 0 k (by decide)
  refine ⟨h1.eq er el, fun i hi => ⟨(ei 1 i (by decide)).trans (h2 i hi).1, (ei 2 i (by decide)).trans (h2 i hi).2⟩, fun i hi => (ei 3 i (by decide)).trans (h3 i hi), fun i hi => (ei 4 i (by decide)).trans (h4 i hi), ⟨(eb 5).trans h5, (eb 6).trans h6, (eb 7).trans h7⟩, ⟨⟨(er 5 0 (by decide)).trans q1, (er 5 3 (by decide)).trans q2, (er 5 5 (by decide)).trans q3⟩, ⟨(el 6 (by decide)).trans q4, (el 7 (by decide)).trans q5, (el 8 (by decide)).trans q6⟩, fun i hi => (ei 6 i (by decide)).trans (q7 i hi), ⟨(ei 5 1 (by decide)).trans q8, (ei 5 2 (by decide)).trans q9, (ei 5 4 (by decide)).trans q10⟩, fun i hi => by rw [show b + 5 + 2 = b + 7 from rfl, ei 7 i (by decide)]; exact q11 i hi⟩⟩
theorem zQ9.fr {S S1 : zM} {b a0 lo : Nat} (h : zQ9 S b) (f : zGw a0 lo S S1) (hz : b + 134 ≤ zsz S) (ha : a0 < b ∨ b + 134 ≤ a0) : zQ9 S1 b := by
  have hlt : ∀ i : Nat, i < 134 → b + i < zsz S := fun i hi => Nat.lt_of_lt_of_le (Nat.add_lt_add_left hi b) hz
  have hne : ∀ i : Nat, i < 134 → ¬ b + i = a0 := fun i hi q => by clear h f; omega
  exact h.eq (fun i k hi => f.r (hlt i hi) (fun q => hne i hi q.1)) (fun i hi => f.n (hlt i hi)) (fun i k hi => f.i (hlt i (Nat.lt_trans hi (by decide))) (fun q => hne i (Nat.lt_trans hi (by decide)) q.1))
theorem zQ9.pR {S : zM} {b a k v : Nat} (h : zQ9 S b) (ha : a < b) : zQ9 (zpR S a k v) b :=
  h.eq (fun i j hi => mr_ne _ _ (fun q => absurd q.1 (Nat.ne_of_gt (Nat.lt_of_lt_of_le ha (Nat.le_add_right b i))))) (fun _ _ => rfl) (fun _ _ _ => rfl)
theorem x9_ob {S : zM} {a0 k z n : Nat} {C : zM → Option zM} (e : zsz S = z) (ha : a0 < z) (hn : 42 < n) : ∃ X : zM, zLet (znw S 9 0) (fun S1 => zB1 (f_X9_init n S1 (zsz S)) (fun S8 => zLet (zpR S8 a0 k (zsz S)) C)) = C X ∧ zOb S X a0 k z 134 ∧ zQ9 X z := by
  have e9 := znw_o (t := 9) (n := 0) (S := S) e
  obtain ⟨D, x1, x2, x3, x4⟩ := x9_init (S := znw S 9 0) (b := z) (n := n) hn e9.1 (fun k => (e9.2.1 k).1)
  have o : zOld S D := ((zGw.nw (a0 := z) (lo := 0)).tr x3 (Nat.le_refl _)).old (Nat.le_of_eq e)
  refine ⟨zpR D a0 k z, ?_, zOb_of e x2 o, x4.pR ha⟩
  rw [zLet_d, e, x1, zB1_s, zLet_d]
def zQ7 (S : zM) (q : Nat) : Prop := zr S q 0 = q + 1 ∧ zQ6 S (q + 1)
theorem x7_init {S : zM} {q n : Nat} (e : zsz S = q + 1) (hn : 6 < n) : ∃ S1 : zM, f_X7_init n S q = some S1 ∧ zsz S1 = q + 6 ∧ zGw q 0 S S1 ∧ zQ7 S1 q := by
  unfold f_X7_init
  obtain ⟨A, xA, hA, qA⟩ := x6_ob (S := S) (a0 := q) (k := 0) (z := q + 1) (n := n) (C := fun S14 => zLet (znw S14 20 0) (fun S19 => zLet (zpR S19 q 1 (zsz S14)) (fun S25 => some S25))) e (Nat.lt_succ_self q) hn
  rw [xA]
  refine zal_k (P := fun o => ∃ S1 : zM, o = some S1 ∧ zsz S1 = q + 6 ∧ zGw q 0 S S1 ∧ zQ7 S1 q) (z := q + 5) hA.1 (Nat.lt_add_of_pos_right (by decide)) ?_
  intro B hB
  refine ⟨B, rfl, hB.1, hA.2.2.1.tr hB.2.2.2.2.1 (by decide), ?_, qA.fr hB.2.2.2.2.1 ?_ ?_⟩
  · exact (hB.2.2.2.2.1.r (by rw [hA.1]; exact Nat.lt_of_lt_of_le (Nat.lt_succ_self q) (Nat.le_add_right (q + 1) 4)) (fun z => absurd z.2 (by decide))).trans hA.2.1
  · rw [hA.1]; exact Nat.lt_succ_self _
  · exact fun z => absurd z.1 (Nat.not_succ_le_self q)
theorem x7_ob {S : zM} {a0 k z n : Nat} {C : zM → Option zM} (e : zsz S = z) (ha : a0 < z) (hn : 6 < n) : ∃ X : zM, zLet (znw S 7 0) (fun S1 => zB1 (f_X7_init n S1 (zsz S)) (fun S8 => zLet (zpR S8 a0 k (zsz S)) C)) = C X ∧ zOb S X a0 k z 6 ∧ zQ7 X z := by
  have e9 := znw_o (t := 7) (n := 0) (S := S) e
  obtain ⟨D, x1, x2, x3, x4⟩ := x7_init (S := znw S 7 0) (q := z) (n := n) e9.1 hn
  have o : zOld S D := ((zGw.nw (a0 := z) (lo := 0)).tr x3 (Nat.le_refl _)).old (Nat.le_of_eq e)
  refine ⟨zpR D a0 k z, ?_, zOb_of e x2 o, (mr_ne _ _ (fun q => Nat.ne_of_gt ha q.1)).trans x4.1, x4.2.pR (Nat.lt_succ_of_lt ha)⟩
  rw [zLet_d, e, x1, zB1_s, zLet_d]
def zQ4 (S : zM) (z : Nat) : Prop := (zr S z 0 = z + 1 ∧ zr S z 3 = z + 2) ∧ zln S (z + 1) = 7 ∧ zln S (z + 2) = 40
def zQ3 (S : zM) (z : Nat) : Prop := (zr S z 0 = z + 1 ∧ zr S z 3 = z + 2 ∧ zr S z 4 = z + 3 ∧ zr S z 5 = z + 4) ∧ zln S (z + 1) = 7 ∧ zln S (z + 2) = 12 ∧ zln S (z + 3) = 12 ∧ zln S (z + 4) = 72
theorem x4_ob {S : zM} {a0 k z : Nat} {C : zM → Option zM} (e : zsz S = z) (ha : a0 < z) : ∃ X : zM, zLet (znw S 4 0) (fun S1 => zLet (f_X4_init S1 (zsz S)) (fun S8 => zLet (zpR S8 a0 k (zsz S)) C)) = C X ∧ zOb S X a0 k z 3 ∧ zQ4 X z := by
  obtain ⟨D, hD, x1, x2, x3⟩ : ∃ D : zM, f_X4_init (znw S 4 0) (zsz S) = D ∧ zsz D = z + 3 ∧ zOld S D ∧ zQ4 D z := ⟨_, rfl, x4_init e⟩
  have ne : ∀ j : Nat, ¬ (z = a0 ∧ j = k) := fun j q => Nat.ne_of_gt ha q.1
  refine ⟨zpR D a0 k z, ?_, zOb_of e x1 x2, ⟨(mr_ne _ _ (ne 0)).trans x3.1.1, (mr_ne _ _ (ne 3)).trans x3.1.2⟩, x3.2⟩
  rw [zLet_d, zLet_d, zLet_d, hD, e]
theorem x3_ob {S : zM} {a0 k z : Nat} {C : zM → Option zM} (e : zsz S = z) (ha : a0 < z) : ∃ X : zM, zLet (znw S 3 0) (fun S1 => zLet (f_X3_init S1 (zsz S)) (fun S8 => zLet (zpR S8 a0 k (zsz S)) C)) = C X ∧ zOb S X a0 k z 5 ∧ zQ3 X z := by
  obtain ⟨D, hD, x1, x2, x3⟩ : ∃ D : zM, f_X3_init (znw S 3 0) (zsz S) = D ∧ zsz D = z + 5 ∧ zOld S D ∧ zQ3 D z := ⟨_, rfl, x3_init e⟩
  have ne : ∀ j : Nat, ¬ (z = a0 ∧ j = k) := fun j q => Nat.ne_of_gt ha q.1
  refine ⟨zpR D a0 k z, ?_, zOb_of e x1 x2, ⟨(mr_ne _ _ (ne 0)).trans x3.1.1, (mr_ne _ _ (ne 3)).trans x3.1.2.1, (mr_ne _ _ (ne 4)).trans x3.1.2.2.1, (mr_ne _ _ (ne 5)).trans x3.1.2.2.2⟩, x3.2⟩
  rw [zLet_d, zLet_d, zLet_d, hD, e]
theorem x10_ob {S : zM} {a0 k z : Nat} {C : zM → Option zM} (e : zsz S = z) (ha : a0 < z) : ∃ X : zM, zLet (znw S 10 0) (fun S1 => zLet (f_X10_init S1 (zsz S)) (fun S8 => zLet (zpR S8 a0 k (zsz S)) C)) = C X ∧ zOb S X a0 k z 1 := by
  have o : zOld S (znw S 10 0) := (zGw.nw (a0 := z) (lo := 0)).old (Nat.le_of_eq e)
  refine ⟨zpR (znw S 10 0) a0 k z, ?_, zOb_of e (znw_o e).1 o⟩
  rw [zLet_d, zLet_d, zLet_d, e]
  rfl
def zSv (S : zM) (d : Nat) : Prop := (zr S 404 d = 420 + 2 * d ∧ zr S (420 + 2 * d) 0 = 421 + 2 * d ∧ zln S (421 + 2 * d) = 120) ∧ zr S (420 + 2 * d) 1 = 0 ∧ ∀ k : Nat, zi S (420 + 2 * d) k = 0
theorem x8_new {S : zM} {z : Nat} (e : zsz S = z) : ∃ D : zM, f_X8_init (znw S 8 0) (zsz S) = D ∧ zsz D = z + 2 ∧ zOld S D ∧ zr D z 0 = z + 1 ∧ zln D (z + 1) = 120 ∧ zr D z 1 = 0 ∧ ∀ k : Nat, zi D z k = 0 := ⟨_, rfl, x8_init e⟩
theorem x11_shS {S : zM} {c f : Nat} {K : zM → Option zM} (e : zsz S = 420 + 2 * c) (hc : c < 8) (r3 : zr S 1 3 = 404) (l3 : zln S 404 = 8) : ∃ D : zM, f_X11_init_L92 1 K (f + 1) (nI c) S = f_X11_init_L92 1 K f (nI (c + 1)) D ∧ zsz D = 420 + 2 * c + 2 ∧ zGw 404 0 S D ∧ zSv D c ∧ ∀ d : Nat, d < c → zSv S d → zSv D d := by
  obtain ⟨D, hD, h1, h2, h3, h4, h5, h6⟩ := x8_new e
  have hlt : ∀ a : Nat, a < 420 + 2 * c → a < zsz S := fun a h => by rw [e]; exact h
  have hlD : zln D 404 = 8 := ((h2 404 (hlt _ (by clear e h1 h3 h4 h5 r3 l3; omega))).1).trans l3
  have hle : zsz S ≤ zsz D := by rw [e, h1]; exact Nat.le_add_right _ _
  have n1 : ∀ i j : Nat, ¬ (420 + 2 * i = 404 ∧ j = c) := fun i j q => by clear e h1 h3 h4 h5 r3 l3 hlD hle; omega
  refine ⟨zpR D 404 c (420 + 2 * c), ?_, h1, (h2.g hle).pR (Or.inl ⟨rfl, Nat.zero_le _⟩), ⟨⟨mr_eq _ _ _ _, ?_, ?_⟩, ?_, h6⟩, fun d hd hv => ⟨⟨?_, ?_, ?_⟩, ?_, fun k => ?_⟩⟩
  · show f_X11_init_L92b 1 K (f_X11_init_L92 1 K f) (nI c) S = _
    unfold f_X11_init_L92b
    rw [if_neg (show ¬ (8 : Int32) ≤ nI c from nI_ge (b := 8) hc (by decide)), r3, zChk_t (by decide), zLet_d, zLet_d, hD, hlD, zChk_t (zix hc (Nat.lt_trans hc (by decide))), nI_clamp (Nat.lt_trans hc (by decide)), zLet_d, nI_1, e]
  · rw [mr_ne _ _ (n1 c 0), h3]
    clear e h1 h3 h4 h5 r3 l3 hlD hle
    omega
  · have q : 421 + 2 * c = 420 + 2 * c + 1 := by clear e h1 h3 h4 h5 r3 l3 hlD hle; omega
    rw [q]
    exact h4
  · rw [mr_ne _ _ (n1 c 1)]
    exact h5
  · rw [mr_ne _ _ (fun z => Nat.ne_of_lt hd z.2)]
    exact ((h2 404 (hlt _ (by clear e h1 h3 h4 h5 r3 l3 hlD hle; omega))).2 d).1.trans hv.1.1
  · rw [mr_ne _ _ (n1 d 0)]
    exact ((h2 _ (hlt _ (by clear e h1 h3 h4 h5 r3 l3 hlD hle; omega))).2 0).1.trans hv.1.2.1
  · exact (h2 _ (hlt _ (by clear e h1 h3 h4 h5 r3 l3 hlD hle; omega))).1.trans hv.1.2.2
  · rw [mr_ne _ _ (n1 d 1)]
    exact ((h2 _ (hlt _ (by clear e h1 h3 h4 h5 r3 l3 hlD hle; omega))).2 1).1.trans hv.2.1
  · exact ((h2 _ (hlt _ (by clear e h1 h3 h4 h5 r3 l3 hlD hle; omega))).2 k).2.trans (hv.2.2 k)
theorem x11_shL {S0 : zM} {K : zM → Option zM} (e : zsz S0 = 420) (r3 : zr S0 1 3 = 404) (l3 : zln S0 404 = 8) {n : Nat} (hn : 42 < n) : ∃ S1 : zM, f_X11_init_L92 1 K n 0 S0 = K S1 ∧ zsz S1 = 436 ∧ zGw 404 0 S0 S1 ∧ ∀ d : Nat, d < 8 → zSv S1 d := by
  have h1 : 1 < zsz S0 := by rw [e]; decide
  have h404 : 404 < zsz S0 := by rw [e]; decide
  refine zloopR (fun f (s : Int32 × zM) => f_X11_init_L92 1 K f s.1 s.2) (fun c s => s.1 = nI c ∧ zsz s.2 = 420 + 2 * c ∧ zGw 404 0 S0 s.2 ∧ ∀ d : Nat, d < c → zSv s.2 d) 8 (fun o => ∃ S1 : zM, o = K S1 ∧ zsz S1 = 436 ∧ zGw 404 0 S0 S1 ∧ ∀ d : Nat, d < 8 → zSv S1 d) ?_ ?_ n (0, S0) (Nat.lt_trans (by decide) hn) ⟨rfl, e, zGw.rf, fun j hj => absurd hj (Nat.not_lt_zero _)⟩
  · rintro c f ⟨y, S⟩ hc ⟨i1, i2, i3, i4⟩
    dsimp only at i1 i2 i3 i4
    subst i1
    obtain ⟨D, d1, d2, d3, d4, d5⟩ := x11_shS (K := K) (f := f) i2 hc ((i3.r h1 (fun z => absurd z.1 (by decide))).trans r3) ((i3.n h404).trans l3)
    refine ⟨(nI (c + 1), D), ⟨rfl, d2, i3.tr d3 (Nat.le_refl _), fun d hd => ?_⟩, d1⟩
    rcases Nat.lt_or_eq_of_le (Nat.le_of_lt_succ hd) with q | q
    · exact d5 d q (i4 d q)
    · rw [q]; exact d4
  · rintro f ⟨y, S⟩ ⟨i1, i2, i3, i4⟩
    dsimp only at i1 i2 i3 i4 ⊢
    subst i1
    refine ⟨S, ?_, i2, i3, i4⟩
    show f_X11_init_L92b 1 K (f_X11_init_L92 1 K f) (nI 8) S = _
    unfold f_X11_init_L92b
    rw [if_pos (show (8 : Int32) ≤ nI 8 by decide)]
def zQ11 (S : zM) : Prop := (zQ9 S 2 ∧ zQ9 S 136 ∧ zQ9 S 270) ∧ (zr S 1 0 = 2 ∧ zr S 1 1 = 136 ∧ zr S 1 2 = 270 ∧ zr S 1 3 = 404 ∧ zr S 1 4 = 405 ∧ zr S 1 5 = 411 ∧ zr S 1 6 = 414 ∧ zr S 1 7 = 419 ∧ zln S 404 = 8) ∧ (zQ7 S 405 ∧ zQ4 S 411 ∧ zQ3 S 414) ∧ (∀ d : Nat, d < 8 → zSv S d) ∧ zi S 1 8 = 0
theorem zQ7.eq {S S1 : zM} {q : Nat} (h : zQ7 S q) (er : ∀ i k : Nat, i < 6 → zr S1 (q + i) k = zr S (q + i) k) (el : ∀ i : Nat, i < 6 → zln S1 (q + i) = zln S (q + i)) (ei : ∀ i k : Nat, i < 6 → zi S1 (q + i) k = zi S (q + i) k) : zQ7 S1 q := by
  obtain ⟨h0, ⟨⟨q1, q2, q3⟩, ⟨q4, q5, q6⟩, q7, ⟨q8, q9, q10⟩, q11⟩⟩ := h
  exact ⟨(er 0 0 (by decide)).trans h0, ⟨(er 1 0 (by decide)).trans q1, (er 1 3 (by decide)).trans q2, (er 1 5 (by decide)).trans q3⟩, ⟨(el 2 (by decide)).trans q4, (el 3 (by decide)).trans q5, (el 4 (by decide)).trans q6⟩, fun i hi => (ei 2 i (by decide)).trans (q7 i hi), ⟨(ei 1 1 (by decide)).trans q8, (ei 1 2 (by decide)).trans q9, (ei 1 4 (by decide)).trans q10⟩, fun i hi => by rw [show q + 1 + 2 = q + 3 from rfl, ei 3 i (by decide)]; exact q11 i hi⟩
theorem zQ4.eq {S S1 : zM} {q : Nat} (h : zQ4 S q) (er : ∀ k : Nat, zr S1 q k = zr S q k) (el : ∀ i : Nat, i < 3 → zln S1 (q + i) = zln S (q + i)) : zQ4 S1 q := ⟨⟨(er 0).trans h.1.1, (er 3).trans h.1.2⟩, (el 1 (by decide)).trans h.2.1, (el 2 (by decide)).trans h.2.2⟩
theorem zQ3.eq {S S1 : zM} {q : Nat} (h : zQ3 S q) (er : ∀ k : Nat, zr S1 q k = zr S q k) (el : ∀ i : Nat, i < 5 → zln S1 (q + i) = zln S (q + i)) : zQ3 S1 q := ⟨⟨(er 0).trans h.1.1, (er 3).trans h.1.2.1, (er 4).trans h.1.2.2.1, (er 5).trans h.1.2.2.2⟩, (el 1 (by decide)).trans h.2.1, (el 2 (by decide)).trans h.2.2.1, (el 3 (by decide)).trans h.2.2.2.1, (el 4 (by decide)).trans h.2.2.2.2⟩
theorem x9_k {P : Option zM → Prop} {S : zM} {a0 k z n : Nat} {C : zM → Option zM} (e : zsz S = z) (ha : a0 < z) (hn : 42 < n) (h : ∀ X : zM, zOb S X a0 k z 134 → zQ9 X z → P (C X)) : P (zLet (znw S 9 0) (fun S1 => zB1 (f_X9_init n S1 (zsz S)) (fun S8 => zLet (zpR S8 a0 k (zsz S)) C))) := by
  obtain ⟨X, x1, x2, x3⟩ := x9_ob (k := k) (C := C) e ha hn
  rw [x1]
  exact h X x2 x3
theorem x7_k {P : Option zM → Prop} {S : zM} {a0 k z n : Nat} {C : zM → Option zM} (e : zsz S = z) (ha : a0 < z) (hn : 6 < n) (h : ∀ X : zM, zOb S X a0 k z 6 → zQ7 X z → P (C X)) : P (zLet (znw S 7 0) (fun S1 => zB1 (f_X7_init n S1 (zsz S)) (fun S8 => zLet (zpR S8 a0 k (zsz S)) C))) := by
  obtain ⟨X, x1, x2, x3⟩ := x7_ob (k := k) (C := C) e ha hn
  rw [x1]
  exact h X x2 x3
theorem x4_k {P : Option zM → Prop} {S : zM} {a0 k z : Nat} {C : zM → Option zM} (e : zsz S = z) (ha : a0 < z) (h : ∀ X : zM, zOb S X a0 k z 3 → zQ4 X z → P (C X)) : P (zLet (znw S 4 0) (fun S1 => zLet (f_X4_init S1 (zsz S)) (fun S8 => zLet (zpR S8 a0 k (zsz S)) C))) := by
  obtain ⟨X, x1, x2, x3⟩ := x4_ob (k := k) (C := C) e ha
  rw [x1]
  exact h X x2 x3
theorem x3_k {P : Option zM → Prop} {S : zM} {a0 k z : Nat} {C : zM → Option zM} (e : zsz S = z) (ha : a0 < z) (h : ∀ X : zM, zOb S X a0 k z 5 → zQ3 X z → P (C X)) : P (zLet (znw S 3 0) (fun S1 => zLet (f_X3_init S1 (zsz S)) (fun S8 => zLet (zpR S8 a0 k (zsz S)) C))) := by
  obtain ⟨X, x1, x2, x3⟩ := x3_ob (k := k) (C := C) e ha
  rw [x1]
  exact h X x2 x3
theorem x10_k {P : Option zM → Prop} {S : zM} {a0 k z : Nat} {C : zM → Option zM} (e : zsz S = z) (ha : a0 < z) (h : ∀ X : zM, zOb S X a0 k z 1 → P (C X)) : P (zLet (znw S 10 0) (fun S1 => zLet (f_X10_init S1 (zsz S)) (fun S8 => zLet (zpR S8 a0 k (zsz S)) C))) := by
  obtain ⟨X, x1, x2⟩ := x10_ob (k := k) (C := C) e ha
  rw [x1]
  exact h X x2
def zP11 (o : Option zM) : Prop := ∃ S1 : zM, o = some S1 ∧ zsz S1 = 436 ∧ zQ11 S1
/-- what has been made by the time the shelves are -/
theorem x11_tail {H K : zM} (sH : zsz H = 420) (g : zGw 404 0 H K) (q1 : zQ9 H 2 ∧ zQ9 H 136 ∧ zQ9 H 270) (q2 : zr H 1 0 = 2 ∧ zr H 1 1 = 136 ∧ zr H 1 2 = 270 ∧ zr H 1 3 = 404 ∧ zr H 1 4 = 405 ∧ zr H 1 5 = 411 ∧ zr H 1 6 = 414 ∧ zr H 1 7 = 419 ∧ zln H 404 = 8) (q3 : zQ7 H 405 ∧ zQ4 H 411 ∧ zQ3 H 414) (q4 : ∀ d : Nat, d < 8 → zSv K d) (q5 : zi H 1 8 = 0) : zQ11 K := by
  have er : ∀ a k : Nat, a < 420 → ¬ a = 404 → zr K a k = zr H a k := fun a k h1 h2 => g.r (by rw [sH]; exact h1) (fun z => h2 z.1)
  have el : ∀ a : Nat, a < 420 → zln K a = zln H a := fun a h1 => g.n (by rw [sH]; exact h1)
  have ei : ∀ a k : Nat, a < 420 → ¬ a = 404 → zi K a k = zi H a k := fun a k h1 h2 => g.i (by rw [sH]; exact h1) (fun z => h2 z.1)
  have e1 : ∀ k : Nat, zr K 1 k = zr H 1 k := fun k => er 1 k (by decide) (by decide)
  obtain ⟨r0, r1, r2, r3, r4, r5, r6, r7, l3⟩ := q2
  refine ⟨⟨q1.1.fr g (by rw [sH]; decide) (by decide), q1.2.1.fr g (by rw [sH]; decide) (by decide), q1.2.2.fr g (by rw [sH]; decide) (by decide)⟩, ⟨(e1 0).trans r0, (e1 1).trans r1, (e1 2).trans r2, (e1 3).trans r3, (e1 4).trans r4, (e1 5).trans r5, (e1 6).trans r6, (e1 7).trans r7, (el 404 (by decide)).trans l3⟩, ⟨q3.1.eq (fun i k hi => er _ _ (by clear r0 r1 r2 r3 r4 r5 r6 r7 l3 q5 sH; omega) (by clear r0 r1 r2 r3 r4 r5 r6 r7 l3 q5 sH; omega)) (fun i hi => el _ (by clear r0 r1 r2 r3 r4 r5 r6 r7 l3 q5 sH; omega)) (fun i k hi => ei _ _ (by clear r0 r1 r2 r3 r4 r5 r6 r7 l3 q5 sH; omega) (by clear r0 r1 r2 r3 r4 r5 r6 r7 l3 q5 sH; omega)), q3.2.1.eq (fun k => er 411 k (by decide) (by decide)) (fun i hi => el _ (by clear r0 r1 r2 r3 r4 r5 r6 r7 l3 q5 sH; omega)), q3.2.2.eq (fun k => er 414 k (by decide) (by decide)) (fun i hi => el _ (by clear r0 r1 r2 r3 r4 r5 r6 r7 l3 q5 sH; omega))⟩, q4, (ei 1 8 (by decide) (by decide)).trans q5⟩
theorem x11_init : zP11 (f_X11_init 200 (znw zS0 11 0) 1) := by
  have e0 := znw_o (t := 11) (n := 0) (S := zS0) (z := 1) rfl
  generalize znw zS0 11 0 = S at e0 ⊢
  unfold f_X11_init
  refine x9_k (P := zP11) (z := 2) e0.1 (by decide) (by decide) ?_
  intro A hA qA
  refine x9_k (P := zP11) (z := 136) hA.1 (by decide) (by decide) ?_
  intro B hB qB
  refine x9_k (P := zP11) (z := 270) hB.1 (by decide) (by decide) ?_
  intro C hC qC
  refine zal_k (P := zP11) (z := 404) hC.1 (by decide) ?_
  intro D hD
  refine x7_k (P := zP11) (z := 405) hD.1 (by decide) (by decide) ?_
  intro E hE qE
  refine x4_k (P := zP11) (z := 411) hE.1 (by decide) ?_
  intro F hF qF
  refine x3_k (P := zP11) (z := 414) hF.1 (by decide) ?_
  intro G hG qG
  refine x10_k (P := zP11) (z := 419) hG.1 (by decide) ?_
  intro H hH
  have sA : zsz A = 136 := hA.1
  have sB : zsz B = 270 := hB.1
  have sC : zsz C = 404 := hC.1
  have sD : zsz D = 405 := hD.1
  have sE : zsz E = 411 := hE.1
  have sF : zsz F = 414 := hF.1
  have sG : zsz G = 419 := hG.1
  have sH : zsz H = 420 := hH.1
  have tG : zGw 1 7 G H := hH.2.2.1
  have tF : zGw 1 6 F H := hG.2.2.1.tr tG (by decide)
  have tE : zGw 1 5 E H := hF.2.2.1.tr tF (by decide)
  have tD : zGw 1 4 D H := hE.2.2.1.tr tE (by decide)
  have tC : zGw 1 3 C H := hD.2.2.2.2.1.tr tD (by decide)
  have tB : zGw 1 2 B H := hC.2.2.1.tr tC (by decide)
  have tA : zGw 1 1 A H := hB.2.2.1.tr tB (by decide)
  have r0 : zr H 1 0 = 2 := (tA.r (by rw [sA]; decide) (by decide)).trans hA.2.1
  have r1 : zr H 1 1 = 136 := (tB.r (by rw [sB]; decide) (by decide)).trans hB.2.1
  have r2 : zr H 1 2 = 270 := (tC.r (by rw [sC]; decide) (by decide)).trans hC.2.1
  have r3 : zr H 1 3 = 404 := (tD.r (by rw [sD]; decide) (by decide)).trans hD.2.1
  have l3 : zln H 404 = 8 := (tD.n (by rw [sD]; decide)).trans hD.2.2.1
  have r4 : zr H 1 4 = 405 := (tE.r (by rw [sE]; decide) (by decide)).trans hE.2.1
  have r5 : zr H 1 5 = 411 := (tF.r (by rw [sF]; decide) (by decide)).trans hF.2.1
  have r6 : zr H 1 6 = 414 := (tG.r (by rw [sG]; decide) (by decide)).trans hG.2.1
  have r7 : zr H 1 7 = 419 := hH.2.1
  have i18 : zi H 1 8 = 0 := by
    rw [hH.2.2.2 1 8 (by decide), hG.2.2.2 1 8 (by decide), hF.2.2.2 1 8 (by decide), hE.2.2.2 1 8 (by decide), hD.2.2.2.2.2 1 8 (by decide), hC.2.2.2 1 8 (by decide), hB.2.2.2 1 8 (by decide), hA.2.2.2 1 8 (by decide)]
    exact (e0.2.1 8).1
  have gE : ∀ i : Nat, i < 6 → 405 + i < zsz E := fun i hi => by rw [sE]; clear r0 r1 r2 r3 l3 r4 r5 r6 r7 i18 sA sB sC sD sE sF sG sH; omega
  have gF : ∀ i : Nat, i < 3 → 411 + i < zsz F := fun i hi => by rw [sF]; clear r0 r1 r2 r3 l3 r4 r5 r6 r7 i18 sA sB sC sD sE sF sG sH gE; omega
  have gG : ∀ i : Nat, i < 5 → 414 + i < zsz G := fun i hi => by rw [sG]; clear r0 r1 r2 r3 l3 r4 r5 r6 r7 i18 sA sB sC sD sE sF sG sH gE gF; omega
  have q7 : zQ7 H 405 := qE.eq (fun i k hi => tE.r (gE i hi) (fun z => absurd z.1 (by clear r0 r1 r2 r3 l3 r4 r5 r6 r7 i18 sA sB sC sD sE sF sG sH gE gF gG z; omega))) (fun i hi => tE.n (gE i hi)) (fun i k hi => tE.i (gE i hi) (fun z => absurd z.1 (by clear r0 r1 r2 r3 l3 r4 r5 r6 r7 i18 sA sB sC sD sE sF sG sH gE gF gG z; omega)))
  have q4 : zQ4 H 411 := qF.eq (fun k => tF.r (gF 0 (by decide)) (fun z => absurd z.1 (by decide))) (fun i hi => tF.n (gF i hi))
  have q3 : zQ3 H 414 := qG.eq (fun k => tG.r (gG 0 (by decide)) (fun z => absurd z.1 (by decide))) (fun i hi => tG.n (gG i hi))
  obtain ⟨K, k1, k2, k3, k4⟩ := x11_shL (S0 := H) (K := fun S138 => some S138) sH r3 l3 (n := 200) (by decide)
  rw [zLet_d, k1]
  exact ⟨K, rfl, k2, x11_tail sH k3 ⟨qA.fr tA (Nat.le_of_eq sA.symm) (by decide), qB.fr tB (Nat.le_of_eq sB.symm) (by decide), qC.fr tC (Nat.le_of_eq sC.symm) (by decide)⟩ ⟨r0, r1, r2, r3, r4, r5, r6, r7, l3⟩ ⟨q7, q4, q3⟩ k4 i18⟩
