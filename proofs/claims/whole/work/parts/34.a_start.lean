/-! the start: what the constructors make -/
/-- a memory that has grown: of what was there only the places of a0 from lo on may be others -/
def zGw (a0 lo : Nat) (S S1 : zM) : Prop := zsz S ≤ zsz S1 ∧ (∀ a : Nat, a < zsz S → zln S1 a = zln S a) ∧ ∀ a k : Nat, a < zsz S → ¬ (a = a0 ∧ lo ≤ k) → zr S1 a k = zr S a k ∧ zi S1 a k = zi S a k
theorem zGw.rf {a0 lo : Nat} {S : zM} : zGw a0 lo S S := ⟨Nat.le_refl _, fun _ _ => rfl, fun _ _ _ _ => ⟨rfl, rfl⟩⟩
theorem zGw.tr {a0 lo lo1 : Nat} {S S1 S2 : zM} (h : zGw a0 lo S S1) (h2 : zGw a0 lo1 S1 S2) (hl : lo ≤ lo1) : zGw a0 lo S S2 := by
  obtain ⟨h1, h3, h4⟩ := h
  obtain ⟨g1, g3, g4⟩ := h2
  refine ⟨Nat.le_trans h1 g1, fun a ha => (g3 a (by omega)).trans (h3 a ha), fun a k ha hn => ?_⟩
  obtain ⟨x1, x2⟩ := g4 a k (by omega) (by omega)
  obtain ⟨y1, y2⟩ := h4 a k ha hn
  exact ⟨x1.trans y1, x2.trans y2⟩
/-- behind it, an object made later fills its own places -/
theorem zGw.nx {a0 lo a1 lo1 : Nat} {S S1 S2 : zM} (h : zGw a0 lo S S1) (h2 : zGw a1 lo1 S1 S2) (ha1 : zsz S ≤ a1) : zGw a0 lo S S2 := by
  obtain ⟨h1, h3, h4⟩ := h
  obtain ⟨g1, g3, g4⟩ := h2
  refine ⟨Nat.le_trans h1 g1, fun a ha => (g3 a (by omega)).trans (h3 a ha), fun a k ha hn => ?_⟩
  obtain ⟨x1, x2⟩ := g4 a k (by omega) (by omega)
  obtain ⟨y1, y2⟩ := h4 a k ha hn
  exact ⟨x1.trans y1, x2.trans y2⟩
theorem zGw.f {a0 lo : Nat} {W : Nat → Nat → Prop} {S S1 S2 : zM} (h : zGw a0 lo S S1) (f : zF W S1 S2) (hW : ∀ a k : Nat, W a k → zsz S ≤ a) : zGw a0 lo S S2 := by
  obtain ⟨h1, h3, h4⟩ := h
  refine ⟨by rw [f.s]; exact h1, fun a ha => by rw [f.n]; exact h3 a ha, fun a k ha hn => ?_⟩
  obtain ⟨y1, y2⟩ := h4 a k ha hn
  exact ⟨by rw [f.r]; exact y1, by rw [f.i (fun q => by have := hW a k q; omega)]; exact y2⟩
theorem zGw.nw {a0 lo t n : Nat} {S : zM} : zGw a0 lo S (znw S t n) := by
  refine ⟨Nat.le_succ _, fun a ha => ?_, fun a k ha _ => ⟨?_, ?_⟩⟩
  · rw [mln_nw, if_neg (by omega)]
  · rw [mr_nw, if_neg (by omega)]
  · rw [mi_nw, if_neg (by omega)]
theorem zGw.pR {a0 lo a k v : Nat} {S S1 : zM} (h : zGw a0 lo S S1) (ha : (a = a0 ∧ lo ≤ k) ∨ zsz S ≤ a) : zGw a0 lo S (zpR S1 a k v) := by
  obtain ⟨h1, h3, h4⟩ := h
  refine ⟨h1, h3, fun x j hx hn => ?_⟩
  obtain ⟨y1, y2⟩ := h4 x j hx hn
  exact ⟨by rw [mr_ne _ _ (by omega)]; exact y1, y2⟩
theorem zGw.pI {a0 lo a k : Nat} {v : Int32} {S S1 : zM} (h : zGw a0 lo S S1) (ha : (a = a0 ∧ lo ≤ k) ∨ zsz S ≤ a) : zGw a0 lo S (zpI S1 a k v) := by
  obtain ⟨h1, h3, h4⟩ := h
  refine ⟨h1, h3, fun x j hx hn => ?_⟩
  obtain ⟨y1, y2⟩ := h4 x j hx hn
  exact ⟨y1, by rw [mi_ne _ _ (by omega)]; exact y2⟩
theorem zGw.r {a0 lo : Nat} {S S1 : zM} (h : zGw a0 lo S S1) {a k : Nat} (ha : a < zsz S) (hn : ¬ (a = a0 ∧ lo ≤ k)) : zr S1 a k = zr S a k := (h.2.2 a k ha hn).1
theorem zGw.i {a0 lo : Nat} {S S1 : zM} (h : zGw a0 lo S S1) {a k : Nat} (ha : a < zsz S) (hn : ¬ (a = a0 ∧ lo ≤ k)) : zi S1 a k = zi S a k := (h.2.2 a k ha hn).2
theorem zGw.n {a0 lo : Nat} {S S1 : zM} (h : zGw a0 lo S S1) {a : Nat} (ha : a < zsz S) : zln S1 a = zln S a := h.2.1 a ha
/-- a new cell, told to a field of a0 -/
def zNew (S X : zM) (a0 k n z : Nat) : Prop := zsz X = z + 1 ∧ zr X a0 k = z ∧ zln X z = n ∧ (∀ j : Nat, zi X z j = 0 ∧ zr X z j = 0) ∧ zGw a0 k S X ∧ ∀ a j : Nat, a < z → zi X a j = zi S a j
theorem zal {S : zM} {a0 k t n z : Nat} (e : zsz S = z) (ha : a0 < z) : zNew S (zpR (znw S t n) a0 k (zsz S)) a0 k n z := by
  refine ⟨by rw [msz_pR, msz_nw, e], by rw [mr_eq, e], ?_, fun j => ⟨?_, ?_⟩, zGw.nw.pR (Or.inl ⟨rfl, Nat.le_refl _⟩), fun a j h => by rw [mi_pR, mi_nw, if_neg (by omega)]⟩
  · rw [mln_pR, mln_nw, if_pos e.symm]
  · rw [mi_pR, mi_nw, if_pos e.symm]
  · rw [mr_ne _ _ (by omega), mr_nw, if_pos e.symm]
theorem zal_k {S : zM} {a0 k t n z : Nat} {P : Option zM → Prop} {C : zM → Option zM} (e : zsz S = z) (ha : a0 < z) (h : ∀ X : zM, zNew S X a0 k n z → P (C X)) : P (zLet (znw S t n) (fun S1 => zLet (zpR S1 a0 k (zsz S)) C)) := h _ (zal e ha)
/-- a new cell of its own: an object before its constructor -/
theorem znw_o {S : zM} {t n z : Nat} (e : zsz S = z) : zsz (znw S t n) = z + 1 ∧ (∀ k : Nat, zi (znw S t n) z k = 0 ∧ zr (znw S t n) z k = 0) ∧ zln (znw S t n) z = n := by
  refine ⟨by rw [msz_nw, e], fun k => ⟨?_, ?_⟩, ?_⟩
  · rw [mi_nw, if_pos e.symm]
  · rw [mr_nw, if_pos e.symm]
  · rw [mln_nw, if_pos e.symm]
/-- old places stay: the frame of an object made whole -/
def zOld (S D : zM) : Prop := ∀ a : Nat, a < zsz S → zln D a = zln S a ∧ ∀ k : Nat, zr D a k = zr S a k ∧ zi D a k = zi S a k
theorem zOld.g {S D : zM} {a0 lo : Nat} (h : zOld S D) (hs : zsz S ≤ zsz D) : zGw a0 lo S D := ⟨hs, fun a ha => (h a ha).1, fun a k ha _ => (h a ha).2 k⟩
theorem zGw.old {S D : zM} {a0 lo : Nat} (h : zGw a0 lo S D) (ha : zsz S ≤ a0) : zOld S D := fun a hl => ⟨h.n hl, fun k => ⟨h.r hl (by omega), h.i hl (by omega)⟩⟩
theorem x1_init {S : zM} {z : Nat} (e : zsz S = z) : zsz (f_X1_init (znw S 1 0) (zsz S)) = z + 3 ∧ zOld S (f_X1_init (znw S 1 0) (zsz S)) ∧ zr (f_X1_init (znw S 1 0) (zsz S)) z 0 = z + 1 ∧ zr (f_X1_init (znw S 1 0) (zsz S)) z 1 = z + 2 ∧ zln (f_X1_init (znw S 1 0) (zsz S)) (z + 1) = 7 ∧ zln (f_X1_init (znw S 1 0) (zsz S)) (z + 2) = 7 := by
  obtain ⟨h1, h2, h3⟩ := znw_o (t := 1) (n := 0) e
  have g0 : zGw z 0 S (znw S 1 0) := zGw.nw
  unfold f_X1_init
  rw [zLet_d, zLet_d, zLet_d, zLet_d, e]
  obtain ⟨a1, a2, a3, a4, a5, a6⟩ := zal (S := znw S 1 0) (a0 := z) (k := 0) (t := 20) (n := 7) h1 (by omega)
  generalize zpR (znw (znw S 1 0) 20 7) z 0 (zsz (znw S 1 0)) = A at a1 a2 a3 a4 a5 ⊢
  obtain ⟨b1, b2, b3, b4, b5, b6⟩ := zal (S := A) (a0 := z) (k := 1) (t := 20) (n := 7) a1 (by omega)
  generalize zpR (znw A 20 7) z 1 (zsz A) = B at b1 b2 b3 b4 b5 ⊢
  have g : zGw z 0 S B := (g0.tr a5 (Nat.le_refl _)).tr b5 (Nat.zero_le _)
  exact ⟨b1, g.old (by omega), by rw [b5.r (by omega) (by omega)]; exact a2, b2, by rw [b5.n (by omega)]; exact a3, b3⟩
theorem x5_init {S : zM} {z : Nat} (e : zsz S = z) : zsz (f_X5_init (znw S 5 0) (zsz S)) = z + 2 ∧ zOld S (f_X5_init (znw S 5 0) (zsz S)) ∧ zr (f_X5_init (znw S 5 0) (zsz S)) z 0 = z + 1 ∧ zln (f_X5_init (znw S 5 0) (zsz S)) (z + 1) = 7 := by
  obtain ⟨h1, h2, h3⟩ := znw_o (t := 5) (n := 0) e
  have g0 : zGw z 0 S (znw S 5 0) := zGw.nw
  unfold f_X5_init
  rw [zLet_d, zLet_d, e]
  obtain ⟨a1, a2, a3, a4, a5, a6⟩ := zal (S := znw S 5 0) (a0 := z) (k := 0) (t := 20) (n := 7) h1 (by omega)
  generalize zpR (znw (znw S 5 0) 20 7) z 0 (zsz (znw S 5 0)) = A at a1 a2 a3 a4 a5 ⊢
  exact ⟨a1, (g0.tr a5 (Nat.le_refl _)).old (by omega), a2, a3⟩
theorem x8_init {S : zM} {z : Nat} (e : zsz S = z) : zsz (f_X8_init (znw S 8 0) (zsz S)) = z + 2 ∧ zOld S (f_X8_init (znw S 8 0) (zsz S)) ∧ zr (f_X8_init (znw S 8 0) (zsz S)) z 0 = z + 1 ∧ zln (f_X8_init (znw S 8 0) (zsz S)) (z + 1) = 120 ∧ zr (f_X8_init (znw S 8 0) (zsz S)) z 1 = 0 ∧ ∀ k : Nat, zi (f_X8_init (znw S 8 0) (zsz S)) z k = 0 := by
  obtain ⟨h1, h2, h3⟩ := znw_o (t := 8) (n := 0) e
  have g0 : zGw z 0 S (znw S 8 0) := zGw.nw
  unfold f_X8_init
  rw [zLet_d, zLet_d, e]
  have hi : ∀ k : Nat, zi (zpR (znw (znw S 8 0) 20 120) z 0 (zsz (znw S 8 0))) z k = 0 := fun k => by
    rw [mi_pR, mi_nw, if_neg (by omega)]
    exact (h2 k).1
  have hr1 : zr (zpR (znw (znw S 8 0) 20 120) z 0 (zsz (znw S 8 0))) z 1 = 0 := by
    rw [mr_ne _ _ (by omega), mr_nw, if_neg (by omega)]
    exact (h2 1).2
  obtain ⟨a1, a2, a3, a4, a5, a6⟩ := zal (S := znw S 8 0) (a0 := z) (k := 0) (t := 20) (n := 120) h1 (by omega)
  exact ⟨a1, (g0.tr a5 (Nat.le_refl _)).old (by omega), a2, a3, hr1, hi⟩
theorem x4_init {S : zM} {z : Nat} (e : zsz S = z) : zsz (f_X4_init (znw S 4 0) (zsz S)) = z + 3 ∧ zOld S (f_X4_init (znw S 4 0) (zsz S)) ∧ (zr (f_X4_init (znw S 4 0) (zsz S)) z 0 = z + 1 ∧ zr (f_X4_init (znw S 4 0) (zsz S)) z 3 = z + 2) ∧ zln (f_X4_init (znw S 4 0) (zsz S)) (z + 1) = 7 ∧ zln (f_X4_init (znw S 4 0) (zsz S)) (z + 2) = 40 := by
  obtain ⟨h1, h2, h3⟩ := znw_o (t := 4) (n := 0) e
  have g0 : zGw z 0 S (znw S 4 0) := zGw.nw
  unfold f_X4_init f_X0O_init
  rw [zLet_d, zLet_d, zLet_d, zLet_d, zLet_d, e]
  obtain ⟨a1, a2, a3, a4, a5, a6⟩ := zal (S := znw S 4 0) (a0 := z) (k := 0) (t := 20) (n := 7) h1 (by omega)
  generalize zpR (znw (znw S 4 0) 20 7) z 0 (zsz (znw S 4 0)) = A at a1 a2 a3 a4 a5 ⊢
  obtain ⟨b1, b2, b3, b4, b5, b6⟩ := zal (S := A) (a0 := z) (k := 3) (t := 20) (n := 40) a1 (by omega)
  generalize zpR (znw A 20 40) z 3 (zsz A) = B at b1 b2 b3 b4 b5 ⊢
  have g : zGw z 0 S B := (g0.tr a5 (Nat.le_refl _)).tr b5 (Nat.zero_le _)
  exact ⟨b1, g.old (by omega), ⟨by rw [b5.r (by omega) (by omega)]; exact a2, b2⟩, by rw [b5.n (by omega)]; exact a3, b3⟩
theorem x3_init {S : zM} {z : Nat} (e : zsz S = z) : zsz (f_X3_init (znw S 3 0) (zsz S)) = z + 5 ∧ zOld S (f_X3_init (znw S 3 0) (zsz S)) ∧ (zr (f_X3_init (znw S 3 0) (zsz S)) z 0 = z + 1 ∧ zr (f_X3_init (znw S 3 0) (zsz S)) z 3 = z + 2 ∧ zr (f_X3_init (znw S 3 0) (zsz S)) z 4 = z + 3 ∧ zr (f_X3_init (znw S 3 0) (zsz S)) z 5 = z + 4) ∧ zln (f_X3_init (znw S 3 0) (zsz S)) (z + 1) = 7 ∧ zln (f_X3_init (znw S 3 0) (zsz S)) (z + 2) = 12 ∧ zln (f_X3_init (znw S 3 0) (zsz S)) (z + 3) = 12 ∧ zln (f_X3_init (znw S 3 0) (zsz S)) (z + 4) = 72 := by
  obtain ⟨h1, h2, h3⟩ := znw_o (t := 3) (n := 0) e
  have g0 : zGw z 0 S (znw S 3 0) := zGw.nw
  unfold f_X3_init f_X0L_init
  rw [zLet_d, zLet_d, zLet_d, zLet_d, zLet_d, zLet_d, zLet_d, zLet_d, zLet_d, e]
  obtain ⟨a1, a2, a3, a4, a5, a6⟩ := zal (S := znw S 3 0) (a0 := z) (k := 0) (t := 20) (n := 7) h1 (by omega)
  generalize zpR (znw (znw S 3 0) 20 7) z 0 (zsz (znw S 3 0)) = A at a1 a2 a3 a4 a5 ⊢
  obtain ⟨b1, b2, b3, b4, b5, b6⟩ := zal (S := A) (a0 := z) (k := 3) (t := 20) (n := 12) a1 (by omega)
  generalize zpR (znw A 20 12) z 3 (zsz A) = B at b1 b2 b3 b4 b5 ⊢
  obtain ⟨c1, c2, c3, c4, c5, c6⟩ := zal (S := B) (a0 := z) (k := 4) (t := 20) (n := 12) b1 (by omega)
  generalize zpR (znw B 20 12) z 4 (zsz B) = C at c1 c2 c3 c4 c5 ⊢
  obtain ⟨d1, d2, d3, d4, d5, d6⟩ := zal (S := C) (a0 := z) (k := 5) (t := 20) (n := 72) c1 (by omega)
  generalize zpR (znw C 20 72) z 5 (zsz C) = D at d1 d2 d3 d4 d5 ⊢
  have gC : zGw z 5 C D := d5
  have gB : zGw z 4 B D := c5.tr gC (by omega)
  have gA : zGw z 3 A D := b5.tr gB (by omega)
  have g : zGw z 0 S D := (g0.tr a5 (Nat.le_refl _)).tr gA (Nat.zero_le _)
  exact ⟨d1, g.old (by omega), ⟨by rw [gA.r (by omega) (by omega)]; exact a2, by rw [gB.r (by omega) (by omega)]; exact b2, by rw [gC.r (by omega) (by omega)]; exact c2, d2⟩, by rw [gA.n (by omega)]; exact a3, by rw [gB.n (by omega)]; exact b3, by rw [gC.n (by omega)]; exact c3, d3⟩
