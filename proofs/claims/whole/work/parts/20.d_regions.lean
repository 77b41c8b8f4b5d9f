/-! the invariant's parts, where places or the row change elsewhere -/
theorem zBd.fr {g g1 : Nat → Int32} (h : zBd g) (e : ∀ k : Nat, g1 k = g k) : zBd g1 := by rw [show g1 = g from funext e]; exact h
theorem zRepD.g {i : Nat → Nat → Int32} {q t : Nat} {g g1 : Nat → Int32} (h : zRepD i q g t) (e : ∀ k : Nat, t ≤ k → k < t + 19 → g1 k = g k) : zRepD i q g1 t := by
  obtain ⟨h1, h2, h3, h4, h5, h6⟩ := h
  refine ⟨by rw [e _ (by omega) (by omega)]; exact h1, by rw [e _ (by omega) (by omega)]; exact h2, by rw [e _ (by omega) (by omega)]; exact h3, by rw [e _ (by omega) (by omega)]; exact h4, by rw [e _ (by omega) (by omega)]; exact h5, fun c hc => ?_⟩
  rw [e _ (by omega) (by omega), e _ (by omega) (by omega)]
  exact h6 c hc
theorem zRepJ.g {S : zM} {q j : Nat} {g g1 : Nat → Int32} (h : zRepJ S q j g) (e : ∀ k : Nat, 16 + 4 * j ≤ k → k < 20 + 4 * j → g1 k = g k) : zRepJ S q j g1 := by
  obtain ⟨h1, h2, h3, h4, h5, h6, h7⟩ := h
  exact ⟨h1, h2, h3, by rw [e _ (by omega) (by omega)]; exact h4, by rw [e _ (by omega) (by omega)]; exact h5, by rw [e _ (by omega) (by omega)]; exact h6, by rw [e _ (by omega) (by omega)]; exact h7⟩
theorem zTx_c {g g1 : Nat → Int32} {t n : Nat} (e : ∀ k : Nat, k < n → g1 (t + k) = g (t + k)) : zTx g1 t n = zTx g t n := by
  unfold zTx
  exact List.map_congr_left fun k hk => e k (List.mem_range.mp hk)
theorem zRepR.g {S : zM} {q : Nat} {g g1 : Nat → Int32} (h : zRepR S q g) (e : ∀ k : Nat, 872 ≤ k → k ≤ 1000 → g1 k = g k) : zRepR S q g1 := by
  obtain ⟨h1, h2, h3, n, cd, h4, h5, h6, h7, h8, h9⟩ := h
  refine ⟨fun p hp => by rw [e _ (by omega) (by omega)]; exact h1 p hp, by rw [e _ (by omega) (by omega)]; exact h2, by rw [e _ (by omega) (by omega)]; exact h3, n, cd, h4, by rw [e _ (by omega) (by omega)]; exact h5, ?_, h7, h8, h9⟩
  rw [zTx_c (fun k hk => e _ (by omega) (by omega))]
  exact h6
/-- the parts of zRep, one by one -/
theorem zRep.lay {S : zM} {b : Nat} {g : Nat → Int32} (h1 : ∀ i : Nat, i < 8 → zi S (b + 1) i = g (2 * i) ∧ zi S (b + 2) i = g (2 * i + 1)) (h2 : ∀ h : Nat, h < 6 → zi S (b + 3) h = g (64 + h)) (h3 : ∀ q : Nat, q < 42 → zi S (b + 4) q = g (70 + q) - 1)
    (h4 : zi S b 5 = g 1001 ∧ zi S b 6 = g 1002 ∧ zi S b 7 = g 1003) (h5 : zRepR S (b + 5) g) (h6 : ∀ j : Nat, nI j < g 1002 → j < 12 → zRepJ S (zr S (b + 9) j) j g) (h7 : ∀ v : Nat, nI v < g 1003 → v < 40 → zRepD (zi S) (b + 14 + 3 * v) g (112 + 19 * v)) : zRep S b g := ⟨h1, h2, h3, h4, h5, h6, h7⟩
theorem zg1 {S S1 : zM} {b : Nat} {g g1 : Nat → Int32} (h : zRep S b g) (hi : ∀ a k : Nat, a = b + 1 ∨ a = b + 2 → zi S1 a k = zi S a k) (hg : ∀ k : Nat, k < 16 → g1 k = g k) : ∀ i : Nat, i < 8 → zi S1 (b + 1) i = g1 (2 * i) ∧ zi S1 (b + 2) i = g1 (2 * i + 1) := fun i hk => by
  rw [hi (b + 1) i (Or.inl rfl), hi (b + 2) i (Or.inr rfl), hg (2 * i) (by omega), hg (2 * i + 1) (by omega)]
  exact h.1 i hk
theorem zg2 {S S1 : zM} {b : Nat} {g g1 : Nat → Int32} (h : zRep S b g) (hi : ∀ a k : Nat, a = b + 3 → zi S1 a k = zi S a k) (hg : ∀ k : Nat, 64 ≤ k → k < 70 → g1 k = g k) : ∀ x : Nat, x < 6 → zi S1 (b + 3) x = g1 (64 + x) := fun i hk => by
  rw [hi (b + 3) i rfl, hg (64 + i) (by omega) (by omega)]
  exact h.2.1 i hk
theorem zg3 {S S1 : zM} {b : Nat} {g g1 : Nat → Int32} (h : zRep S b g) (hi : ∀ a k : Nat, a = b + 4 → zi S1 a k = zi S a k) (hg : ∀ k : Nat, 70 ≤ k → k < 112 → g1 k = g k) : ∀ q : Nat, q < 42 → zi S1 (b + 4) q = g1 (70 + q) - 1 := fun i hk => by
  rw [hi (b + 4) i rfl, hg (70 + i) (by omega) (by omega)]
  exact h.2.2.1 i hk
theorem zg4 {S S1 : zM} {b : Nat} {g g1 : Nat → Int32} (h : zRep S b g) (hi : ∀ a k : Nat, a = b → zi S1 a k = zi S a k) (hg : ∀ k : Nat, 1001 ≤ k → k ≤ 1003 → g1 k = g k) : zi S1 b 5 = g1 1001 ∧ zi S1 b 6 = g1 1002 ∧ zi S1 b 7 = g1 1003 := by
  rw [hi b 5 rfl, hi b 6 rfl, hi b 7 rfl, hg 1001 (by omega) (by omega), hg 1002 (by omega) (by omega), hg 1003 (by omega) (by omega)]
  exact h.2.2.2.1
theorem zg5 {S S1 : zM} {b : Nat} {g g1 : Nat → Int32} (h : zRep S b g) (hi : ∀ a k : Nat, b + 5 ≤ a ∧ a ≤ b + 7 → zi S1 a k = zi S a k) (hg : ∀ k : Nat, 872 ≤ k → k ≤ 1000 → g1 k = g k) : zRepR S1 (b + 5) g1 :=
  (h.2.2.2.2.1.fr (fun a k h1 h2 => hi a k ⟨h1, h2⟩)).g hg
theorem zg6 {S S1 : zM} {b : Nat} {g g1 : Nat → Int32} (h : zRep S b g) (hs : zsz S ≤ zsz S1) (hr : ∀ j : Nat, zr S1 (b + 9) j = zr S (b + 9) j) (hi : ∀ a k : Nat, 453 ≤ a ∧ a < zsz S → zi S1 a k = zi S a k) (hg : ∀ k : Nat, 16 ≤ k → k < 64 → g1 k = g k) (hn : g1 1002 = g 1002) : ∀ j : Nat, nI j < g1 1002 → j < 12 → zRepJ S1 (zr S1 (b + 9) j) j g1 := fun j hj hj2 => by
  rw [hn] at hj
  rw [hr]
  have h3 := h.2.2.2.2.2.1 j hj hj2
  exact (h3.fr hs (fun k => hi _ k ⟨h3.1, h3.2.1⟩)).g (fun k h1 h2 => hg k (by omega) (by omega))
theorem zg7 {S S1 : zM} {b : Nat} {g g1 : Nat → Int32} (h : zRep S b g) (hi : ∀ a k : Nat, b + 14 ≤ a ∧ a ≤ b + 133 → zi S1 a k = zi S a k) (hg : ∀ k : Nat, 112 ≤ k → k < 872 → g1 k = g k) (hn : g1 1003 = g 1003) : ∀ v : Nat, nI v < g1 1003 → v < 40 → zRepD (zi S1) (b + 14 + 3 * v) g1 (112 + 19 * v) := fun v hv hv2 => by
  rw [hn] at hv
  exact ((h.2.2.2.2.2.2 v hv hv2).fr (fun a k h1 h2 => hi a k (by omega))).g (fun k h1 h2 => hg k (by omega) (by omega))
/-- the bounds by parts, over known numbers of divers, judges, dives -/
def zB1p (g : Nat → Int32) (nd : Nat) : Prop := ∀ i : Nat, i < nd → zU (g (2 * i)) 6 ∧ zU (g (2 * i + 1)) 10
def zB2p (g : Nat → Int32) (nj : Nat) : Prop := ∀ j : Nat, j < nj → zU (g (16 + 4 * j)) 8 ∧ zU (g (17 + 4 * j)) 6 ∧ zU (g (18 + 4 * j)) 10 ∧ zU (g (19 + 4 * j)) 6
def zB3p (g : Nat → Int32) : Prop := ∀ h : Nat, h < 6 → zU (g (64 + h)) 41
def zB4p (g : Nat → Int32) (nj : Nat) : Prop := (∀ q : Nat, q < 42 → zU (g (70 + q)) (nj + 1)) ∧ ∀ h c c1 : Nat, h < 6 → c < 7 → c1 < 7 → c ≠ c1 → g (70 + 7 * h + c) = g (70 + 7 * h + c1) → g (70 + 7 * h + c) = 0
def zB5p (g : Nat → Int32) : Prop := (∀ p : Nat, p < 6 → zU (g (872 + p)) 21) ∧ zU (g 878) 4 ∧ zU (g 879) 4
def zB6p (g : Nat → Int32) (nd nj t : Nat) : Prop := zU (g t) 6 ∧ zU (g (t + 1)) nd ∧ zU (g (t + 2)) 64 ∧ zU (g (t + 3)) 10 ∧ zU (g (t + 4)) 41 ∧
    (∀ c : Nat, c < 7 → zU (g (t + 5 + c)) 22 ∧ zU (g (t + 12 + c)) (nj + 1) ∧ (g (t + 5 + c) = 0 → g (t + 12 + c) = 0)) ∧
    ∀ c c1 : Nat, c < 7 → c1 < 7 → c ≠ c1 → g (t + 12 + c) = g (t + 12 + c1) → g (t + 12 + c) = 0
def zBn (g : Nat → Int32) (nd nj nv : Nat) : Prop := nd ≤ 8 ∧ nj ≤ 12 ∧ nv ≤ 40 ∧ g 1001 = nI nd ∧ g 1002 = nI nj ∧ g 1003 = nI nv
theorem zBd_iff {g : Nat → Int32} : zBd g ↔ ∃ nd nj nv : Nat, zBn g nd nj nv ∧ zB1p g nd ∧ zB2p g nj ∧ zB3p g ∧ zB4p g nj ∧ zB5p g ∧ ∀ v : Nat, v < nv → zB6p g nd nj (112 + 19 * v) := by
  constructor
  · rintro ⟨nd, nj, nv, h0, h1, h2, h3, h4, h5, h6, h7, h8, h9⟩
    exact ⟨nd, nj, nv, h0, h1, h2, h3, ⟨h4, h5⟩, ⟨h6, h7, h8⟩, h9⟩
  · rintro ⟨nd, nj, nv, h0, h1, h2, h3, ⟨h4, h5⟩, ⟨h6, h7, h8⟩, h9⟩
    exact ⟨nd, nj, nv, h0, h1, h2, h3, h4, h5, h6, h7, h8, h9⟩
theorem zB1p.g {g g1 : Nat → Int32} {nd : Nat} (h : zB1p g nd) (hd : nd ≤ 8) (e : ∀ k : Nat, k < 16 → g1 k = g k) : zB1p g1 nd := fun i hi => by
  rw [e (2 * i) (by omega), e (2 * i + 1) (by omega)]; exact h i hi
theorem zB2p.g {g g1 : Nat → Int32} {nj : Nat} (h : zB2p g nj) (hj : nj ≤ 12) (e : ∀ k : Nat, 16 ≤ k → k < 64 → g1 k = g k) : zB2p g1 nj := fun i hi => by
  rw [e (16 + 4 * i) (by omega) (by omega), e (17 + 4 * i) (by omega) (by omega), e (18 + 4 * i) (by omega) (by omega), e (19 + 4 * i) (by omega) (by omega)]; exact h i hi
theorem zB3p.g {g g1 : Nat → Int32} (h : zB3p g) (e : ∀ k : Nat, 64 ≤ k → k < 70 → g1 k = g k) : zB3p g1 := fun i hi => by
  rw [e (64 + i) (by omega) (by omega)]; exact h i hi
theorem zB4p.g {g g1 : Nat → Int32} {nj : Nat} (h : zB4p g nj) (e : ∀ k : Nat, 70 ≤ k → k < 112 → g1 k = g k) : zB4p g1 nj :=
  ⟨fun i hi => by rw [e (70 + i) (by omega) (by omega)]; exact h.1 i hi, fun x c c1 hx hc hc1 hne => by rw [e (70 + 7 * x + c) (by omega) (by omega), e (70 + 7 * x + c1) (by omega) (by omega)]; exact h.2 x c c1 hx hc hc1 hne⟩
theorem zB5p.g {g g1 : Nat → Int32} (h : zB5p g) (e : ∀ k : Nat, 872 ≤ k → k < 880 → g1 k = g k) : zB5p g1 :=
  ⟨fun i hi => by rw [e (872 + i) (by omega) (by omega)]; exact h.1 i hi, by rw [e 878 (by omega) (by omega)]; exact h.2.1, by rw [e 879 (by omega) (by omega)]; exact h.2.2⟩
theorem zB6p.g {g g1 : Nat → Int32} {nd nj t : Nat} (h : zB6p g nd nj t) (e : ∀ k : Nat, t ≤ k → k < t + 19 → g1 k = g k) : zB6p g1 nd nj t := by
  obtain ⟨h1, h2, h3, h4, h5, h6, h7⟩ := h
  refine ⟨by rw [e t (by omega) (by omega)]; exact h1, by rw [e (t + 1) (by omega) (by omega)]; exact h2, by rw [e (t + 2) (by omega) (by omega)]; exact h3, by rw [e (t + 3) (by omega) (by omega)]; exact h4, by rw [e (t + 4) (by omega) (by omega)]; exact h5, fun c hc => ?_, fun c c1 hc hc1 hne => ?_⟩
  · rw [e (t + 5 + c) (by omega) (by omega), e (t + 12 + c) (by omega) (by omega)]; exact h6 c hc
  · rw [e (t + 12 + c) (by omega) (by omega), e (t + 12 + c1) (by omega) (by omega)]; exact h7 c c1 hc hc1 hne
theorem zU.le {v : Int32} {n m : Nat} (h : zU v n) (hm : n ≤ m) : zU v m := ⟨h.1, by have := h.2; omega⟩
/-- the invariant behind a step that leaves the image and the shelves alone -/
theorem zInv.now {S S1 : zM} (h : zInv S) (hl : zLay S1) (hs : zsz S ≤ zsz S1) (hr : ∀ a k : Nat, a ≠ 11 → a < 453 → zr S1 a k = zr S a k) (hi : ∀ a k : Nat, a = 1 ∨ (136 ≤ a ∧ a ≤ 269) ∨ (a = 436 ∧ (k = 8 ∨ k = 33)) ∨ (420 ≤ a ∧ a ≤ 435) ∨ (438 ≤ a ∧ a ≤ 444) ∨ (453 ≤ a ∧ a < zsz S) → zi S1 a k = zi S a k) (h2 : zRep S1 2 (zi S1 437)) (h3 : zBd (zi S1 437)) : zInv S1 := by
  obtain ⟨-, -, -, h4, h5, h6, h7⟩ := h
  refine ⟨hl, h2, h3, ?_, fun hq => ?_, fun d hd => ?_, by rw [hi 436 33 (by omega)]; exact h7⟩
  · rw [hi 1 8 (by omega), hi 436 8 (by omega)]; exact h4
  · rw [hi 1 8 (by omega)] at hq
    rw [show zi S1 438 = zi S 438 from funext fun k => hi 438 k (by omega)]
    exact ⟨(h5 hq).1.fr hs (fun j => hr _ _ (by omega) (by omega)) (fun x k hx => hi x k (by omega)), (h5 hq).2⟩
  · exact (h6 d hd).fr hs (hr _ _ (by omega) (by omega)) (fun x k hx => hi x k (by omega))
/-- the invariant behind a step that changes the shelves alone -/
theorem zInv.sh {S S1 : zM} (h : zInv S) (hl : zLay S1) (hs : zsz S ≤ zsz S1) (hr : ∀ a k : Nat, a < 405 → zr S1 a k = zr S a k) (hi : ∀ a k : Nat, a < 405 ∨ (a = 436 ∧ (k = 8 ∨ k = 33)) ∨ a = 437 ∨ a = 438 ∨ (453 ≤ a ∧ a < zsz S) → zi S1 a k = zi S a k) (hk : ∀ d : Nat, d < 8 → zRepK S1 d) : zInv S1 := by
  obtain ⟨-, h2, h3, h4, h5, h6, h7⟩ := h
  have e7 : zi S1 437 = zi S 437 := funext fun k => hi 437 k (by omega)
  have e8 : zi S1 438 = zi S 438 := funext fun k => hi 438 k (by omega)
  refine ⟨hl, ?_, by rw [e7]; exact h3, by rw [hi 1 8 (by omega), hi 436 8 (by omega)]; exact h4, fun hq => ?_, hk, by rw [hi 436 33 (by omega)]; exact h7⟩
  · rw [e7]
    exact h2.fr hs (fun j => hr _ _ (by omega)) (fun a k ha => hi a k (by omega))
  · rw [hi 1 8 (by omega)] at hq
    rw [e8]
    exact ⟨(h5 hq).1.fr hs (fun j => hr _ _ (by omega)) (fun a k ha => hi a k (by omega)), (h5 hq).2⟩
/-- a shelf whose own places stay -/
theorem zRepK.o {S S1 : zM} {d : Nat} (h : zRepK S d) (hs : zsz S ≤ zsz S1) (hr : zr S1 (420 + 2 * d) 1 = zr S (420 + 2 * d) 1) (hi : ∀ a k : Nat, a = 420 + 2 * d ∨ a = 421 + 2 * d ∨ (453 ≤ a ∧ a < zsz S) → zi S1 a k = zi S a k)
    (h39 : zi S1 439 d = zi S 439 d) (h40 : zi S1 440 d = zi S 440 d) (h41 : zi S1 441 d = zi S 441 d) (h42 : ∀ k : Nat, k < 120 → zi S1 442 (120 * d + k) = zi S 442 (120 * d + k)) (h43 : zi S1 443 d = zi S 443 d) (h44 : zi S1 444 d = zi S 444 d) : zRepK S1 d := by
  unfold zRepK at h ⊢
  rw [hr, h39, h40, h41, h43, h44, hi _ 4 (Or.inl rfl), hi _ 2 (Or.inl rfl), hi _ 3 (Or.inl rfl)]
  rcases h with h | ⟨h1, h2, h3, h4, h5, h6⟩ | ⟨h1, h2, h3, h4, h5, h6, h7, h8⟩
  · exact Or.inl h
  · have e9 := fun k => hi (zr S (420 + 2 * d) 1) k (Or.inr (Or.inr ⟨h3, h4⟩))
    refine Or.inr (Or.inl ⟨h1, h2, h3, by omega, ?_, ?_⟩)
    · rw [heft_c e9]; exact h5
    · rw [thr_c e9, fail_c e9]; exact h6
  · refine Or.inr (Or.inr ⟨h1, h2, h3, h4, h5, h6, h7, fun k hk => ?_⟩)
    rw [hi _ k (Or.inr (Or.inl rfl)), h42 k hk]
    exact h8 k hk
