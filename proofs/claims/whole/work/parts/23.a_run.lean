/-! running a function: what holds of the checks falls away; numbers -/
theorem zcT {α : Type} {x : Option α} {i : Decidable True} : @zChk α True i x = x := if_pos trivial
theorem zle_t {a b : Nat} (h : a ≤ b) (hb : b < 2 ^ 31) : (nI a ≤ nI b) = True := eq_true (nI_le h hb)
theorem zle_f {a b : Nat} (h : b < a) (ha : a < 2 ^ 31) : (nI a ≤ nI b) = False := eq_false (nI_ge h ha)
theorem zlt_t {a b : Nat} (h : a < b) (hb : b < 2 ^ 31) : (nI a < nI b) = True := eq_true (nI_lt h hb)
theorem zlt_f {a b : Nat} (h : b ≤ a) (ha : a < 2 ^ 31) : (nI a < nI b) = False := eq_false (nI_nlt h ha)
theorem zeq_t {a b : Nat} (h : a = b) : (nI a = nI b) = True := eq_true (by rw [h])
theorem zeq_f {a b : Nat} (h : a ≠ b) (ha : a < 2 ^ 31) (hb : b < 2 ^ 31) : (nI a = nI b) = False := eq_false (fun e => h (nI_inj e ha hb))
theorem zNle {L j : Nat} (h : j < L) : (L ≤ j) = False := eq_false (by omega)
theorem zNleT {L j : Nat} (h : L ≤ j) : (L ≤ j) = True := eq_true h
theorem zNmod (a b : Nat) : a - a / b * b = a % b := by
  have h := Nat.div_add_mod a b
  rw [Nat.mul_comm] at h
  omega
theorem zNe {a b : Nat} (h : ¬ a = b) : (a = b) = False := eq_false h
theorem zq0 : (0 : Int32) = nI 0 := Eq.trans rfl rfl
theorem zq1 : (1 : Int32) = nI 1 := Eq.trans rfl rfl
theorem zq2 : (2 : Int32) = nI 2 := Eq.trans rfl rfl
theorem zq3 : (3 : Int32) = nI 3 := Eq.trans rfl rfl
theorem zq4 : (4 : Int32) = nI 4 := Eq.trans rfl rfl
theorem zq5 : (5 : Int32) = nI 5 := Eq.trans rfl rfl
theorem zq6 : (6 : Int32) = nI 6 := Eq.trans rfl rfl
theorem zq7 : (7 : Int32) = nI 7 := Eq.trans rfl rfl
theorem zq8 : (8 : Int32) = nI 8 := Eq.trans rfl rfl
theorem zq10 : (10 : Int32) = nI 10 := Eq.trans rfl rfl
theorem zq12 : (12 : Int32) = nI 12 := Eq.trans rfl rfl
theorem zq13 : (13 : Int32) = nI 13 := Eq.trans rfl rfl
theorem zq15 : (15 : Int32) = nI 15 := Eq.trans rfl rfl
theorem zq16 : (16 : Int32) = nI 16 := Eq.trans rfl rfl
theorem zq19 : (19 : Int32) = nI 19 := Eq.trans rfl rfl
theorem zq20 : (20 : Int32) = nI 20 := Eq.trans rfl rfl
theorem zq21 : (21 : Int32) = nI 21 := Eq.trans rfl rfl
theorem zq40 : (40 : Int32) = nI 40 := Eq.trans rfl rfl
theorem zq42 : (42 : Int32) = nI 42 := Eq.trans rfl rfl
theorem zq64 : (64 : Int32) = nI 64 := Eq.trans rfl rfl
theorem zq70 : (70 : Int32) = nI 70 := Eq.trans rfl rfl
theorem zq72 : (72 : Int32) = nI 72 := Eq.trans rfl rfl
theorem zq100 : (100 : Int32) = nI 100 := Eq.trans rfl rfl
theorem zq112 : (112 : Int32) = nI 112 := Eq.trans rfl rfl
theorem zq120 : (120 : Int32) = nI 120 := Eq.trans rfl rfl
theorem zq200 : (200 : Int32) = nI 200 := Eq.trans rfl rfl
theorem zq600 : (600 : Int32) = nI 600 := Eq.trans rfl rfl
theorem zq872 : (872 : Int32) = nI 872 := Eq.trans rfl rfl
theorem zq878 : (878 : Int32) = nI 878 := Eq.trans rfl rfl
theorem zq879 : (879 : Int32) = nI 879 := Eq.trans rfl rfl
theorem zq880 : (880 : Int32) = nI 880 := Eq.trans rfl rfl
theorem zq1000 : (1000 : Int32) = nI 1000 := Eq.trans rfl rfl
theorem zq1001 : (1001 : Int32) = nI 1001 := Eq.trans rfl rfl
theorem zq1002 : (1002 : Int32) = nI 1002 := Eq.trans rfl rfl
theorem zq1003 : (1003 : Int32) = nI 1003 := Eq.trans rfl rfl
theorem zq1004 : (1004 : Int32) = nI 1004 := Eq.trans rfl rfl
theorem zq4100 : (4100 : Int32) = nI 4100 := Eq.trans rfl rfl
theorem nI_sub {a b : Nat} (h : b ≤ a) : nI a - nI b = nI (a - b) := by
  have e : nI a = nI (a - b) + nI b := by rw [nI_add, Nat.sub_add_cancel h]
  rw [e, Int32.add_sub_cancel]
theorem nI_div {a b : Nat} (ha : a < 2 ^ 31) (hb : b < 2 ^ 31) : nI a / nI b = nI (a / b) := (Int32.ofNat_div ha hb).symm
theorem nI_mod {a b : Nat} (ha : a < 2 ^ 31) (hb : b < 2 ^ 31) : nI a - nI a / nI b * nI b = nI (a % b) := by
  rw [nI_div ha hb, nI_mul, nI_sub (Nat.div_mul_le_self a b)]
  congr 1
  have h := Nat.div_add_mod a b
  rw [Nat.mul_comm] at h
  omega
theorem zw1 {a n : Nat} (h : a < n) (hn : n < 2 ^ 30) : f_X11_within (nI a) (nI n) = nI 1 := by rw [zwN hn, if_pos (zU_n h (by omega))]; rfl
theorem zw0 {a n : Nat} (h : n ≤ a) (ha : a < 2 ^ 31) (hn : n < 2 ^ 30) : f_X11_within (nI a) (nI n) = nI 0 := by
  rw [zwN hn, if_neg (fun hh => by have := (zU_i ha).mp hh; omega)]; rfl
/-! reading -/
/-! the same as in 20.a, told so that a proof by simp has steps of its own -/
theorem nLet {α β : Type} (v : α) (k : α → β) : zLet v k = k v := Eq.trans rfl rfl
theorem nB1 {α β : Type} (v : α) (k : α → Option β) : zB1 (some v) k = k v := Eq.trans rfl rfl
theorem nB2 {α β γ : Type} (v : α) (w : β) (k : α → β → Option γ) : zB2 (some (v, w)) k = k v w := Eq.trans rfl rfl
theorem nL2 {α β γ : Type} (v : α) (w : β) (k : α → β → γ) : zL2 (v, w) k = k v w := Eq.trans rfl rfl
theorem ni_pR (S : zM) (a k v x j : Nat) : zi (zpR S a k v) x j = zi S x j := Eq.trans rfl rfl
theorem ni_pL (S : zM) (a k : Nat) (v : Int64) (x j : Nat) : zi (zpL S a k v) x j = zi S x j := Eq.trans rfl rfl
theorem nr_pI (S : zM) (a k : Nat) (v : Int32) (x j : Nat) : zr (zpI S a k v) x j = zr S x j := Eq.trans rfl rfl
theorem nr_pL (S : zM) (a k : Nat) (v : Int64) (x j : Nat) : zr (zpL S a k v) x j = zr S x j := Eq.trans rfl rfl
theorem nl_pI (S : zM) (a k : Nat) (v : Int32) (x j : Nat) : zl (zpI S a k v) x j = zl S x j := Eq.trans rfl rfl
theorem nl_pR (S : zM) (a k v x j : Nat) : zl (zpR S a k v) x j = zl S x j := Eq.trans rfl rfl
theorem nsz_pI (S : zM) (a k : Nat) (v : Int32) : zsz (zpI S a k v) = zsz S := Eq.trans rfl rfl
theorem nsz_pR (S : zM) (a k v : Nat) : zsz (zpR S a k v) = zsz S := Eq.trans rfl rfl
theorem nsz_pL (S : zM) (a k : Nat) (v : Int64) : zsz (zpL S a k v) = zsz S := Eq.trans rfl rfl
theorem nsz_nw (S : zM) (t n : Nat) : zsz (znw S t n) = zsz S + 1 := Eq.trans rfl rfl
theorem nln_pI (S : zM) (a k : Nat) (v : Int32) (x : Nat) : zln (zpI S a k v) x = zln S x := Eq.trans rfl rfl
theorem nln_pR (S : zM) (a k v x : Nat) : zln (zpR S a k v) x = zln S x := Eq.trans rfl rfl
theorem nln_pL (S : zM) (a k : Nat) (v : Int64) (x : Nat) : zln (zpL S a k v) x = zln S x := Eq.trans rfl rfl
theorem nr_cp (S : zM) (a0 sp a1 dp n x j : Nat) : zr (zcp S a0 sp a1 dp n) x j = zr S x j := Eq.trans rfl rfl
theorem nl_cp (S : zM) (a0 sp a1 dp n x j : Nat) : zl (zcp S a0 sp a1 dp n) x j = zl S x j := Eq.trans rfl rfl
theorem nsz_cp (S : zM) (a0 sp a1 dp n : Nat) : zsz (zcp S a0 sp a1 dp n) = zsz S := Eq.trans rfl rfl
theorem nln_cp (S : zM) (a0 sp a1 dp n x : Nat) : zln (zcp S a0 sp a1 dp n) x = zln S x := Eq.trans rfl rfl
theorem ni_cp (S : zM) {a0 sp a1 dp n x j : Nat} (h : ¬ (x = a1 ∧ dp ≤ j ∧ j < dp + n)) : zi (zcp S a0 sp a1 dp n) x j = zi S x j := if_neg h
theorem ni_cp' (S : zM) {a0 sp a1 dp n x j : Nat} (h : x = a1 ∧ dp ≤ j ∧ j < dp + n) : zi (zcp S a0 sp a1 dp n) x j = zi S a0 (sp + (j - dp)) := if_pos h
theorem mi_eq' (S : zM) {a k x j : Nat} (v : Int32) (h : x = a ∧ j = k) : zi (zpI S a k v) x j = v := if_pos h
theorem mr_eq' (S : zM) {a k x j : Nat} (v : Nat) (h : x = a ∧ j = k) : zr (zpR S a k v) x j = v := if_pos h
theorem mr_ne (S : zM) {a k x j : Nat} (v : Nat) (h : ¬ (x = a ∧ j = k)) : zr (zpR S a k v) x j = zr S x j := if_neg h
theorem ml_eq' (S : zM) {a k x j : Nat} (v : Int64) (h : x = a ∧ j = k) : zl (zpL S a k v) x j = v := if_pos h
theorem ml_ne (S : zM) {a k x j : Nat} (v : Int64) (h : ¬ (x = a ∧ j = k)) : zl (zpL S a k v) x j = zl S x j := if_neg h
theorem mi_nwn (S : zM) {t n x j : Nat} (h : ¬ x = zsz S) : zi (znw S t n) x j = zi S x j := if_neg h
theorem mr_nwn (S : zM) {t n x j : Nat} (h : ¬ x = zsz S) : zr (znw S t n) x j = zr S x j := if_neg h
theorem ml_nwn (S : zM) {t n x j : Nat} (h : ¬ x = zsz S) : zl (znw S t n) x j = zl S x j := if_neg h
theorem mln_nwn (S : zM) {t n x : Nat} (h : ¬ x = zsz S) : zln (znw S t n) x = zln S x := if_neg h
theorem zLay.pR {S : zM} {a k : Nat} {v : Nat} (h : zLay S) (ha : a = 11 ∨ 453 ≤ a ∨ (420 ≤ a ∧ a < 436 ∧ k = 1) ∨ (a = 436 ∧ k = 17) ∨ (a = 405 ∧ k = 1)) : zLay (zpR S a k v) :=
  h.c (Nat.le_refl _) (fun x j h1 h2 h3 h4 h5 => mr_ne _ _ (by omega)) (fun _ _ => rfl)
theorem zLay.pL {S : zM} {a k : Nat} {v : Int64} (h : zLay S) : zLay (zpL S a k v) := h
theorem zLay.cp {S : zM} {a sp b dp n : Nat} (h : zLay S) : zLay (zcp S a sp b dp n) := h.c (Nat.le_refl _) (fun _ _ _ _ _ _ _ => rfl) (fun _ _ => rfl)
/-! judge -/
theorem x_judge {S : zM} (h : zLay S) {k t nj : Nat} (hk : k < 8) (ht : t < 600) (ht6 : t % 10 < 6) (hj : nj < 12) (e : zi S 2 6 = nI nj) :
    f_X11_judge S 1 (nI k) (nI t) = some (nI nj, zpI (zpR (zpI (zpI (zpI (zpI (zpI (znw S 2 0) (zsz S) 0 (nI nj)) (zsz S) 1 (nI k)) (zsz S) 2 (nI (t / 100))) (zsz S) 3 (nI (t / 10 % 10))) (zsz S) 4 (nI (t % 10))) 11 nj (zsz S)) 2 6 (nI (nj + 1))) := by
  have h0 := h.1
  have r0 : zr S 1 0 = 2 := h.2.2.2.2.1.1.1
  have r8 : zr S 2 8 = 11 := h.2.1.1.2.2.2.2.2.1
  have l9 : zln S 11 = 12 := h.2.1.2.2.1.2.2.2.2.2.2.2.1
  have d10 : t / 10 < 2 ^ 31 := by omega
  unfold f_X11_judge f_X9_addJudge f_X2_init
  simp (disch := omega) only [nLet, nB1, nB2, nL2, zcT, zq0, zq1, zq2, zq3, zq4, zq5, zq6, zq7, zq8, zq10, zq12, zq13, zq15, zq16, zq19, zq20, zq21, zq40, zq42, zq64, zq70, zq72, zq100, zq112, zq120, zq200, zq600, zq872, zq878, zq879, zq880, zq1000, zq1001, zq1002, zq1003, zq1004, zq4100, zle_t, zle_f, zlt_t, zlt_f, zeq_t, zeq_f, zNle, zNleT, zNe, not_false_eq_true, not_true_eq_false, false_or, or_false, or_self, true_and, and_true, and_self, ↓reduceIte, nI_clamp, nI_add, nI_mul, nI_sub, mi_eq', mi_ne, ni_pR, ni_pL, nr_pI, nr_pL, mr_eq', mr_ne, nl_pI, nl_pR, ml_eq', ml_ne, nsz_pI, nsz_pR, nsz_pL, nln_pI, nln_pR, nln_pL, mi_nwn, mr_nwn, ml_nwn, mln_nwn, nsz_nw, nr_cp, nl_cp, nsz_cp, nln_cp, ni_cp, ni_cp', nI_div, zNmod, r0, r8, l9, e, zw1]
  rw [show nj + 1 - 1 = nj by omega]
theorem m_judge {S : zM} (h : zLay S) {k t nj : Nat} (hk : k < 8) (ht : t < 600) (ht6 : t % 10 < 6) (hj : nj < 12) (e : zi S 437 1002 = nI nj) :
    f_X12_judge S 436 (nI k) (nI t) = some (nI nj, zpI (zpI (zpI (zpI (zpI S 437 (16 + 4 * nj) (nI k)) 437 (16 + 4 * nj + 1) (nI (t / 100))) 437 (16 + 4 * nj + 2) (nI (t / 10 % 10))) 437 (16 + 4 * nj + 3) (nI (t % 10))) 437 1002 (nI (nj + 1))) := by
  obtain ⟨-, -, -, -, -, ⟨r0, -⟩, ⟨l0, -⟩⟩ := h
  have d10 : t / 10 < 2 ^ 31 := by omega
  unfold f_X12_judge
  rw [zisI (n := 8) rfl, if_pos (zU_n hk (by omega)), zisI (n := 600) rfl, if_pos (zU_n ht (by omega))]
  simp (disch := omega) only [nLet, nB1, nB2, nL2, zcT, zq0, zq1, zq2, zq3, zq4, zq5, zq6, zq7, zq8, zq10, zq12, zq13, zq15, zq16, zq19, zq20, zq21, zq40, zq42, zq64, zq70, zq72, zq100, zq112, zq120, zq200, zq600, zq872, zq878, zq879, zq880, zq1000, zq1001, zq1002, zq1003, zq1004, zq4100, zle_t, zle_f, zlt_t, zlt_f, zeq_t, zeq_f, zNle, zNleT, zNe, not_false_eq_true, not_true_eq_false, false_or, or_false, or_self, true_and, and_true, and_self, ↓reduceIte, nI_clamp, nI_add, nI_mul, nI_sub, mi_eq', mi_ne, ni_pR, ni_pL, nr_pI, nr_pL, mr_eq', mr_ne, nl_pI, nl_pR, ml_eq', ml_ne, nsz_pI, nsz_pR, nsz_pL, nln_pI, nln_pR, nln_pL, mi_nwn, mr_nwn, ml_nwn, mln_nwn, nsz_nw, nr_cp, nl_cp, nsz_cp, nln_cp, ni_cp, ni_cp', nI_div, zNmod, r0, l0, e]
  rw [show nj + 1 - 1 = nj by omega]
theorem x_judgeF {S : zM} (h : zLay S) {k t nj : Nat} (hk : k < 8) (ht : t < 600) (ht6 : t % 10 < 6) (hj : nj < 12) (e : zi S 2 6 = nI nj) :
    ∃ X : zM, f_X11_judge S 1 (nI k) (nI t) = some (nI nj, X) ∧ zLay X ∧ zsz X = zsz S + 1 ∧ (∀ a i : Nat, a < zsz S → ¬ (a = 2 ∧ i = 6) → zi X a i = zi S a i) ∧ (∀ a i : Nat, a < zsz S → ¬ (a = 11 ∧ i = nj) → zr X a i = zr S a i) ∧ zr X 11 nj = zsz S ∧ zi X 2 6 = nI (nj + 1) ∧ zi X (zsz S) 0 = nI nj ∧ zi X (zsz S) 1 = nI k ∧ zi X (zsz S) 2 = nI (t / 100) ∧ zi X (zsz S) 3 = nI (t / 10 % 10) ∧ zi X (zsz S) 4 = nI (t % 10) := by
  have h0 := h.1
  refine ⟨_, x_judge h hk ht ht6 hj e, ?_, ?_, fun a i h1 h2 => ?_, fun a i h1 h2 => ?_, ?_, ?_, ?_, ?_, ?_, ?_, ?_⟩
  · exact zLay.pI (zLay.pR (zLay.pI (zLay.pI (zLay.pI (zLay.pI (zLay.pI (zLay.nw h)))))) (Or.inl rfl))
  · simp only [nsz_pI, nsz_pR, nsz_nw]
  · simp (disch := omega) only [mi_ne, ni_pR, mi_nwn]
  · simp (disch := omega) only [nr_pI, mr_ne, mr_nwn]
  · simp (disch := omega) only [nr_pI, mr_eq']
  · simp (disch := omega) only [mi_eq']
  · simp (disch := omega) only [mi_ne, ni_pR, mi_eq']
  · simp (disch := omega) only [mi_ne, ni_pR, mi_eq']
  · simp (disch := omega) only [mi_ne, ni_pR, mi_eq']
  · simp (disch := omega) only [mi_ne, ni_pR, mi_eq']
  · simp (disch := omega) only [mi_ne, ni_pR, mi_eq']
theorem m_judgeF {S : zM} (h : zLay S) {k t nj : Nat} (hk : k < 8) (ht : t < 600) (ht6 : t % 10 < 6) (hj : nj < 12) (e : zi S 437 1002 = nI nj) :
    ∃ X : zM, f_X12_judge S 436 (nI k) (nI t) = some (nI nj, X) ∧ zF (fun a i => a = 437 ∧ ((16 + 4 * nj ≤ i ∧ i < 20 + 4 * nj) ∨ i = 1002)) S X ∧ zi X 437 1002 = nI (nj + 1) ∧ zi X 437 (16 + 4 * nj) = nI k ∧ zi X 437 (17 + 4 * nj) = nI (t / 100) ∧ zi X 437 (18 + 4 * nj) = nI (t / 10 % 10) ∧ zi X 437 (19 + 4 * nj) = nI (t % 10) := by
  refine ⟨_, m_judge h hk ht ht6 hj e, ?_, ?_, ?_, ?_, ?_, ?_⟩
  · exact ((((zF_pI ⟨rfl, Or.inl (by omega)⟩).tr (zF_pI ⟨rfl, Or.inl (by omega)⟩)).tr (zF_pI ⟨rfl, Or.inl (by omega)⟩)).tr (zF_pI ⟨rfl, Or.inl (by omega)⟩)).tr (zF_pI ⟨rfl, Or.inr rfl⟩)
  · simp (disch := omega) only [mi_ne, mi_eq']
  · simp (disch := omega) only [mi_ne, mi_eq']
  · simp (disch := omega) only [mi_ne, mi_eq']
  · simp (disch := omega) only [mi_ne, mi_eq']
  · simp (disch := omega) only [mi_ne, mi_eq']
theorem s_judge {S : zM} (h : zInv S) (v1 v2 v3 v4 v5 : Int32) : ∃ S' : zM, zs_1 1 436 v1 v2 v3 v4 v5 S S' ∧ zInv S' := by
  have hL := h.1
  have h0 := hL.1
  have h2 := h.2.1
  have r0 : zr S 1 0 = 2 := hL.2.2.2.2.1.1.1
  have r4 : zr S 436 0 = 437 := hL.2.2.2.2.2.1.1
  have l4 : zln S 437 = 1004 := hL.2.2.2.2.2.2.1
  obtain ⟨nd, nj, nv, ⟨b1, b2, b3, b4, b5, b6⟩, c1, c2, c3, c4, c5, c6⟩ := zBd_iff.mp h.2.2.1
  have e6 : zi S 2 6 = nI nj := by rw [← b5]; exact h2.2.2.2.1.2.1
  unfold zs_1
  by_cases hn : zU v1 8 ∧ zU v2 600
  · obtain ⟨⟨k, hk, rfl⟩, ⟨t, ht, rfl⟩⟩ := And.intro hn.1.k hn.2.k
    by_cases ht6 : t % 10 < 6
    · by_cases hj : nj < 12
      · obtain ⟨X, hx, hLX, hXs, hXo, hXr, hXj, hX6, hX0⟩ := x_judgeF hL hk ht ht6 hj e6
        obtain ⟨Y, hm, hYf, hY2, hY1⟩ := m_judgeF hLX hk ht ht6 hj (by rw [hXo _ _ (by omega) (by omega)]; exact b5)
        have hLY : zLay Y := hLX.fr hYf
        have hYo : ∀ a i : Nat, a ≠ 437 → zi Y a i = zi X a i := fun a i h1 => hYf.i (by omega)
        have hYn : ∀ i : Nat, ¬ (16 + 4 * nj ≤ i ∧ i < 20 + 4 * nj) → i ≠ 1002 → zi Y 437 i = zi S 437 i := fun i h1 h2 => by
          rw [hYf.i (by omega)]; exact hXo _ _ (by omega) (by omega)
        have hYr : zr Y = zr X := hYf.r
        have hYs : zsz Y = zsz S + 1 := by rw [hYf.s]; exact hXs
        have eo : ∀ a i : Nat, a < zsz S → a ≠ 437 → ¬ (a = 2 ∧ i = 6) → zi Y a i = zi S a i := fun a i h1 h2 h3 => by rw [hYo a i h2]; exact hXo a i h1 h3
        have er : ∀ a i : Nat, a < zsz S → ¬ (a = 11 ∧ i = nj) → zr Y a i = zr S a i := fun a i h1 h2 => by rw [hYr]; exact hXr a i h1 h2
        refine ⟨Y, ⟨nI nj, X, hx, hm⟩, ?_⟩
        refine h.now hLY (by omega) (fun a i h1 h2 => er a i (by omega) (by omega)) (fun a i ha => eo a i (by omega) (by omega) (by omega)) ?_ ?_
        · refine zRep.lay (zg1 h2 (fun a i ha => eo a i (by omega) (by omega) (by omega)) (fun i hi => hYn i (by omega) (by omega))) (zg2 h2 (fun a i ha => eo a i (by omega) (by omega) (by omega)) (fun i hi _ => hYn i (by omega) (by omega))) (zg3 h2 (fun a i ha => eo a i (by omega) (by omega) (by omega)) (fun i hi _ => hYn i (by omega) (by omega))) ⟨?_, ?_, ?_⟩ (zg5 h2 (fun a i ha => eo a i (by omega) (by omega) (by omega)) (fun i hi _ => hYn i (by omega) (by omega))) (fun j hj1 hj2 => ?_) (zg7 h2 (fun a i ha => eo a i (by omega) (by omega) (by omega)) (fun i hi _ => hYn i (by omega) (by omega)) (hYn 1003 (by omega) (by omega)))
          · rw [eo 2 5 (by omega) (by omega) (by omega), hYn 1001 (by omega) (by omega)]; exact h2.2.2.2.1.1
          · rw [hYo 2 6 (by omega), hX6, hY2]
          · rw [eo 2 7 (by omega) (by omega) (by omega), hYn 1003 (by omega) (by omega)]; exact h2.2.2.2.1.2.2
          · show zRepJ Y (zr Y 11 j) j (zi Y 437)
            by_cases hjj : j = nj
            · subst hjj
              rw [hYr, hXj]
              exact ⟨by omega, by omega, by rw [hYo _ _ (by omega)]; exact hX0.1, by rw [hYo _ _ (by omega), hY1.1]; exact hX0.2.1, by rw [hYo _ _ (by omega), hY1.2.1]; exact hX0.2.2.1, by rw [hYo _ _ (by omega), hY1.2.2.1]; exact hX0.2.2.2.1, by rw [hYo _ _ (by omega), hY1.2.2.2]; exact hX0.2.2.2.2⟩
            · rw [hY2] at hj1
              have hlt : j < nj := by
                have := (nI_ltI (show j < 2 ^ 31 by omega) (show nj + 1 < 2 ^ 31 by omega)).mp hj1
                omega
              rw [er 11 j (by omega) (by omega)]
              have hq := h2.2.2.2.2.2.1 j (by rw [b5]; exact nI_lt hlt (by omega)) hj2
              exact (hq.fr (by omega) (fun i => eo _ i hq.2.1 (by have := hq.1; omega) (by have := hq.1; omega))).g (fun i h1 h2 => hYn i (by omega) (by omega))
        · refine zBd_iff.mpr ⟨nd, nj + 1, nv, ⟨b1, by omega, b3, by rw [hYn 1001 (by omega) (by omega)]; exact b4, hY2, by rw [hYn 1003 (by omega) (by omega)]; exact b6⟩, c1.g b1 (fun i _ => hYn i (by omega) (by omega)), fun j hj1 => ?_, c3.g (fun i _ _ => hYn i (by omega) (by omega)), ?_, c5.g (fun i _ _ => hYn i (by omega) (by omega)), fun v hv => ?_⟩
          · by_cases hjj : j = nj
            · subst hjj
              rw [hY1.1, hY1.2.1, hY1.2.2.1, hY1.2.2.2]
              exact ⟨zU_n hk (by omega), zU_n (by omega) (by omega), zU_n (by omega) (by omega), zU_n ht6 (by omega)⟩
            · rw [hYn (16 + 4 * j) (by omega) (by omega), hYn (17 + 4 * j) (by omega) (by omega), hYn (18 + 4 * j) (by omega) (by omega), hYn (19 + 4 * j) (by omega) (by omega)]
              exact c2 j (by omega)
          · obtain ⟨d1, d2⟩ := c4.g (g1 := zi Y 437) (fun i _ _ => hYn i (by omega) (by omega))
            exact ⟨fun q hq => (d1 q hq).le (by omega), d2⟩
          · obtain ⟨d1, d2, d3, d4, d5, d6, d7⟩ := (c6 v hv).g (g1 := zi Y 437) (fun i _ _ => hYn i (by omega) (by omega))
            exact ⟨d1, d2, d3, d4, d5, fun c hc => ⟨(d6 c hc).1, (d6 c hc).2.1.le (by omega), (d6 c hc).2.2⟩, d7⟩
      · have hj12 : nj = 12 := by omega
        subst hj12
        refine ⟨S, ⟨-2, S, ?_, ?_⟩, h⟩
        · unfold f_X11_judge f_X9_addJudge
          simp (disch := omega) only [nLet, nB1, nB2, nL2, zcT, zq0, zq1, zq2, zq3, zq4, zq5, zq6, zq7, zq8, zq10, zq12, zq13, zq15, zq16, zq19, zq20, zq21, zq40, zq42, zq64, zq70, zq72, zq100, zq112, zq120, zq200, zq600, zq872, zq878, zq879, zq880, zq1000, zq1001, zq1002, zq1003, zq1004, zq4100, zle_t, zle_f, zlt_t, zlt_f, zeq_t, zeq_f, zNle, zNleT, zNe, not_false_eq_true, not_true_eq_false, false_or, or_false, or_self, true_and, and_true, and_self, ↓reduceIte, nI_clamp, nI_add, nI_mul, nI_sub, mi_eq', mi_ne, ni_pR, ni_pL, nr_pI, nr_pL, mr_eq', mr_ne, nl_pI, nl_pR, ml_eq', ml_ne, nsz_pI, nsz_pR, nsz_pL, nln_pI, nln_pR, nln_pL, mi_nwn, mr_nwn, ml_nwn, mln_nwn, nsz_nw, nr_cp, nl_cp, nsz_cp, nln_cp, ni_cp, ni_cp', nI_div, zNmod, r0, e6, zw1, zw0]
        · unfold f_X12_judge
          rw [zisI (n := 8) rfl, if_pos hn.1, zisI (n := 600) rfl, if_pos hn.2]
          simp (disch := omega) only [nLet, nB1, nB2, nL2, zcT, zq0, zq1, zq2, zq3, zq4, zq5, zq6, zq7, zq8, zq10, zq12, zq13, zq15, zq16, zq19, zq20, zq21, zq40, zq42, zq64, zq70, zq72, zq100, zq112, zq120, zq200, zq600, zq872, zq878, zq879, zq880, zq1000, zq1001, zq1002, zq1003, zq1004, zq4100, zle_t, zle_f, zlt_t, zlt_f, zeq_t, zeq_f, zNle, zNleT, zNe, not_false_eq_true, not_true_eq_false, false_or, or_false, or_self, true_and, and_true, and_self, ↓reduceIte, nI_clamp, nI_add, nI_mul, nI_sub, mi_eq', mi_ne, ni_pR, ni_pL, nr_pI, nr_pL, mr_eq', mr_ne, nl_pI, nl_pR, ml_eq', ml_ne, nsz_pI, nsz_pR, nsz_pL, nln_pI, nln_pR, nln_pL, mi_nwn, mr_nwn, ml_nwn, mln_nwn, nsz_nw, nr_cp, nl_cp, nsz_cp, nln_cp, ni_cp, ni_cp', nI_div, zNmod, r4, l4, b5]
    · refine ⟨S, ⟨-1, S, ?_, ?_⟩, h⟩
      · unfold f_X11_judge
        simp (disch := omega) only [nLet, nB1, nB2, nL2, zcT, zq0, zq1, zq2, zq3, zq4, zq5, zq6, zq7, zq8, zq10, zq12, zq13, zq15, zq16, zq19, zq20, zq21, zq40, zq42, zq64, zq70, zq72, zq100, zq112, zq120, zq200, zq600, zq872, zq878, zq879, zq880, zq1000, zq1001, zq1002, zq1003, zq1004, zq4100, zle_t, zle_f, zlt_t, zlt_f, zeq_t, zeq_f, zNle, zNleT, zNe, not_false_eq_true, not_true_eq_false, false_or, or_false, or_self, true_and, and_true, and_self, ↓reduceIte, nI_clamp, nI_add, nI_mul, nI_sub, mi_eq', mi_ne, ni_pR, ni_pL, nr_pI, nr_pL, mr_eq', mr_ne, nl_pI, nl_pR, ml_eq', ml_ne, nsz_pI, nsz_pR, nsz_pL, nln_pI, nln_pR, nln_pL, mi_nwn, mr_nwn, ml_nwn, mln_nwn, nsz_nw, nr_cp, nl_cp, nsz_cp, nln_cp, ni_cp, ni_cp', nI_div, zNmod, zw1, zw0]
      · unfold f_X12_judge
        rw [zisI (n := 8) rfl, if_pos hn.1, zisI (n := 600) rfl, if_pos hn.2]
        simp (disch := omega) only [nLet, nB1, nB2, nL2, zcT, zq0, zq1, zq2, zq3, zq4, zq5, zq6, zq7, zq8, zq10, zq12, zq13, zq15, zq16, zq19, zq20, zq21, zq40, zq42, zq64, zq70, zq72, zq100, zq112, zq120, zq200, zq600, zq872, zq878, zq879, zq880, zq1000, zq1001, zq1002, zq1003, zq1004, zq4100, zle_t, zle_f, zlt_t, zlt_f, zeq_t, zeq_f, zNle, zNleT, zNe, not_false_eq_true, not_true_eq_false, false_or, or_false, or_self, true_and, and_true, and_self, ↓reduceIte, nI_clamp, nI_add, nI_mul, nI_sub, mi_eq', mi_ne, ni_pR, ni_pL, nr_pI, nr_pL, mr_eq', mr_ne, nl_pI, nl_pR, ml_eq', ml_ne, nsz_pI, nsz_pR, nsz_pL, nln_pI, nln_pR, nln_pL, mi_nwn, mr_nwn, ml_nwn, mln_nwn, nsz_nw, nr_cp, nl_cp, nsz_cp, nln_cp, ni_cp, ni_cp', nI_div, zNmod]
  · refine ⟨S, ⟨-1, S, ?_, ?_⟩, h⟩
    · unfold f_X11_judge
      rw [zwi (v := v1) (n := 8) rfl, zwi (v := v2) (n := 600) rfl]
      by_cases h1 : zU v1 8
      · have h2 : ¬ zU v2 600 := fun q => hn ⟨h1, q⟩
        rw [if_pos h1, if_neg h2]; rfl
      · rw [if_neg h1]; rfl
    · unfold f_X12_judge
      rw [zisI (n := 8) rfl, zisI (n := 600) rfl]
      by_cases h1 : zU v1 8
      · have h2 : ¬ zU v2 600 := fun q => hn ⟨h1, q⟩
        rw [if_pos h1, if_neg h2]; rfl
      · rw [if_neg h1]; rfl
