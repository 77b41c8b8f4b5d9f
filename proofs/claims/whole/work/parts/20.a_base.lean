/-! LEVEL 2: the functions alone. Memory: reading after writing; loops; numbers -/
theorem mi_pI (S : zM) (a k : Nat) (v : Int32) (x j : Nat) : zi (zpI S a k v) x j = if x = a ∧ j = k then v else zi S x j := rfl
theorem mi_eq (S : zM) (a k : Nat) (v : Int32) : zi (zpI S a k v) a k = v := if_pos ⟨rfl, rfl⟩
theorem ml_eq (S : zM) (a k : Nat) (v : Int64) : zl (zpL S a k v) a k = v := if_pos ⟨rfl, rfl⟩
theorem mr_eq (S : zM) (a k v : Nat) : zr (zpR S a k v) a k = v := if_pos ⟨rfl, rfl⟩
theorem mi_ne (S : zM) {a k x j : Nat} (v : Int32) (h : ¬ (x = a ∧ j = k)) : zi (zpI S a k v) x j = zi S x j := if_neg h
theorem mi_pR (S : zM) (a k v : Nat) : zi (zpR S a k v) = zi S := rfl
theorem mi_pL (S : zM) (a k : Nat) (v : Int64) : zi (zpL S a k v) = zi S := rfl
theorem mr_pI (S : zM) (a k : Nat) (v : Int32) : zr (zpI S a k v) = zr S := rfl
theorem mr_pR (S : zM) (a k v : Nat) (x j : Nat) : zr (zpR S a k v) x j = if x = a ∧ j = k then v else zr S x j := rfl
theorem mr_pL (S : zM) (a k : Nat) (v : Int64) : zr (zpL S a k v) = zr S := rfl
theorem ml_pI (S : zM) (a k : Nat) (v : Int32) : zl (zpI S a k v) = zl S := rfl
theorem ml_pR (S : zM) (a k v : Nat) : zl (zpR S a k v) = zl S := rfl
theorem ml_pL (S : zM) (a k : Nat) (v : Int64) (x j : Nat) : zl (zpL S a k v) x j = if x = a ∧ j = k then v else zl S x j := rfl
theorem msz_pI (S : zM) (a k : Nat) (v : Int32) : zsz (zpI S a k v) = zsz S := rfl
theorem msz_pR (S : zM) (a k v : Nat) : zsz (zpR S a k v) = zsz S := rfl
theorem msz_pL (S : zM) (a k : Nat) (v : Int64) : zsz (zpL S a k v) = zsz S := rfl
theorem mln_pI (S : zM) (a k : Nat) (v : Int32) : zln (zpI S a k v) = zln S := rfl
theorem mln_pR (S : zM) (a k v : Nat) : zln (zpR S a k v) = zln S := rfl
theorem mln_pL (S : zM) (a k : Nat) (v : Int64) : zln (zpL S a k v) = zln S := rfl
theorem mi_nw (S : zM) (t n x j : Nat) : zi (znw S t n) x j = if x = zsz S then 0 else zi S x j := rfl
theorem mr_nw (S : zM) (t n x j : Nat) : zr (znw S t n) x j = if x = zsz S then 0 else zr S x j := rfl
theorem ml_nw (S : zM) (t n x j : Nat) : zl (znw S t n) x j = if x = zsz S then 0 else zl S x j := rfl
theorem mln_nw (S : zM) (t n x : Nat) : zln (znw S t n) x = if x = zsz S then n else zln S x := rfl
theorem mty_nw (S : zM) (t n x : Nat) : zty (znw S t n) x = if x = zsz S then t else zty S x := rfl
theorem msz_nw (S : zM) (t n : Nat) : zsz (znw S t n) = zsz S + 1 := rfl
theorem mi_cp (S : zM) (a0 sp a1 dp n x j : Nat) : zi (zcp S a0 sp a1 dp n) x j = if x = a1 ∧ dp ≤ j ∧ j < dp + n then zi S a0 (sp + (j - dp)) else zi S x j := rfl
theorem mr_cp (S : zM) (a0 sp a1 dp n : Nat) : zr (zcp S a0 sp a1 dp n) = zr S := rfl
theorem ml_cp (S : zM) (a0 sp a1 dp n : Nat) : zl (zcp S a0 sp a1 dp n) = zl S := rfl
theorem msz_cp (S : zM) (a0 sp a1 dp n : Nat) : zsz (zcp S a0 sp a1 dp n) = zsz S := rfl
theorem mln_cp (S : zM) (a0 sp a1 dp n : Nat) : zln (zcp S a0 sp a1 dp n) = zln S := rfl
theorem zChk_t {α : Type} {c : Prop} [Decidable c] {x : Option α} (h : c) : zChk c x = x := if_pos h
theorem zLet_d {α β : Type} (v : α) (k : α → β) : zLet v k = k v := rfl
theorem zB1_s {α β : Type} (v : α) (k : α → Option β) : zB1 (some v) k = k v := rfl
theorem zB2_s {α β γ : Type} (v : α) (w : β) (k : α → β → Option γ) : zB2 (some (v, w)) k = k v w := rfl
theorem zL2_d {α β γ : Type} (v : α) (w : β) (k : α → β → γ) : zL2 (v, w) k = k v w := rfl
/-- an index within a row -/
theorem zix {j L : Nat} (h : j < L) (hj : j < 2 ^ 31) : ¬ (nI j < 0 ∨ L ≤ (nI j).toNatClampNeg) := by
  rw [nI_clamp hj]
  intro hh
  rcases hh with h1 | h1
  · exact nI_pos hj h1
  · omega
theorem zixc {j L : Nat} (h : j < L) (hj : j < 2 ^ 31) : ¬ (nI j < 0 ∨ L ≤ j) := by
  intro hh
  rcases hh with h1 | h1
  · exact nI_pos hj h1
  · omega
/-- a loop whose states are known one by one -/
theorem zloop {α β : Type} (F : Nat → α → Option β) (st : Nat → α) (N : Nat) {res : Option β} (hstep : ∀ k f : Nat, k < N → F (f + 1) (st k) = F f (st (k + 1))) (hend : ∀ f : Nat, F (f + 1) (st N) = res) : ∀ n : Nat, N < n → F n (st 0) = res := by
  have key : ∀ d k n : Nat, k + d = N → d < n → F n (st k) = res := by
    intro d
    induction d with
    | zero =>
      intro k n hk hn
      obtain ⟨f, rfl⟩ : ∃ f, n = f + 1 := ⟨n - 1, by omega⟩
      have : k = N := by omega
      subst this
      exact hend f
    | succ d ih =>
      intro k n hk hn
      obtain ⟨f, rfl⟩ : ∃ f, n = f + 1 := ⟨n - 1, by omega⟩
      rw [hstep k f (by omega)]
      exact ih (k + 1) f (by omega) (by omega)
  exact fun n hn => key N 0 n (by omega) hn
/-- a loop with an invariant: each round leads on, the last to the end -/
theorem zloopR {α β : Type} (F : Nat → α → Option β) (I : Nat → α → Prop) (N : Nat) (P : Option β → Prop) (hstep : ∀ (k f : Nat) (s : α), k < N → I k s → ∃ s' : α, I (k + 1) s' ∧ F (f + 1) s = F f s') (hend : ∀ (f : Nat) (s : α), I N s → P (F (f + 1) s)) : ∀ (n : Nat) (s : α), N < n → I 0 s → P (F n s) := by
  have key : ∀ d k n : Nat, ∀ s : α, k + d = N → d < n → I k s → P (F n s) := by
    intro d
    induction d with
    | zero =>
      intro k n s hk hn hi
      obtain ⟨f, rfl⟩ : ∃ f, n = f + 1 := ⟨n - 1, by omega⟩
      have : k = N := by omega
      subst this
      exact hend f s hi
    | succ d ih =>
      intro k n s hk hn hi
      obtain ⟨f, rfl⟩ : ∃ f, n = f + 1 := ⟨n - 1, by omega⟩
      obtain ⟨s', hi', e⟩ := hstep k f s (by omega) hi
      rw [e]
      exact ih (k + 1) f s' (by omega) (by omega) hi'
  exact fun n s hn hi => key N 0 n s (by omega) hn hi
/-- f 0 + .. + f (k - 1) -/
def zSum (f : Nat → Int32) : Nat → Int32
  | 0 => 0
  | k + 1 => zSum f k + f k
theorem zSum_c {f g : Nat → Int32} {k : Nat} (h : ∀ i, i < k → f i = g i) : zSum f k = zSum g k := by
  induction k with
  | zero => rfl
  | succ k ih =>
    show zSum f k + f k = zSum g k + g k
    rw [ih (fun i hi => h i (by omega)), h k (by omega)]
/-- how many i < k with p i -/
def zCnt (p : Nat → Bool) : Nat → Nat
  | 0 => 0
  | k + 1 => if p k then zCnt p k + 1 else zCnt p k
theorem zCnt_c {p q : Nat → Bool} {k : Nat} (h : ∀ i, i < k → p i = q i) : zCnt p k = zCnt q k := by
  induction k with
  | zero => rfl
  | succ k ih =>
    show (if p k then _ else _) = (if q k then _ else _)
    rw [ih (fun i hi => h i (by omega)), h k (by omega)]
theorem zCnt_le (p : Nat → Bool) (k : Nat) : zCnt p k ≤ k := by
  induction k with
  | zero => exact Nat.le_refl _
  | succ k ih =>
    show (if p k then _ else _) ≤ _
    split <;> omega
/-- what a stretch of memory writes: places of ints and longs only -/
def zF (W : Nat → Nat → Prop) (S S1 : zM) : Prop := zsz S1 = zsz S ∧ zty S1 = zty S ∧ zln S1 = zln S ∧ zr S1 = zr S ∧ ∀ a k : Nat, ¬ W a k → zi S1 a k = zi S a k ∧ zl S1 a k = zl S a k
theorem zF.rf {W : Nat → Nat → Prop} {S : zM} : zF W S S := ⟨rfl, rfl, rfl, rfl, fun _ _ _ => ⟨rfl, rfl⟩⟩
theorem zF.tr {W : Nat → Nat → Prop} {S S1 S2 : zM} (h : zF W S S1) (h2 : zF W S1 S2) : zF W S S2 :=
  ⟨h2.1.trans h.1, h2.2.1.trans h.2.1, h2.2.2.1.trans h.2.2.1, h2.2.2.2.1.trans h.2.2.2.1, fun a k hw => ⟨(h2.2.2.2.2 a k hw).1.trans (h.2.2.2.2 a k hw).1, (h2.2.2.2.2 a k hw).2.trans (h.2.2.2.2 a k hw).2⟩⟩
theorem zF.mo {W V : Nat → Nat → Prop} {S S1 : zM} (h : zF W S S1) (hv : ∀ a k : Nat, W a k → V a k) : zF V S S1 := ⟨h.1, h.2.1, h.2.2.1, h.2.2.2.1, fun a k hw => h.2.2.2.2 a k (fun q => hw (hv a k q))⟩
theorem zF_pI {W : Nat → Nat → Prop} {S : zM} {a k : Nat} {v : Int32} (h : W a k) : zF W S (zpI S a k v) :=
  ⟨rfl, rfl, rfl, rfl, fun x j hw => ⟨by rw [mi_pI, if_neg]; rintro ⟨rfl, rfl⟩; exact hw h, rfl⟩⟩
theorem zF_pL {W : Nat → Nat → Prop} {S : zM} {a k : Nat} {v : Int64} (h : W a k) : zF W S (zpL S a k v) :=
  ⟨rfl, rfl, rfl, rfl, fun x j hw => ⟨rfl, by rw [ml_pL, if_neg]; rintro ⟨rfl, rfl⟩; exact hw h⟩⟩
theorem zF_cp {W : Nat → Nat → Prop} {S : zM} {a0 sp a1 dp n : Nat} (h : ∀ j : Nat, dp ≤ j → j < dp + n → W a1 j) : zF W S (zcp S a0 sp a1 dp n) :=
  ⟨rfl, rfl, rfl, rfl, fun x j hw => ⟨by rw [mi_cp, if_neg]; rintro ⟨rfl, h1, h2⟩; exact hw (h j h1 h2), rfl⟩⟩
theorem zF.i {W : Nat → Nat → Prop} {S S1 : zM} (h : zF W S S1) {a k : Nat} (hw : ¬ W a k) : zi S1 a k = zi S a k := (h.2.2.2.2 a k hw).1
theorem zF.l {W : Nat → Nat → Prop} {S S1 : zM} (h : zF W S S1) {a k : Nat} (hw : ¬ W a k) : zl S1 a k = zl S a k := (h.2.2.2.2 a k hw).2
theorem zF.r {W : Nat → Nat → Prop} {S S1 : zM} (h : zF W S S1) : zr S1 = zr S := h.2.2.2.1
theorem zF.n {W : Nat → Nat → Prop} {S S1 : zM} (h : zF W S S1) : zln S1 = zln S := h.2.2.1
theorem zF.s {W : Nat → Nat → Prop} {S S1 : zM} (h : zF W S S1) : zsz S1 = zsz S := h.1
/-- 0 ≤ v < n -/
abbrev zU (v : Int32) (n : Nat) : Prop := 0 ≤ v.toInt ∧ v.toInt < n
theorem zU.k {v : Int32} {n : Nat} (h : zU v n) : ∃ k : Nat, k < n ∧ v = nI k := by
  obtain ⟨h1, h2⟩ := h
  refine ⟨v.toInt.toNat, by omega, ?_⟩
  unfold nI
  rw [← Int32.ofInt_eq_ofNat, Int.toNat_of_nonneg h1, Int32.ofInt_toInt]
theorem zU_n {k n : Nat} (h : k < n) (hn : n ≤ 2 ^ 31) : zU (nI k) n := by
  unfold zU
  rw [nI_toInt (by omega)]
  omega
theorem zU_i {k n : Nat} (hk : k < 2 ^ 31) : zU (nI k) n ↔ k < n := by
  unfold zU
  rw [nI_toInt hk]
  omega
theorem zwi {v s : Int32} {n : Nat} (h : s.toInt = n) : f_X11_within v s = if zU v n then 1 else 0 := by
  unfold f_X11_within zU
  have h0 : (0 : Int32).toInt = 0 := rfl
  simp only [Int32.lt_iff_toInt_lt, Int32.le_iff_toInt_le, h, h0]
  repeat' split
  all_goals first | rfl | omega
theorem zisI {v : Int32} {b : Int64} {n : Nat} (h : b.toInt = (n : Int) - 1) : f_X12_isIn v.toInt64 0 b = if zU v n then 1 else 0 := by
  unfold f_X12_isIn zU
  have h0 : (0 : Int64).toInt = 0 := rfl
  have h1 : lg_cmp v.toInt64 0 < 0 ↔ v.toInt < 0 := by
    rw [lg_cmp_lt, Int64.lt_iff_toInt_lt, Int32.toInt_toInt64, h0]
  have h2 : 0 < lg_cmp v.toInt64 b ↔ (n : Int) - 1 < v.toInt := by
    rw [lg_cmp_gt, Int64.lt_iff_toInt_lt, Int32.toInt_toInt64, h]
  simp only [h1, h2]
  repeat' split
  all_goals first | rfl | omega
