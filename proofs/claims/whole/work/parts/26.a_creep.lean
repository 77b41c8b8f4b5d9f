/-! the one chair from which a judge marked a dive -/
def zFc (p : Nat → Bool) : Nat → Nat → Option Nat
  | 0, _ => none
  | d + 1, k => if p k then some k else zFc p d (k + 1)
theorem zFc_s {p : Nat → Bool} {d k c : Nat} (h : zFc p d k = some c) : k ≤ c ∧ c < k + d ∧ p c = true := by
  induction d generalizing k with
  | zero => cases h
  | succ d ih =>
    have h' : (if p k then some k else zFc p d (k + 1)) = some c := h
    by_cases hp : p k = true
    · rw [if_pos hp] at h'
      cases h'
      exact ⟨Nat.le_refl _, by omega, hp⟩
    · rw [if_neg hp] at h'
      obtain ⟨h1, h2, h3⟩ := ih h'
      exact ⟨by omega, by omega, h3⟩
theorem zOne {σ β : Type} (F : Nat → Int32 → σ → β) (p : Nat → Bool) (upd : Nat → σ → σ) (E : σ → β) (I : σ → Prop) (hI : ∀ (k : Nat) (s : σ), k < 7 → p k = true → I s → I (upd k s)) (hs : ∀ (k f : Nat) (s : σ), k < 7 → I s → F (f + 1) (nI k) s = if p k = true then F f (nI (k + 1)) (upd k s) else F f (nI (k + 1)) s) (he : ∀ (f : Nat) (s : σ), I s → F (f + 1) (nI 7) s = E s) (hu : ∀ c c1 : Nat, c < 7 → c1 < 7 → p c = true → p c1 = true → c = c1) : ∀ (n : Nat) (s : σ), 7 < n → I s → F n (nI 0) s = E (match zFc p 7 0 with
    | none => s
    | some c => upd c s) := by
  have key1 : ∀ (d k n : Nat) (s : σ), k + d = 7 → d < n → I s → (∀ c : Nat, k ≤ c → c < 7 → ¬ p c = true) → F n (nI k) s = E s := by
    intro d
    induction d with
    | zero =>
      intro k n s hk hn hi _
      obtain ⟨f, rfl⟩ : ∃ f, n = f + 1 := ⟨n - 1, by omega⟩
      have : k = 7 := by omega
      subst this
      exact he f s hi
    | succ d ih =>
      intro k n s hk hn hi hp
      obtain ⟨f, rfl⟩ : ∃ f, n = f + 1 := ⟨n - 1, by omega⟩
      rw [hs k f s (by omega) hi, if_neg (hp k (Nat.le_refl _) (by omega))]
      exact ih (k + 1) f s (by omega) (by omega) hi (fun c h1 h2 => hp c (by omega) h2)
  have key2 : ∀ (d k n : Nat) (s : σ), k + d = 7 → d < n → I s → F n (nI k) s = E (match zFc p d k with
      | none => s
      | some c => upd c s) := by
    intro d
    induction d with
    | zero =>
      intro k n s hk hn hi
      obtain ⟨f, rfl⟩ : ∃ f, n = f + 1 := ⟨n - 1, by omega⟩
      have : k = 7 := by omega
      subst this
      exact he f s hi
    | succ d ih =>
      intro k n s hk hn hi
      obtain ⟨f, rfl⟩ : ∃ f, n = f + 1 := ⟨n - 1, by omega⟩
      have e : zFc p (d + 1) k = if p k then some k else zFc p d (k + 1) := rfl
      rw [hs k f s (by omega) hi, e]
      by_cases hp : p k = true
      · rw [if_pos hp, if_pos hp]
        exact key1 d (k + 1) f (upd k s) (by omega) (by omega) (hI k s (by omega) hp hi) (fun c h1 h2 q => by
          have := hu k c (by omega) h2 hp q
          omega)
      · rw [if_neg hp, if_neg hp]
        exact ih (k + 1) f s (by omega) (by omega) hi
  exact fun n s hn hi => key2 7 0 n s (by omega) (by omega) hi
def zBp (g : Nat → Int32) (v j : Nat) (c : Nat) : Bool := decide (g (112 + 19 * v + 12 + c) = nI (j + 1))
def zBy (g : Nat → Int32) (v j : Nat) : Option Nat := zFc (zBp g v j) 7 0
theorem zBp_u {g : Nat → Int32} {nd nj v j : Nat} (hb : zB6p g nd nj (112 + 19 * v)) (hj : j < 12) : ∀ c c1 : Nat, c < 7 → c1 < 7 → zBp g v j c = true → zBp g v j c1 = true → c = c1 := by
  intro c c1 hc hc1 h1 h2
  have e1 := of_decide_eq_true h1
  have e2 := of_decide_eq_true h2
  by_cases q : c = c1
  · exact q
  · have := hb.2.2.2.2.2.2 c c1 hc hc1 q (e1.trans e2.symm)
    rw [e1] at this
    exact absurd this (nI_ne0 (by omega) (by omega))
/-- the mark that judge j gave dive v -/
theorem zBy_s {g : Nat → Int32} {nd nj v j c : Nat} (hb : zB6p g nd nj (112 + 19 * v)) (hj : j < 12) (h : zBy g v j = some c) : c < 7 ∧ g (112 + 19 * v + 12 + c) = nI (j + 1) ∧ ¬ g (112 + 19 * v + 5 + c) = 0 ∧ zU (g (112 + 19 * v + 5 + c) - 1) 21 := by
  obtain ⟨-, h2, h3⟩ := zFc_s h
  have e := of_decide_eq_true h3
  have hb6 := hb.2.2.2.2.2.1 c (by omega)
  have hne : ¬ g (112 + 19 * v + 5 + c) = 0 := fun q => by
    have := hb6.2.2 q
    rw [e] at this
    exact absurd this (nI_ne0 (by omega) (by omega))
  obtain ⟨k, hk, ek⟩ := hb6.1.k
  refine ⟨by omega, e, hne, ?_⟩
  rw [ek] at hne ⊢
  rcases Nat.eq_zero_or_pos k with q | q
  · rw [q] at hne
    exact absurd rfl hne
  · rw [show (1 : Int32) = nI 1 from rfl, nI_sub q]
    exact zU_n (by omega) (by omega)
theorem zn128 {x : Int32} {n : Nat} (h : zU x n) : ¬ x = -128 := by
  intro q
  rw [q] at h
  exact absurd h.1 (by decide +kernel)
theorem x_markBy {S : zM} {b v nd nj j : Nat} {g : Nat → Int32} (hL : zLayS (zr S) (zln S) b) (hv : v < 40) (hD : zRepD (zi S) (b + 14 + 3 * v) g (112 + 19 * v)) (hb : zB6p g nd nj (112 + 19 * v)) (hj : j < 12) {n : Nat} (hn : 7 < n) : f_X1_markBy n S (b + 14 + 3 * v) (nI j) = some (match zBy g v j with
    | none => -128
    | some c => g (112 + 19 * v + 5 + c) - 1) := by
  obtain ⟨-, d2, d3, d4, d5⟩ := hL.2.2.2 v hv
  unfold f_X1_markBy zBy
  have key : ∀ d k n : Nat, k + d = 7 → d < n → f_X1_markBy_L2 S (b + 14 + 3 * v) (nI j) n (nI k) = some (match zFc (zBp g v j) d k with
      | none => -128
      | some c => g (112 + 19 * v + 5 + c) - 1) := by
    intro d
    induction d with
    | zero =>
      intro k n hk hn
      obtain ⟨f, rfl⟩ : ∃ f, n = f + 1 := ⟨n - 1, by omega⟩
      have : k = 7 := by omega
      subst this
      show f_X1_markBy_L2b S (b + 14 + 3 * v) (nI j) (f_X1_markBy_L2 S (b + 14 + 3 * v) (nI j) f) (nI 7) = some (-128)
      unfold f_X1_markBy_L2b
      rw [if_pos (show (7 : Int32) ≤ nI 7 from Int32.le_refl _)]
    | succ d ih =>
      intro k n hk hn
      obtain ⟨f, rfl⟩ : ∃ f, n = f + 1 := ⟨n - 1, by omega⟩
      have h7 : k < 7 := by omega
      have e : zFc (zBp g v j) (d + 1) k = if zBp g v j k then some k else zFc (zBp g v j) d (k + 1) := rfl
      rw [e]
      show f_X1_markBy_L2b S (b + 14 + 3 * v) (nI j) (f_X1_markBy_L2 S (b + 14 + 3 * v) (nI j) f) (nI k) = _
      unfold f_X1_markBy_L2b
      have hm := hD.2.2.2.2.2 k h7
      rw [show b + 14 + 3 * v + 1 = b + 15 + 3 * v by omega, show b + 14 + 3 * v + 2 = b + 16 + 3 * v by omega] at hm
      rw [if_neg (show ¬ (7 : Int32) ≤ nI k from nI_ge h7 (by decide)), d3, zChk_t (by omega), d5, zChk_t (zix h7 (by omega)), nI_clamp (by omega), hm.2, d2, zChk_t (by omega), d4, zChk_t (zixc h7 (by omega)), nI_1, ih (k + 1) f (by omega) (by omega), hm.1]
      by_cases hp : g (112 + 19 * v + 12 + k) = nI (j + 1)
      · have hb6 := hb.2.2.2.2.2.1 k h7
        have hne : ¬ g (112 + 19 * v + 5 + k) = 0 := fun q => by
          have := hb6.2.2 q
          rw [hp] at this
          exact absurd this (nI_ne0 (by omega) (by omega))
        rw [if_pos (by rw [hp, nI_pred]), if_pos (show zBp g v j k = true from decide_eq_true hp), if_neg hne]
      · rw [if_neg (fun q => hp ?_), if_neg (show ¬ zBp g v j k = true from fun q => hp (of_decide_eq_true q))]
        rw [← nI_1, ← q, Int32.sub_add_cancel]
  exact key 7 0 n (by omega) (by omega)
/-! means, creep -/
/-- sum and number of a judge's marks in halls of a year, over the dives before k -/
def zMn (g : Nat → Int32) (j : Nat) (y : Int32) : Nat → Int32 × Nat
  | 0 => (0, 0)
  | k + 1 => if g (64 + (g (112 + 19 * k)).toNatClampNeg) = y then (match zBy g k j with
      | none => zMn g j y k
      | some c => ((zMn g j y k).1 + (g (112 + 19 * k + 5 + c) - 1), (zMn g j y k).2 + 1)) else zMn g j y k
theorem zU_add {x y : Int32} {n m : Nat} (hx : zU x (n + 1)) (hy : zU y (m + 1)) (h : n + m < 2 ^ 30) : zU (x + y) (n + m + 1) := by
  obtain ⟨a, ha, rfl⟩ := hx.k
  obtain ⟨b, hb, rfl⟩ := hy.k
  rw [nI_add]
  exact zU_n (by omega) (by omega)
theorem zMn_b {g : Nat → Int32} {nd nj nv j : Nat} {y : Int32} (h40 : nv ≤ 40) (h6 : ∀ v : Nat, v < nv → zB6p g nd nj (112 + 19 * v)) (hj : j < 12) : ∀ k : Nat, k ≤ nv → zU (zMn g j y k).1 (20 * k + 1) ∧ (zMn g j y k).2 ≤ k := by
  intro k
  induction k with
  | zero => intro _; exact ⟨zU_n (k := 0) (by omega) (by omega), Nat.le_refl _⟩
  | succ k ih =>
    intro hk
    obtain ⟨h1, h2⟩ := ih (by omega)
    have e : zMn g j y (k + 1) = if g (64 + (g (112 + 19 * k)).toNatClampNeg) = y then (match zBy g k j with
      | none => zMn g j y k
      | some c => ((zMn g j y k).1 + (g (112 + 19 * k + 5 + c) - 1), (zMn g j y k).2 + 1)) else zMn g j y k := rfl
    rw [e]
    by_cases hy : g (64 + (g (112 + 19 * k)).toNatClampNeg) = y
    · rw [if_pos hy]
      cases hz : zBy g k j with
      | none => exact ⟨h1.le (by omega), by show (zMn g j y k).2 ≤ k + 1; omega⟩
      | some c =>
        obtain ⟨-, -, -, hu⟩ := zBy_s (h6 k (by omega)) hj hz
        exact ⟨zU_add (n := 20 * k) (m := 20) h1 hu (by omega), by show (zMn g j y k).2 + 1 ≤ k + 1; omega⟩
    · rw [if_neg hy]
      exact ⟨h1.le (by omega), by omega⟩
def zMean (g : Nat → Int32) (j : Nat) (y : Int32) (nv : Nat) : Int32 := if (zMn g j y nv).2 = 0 then -4 else (zMn g j y nv).1 * 100 / nI (zMn g j y nv).2
/-- the bounds with marks -/
def zBz (g : Nat → Int32) (nd nj nv : Nat) : Prop := zBn g nd nj nv ∧ zB1p g nd ∧ zB2p g nj ∧ zB3p g ∧ zB4p g nj ∧ zB5p g ∧ ∀ v : Nat, v < nv → zB6p g nd nj (112 + 19 * v)
theorem zBz.s {g : Nat → Int32} {nd nj nv : Nat} (h : zBz g nd nj nv) : zBs g nd nj nv := ⟨h.1, h.2.1, h.2.2.1, h.2.2.2.1, h.2.2.2.2.1, h.2.2.2.2.2.1, fun v hv => (h.2.2.2.2.2.2 v hv).w⟩
theorem zInv.z {S : zM} (h : zInv S) : ∃ nd nj nv : Nat, zCx S 2 (zi S 437) nd nj nv ∧ zBz (zi S 437) nd nj nv ∧ zRx S (zi S 437) nd nj nv := by
  obtain ⟨nd, nj, nv, hst⟩ := zBd_all.mp h.2.2.1
  have hz : zBz (zi S 437) nd nj nv := hst
  exact ⟨nd, nj, nv, ⟨Or.inl rfl, h.1.2.1, h.2.1, hz.s⟩, hz, h.1, fun _ => rfl, hz.s⟩
theorem x_meanOf {S : zM} {b nd nj nv j : Nat} {g : Nat → Int32} {y : Int32} (h : zCx S b g nd nj nv) (hz : zBz g nd nj nv) (hj : j < 12) {n : Nat} (hn : 40 < n) : f_X9_meanOf n S b (nI j) y = some (zMean g j y nv) := by
  obtain ⟨⟨b1, b2, b3⟩, e5, e6, e7⟩ := h.n
  have r9 : zr S b 9 = b + 10 := h.2.1.1.2.2.2.2.2.2.1
  have l10 : zln S (b + 10) = 40 := h.2.1.2.2.1.2.2.2.2.2.2.2.2.1
  have r2 : zr S b 2 = b + 3 := h.2.1.1.2.2.1
  have l3 : zln S (b + 3) = 6 := h.2.1.2.2.1.2.2.1
  have hb := h.1
  unfold f_X9_meanOf
  rw [zLet_d]
  refine zloop (fun m (s : Int32 × Int32 × Int32) => f_X9_meanOf_L8 n S b (nI j) y (fun x1 x2 => if x2 = 0 then some (-4 : Int32) else zChk (¬ x2 = 0) (some ((x1 * (100 : Int32)) / x2))) m s.1 s.2.1 s.2.2) (fun k => ((zMn g j y k).1, nI (zMn g j y k).2, nI k)) nv (fun k f hk => ?_) (fun f => ?_) n (by omega)
  · generalize (fun x1 x2 => if x2 = 0 then some (-4 : Int32) else zChk (¬ x2 = 0) (some ((x1 * (100 : Int32)) / x2))) = K
    show f_X9_meanOf_L8b n S b (nI j) y K (f_X9_meanOf_L8 n S b (nI j) y K f) (zMn g j y k).1 (nI (zMn g j y k).2) (nI k) = f_X9_meanOf_L8 n S b (nI j) y K f (if g (64 + (g (112 + 19 * k)).toNatClampNeg) = y then (match zBy g k j with
      | none => zMn g j y k
      | some c => ((zMn g j y k).1 + (g (112 + 19 * k + 5 + c) - 1), (zMn g j y k).2 + 1)) else zMn g j y k).1 (nI (if g (64 + (g (112 + 19 * k)).toNatClampNeg) = y then (match zBy g k j with
      | none => zMn g j y k
      | some c => ((zMn g j y k).1 + (g (112 + 19 * k + 5 + c) - 1), (zMn g j y k).2 + 1)) else zMn g j y k).2) (nI (k + 1))
    unfold f_X9_meanOf_L8b
    obtain ⟨d1, -⟩ := h.2.1.2.2.2 k (by omega)
    have h6 := hz.2.2.2.2.2.2 k hk
    obtain ⟨a, ha, ea⟩ := h6.1.k
    rw [e7, if_neg (nI_ge hk (by omega)), r9, zChk_t (by omega), l10, zChk_t (zix (by omega) (by omega)), nI_clamp (by omega), d1, zChk_t (by omega), x_markBy h.2.1 (by omega) (h.d hk) h6 hj (by omega), zB1_s, (h.d hk).1, ea, zwi (n := 6) rfl, if_pos (zU_n ha (by omega)), zLet_d, if_neg (show ¬ (1 : Int32) = 0 by decide), r2, zChk_t (by omega), l3, zChk_t (zix ha (by omega)), nI_clamp (by omega), h.2.2.1.2.1 a ha, nI_1, nI_1]
    cases hzb : zBy g k j with
    | none =>
      dsimp only
      rw [if_pos rfl]
      split <;> rfl
    | some c =>
      dsimp only
      have hs := zBy_s h6 hj hzb
      rw [if_neg (zn128 hs.2.2.2)]
      by_cases hy : g (64 + a) = y
      · rw [if_pos hy, if_pos hy]
      · rw [if_neg hy, if_neg hy]
  · generalize hK : (fun x1 x2 => if x2 = 0 then some (-4 : Int32) else zChk (¬ x2 = 0) (some ((x1 * (100 : Int32)) / x2))) = K
    show f_X9_meanOf_L8b n S b (nI j) y K (f_X9_meanOf_L8 n S b (nI j) y K f) (zMn g j y nv).1 (nI (zMn g j y nv).2) (nI nv) = _
    unfold f_X9_meanOf_L8b zMean
    have hb2 := (zMn_b (y := y) b3 hz.2.2.2.2.2.2 hj nv (Nat.le_refl _)).2
    rw [e7, if_pos (Int32.le_refl _), ← hK]
    dsimp only
    rcases Nat.eq_zero_or_pos (zMn g j y nv).2 with q | q
    · rw [q, if_pos rfl, if_pos (show nI 0 = (0 : Int32) from rfl)]
    · have hne : ¬ nI (zMn g j y nv).2 = 0 := nI_ne0 q (by omega)
      rw [if_neg hne, zChk_t hne, if_neg (by omega)]
theorem m_markW {S : zM} {nd nj nv v c : Nat} {g : Nat → Int32} (h : zRx S g nd nj nv) (hv : v < nv) (hc : c < 7) : f_X12_markOf S 436 (nI v) (nI c) = some (g (112 + 19 * v + 5 + c) - 1) ∧ f_X12_get S 436 (nI v) ((12 : Int32) + nI c) = some (g (112 + 19 * v + 12 + c)) := by
  have b3 := h.2.2.1.2.2.1
  constructor
  · unfold f_X12_markOf
    rw [show (5 : Int32) = nI 5 from rfl, nI_add, m_get h.1 (by omega) (by omega), zB1_s, h.2.1, show 112 + 19 * v + (5 + c) = 112 + 19 * v + 5 + c by omega]
  · rw [show (12 : Int32) = nI 12 from rfl, nI_add, m_get h.1 (by omega) (by omega), h.2.1, show 112 + 19 * v + (12 + c) = 112 + 19 * v + 12 + c by omega]
/-- whose mark: told by the reference's two tests -/
theorem zBp_t {g : Nat → Int32} {nd nj v j c : Nat} (hb : zB6p g nd nj (112 + 19 * v)) (hj : j < 12) (hc : c < 7) : zBp g v j c = true ↔ (¬ g (112 + 19 * v + 5 + c) - 1 < 0) ∧ g (112 + 19 * v + 12 + c) - 1 = nI j := by
  have hb6 := hb.2.2.2.2.2.1 c hc
  have hm := (zmk hb6.1).2
  constructor
  · intro h
    have e := of_decide_eq_true h
    have hne : ¬ g (112 + 19 * v + 5 + c) = 0 := fun q => by
      have := hb6.2.2 q
      rw [e] at this
      exact absurd this (nI_ne0 (by omega) (by omega))
    exact ⟨Int32.not_lt.mpr (hm.mpr hne), by rw [e, nI_pred]⟩
  · rintro ⟨h1, h2⟩
    refine decide_eq_true ?_
    rw [← nI_1, ← h2, Int32.sub_add_cancel]
theorem m_meanL {S : zM} {nd nj nv v j : Nat} {g : Nat → Int32} (h : zRx S g nd nj nv) (hz : zBz g nd nj nv) (hv : v < nv) (hj : j < 12) {K : Int32 → Int32 → Option Int32} {x1 x2 : Int32} {n : Nat} (hn : 7 < n) : f_X12_meanIn_L46 S 436 (nI j) (nI v) K n x1 x2 0 = match zBy g v j with
    | none => K x1 x2
    | some c => K (x1 + (g (112 + 19 * v + 5 + c) - 1)) (x2 + 1) := by
  have h6 := hz.2.2.2.2.2.2 v hv
  have key := zOne (F := fun n i (s : Int32 × Int32) => f_X12_meanIn_L46 S 436 (nI j) (nI v) K n s.1 s.2 i) (zBp g v j) (fun c s => (s.1 + (g (112 + 19 * v + 5 + c) - 1), s.2 + 1)) (fun s => K s.1 s.2) (fun _ => True) (fun _ _ _ _ _ => trivial) (fun k f s hk _ => ?_) (fun f s _ => ?_) (zBp_u h6 hj) n (x1, x2) hn trivial
  · refine Eq.trans key ?_
    unfold zBy
    cases zFc (zBp g v j) 7 0 <;> rfl
  · show f_X12_meanIn_L46b S 436 (nI j) (nI v) K (f_X12_meanIn_L46 S 436 (nI j) (nI v) K f) s.1 s.2 (nI k) = _
    unfold f_X12_meanIn_L46b
    obtain ⟨g1, g2⟩ := m_markW h hv hk
    have ht := zBp_t h6 hj hk
    rw [if_neg (show ¬ (7 : Int32) ≤ nI k from nI_ge hk (by decide)), g1, zB1_s, g2, zB1_s, zB1_s, nI_1]
    by_cases q1 : g (112 + 19 * v + 5 + k) - 1 < 0
    · rw [if_pos q1, if_neg (fun z => (ht.mp z).1 q1)]
    · rw [if_neg q1]
      by_cases q2 : g (112 + 19 * v + 12 + k) - 1 = nI j
      · rw [if_pos q2, if_pos (ht.mpr ⟨q1, q2⟩)]
      · rw [if_neg q2, if_neg (fun z => q2 (ht.mp z).2)]
  · show f_X12_meanIn_L46b S 436 (nI j) (nI v) K (f_X12_meanIn_L46 S 436 (nI j) (nI v) K f) s.1 s.2 (nI 7) = _
    unfold f_X12_meanIn_L46b
    rw [if_pos (show (7 : Int32) ≤ nI 7 from Int32.le_refl _)]
theorem m_meanIn {S : zM} {nd nj nv j : Nat} {g : Nat → Int32} {y : Int32} (h : zRx S g nd nj nv) (hz : zBz g nd nj nv) (hj : j < 12) {n : Nat} (hn : 40 < n) : f_X12_meanIn n S 436 (nI j) y = some (zMean g j y nv) := by
  have b3 := h.2.2.1.2.2.1
  have r0 : zr S 436 0 = 437 := h.1.2.2.2.2.2.1.1
  have l0 : zln S 437 = 1004 := h.1.2.2.2.2.2.2.1
  have ev : zi S 437 1003 = nI nv := by rw [h.2.1]; exact h.2.2.1.2.2.2.2.2
  unfold f_X12_meanIn
  rw [zLet_d]
  refine zloop (fun m (s : Int32 × Int32 × Int32) => f_X12_meanIn_L8 n S 436 (nI j) y (fun x1 x2 => if x2 = 0 then some (-4 : Int32) else zChk (¬ x2 = 0) (some (((100 : Int32) * x1) / x2))) m s.1 s.2.1 s.2.2) (fun k => ((zMn g j y k).1, nI (zMn g j y k).2, nI k)) nv (fun k f hk => ?_) (fun f => ?_) n (by omega)
  · generalize (fun x1 x2 => if x2 = 0 then some (-4 : Int32) else zChk (¬ x2 = 0) (some (((100 : Int32) * x1) / x2))) = K
    show f_X12_meanIn_L8b n S 436 (nI j) y K (f_X12_meanIn_L8 n S 436 (nI j) y K f) (zMn g j y k).1 (nI (zMn g j y k).2) (nI k) = f_X12_meanIn_L8 n S 436 (nI j) y K f (if g (64 + (g (112 + 19 * k)).toNatClampNeg) = y then (match zBy g k j with
      | none => zMn g j y k
      | some c => ((zMn g j y k).1 + (g (112 + 19 * k + 5 + c) - 1), (zMn g j y k).2 + 1)) else zMn g j y k).1 (nI (if g (64 + (g (112 + 19 * k)).toNatClampNeg) = y then (match zBy g k j with
      | none => zMn g j y k
      | some c => ((zMn g j y k).1 + (g (112 + 19 * k + 5 + c) - 1), (zMn g j y k).2 + 1)) else zMn g j y k).2) (nI (k + 1))
    unfold f_X12_meanIn_L8b
    obtain ⟨a, ha, ea⟩ := (hz.2.2.2.2.2.2 k hk).1.k
    have hg0 : f_X12_get S 436 (nI k) (0 : Int32) = some (nI a) := (m_get (k := 0) h.1 (by omega) (by omega)).trans (congrArg some ((h.2.1 _).trans ea))
    rw [r0, zChk_t (by decide), l0, zq1003, zChk_t (zix (by omega) (by omega)), nI_clamp (by omega), ev, if_neg (nI_ge hk (by omega)), hg0, zB1_s, zq64, nI_add, zChk_t (zix (by omega) (by omega)), nI_clamp (by omega), h.2.1, ea, nI_clamp (show a < 2 ^ 31 by omega), zLet_d, m_meanL h hz hk hj (by omega), nI_1]
    by_cases hy : g (64 + a) = y
    · rw [if_pos hy, if_pos hy]
      cases hzb : zBy g k j with
      | none => rfl
      | some c =>
        dsimp only
        rw [nI_1]
    · rw [if_neg hy, if_neg hy]
  · generalize hK : (fun x1 x2 => if x2 = 0 then some (-4 : Int32) else zChk (¬ x2 = 0) (some (((100 : Int32) * x1) / x2))) = K
    show f_X12_meanIn_L8b n S 436 (nI j) y K (f_X12_meanIn_L8 n S 436 (nI j) y K f) (zMn g j y nv).1 (nI (zMn g j y nv).2) (nI nv) = _
    unfold f_X12_meanIn_L8b zMean
    have hb2 := (zMn_b (y := y) b3 hz.2.2.2.2.2.2 hj nv (Nat.le_refl _)).2
    rw [r0, zChk_t (by decide), l0, zq1003, zChk_t (zix (by omega) (by omega)), nI_clamp (by omega), ev, if_pos (Int32.le_refl _), ← hK]
    dsimp only
    rcases Nat.eq_zero_or_pos (zMn g j y nv).2 with q | q
    · rw [q, if_pos rfl, if_pos (show nI 0 = (0 : Int32) from rfl)]
    · have hne : ¬ nI (zMn g j y nv).2 = 0 := nI_ne0 q (by omega)
      rw [if_neg hne, zChk_t hne, if_neg (by omega), Int32.mul_comm]
theorem zMean_b {g : Nat → Int32} {nd nj nv j : Nat} {y : Int32} (h40 : nv ≤ 40) (hz : zBz g nd nj nv) (hj : j < 12) : (zMean g j y nv < 0 ↔ zMean g j y nv = -4) := by
  unfold zMean
  obtain ⟨h1, h2⟩ := zMn_b (y := y) h40 hz.2.2.2.2.2.2 hj nv (Nat.le_refl _)
  rcases Nat.eq_zero_or_pos (zMn g j y nv).2 with q | q
  · rw [q, if_pos rfl]
    exact ⟨fun _ => rfl, fun _ => by decide⟩
  · rw [if_neg (by omega)]
    obtain ⟨a, ha, ea⟩ := h1.k
    rw [ea, zq100, nI_mul, nI_div (by omega) (by omega)]
    have h3 : a * 100 / (zMn g j y nv).2 ≤ a * 100 := Nat.div_le_self _ _
    have h4 : ¬ nI (a * 100 / (zMn g j y nv).2) < 0 := nI_pos (by omega)
    refine ⟨fun z => absurd z h4, fun z => ?_⟩
    rw [z] at h4
    exact absurd (show (-4 : Int32) < 0 by decide) h4
/-- the sum over judges of how far their means moved -/
def zCr (g : Nat → Int32) (y1 y2 : Int32) (nv : Nat) : Nat → Int32 × Int32
  | 0 => (0, 0)
  | j + 1 => if zMean g j y1 nv = -4 ∨ zMean g j y2 nv = -4 then zCr g y1 y2 nv j else ((zCr g y1 y2 nv j).1 + (zMean g j y2 nv - zMean g j y1 nv), 1)
theorem s_creep {S : zM} (h : zInv S) (v1 v2 v3 v4 v5 : Int32) : ∃ S' : zM, zs_23 1 436 v1 v2 v3 v4 v5 S S' ∧ zInv S' := by
  refine ⟨S, ?_, h⟩
  obtain ⟨nd, nj, nv, hC, hz, hR⟩ := h.z
  obtain ⟨⟨b1, b2, b3⟩, e5, e6, e7⟩ := hC.n
  have r0 : zr S 1 0 = 2 := h.1.2.2.2.2.1.1.1
  have q0 : zr S 436 0 = 437 := h.1.2.2.2.2.2.1.1
  have m0 : zln S 437 = 1004 := h.1.2.2.2.2.2.2.1
  have ej : zi S 437 1002 = nI nj := hz.1.2.2.2.2.1
  suffices hh : ∃ r : Int32, f_X11_creep 200 S 1 v1 v2 = some r ∧ f_X12_creep 200 S 436 v1 v2 = some r by
    obtain ⟨r, a1, a2⟩ := hh
    exact ⟨r, 200, a1, a2, rfl⟩
  unfold f_X11_creep f_X12_creep
  rw [zwi (v := v1) (n := 41) rfl, zwi (v := v2) (n := 41) rfl, zisI (v := v1) (n := 41) rfl, zisI (v := v2) (n := 41) rfl]
  by_cases h1 : zU v1 41
  · rw [if_pos h1]
    by_cases h2 : zU v2 41
    · rw [if_pos h2]
      simp only [nLet]
      repeat rw [if_neg (show ¬ (1 : Int32) = 0 by decide)]
      refine ⟨if (zCr (zi S 437) v1 v2 nv nj).2 = 0 then -1000000004 else (zCr (zi S 437) v1 v2 nv nj).1, ?_, ?_⟩
      · refine zloop (fun m (s : Int32 × Int32 × Int32) => f_X11_creep_L29 200 S 1 v1 v2 (fun x11 x12 => if x12 = 0 then some (-1000000004 : Int32) else some x11) m s.1 s.2.1 s.2.2) (fun k => ((zCr (zi S 437) v1 v2 nv k).1, (zCr (zi S 437) v1 v2 nv k).2, nI k)) nj (fun k f hk => ?_) (fun f => ?_) 200 (by omega)
        · generalize (fun (x11 : Int32) (x12 : Int32) => if x12 = 0 then some (-1000000004 : Int32) else some x11) = K
          show f_X11_creep_L29b 200 S 1 v1 v2 K (f_X11_creep_L29 200 S 1 v1 v2 K f) (zCr (zi S 437) v1 v2 nv k).1 (zCr (zi S 437) v1 v2 nv k).2 (nI k) = f_X11_creep_L29 200 S 1 v1 v2 K f (if zMean (zi S 437) k v1 nv = -4 ∨ zMean (zi S 437) k v2 nv = -4 then zCr (zi S 437) v1 v2 nv k else ((zCr (zi S 437) v1 v2 nv k).1 + (zMean (zi S 437) k v2 nv - zMean (zi S 437) k v1 nv), 1)).1 (if zMean (zi S 437) k v1 nv = -4 ∨ zMean (zi S 437) k v2 nv = -4 then zCr (zi S 437) v1 v2 nv k else ((zCr (zi S 437) v1 v2 nv k).1 + (zMean (zi S 437) k v2 nv - zMean (zi S 437) k v1 nv), 1)).2 (nI (k + 1))
          unfold f_X11_creep_L29b
          rw [r0, zChk_t (by decide), e6, if_neg (nI_ge hk (by omega)), x_meanOf hC hz (by omega) (by omega), zB1_s, x_meanOf hC hz (by omega) (by omega), zB1_s, nI_1]
          have n1 := zMean_b (y := v1) b3 hz (show k < 12 by omega)
          have n2 := zMean_b (y := v2) b3 hz (show k < 12 by omega)
          by_cases q1 : zMean (zi S 437) k v1 nv = -4
          · rw [if_pos (n1.mpr q1), if_pos (Or.inl q1)]
          · rw [if_neg (fun z => q1 (n1.mp z))]
            by_cases q2 : zMean (zi S 437) k v2 nv = -4
            · rw [if_pos (n2.mpr q2), if_pos (Or.inr q2)]
            · rw [if_neg (fun z => q2 (n2.mp z)), if_neg (fun z => z.elim q1 q2)]
        · generalize hK : (fun (x11 : Int32) (x12 : Int32) => if x12 = 0 then some (-1000000004 : Int32) else some x11) = K
          show f_X11_creep_L29b 200 S 1 v1 v2 K (f_X11_creep_L29 200 S 1 v1 v2 K f) (zCr (zi S 437) v1 v2 nv nj).1 (zCr (zi S 437) v1 v2 nv nj).2 (nI nj) = _
          unfold f_X11_creep_L29b
          rw [r0, zChk_t (by decide), e6, if_pos (Int32.le_refl _), ← hK]
          dsimp only
          split <;> rfl
      · refine zloop (fun m (s : Int32 × Int32 × Int32) => f_X12_creep_L36 200 S 436 v1 v2 (fun x11 x12 => if x12 = 0 then some (-1000000004 : Int32) else some x11) m s.1 s.2.1 s.2.2) (fun k => ((zCr (zi S 437) v1 v2 nv k).1, (zCr (zi S 437) v1 v2 nv k).2, nI k)) nj (fun k f hk => ?_) (fun f => ?_) 200 (by omega)
        · generalize (fun (x11 : Int32) (x12 : Int32) => if x12 = 0 then some (-1000000004 : Int32) else some x11) = K
          show f_X12_creep_L36b 200 S 436 v1 v2 K (f_X12_creep_L36 200 S 436 v1 v2 K f) (zCr (zi S 437) v1 v2 nv k).1 (zCr (zi S 437) v1 v2 nv k).2 (nI k) = f_X12_creep_L36 200 S 436 v1 v2 K f (if zMean (zi S 437) k v1 nv = -4 ∨ zMean (zi S 437) k v2 nv = -4 then zCr (zi S 437) v1 v2 nv k else ((zCr (zi S 437) v1 v2 nv k).1 + (zMean (zi S 437) k v2 nv - zMean (zi S 437) k v1 nv), 1)).1 (if zMean (zi S 437) k v1 nv = -4 ∨ zMean (zi S 437) k v2 nv = -4 then zCr (zi S 437) v1 v2 nv k else ((zCr (zi S 437) v1 v2 nv k).1 + (zMean (zi S 437) k v2 nv - zMean (zi S 437) k v1 nv), 1)).2 (nI (k + 1))
          unfold f_X12_creep_L36b
          rw [q0, zChk_t (by decide), m0, zq1002, zChk_t (zix (by omega) (by omega)), nI_clamp (by omega), ej, if_neg (nI_ge hk (by omega)), m_meanIn hR hz (by omega) (by omega), zB1_s, m_meanIn hR hz (by omega) (by omega), zB1_s, nI_1]
          by_cases q1 : zMean (zi S 437) k v1 nv = -4
          · rw [if_pos q1, if_pos (Or.inl q1)]
          · rw [if_neg q1]
            by_cases q2 : zMean (zi S 437) k v2 nv = -4
            · rw [if_pos q2, if_pos (Or.inr q2)]
            · rw [if_neg q2, if_neg (fun z => z.elim q1 q2)]
        · generalize hK : (fun (x11 : Int32) (x12 : Int32) => if x12 = 0 then some (-1000000004 : Int32) else some x11) = K
          show f_X12_creep_L36b 200 S 436 v1 v2 K (f_X12_creep_L36 200 S 436 v1 v2 K f) (zCr (zi S 437) v1 v2 nv nj).1 (zCr (zi S 437) v1 v2 nv nj).2 (nI nj) = _
          unfold f_X12_creep_L36b
          rw [q0, zChk_t (by decide), m0, zq1002, zChk_t (zix (by omega) (by omega)), nI_clamp (by omega), ej, if_pos (Int32.le_refl _), ← hK]
          dsimp only
          split <;> rfl
    · rw [if_neg h2]
      exact ⟨-1000000001, rfl, rfl⟩
  · rw [if_neg h1]
    exact ⟨-1000000001, rfl, rfl⟩
