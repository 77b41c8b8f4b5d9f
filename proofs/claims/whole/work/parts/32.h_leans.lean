/-! lands, halls, leans: the class -/
theorem zFc_snoc {p : Nat → Bool} : ∀ c k : Nat, zFc p (c + 1) k = match zFc p c k with
    | none => if p (k + c) = true then some (k + c) else none
    | some x => some x := by
  intro c
  induction c with
  | zero =>
    intro k
    show (if p k = true then some k else none) = if p (k + 0) = true then some (k + 0) else none
    rfl
  | succ c ih =>
    intro k
    show (if p k = true then some k else zFc p (c + 1) (k + 1)) = match (if p k = true then some k else zFc p c (k + 1)) with
      | none => if p (k + (c + 1)) = true then some (k + (c + 1)) else none
      | some x => some x
    by_cases h : p k = true
    · rw [if_pos h, if_pos h]
    · rw [if_neg h, if_neg h, ih (k + 1), show k + 1 + c = k + (c + 1) by omega]
def zSq (g : Nat → Int32) (L : Int32) (v : Nat) : Bool := decide (g (2 * zDn g v) = L)
def zLs (g : Nat → Int32) (nv j : Nat) (L : Int32) : Int32 := (zTl g j (zSq g L) nv).1
def zAo (g : Nat → Int32) (v j c : Nat) (mid old : Int32) : Int32 := match zFc (zBp g v j) c 0 with
  | none => old
  | some x => old + (g (112 + 19 * v + 5 + x) - 1 - mid)
theorem x_addLeans {S0 : zM} {q v nd nj L : Nat} {g : Nat → Int32} {mid : Int32} (hr5 : zr S0 414 5 = 418) (hl5 : zln S0 418 = 72) (hq0 : zr S0 q 0 = q + 1) (hq1 : zr S0 q 1 = q + 2) (hl1 : zln S0 (q + 1) = 7) (hl2 : zln S0 (q + 2) = 7) (hq : q + 2 < 418 ∧ 0 < q) (hv : v < 40) (hD : zRepD (zi S0) q g (112 + 19 * v)) (hb : zB6p g nd nj (112 + 19 * v)) (hnj : nj ≤ 12) (hL : L < 6) {n : Nat} (hn : 7 < n) : ∃ S1 : zM, f_X3_addLeans n S0 414 q (nI L) mid = some S1 ∧ zF (fun a _ => a = 418) S0 S1 ∧ ∀ j l : Nat, j < 12 → l < 6 → zi S1 418 (6 * j + l) = if l = L then zAo g v j 7 mid (zi S0 418 (6 * j + l)) else zi S0 418 (6 * j + l) := by
  unfold f_X3_addLeans
  rw [zLet_d]
  refine zloopR (fun f (s : Int32 × zM) => f_X3_addLeans_L3 414 q (nI L) mid (fun S1 => some S1) f s.1 s.2) (fun c s => s.1 = nI c ∧ zF (fun a _ => a = 418) S0 s.2 ∧ ∀ j l : Nat, j < 12 → l < 6 → zi s.2 418 (6 * j + l) = if l = L then zAo g v j c mid (zi S0 418 (6 * j + l)) else zi S0 418 (6 * j + l)) 7 (fun o => ∃ S1 : zM, o = some S1 ∧ zF (fun a _ => a = 418) S0 S1 ∧ ∀ j l : Nat, j < 12 → l < 6 → zi S1 418 (6 * j + l) = if l = L then zAo g v j 7 mid (zi S0 418 (6 * j + l)) else zi S0 418 (6 * j + l)) ?_ ?_ n (0, S0) (by omega) ⟨rfl, zF.rf, fun j l _ _ => by split <;> rfl⟩
  · rintro c f ⟨y, S⟩ hc ⟨i1, i2, i3⟩
    dsimp only at i1 i2 i3
    subst i1
    obtain ⟨-, -, -, -, -, hm⟩ := hD
    obtain ⟨m1, m2⟩ := hm c hc
    obtain ⟨d6, d7⟩ := hb.2.2.2.2.2
    obtain ⟨u1, u2, u3⟩ := d6 c hc
    obtain ⟨w1, hw1, ew⟩ := u2.k
    have es : ∀ j : Nat, zAo g v j (c + 1) mid = fun old => match (match zFc (zBp g v j) c 0 with
        | none => if zBp g v j (0 + c) = true then some (0 + c) else none
        | some x => some x) with
      | none => old
      | some x => old + (g (112 + 19 * v + 5 + x) - 1 - mid) := by
      intro j
      funext old
      unfold zAo
      rw [zFc_snoc]
    have e2 : zi S (q + 2) c = g (112 + 19 * v + 12 + c) - 1 := by rw [i2.i (by omega)]; exact m2
    have e1 : zi S (q + 1) c = (if g (112 + 19 * v + 5 + c) = 0 then -128 else g (112 + 19 * v + 5 + c) - 1) := by rw [i2.i (by omega)]; exact m1
    have hrun : f_X3_addLeans_L3 414 q (nI L) mid (fun S1 => some S1) (f + 1) (nI c) S = f_X3_addLeans_L3b 414 q (nI L) mid (fun S1 => some S1) (f_X3_addLeans_L3 414 q (nI L) mid (fun S1 => some S1) f) (nI c) S := rfl
    have n10 : ¬ (1 : Int32) = 0 := by decide
    unfold f_X3_addLeans_L3b at hrun
    rw [if_neg (show ¬ (7 : Int32) ≤ nI c from nI_ge (b := 7) hc (by omega)), i2.r, hq1, zChk_t (by omega), i2.n, hl2, zChk_t (zix (by omega) (by omega)), nI_clamp (show c < 2 ^ 31 by omega), e2, zwi (n := 12) rfl] at hrun
    by_cases h0 : w1 = 0
    · subst h0
      have eg : g (112 + 19 * v + 12 + c) = 0 := ew
      have hu : ¬ zU (g (112 + 19 * v + 12 + c) - 1) 12 := by rw [eg]; decide
      rw [if_neg hu, zLet_d, if_pos rfl, nI_1] at hrun
      refine ⟨(nI (c + 1), S), ⟨rfl, i2, fun j l hj hl => ?_⟩, hrun⟩
      have hp : ¬ zBp g v j (0 + c) = true := by
        rw [Nat.zero_add]
        unfold zBp
        rw [eg, decide_eq_true_iff]
        intro hh
        have := nI_inj (a := 0) hh (by omega) (by omega)
        omega
      dsimp only
      rw [i3 j l hj hl, es j]
      dsimp only
      rw [if_neg hp]
      unfold zAo
      cases zFc (zBp g v j) c 0 <;> rfl
    · obtain ⟨w, rfl⟩ : ∃ i, w1 = i + 1 := ⟨w1 - 1, by omega⟩
      have eg : g (112 + 19 * v + 12 + c) - 1 = nI w := zsubk.mpr ew
      have hmk : ¬ g (112 + 19 * v + 5 + c) = 0 := fun hh => by
        have h1 := u3 hh
        rw [ew] at h1
        have := nI_inj (b := 0) h1 (by omega) (by omega)
        omega
      rw [if_neg hmk] at e1
      have ei : nI w * (6 : Int32) + nI L = nI (6 * w + L) := by rw [zq6, nI_mul, nI_add, Nat.mul_comm]
      rw [eg, if_pos (zU_n (by omega) (by omega)), zLet_d, if_neg n10, zwi (n := 6) rfl, if_pos (zU_n hL (by omega)), zLet_d, if_neg n10, hr5, zChk_t (by omega), ei, hl5, zChk_t (zix (by omega) (by omega)), hq0, zChk_t (by omega), hl1, zChk_t (zixc (by omega) (by omega)), zChk_t (zix (by omega) (by omega)), nI_clamp (show 6 * w + L < 2 ^ 31 by omega), e1, zLet_d, nI_1] at hrun
      refine ⟨(nI (c + 1), zpI S 418 (6 * w + L) (zi S 418 (6 * w + L) + (g (112 + 19 * v + 5 + c) - 1 - mid))), ⟨rfl, zF.pI i2 rfl, fun j l hj hl => ?_⟩, hrun⟩
      dsimp only
      have hp : zBp g v j (0 + c) = true ↔ j = w := by
        rw [Nat.zero_add]
        unfold zBp
        rw [ew, decide_eq_true_iff]
        exact ⟨fun hh => by have := nI_inj hh (by omega) (by omega); omega, fun hh => by rw [hh]⟩
      by_cases hjw : j = w ∧ l = L
      · obtain ⟨rfl, rfl⟩ := hjw
        have hno : zFc (zBp g v j) c 0 = none := by
          cases hz : zFc (zBp g v j) c 0 with
          | none => rfl
          | some x =>
            obtain ⟨x1, x2, x3⟩ := zFc_s hz
            have := zBp_u hb hj x c (by omega) hc x3 (by have := hp.mpr rfl; rwa [Nat.zero_add] at this)
            omega
        have i3' := i3 j l hj hl
        rw [if_pos rfl] at i3' ⊢
        have : zAo g v j c mid (zi S0 418 (6 * j + l)) = zi S0 418 (6 * j + l) := by unfold zAo; rw [hno]
        rw [this] at i3'
        rw [mi_eq, i3', es j]
        dsimp only
        rw [hno]
        dsimp only
        rw [if_pos (hp.mpr rfl), Nat.zero_add]
      · rw [mi_ne _ _ (by omega), i3 j l hj hl]
        by_cases hl2 : l = L
        · rw [if_pos hl2, if_pos hl2, es j]
          dsimp only
          rw [if_neg (fun hh => hjw ⟨hp.mp hh, hl2⟩)]
          unfold zAo
          cases zFc (zBp g v j) c 0 <;> rfl
        · rw [if_neg hl2, if_neg hl2]
  · rintro f ⟨y, S⟩ ⟨i1, i2, i3⟩
    dsimp only at i1 i2 i3 ⊢
    subst i1
    refine ⟨S, ?_, i2, i3⟩
    show f_X3_addLeans_L3b 414 q (nI L) mid (fun S1 => some S1) (f_X3_addLeans_L3 414 q (nI L) mid (fun S1 => some S1) f) (nI 7) S = _
    unfold f_X3_addLeans_L3b
    rw [if_pos (show (7 : Int32) ≤ nI 7 by decide)]
/-- the frame of taking -/
def zWl (a k : Nat) : Prop := a = 14 ∨ a = 15 ∨ a = 416 ∨ a = 417 ∨ a = 418 ∨ (a = 414 ∧ k = 2)
theorem zCx.wl {S S1 : zM} {nd nj nv : Nat} {g : Nat → Int32} (h : zCx S 2 g nd nj nv) (f : zF zWl S S1) : zCx S1 2 g nd nj nv := h.fo f (fun a k q => by unfold zWl at q; omega)
theorem x_landsL {S0 : zM} {nd nj nv : Nat} {g : Nat → Int32} {K : zM → Option zM} (h : zCx S0 2 g nd nj nv) (r3 : zr S0 414 3 = 416) (r4 : zr S0 414 4 = 417) (l3 : zln S0 416 = 12) (l4 : zln S0 417 = 12) {n : Nat} (hn : 42 < n) : ∃ S1 : zM, f_X3_takeFrom_L10 n 414 2 K n 0 S0 = K S1 ∧ zF zWl S0 S1 ∧ (∀ j : Nat, j < 12 → (j < nj → zi S1 416 j = g (17 + 4 * j)) ∧ zi S1 417 j = nI (zHn g j 42)) ∧ ∀ a k : Nat, a = 414 → zi S1 a k = zi S0 a k := by
  refine zloopR (fun f (s : Int32 × zM) => f_X3_takeFrom_L10 n 414 2 K f s.1 s.2) (fun c s => s.1 = nI c ∧ zF zWl S0 s.2 ∧ (∀ j : Nat, j < c → (j < nj → zi s.2 416 j = g (17 + 4 * j)) ∧ zi s.2 417 j = nI (zHn g j 42)) ∧ ∀ a k : Nat, a = 414 → zi s.2 a k = zi S0 a k) 12 (fun o => ∃ S1 : zM, o = K S1 ∧ zF zWl S0 S1 ∧ (∀ j : Nat, j < 12 → (j < nj → zi S1 416 j = g (17 + 4 * j)) ∧ zi S1 417 j = nI (zHn g j 42)) ∧ ∀ a k : Nat, a = 414 → zi S1 a k = zi S0 a k) ?_ ?_ n (0, S0) (by omega) ⟨rfl, zF.rf, fun j hj => absurd hj (Nat.not_lt_zero _), fun _ _ _ => rfl⟩
  · rintro c f ⟨y, S⟩ hc ⟨i1, i2, i3, i4⟩
    dsimp only at i1 i2 i3 i4
    subst i1
    have hS : zCx S 2 g nd nj nv := h.wl i2
    obtain ⟨⟨b1, b2, b3⟩, e5, e6, e7⟩ := hS.n
    obtain ⟨x, r, hx, hr, hxr⟩ : ∃ (x : Int32) (r : Nat), f_X9_judgeAt S 2 (nI c) = some r ∧ ((r = 0 ∧ x = -4) ∨ (¬ r = 0 ∧ x = zi S r 2)) ∧ (c < nj → x = g (17 + 4 * c)) := by
      by_cases hj : c < nj
      · have hJ := hS.j hj
        have hge := hJ.1
        exact ⟨_, _, x_judgeAt hS.2.1 b2 e6 hj, Or.inr ⟨by omega, rfl⟩, fun _ => hJ.2.2.2.2.1⟩
      · exact ⟨-4, 0, x_judgeAt0 b2 e6 (fun q => hj ((zU_i (by omega)).mp q)), Or.inl ⟨rfl, rfl⟩, fun q => absurd q hj⟩
    have hrun : f_X3_takeFrom_L10 n 414 2 K (f + 1) (nI c) S = f_X3_takeFrom_L10b n 414 2 K (f_X3_takeFrom_L10 n 414 2 K f) (nI c) S := rfl
    have fS : zF zWl S (zpI S 416 c x) := zF_pI (Or.inr (Or.inr (Or.inl rfl)))
    have hS2 := hS.wl fS
    have hh := x_hallsOf (j := c) hS2.2.1 hS2.2.2.1.2.2.1 (n := n) (by omega)
    have r4' : zr (zpI S 416 c x) 414 4 = 417 := by rw [mr_pI, i2.r]; exact r4
    have l4' : zln (zpI S 416 c x) 417 = 12 := by rw [mln_pI, i2.n]; exact l4
    have hstep : f_X3_takeFrom_L10 n 414 2 K (f + 1) (nI c) S = f_X3_takeFrom_L10 n 414 2 K f (nI (c + 1)) (zpI (zpI S 416 c x) 417 c (nI (zHn g c 42))) := by
      rw [hrun]
      unfold f_X3_takeFrom_L10b
      rw [if_neg (show ¬ (12 : Int32) ≤ nI c from nI_ge (b := 12) hc (by omega)), hx, zB1_s, i2.r, r3, zChk_t (by decide), zLet_d, i2.n, l3, nI_clamp (show c < 2 ^ 31 by omega)]
      rcases hr with ⟨q1, q2⟩ | ⟨q1, q2⟩
      · rw [if_pos q1, ← q2]
        dsimp only
        rw [zChk_t (zixc (by omega) (by omega)), zLet_d]
        rw [r4', zChk_t (by decide), hh, zB1_s, l4', zChk_t (zixc (by omega) (by omega)), zLet_d, nI_1]
      · rw [if_neg q1, ← q2]
        dsimp only
        rw [zChk_t (zixc (by omega) (by omega)), zLet_d]
        rw [r4', zChk_t (by decide), hh, zB1_s, l4', zChk_t (zixc (by omega) (by omega)), zLet_d, nI_1]
    refine ⟨(nI (c + 1), zpI (zpI S 416 c x) 417 c (nI (zHn g c 42))), ⟨rfl, (i2.tr fS).tr (zF_pI (Or.inr (Or.inr (Or.inr (Or.inl rfl))))), fun j hj => ?_, fun a k ha => ?_⟩, hstep⟩
    · dsimp only
      by_cases e : j = c
      · subst e
        rw [mi_eq, mi_ne _ _ (by omega), mi_eq]
        exact ⟨hxr, rfl⟩
      · rw [mi_ne _ _ (by omega), mi_ne _ _ (by omega), mi_ne _ _ (by omega), mi_ne _ _ (by omega)]
        exact i3 j (by omega)
    · dsimp only
      rw [mi_ne _ _ (by omega), mi_ne _ _ (by omega)]
      exact i4 a k ha
  · rintro f ⟨y, S⟩ ⟨i1, i2, i3, i4⟩
    dsimp only at i1 i2 i3 i4 ⊢
    subst i1
    refine ⟨S, ?_, i2, i3, i4⟩
    show f_X3_takeFrom_L10b n 414 2 K (f_X3_takeFrom_L10 n 414 2 K f) (nI 12) S = _
    unfold f_X3_takeFrom_L10b
    rw [if_pos (show (12 : Int32) ≤ nI 12 by decide)]
theorem x_zeroL {S0 : zM} {K : zM → Option zM} (r5 : zr S0 414 5 = 418) (l5 : zln S0 418 = 72) {n : Nat} (hn : 72 < n) : ∃ S1 : zM, f_X3_takeFrom_L60 414 K n 0 S0 = K S1 ∧ zF (fun a _ => a = 418) S0 S1 ∧ ∀ j : Nat, j < 72 → zi S1 418 j = 0 := by
  refine zloopR (fun f (s : Int32 × zM) => f_X3_takeFrom_L60 414 K f s.1 s.2) (fun c s => s.1 = nI c ∧ zF (fun a _ => a = 418) S0 s.2 ∧ ∀ j : Nat, j < c → zi s.2 418 j = 0) 72 (fun o => ∃ S1 : zM, o = K S1 ∧ zF (fun a _ => a = 418) S0 S1 ∧ ∀ j : Nat, j < 72 → zi S1 418 j = 0) ?_ ?_ n (0, S0) (by omega) ⟨rfl, zF.rf, fun j hj => absurd hj (Nat.not_lt_zero _)⟩
  · rintro c f ⟨y, S⟩ hc ⟨i1, i2, i3⟩
    dsimp only at i1 i2 i3
    subst i1
    refine ⟨(nI (c + 1), zpI S 418 c 0), ⟨rfl, zF.pI i2 rfl, fun j hj => ?_⟩, ?_⟩
    · dsimp only
      by_cases e : j = c
      · rw [e, mi_eq]
      · rw [mi_ne _ _ (by omega)]
        exact i3 j (by omega)
    · show f_X3_takeFrom_L60b 414 K (f_X3_takeFrom_L60 414 K f) (nI c) S = _
      unfold f_X3_takeFrom_L60b
      rw [if_neg (show ¬ (72 : Int32) ≤ nI c from nI_ge (b := 72) hc (by omega)), i2.r, r5, zChk_t (by decide), i2.n, l5, zChk_t (zix (by omega) (by omega)), nI_clamp (show c < 2 ^ 31 by omega), zLet_d, nI_1]
  · rintro f ⟨y, S⟩ ⟨i1, i2, i3⟩
    dsimp only at i1 i2 i3 ⊢
    subst i1
    refine ⟨S, ?_, i2, i3⟩
    show f_X3_takeFrom_L60b 414 K (f_X3_takeFrom_L60 414 K f) (nI 72) S = _
    unfold f_X3_takeFrom_L60b
    rw [if_pos (show (72 : Int32) ≤ nI 72 by decide)]
theorem x_divesL {S0 : zM} {nd nj nv : Nat} {g : Nat → Int32} {K : zM → Option zM} (h : zCx S0 2 g nd nj nv) (hz : zBz g nd nj nv) (r5 : zr S0 414 5 = 418) (l5 : zln S0 418 = 72) (h0 : ∀ j : Nat, j < 72 → zi S0 418 j = 0) {n : Nat} (hn : 42 < n) : ∃ S1 : zM, f_X3_takeFrom_L81 n 414 2 K n 0 S0 = K S1 ∧ zF (fun a _ => a = 14 ∨ a = 15 ∨ a = 418) S0 S1 ∧ ∀ j l : Nat, j < 12 → l < 6 → zi S1 418 (6 * j + l) = zLs g nv j (nI l) := by
  obtain ⟨⟨b1, b2, b3⟩, e5, e6, e7⟩ := h.n
  refine zloopR (fun f (s : Int32 × zM) => f_X3_takeFrom_L81 n 414 2 K f s.1 s.2) (fun c s => s.1 = nI c ∧ zF (fun a _ => a = 14 ∨ a = 15 ∨ a = 418) S0 s.2 ∧ ∀ j l : Nat, j < 12 → l < 6 → zi s.2 418 (6 * j + l) = zLs g c j (nI l)) nv (fun o => ∃ S1 : zM, o = K S1 ∧ zF (fun a _ => a = 14 ∨ a = 15 ∨ a = 418) S0 S1 ∧ ∀ j l : Nat, j < 12 → l < 6 → zi S1 418 (6 * j + l) = zLs g nv j (nI l)) ?_ ?_ n (0, S0) (by omega) ⟨rfl, zF.rf, fun j l hj hl => h0 _ (by omega)⟩
  · rintro k f ⟨y, S⟩ hk ⟨i1, i2, i3⟩
    dsimp only at i1 i2 i3
    subst i1
    have hS : zCx S 2 g nd nj nv := h.wl (i2.mo (fun a k q => by unfold zWl; omega))
    obtain ⟨-, -, -, f7⟩ := hS.n
    have h6 := hz.2.2.2.2.2.2 k hk
    have hL := hS.2.1
    have r11 : zr S 2 11 = 14 := hL.1.2.2.2.2.2.2.2.2
    have r12 : zr S 14 0 = 15 := hL.2.1.2.2.2
    have l13 : zln S 15 = 7 := hL.2.2.1.2.2.2.2.2.2.2.2.2.2
    obtain ⟨A, a1, a2, a3⟩ := x_gatherD hL (by omega) (hS.d hk) h6 (n := n) (by omega)
    have fA : zF (fun a _ => a = 14 ∨ a = 15 ∨ a = 418) S A := a2.mo (fun a k q => by omega)
    have hA : zCx A 2 g nd nj nv := hS.wl (fA.mo (fun a k q => by unfold zWl; omega))
    obtain ⟨-, g5, -, -⟩ := hA.n
    obtain ⟨d, hd, ed⟩ := h6.2.1.k
    have hdn : zDn g k = d := by
      unfold zDn
      rw [ed]
      exact nI_clamp (by omega)
    have hdd := hA.d hk
    have hland := x_landOf (d := d) hA.2.1 b1 g5 hA.2.2.1.1 hd (by rw [hdd.2.1]; exact ed)
    have hmid := x_middle (S := A) (a := 14) (q := 15) (by rw [a2.r]; exact r12) (by decide) (by rw [a2.n]; exact l13) (zPn_le g k) a3
    obtain ⟨L, hL6, eL⟩ := (hz.2.1 d hd).1.k
    have hl := hA.2.1.2.2.2 k (by omega)
    obtain ⟨B, c1, c2, c3⟩ := x_addLeans (S0 := A) (q := 2 + 14 + 3 * k) (v := k) (mid := if (zPn g k).1 = 0 then 0 else (zPn g k).2 ((zPn g k).1 / 2)) (by rw [a2.r, i2.r]; exact r5) (by rw [a2.n, i2.n]; exact l5) (hl.2.1.trans (by omega)) (hl.2.2.1.trans (by omega)) (by rw [show 2 + 14 + 3 * k + 1 = 2 + 15 + 3 * k by omega]; exact hl.2.2.2.1) (by rw [show 2 + 14 + 3 * k + 2 = 2 + 16 + 3 * k by omega]; exact hl.2.2.2.2) (by omega) (by omega) hdd h6 b2 hL6 (n := n) (by omega)
    have hstep : f_X3_takeFrom_L81 n 414 2 K (f + 1) (nI k) S = f_X3_takeFrom_L81 n 414 2 K f (nI (k + 1)) B := by
      show f_X3_takeFrom_L81b n 414 2 K (f_X3_takeFrom_L81 n 414 2 K f) (nI k) S = _
      unfold f_X3_takeFrom_L81b
      rw [f7, if_neg (nI_ge hk (by omega)), x_diveAt hL b3 f7 hk, zB1_s, if_neg (by omega), r11, zChk_t (by decide), a1, zB1_s, hland, zB1_s, a2.r, r11, zChk_t (by decide), hmid, zB1_s, eL, c1, zB1_s, nI_1]
    refine ⟨(nI (k + 1), B), ⟨rfl, (i2.tr fA).tr (c2.mo (fun a k q => Or.inr (Or.inr q))), fun j l hj hl => ?_⟩, hstep⟩
    dsimp only
    rw [c3 j l hj hl, a2.i (by omega), i3 j l hj hl]
    have eT : zLs g (k + 1) j (nI l) = (if zSq g (nI l) k = true then (match zBy g k j with
      | none => zTl g j (zSq g (nI l)) k
      | some c => zTk (zTl g j (zSq g (nI l)) k) (g (112 + 19 * k + 5 + c) - 1 - zMd g k)) else zTl g j (zSq g (nI l)) k).1 := rfl
    have eq : zSq g (nI l) k = true ↔ l = L := by
      unfold zSq
      rw [hdn, eL, decide_eq_true_iff]
      exact ⟨fun hh => (nI_inj hh (by omega) (by omega)).symm, fun hh => by rw [hh]⟩
    rw [eT]
    by_cases q : l = L
    · rw [if_pos q, if_pos (eq.mpr q)]
      show (match zBy g k j with
        | none => zLs g k j (nI l)
        | some x => zLs g k j (nI l) + (g (112 + 19 * k + 5 + x) - 1 - _)) = _
      cases hzb : zBy g k j with
      | none => rfl
      | some c =>
        have hs := zBy_s h6 hj hzb
        have hp := zPn_pos hs.1 hs.2.2.1
        dsimp only
        rw [if_neg (by omega)]
        rfl
    · rw [if_neg q, if_neg (fun x => q (eq.mp x))]
      rfl
  · rintro f ⟨y, S⟩ ⟨i1, i2, i3⟩
    dsimp only at i1 i2 i3 ⊢
    subst i1
    have hS : zCx S 2 g nd nj nv := h.wl (i2.mo (fun a k q => by unfold zWl; omega))
    obtain ⟨-, -, -, f7⟩ := hS.n
    refine ⟨S, ?_, i2, i3⟩
    show f_X3_takeFrom_L81b n 414 2 K (f_X3_takeFrom_L81 n 414 2 K f) (nI nv) S = _
    unfold f_X3_takeFrom_L81b
    rw [f7, if_pos (Int32.le_refl _)]
theorem x_takeL {S0 : zM} {nd nj nv : Nat} {g : Nat → Int32} (hL : zLay S0) (h : zCx S0 2 g nd nj nv) (hz : zBz g nd nj nv) {n : Nat} (hn : 80 < n) : ∃ S1 : zM, f_X3_takeFrom n S0 414 2 = some S1 ∧ zF zWl S0 S1 ∧ zi S1 414 2 = nI nj ∧ (∀ j : Nat, j < nj → zi S1 416 j = g (17 + 4 * j) ∧ zi S1 417 j = nI (zHn g j 42)) ∧ ∀ j l : Nat, j < 12 → l < 6 → zi S1 418 (6 * j + l) = zLs g nv j (nI l) := by
  obtain ⟨⟨b1, b2, b3⟩, e5, e6, e7⟩ := h.n
  have hl := hL.2.2.2.2.1.2.2.1.2.2.2.2
  have f1 : zF zWl S0 (zpI S0 414 2 (nI nj)) := zF_pI (Or.inr (Or.inr (Or.inr (Or.inr (Or.inr ⟨rfl, rfl⟩)))))
  obtain ⟨A, a1, a2, a3, a4⟩ := x_landsL (K := fun S9 => f_X3_takeFrom_L60 414 (fun S14 => f_X3_takeFrom_L81 n 414 2 (fun S17 => some S17) n (0 : Int32) S14) n (0 : Int32) S9) (h.wl f1) hl.2.1 hl.2.2.1 hl.2.2.2.2.2.1 hl.2.2.2.2.2.2.1 (n := n) (by omega)
  have f2 := f1.tr a2
  obtain ⟨B, c1, c2, c3⟩ := x_zeroL (S0 := A) (K := fun S14 => f_X3_takeFrom_L81 n 414 2 (fun S17 => some S17) n (0 : Int32) S14) (by rw [f2.r]; exact hl.2.2.2.1) (by rw [f2.n]; exact hl.2.2.2.2.2.2.2) (n := n) (by omega)
  have f3 := f2.tr (c2.mo (V := zWl) (fun a k q => by unfold zWl; omega))
  obtain ⟨C, d1, d2, d3⟩ := x_divesL (S0 := B) (K := fun S17 => some S17) (h.wl f3) hz (by rw [f3.r]; exact hl.2.2.2.1) (by rw [f3.n]; exact hl.2.2.2.2.2.2.2) c3 (n := n) (by omega)
  refine ⟨C, ?_, f3.tr (d2.mo (fun a k q => by unfold zWl; omega)), ?_, fun j hj => ?_, d3⟩
  · unfold f_X3_takeFrom
    rw [e6]
    simp only [nLet]
    rw [a1, c1, d1]
  · rw [d2.i (by omega), c2.i (by omega), a4 414 2 rfl, mi_eq]
  · rw [d2.i (by omega), c2.i (by omega), d2.i (by omega), c2.i (by omega)]
    obtain ⟨x1, x2⟩ := a3 j (by omega)
    exact ⟨x1 hj, x2⟩
