/-! class and reference read alike -/
def zCl (T : List Int32) (run : zM → Option zM) (p : Nat) (ok : Bool) (p1 : Nat) (c : List Int32) : Prop := ∀ (q : Nat) (S : zM) (a : List Int32), zYg S q T p a → ∃ S1 : zM, run S = some S1 ∧ zF zYw S S1 ∧ zYo ok S1 q T p1 (a ++ c)
def zTw2 (a k : Nat) : Prop := a = 436 ∧ (k = 12 ∨ k = 15 ∨ k = 16)
theorem zTw2.t {a k : Nat} (h : zTw2 a k) : zTwr a k := by unfold zTw2 at h; unfold zTwr; omega
theorem zTw2_n {S S1 : zM} (f : zF zTwr S S1) (h : ∀ k : Nat, ¬ k = 12 → ¬ k = 16 → zi S1 436 k = zi S 436 k ∧ zl S1 = zl S) : zF zTw2 S S1 := by
  refine ⟨f.1, f.2.1, f.2.2.1, f.2.2.2.1, fun a k hw => ?_⟩
  by_cases q : zTwr a k
  · have ha : a = 436 := q.1
    subst ha
    obtain ⟨h1, h2⟩ := h k (fun e => hw ⟨rfl, Or.inl e⟩) (fun e => hw ⟨rfl, Or.inr (Or.inr e)⟩)
    exact ⟨h1, by rw [h2]⟩
  · exact f.2.2.2.2 a k q
def zRf (T : List Int32) (run : zM → Option (Int32 × zM)) (p dep : Nat) (ok : Bool) (p1 : Nat) : Prop := ∀ (row base : Nat) (R : zM), zTs R row base T p → zi R 436 15 = nI dep → ∃ R1 : zM, run R = some (if ok = true then 1 else 0, R1) ∧ zF zTw2 R R1 ∧ zTs R1 row base T p1 ∧ (ok = true → zi R1 436 15 = nI dep)
def zPp (T : List Int32) (m d p B : Nat) (ok : Bool) (p1 : Nat) (c : List Int32) : Prop := ok = true → c.length + p ≤ p1 ∧ ∀ (e f : Nat) (a : List Int32), p1 ≤ e → e ≤ T.length → B ≤ f → zp f m d a ((T.take e).drop p) = some (a ++ c, (T.take e).drop p1)
def zJo (T : List Int32) (cls : zM → Option zM) (ref : zM → Option (Int32 × zM)) (m dep p B : Nat) : Prop := ∃ (ok : Bool) (p1 : Nat) (c : List Int32), p ≤ p1 ∧ p1 ≤ T.length ∧ (ok = true → p < p1) ∧ zCl T cls p ok p1 c ∧ zRf T ref p dep ok p1 ∧ zPp T m (6 - dep) p B ok p1 c
def zJr (T : List Int32) (cls : Nat → Nat → zM → Option zM) (ref : Nat → zM → Option (Int32 × zM)) (m dep p B : Nat) : Prop := ∃ (ok : Bool) (p1 : Nat) (c : List Int32), p ≤ p1 ∧ p1 ≤ T.length ∧ (∀ k j : Nat, T.length - p < k → j ≤ p → zCl T (cls k j) p ok p1 c) ∧ (∀ k : Nat, T.length - p < k → zRf T (ref k) p dep ok p1) ∧ zPp T m (6 - dep) p B ok p1 c
theorem m_takes {R : zM} {row base p : Nat} {T : List Int32} {ch : Int32} (h : zTs R row base T p) (hc : ¬ (-1000 : Int32) = ch) : (T[p]? = some ch → f_X12_takes R 436 ch = some (1, zpI R 436 12 (zi R 436 12 + 1))) ∧ (¬ T[p]? = some ch → f_X12_takes R 436 ch = some (0, R)) := by
  unfold f_X12_takes
  rw [m_sign h, zB1_s]
  constructor
  · intro e
    rw [e]
    dsimp only
    rw [if_pos rfl, zLet_d]
  · intro e
    cases hx : T[p]? with
    | none => dsimp only; rw [if_neg hc]
    | some y =>
      dsimp only
      rw [if_neg (fun q => e (by rw [hx, q]))]
theorem zTs.st {R : zM} {row base p dep : Nat} {T : List Int32} (h : zTs R row base T p) (hp : p < T.length) (hd : zi R 436 15 = nI dep) : zTs (zpI R 436 12 (zi R 436 12 + 1)) row base T (p + 1) ∧ zF zTw2 R (zpI R 436 12 (zi R 436 12 + 1)) ∧ zi (zpI R 436 12 (zi R 436 12 + 1)) 436 15 = nI dep := by
  obtain ⟨h1, h2⟩ := h.step hp
  exact ⟨h1, zF_pI ⟨rfl, Or.inl rfl⟩, by rw [mi_ne _ _ (by omega)]; exact hd⟩
def zRst (c1 c2 : Int32) (rec0 : zM → Option (Int32 × zM)) (R : zM) : Option (Int32 × zM) := zB2 (f_X12_takes R 436 c1) (fun r13 S14 => if r13 = 0 then zB2 (f_X12_takes S14 436 c2) (fun r21 S22 => if r21 = 0 then some (((1 : Int32), S22)) else rec0 S22) else rec0 S14)
theorem m_rest {R : zM} {row base p : Nat} {T : List Int32} {c1 c2 : Int32} {rec0 : zM → Option (Int32 × zM)} (h : zTs R row base T p) (h1 : ¬ (-1000 : Int32) = c1) (h2 : ¬ (-1000 : Int32) = c2) : ((∃ y : Int32, T[p]? = some y ∧ (y = c1 ∨ y = c2)) → zRst c1 c2 rec0 R = rec0 (zpI R 436 12 (zi R 436 12 + 1))) ∧ ((¬ ∃ y : Int32, T[p]? = some y ∧ (y = c1 ∨ y = c2)) → zRst c1 c2 rec0 R = some (1, R)) := by
  obtain ⟨t1, t2⟩ := m_takes (ch := c1) h h1
  obtain ⟨t3, t4⟩ := m_takes (ch := c2) h h2
  have n10 : ¬ (1 : Int32) = 0 := by decide
  unfold zRst
  constructor
  · rintro ⟨y, hy, hc⟩
    by_cases e1 : y = c1
    · rw [t1 (by rw [hy, e1]), zB2_s, if_neg n10]
    · rw [t2 (by rw [hy]; intro q; injection q with q; exact e1 q), zB2_s, if_pos rfl, t3 (by rw [hy]; rw [hc.resolve_left e1]), zB2_s, if_neg n10]
  · intro hn
    rw [t2 (fun q => hn ⟨c1, q, Or.inl rfl⟩), zB2_s, if_pos rfl, t4 (fun q => hn ⟨c2, q, Or.inr rfl⟩), zB2_s, if_pos rfl]
theorem zj_restP {N dep p : Nat} {T : List Int32} {rc : zM → Nat → Int32 → Option zM} {rf : zM → Nat → Option (Int32 × zM)} (hT : T.length ≤ 120) (hp : p ≤ T.length) (hI : ∀ p1 : Nat, p < p1 → p1 ≤ T.length → zJo T (fun S => f_X7_readAtom N rc S 405 (nI dep)) (fun R => f_X12_readsAtom N rf R 436) 4 dep p1 (3 * (T.length - p1) + 1)) (hR : ∀ p1 : Nat, p < p1 → p1 ≤ T.length → zJr T (fun k j S => f_X7_readProduct_L7 N rc 405 (nI dep) rc (fun S7 => some S7) k (nI j) S) (fun k => zRst 42 47 (f_X12_readsProduct_L0 N rf 436 rf k)) 3 dep p1 (3 * (T.length - p1) + 1)) :
    zJr T (fun k j S => f_X7_readProduct_L7 N rc 405 (nI dep) rc (fun S7 => some S7) k (nI j) S) (fun k => zRst 42 47 (f_X12_readsProduct_L0 N rf 436 rf k)) 3 dep p (3 * (T.length - p) + 1) := by
  have n10 : ¬ (1 : Int32) = 0 := by decide
  by_cases hop : ∃ y : Int32, T[p]? = some y ∧ (y = 42 ∨ y = 47)
  · obtain ⟨y, hy, hc⟩ := id hop
    have hlt : p < T.length := (List.getElem?_eq_some_iff.mp hy).1
    have hy2 : zYn T p = y := by unfold zYn; rw [hy]
    have hb : ∀ (q k j : Nat) (S : zM) (a : List Int32), zYg S q T p a → j ≤ p → f_X7_readProduct_L7 N rc 405 (nI dep) rc (fun S7 => some S7) (k + 1) (nI j) S = zB1 (f_X7_readAtom N rc (zpI S 405 3 (zi S 405 3 + 1)) 405 (nI dep)) (fun S33 => zChk (¬ (zr S33 405 0) = 0) (zB1 (f_X6_append S33 (zr S33 405 0) (-y)) (fun S41 => f_X7_readProduct_L7 N rc 405 (nI dep) rc (fun S7 => some S7) k (nI (j + 1)) S41))) := by
      intro q k j S a hS hj
      show f_X7_readProduct_L7b N rc 405 (nI dep) rc (fun S7 => some S7) (f_X7_readProduct_L7 N rc 405 (nI dep) rc (fun S7 => some S7) k) (nI j) S = _
      unfold f_X7_readProduct_L7b
      rw [if_neg (show ¬ (120 : Int32) ≤ nI j from nI_ge (b := 120) (by omega) (by omega)), hS.2.1, if_pos rfl, x_next hS.1, hy2]
      simp only [nB1, nLet]
      rw [nI_1]
      by_cases e1 : y = 42
      · rw [if_pos e1]
      · rw [if_neg e1, if_pos (hc.resolve_left e1)]
    have hst : ∀ (q k j p1 : Nat) (S : zM), zYs S q T p1 → f_X7_readProduct_L7 N rc 405 (nI dep) rc (fun S7 => some S7) (k + 1) (nI j) S = some S := by
      intro q k j p1 S hS
      show f_X7_readProduct_L7b N rc 405 (nI dep) rc (fun S7 => some S7) (f_X7_readProduct_L7 N rc 405 (nI dep) rc (fun S7 => some S7) k) (nI j) S = _
      unfold f_X7_readProduct_L7b
      rw [hS.2.1, if_neg n10]
      split <;> rfl
    obtain ⟨ok1, p1, c1, l1, l2, l3, l4, l5, l6⟩ := hI (p + 1) (by omega) hlt
    cases ok1 with
    | false =>
      refine ⟨false, p1, [], by omega, l2, fun k j hk hj q S a hS => ?_, fun k hk row base R hR1 hd => ?_, fun q => absurd q (by decide)⟩
      · obtain ⟨k, rfl⟩ : ∃ i, k = i + 2 := ⟨k - 2, by omega⟩
        obtain ⟨s1, s2⟩ := hS.step hlt
        obtain ⟨A, a1, a2, a3⟩ := l4 q _ a s1
        have a4 := a3.2 rfl
        obtain ⟨B, b1, b2, b3⟩ := x_appS (x := -y) a4
        refine ⟨B, ?_, (s2.tr a2).tr b2, fun z => absurd z (by decide), fun _ => b3⟩
        have a1' : f_X7_readAtom N rc (zpI S 405 3 (zi S 405 3 + 1)) 405 (nI dep) = some A := a1
        show f_X7_readProduct_L7 N rc 405 (nI dep) rc (fun S7 => some S7) (k + 1 + 1) (nI j) S = _
        rw [hb q (k + 1) j S a hS hj, a1', zB1_s, a4.1.1.1, zChk_t (by decide), b1, zB1_s]
        exact hst q k (j + 1) p1 B b3
      · obtain ⟨k, rfl⟩ : ∃ i, k = i + 1 := ⟨k - 1, by omega⟩
        obtain ⟨s1, s2, s3⟩ := hR1.st hlt hd
        obtain ⟨A, a1, a2, a3, a4⟩ := l5 row base _ s1 s3
        have a1' : f_X12_readsAtom N rf (zpI R 436 12 (zi R 436 12 + 1)) 436 = some (0, A) := a1
        refine ⟨A, ?_, s2.tr a2, a3, fun z => absurd z (by decide)⟩
        refine ((m_rest hR1 (by decide) (by decide)).1 hop).trans ?_
        show f_X12_readsProduct_L0b N rf 436 rf (f_X12_readsProduct_L0 N rf 436 rf k) (zpI R 436 12 (zi R 436 12 + 1)) = some (0, A)
        unfold f_X12_readsProduct_L0b
        rw [a1', zB2_s, if_pos rfl]
    | true =>
      obtain ⟨ok2, p2, c2, r1, r2, r3, r4, r5⟩ := hR p1 (by have := l3 rfl; omega) l2
      obtain ⟨g1, g2⟩ := l6 rfl
      have hp1 := l3 rfl
      have hneg : -y = 0 - y := (Int32.zero_sub y).symm
      refine ⟨ok2, p2, c1 ++ [0 - y] ++ c2, by omega, r2, fun k j hk hj q S a hS => ?_, fun k hk row base R hR1 hd => ?_, fun hok => ?_⟩
      · obtain ⟨k, rfl⟩ : ∃ i, k = i + 1 := ⟨k - 1, by omega⟩
        obtain ⟨s1, s2⟩ := hS.step hlt
        obtain ⟨A, a1, a2, a3⟩ := l4 q _ a s1
        have a4 := a3.1 rfl
        have hla := hS.2.2.2
        have hlen : (a ++ c1).length + 1 ≤ p1 := by rw [List.length_append]; omega
        obtain ⟨B, b1, b2, b3⟩ := x_appG (x := -y) a4 (by omega) hlen
        obtain ⟨C, d1, d2, d3⟩ := r3 k (j + 1) (by omega) (by omega) q B _ b3
        have a1' : f_X7_readAtom N rc (zpI S 405 3 (zi S 405 3 + 1)) 405 (nI dep) = some A := a1
        have d1' : f_X7_readProduct_L7 N rc 405 (nI dep) rc (fun S7 => some S7) k (nI (j + 1)) B = some C := d1
        have el : a ++ (c1 ++ [0 - y] ++ c2) = a ++ c1 ++ [-y] ++ c2 := by rw [hneg]; simp only [List.append_assoc]
        refine ⟨C, ?_, ((s2.tr a2).tr b2).tr d2, by rw [el]; exact d3⟩
        show f_X7_readProduct_L7 N rc 405 (nI dep) rc (fun S7 => some S7) (k + 1) (nI j) S = _
        rw [hb q k j S a hS hj, a1', zB1_s, a4.1.1.1, zChk_t (by decide), b1, zB1_s, d1']
      · obtain ⟨k, rfl⟩ : ∃ i, k = i + 1 := ⟨k - 1, by omega⟩
        obtain ⟨s1, s2, s3⟩ := hR1.st hlt hd
        obtain ⟨A, a1, a2, a3, a4⟩ := l5 row base _ s1 s3
        have a1' : f_X12_readsAtom N rf (zpI R 436 12 (zi R 436 12 + 1)) 436 = some (1, A) := a1
        obtain ⟨C, d1, d2, d3, d4⟩ := r4 k (by omega) row base A a3 (a4 rfl)
        refine ⟨C, ?_, (s2.tr a2).tr d2, d3, d4⟩
        refine ((m_rest hR1 (by decide) (by decide)).1 hop).trans ?_
        show f_X12_readsProduct_L0b N rf 436 rf (f_X12_readsProduct_L0 N rf 436 rf k) (zpI R 436 12 (zi R 436 12 + 1)) = _
        unfold f_X12_readsProduct_L0b
        rw [a1', zB2_s, if_neg n10]
        exact d1
      · obtain ⟨h1, h2⟩ := r5 hok
        refine ⟨by rw [List.length_append, List.length_append]; show c1.length + 1 + c2.length + p ≤ p2; omega, fun e f a he1 he2 hf => ?_⟩
        obtain ⟨f, rfl⟩ : ∃ i, f = i + 1 := ⟨f - 1, by omega⟩
        rw [ztk (by omega) hy]
        show (if y = 42 ∨ y = 47 then (zp f 4 (6 - dep) a ((T.take e).drop (p + 1))).bind fun q => zp f 3 (6 - dep) (q.1 ++ [0 - y]) q.2 else some (a, y :: (T.take e).drop (p + 1))) = _
        rw [if_pos hc, g2 e f a (by omega) he2 (by omega)]
        show zp f 3 (6 - dep) (a ++ c1 ++ [0 - y]) ((T.take e).drop p1) = _
        rw [h2 e f _ he1 he2 (by omega)]
        simp only [List.append_assoc]
  · refine ⟨true, p, [], Nat.le_refl _, hp, fun k j hk hj q S a hS => ?_, fun k hk row base R hR1 hd => ?_, fun _ => ⟨by show 0 + p ≤ p; omega, fun e f a he1 he2 hf => ?_⟩⟩
    · obtain ⟨k, rfl⟩ : ∃ i, k = i + 1 := ⟨k - 1, by omega⟩
      have e1 : ¬ zYn T p = 42 := by
        unfold zYn
        cases hx : T[p]? with
        | none => exact (by decide)
        | some y => exact fun z => hop ⟨y, hx, Or.inl z⟩
      have e2 : ¬ zYn T p = 47 := by
        unfold zYn
        cases hx : T[p]? with
        | none => exact (by decide)
        | some y => exact fun z => hop ⟨y, hx, Or.inr z⟩
      refine ⟨S, ?_, zF.rf, fun _ => by rw [List.append_nil]; exact hS, fun z => absurd z (by decide)⟩
      show f_X7_readProduct_L7b N rc 405 (nI dep) rc (fun S7 => some S7) (f_X7_readProduct_L7 N rc 405 (nI dep) rc (fun S7 => some S7) k) (nI j) S = _
      unfold f_X7_readProduct_L7b
      rw [hS.2.1, if_pos rfl, x_next hS.1]
      simp only [nB1, nLet]
      rw [if_neg e1, if_neg e2]
      split <;> rfl
    · exact ⟨R, (m_rest hR1 (by decide) (by decide)).2 hop, zF.rf, hR1, fun _ => hd⟩
    · obtain ⟨f, rfl⟩ : ∃ i, f = i + 1 := ⟨f - 1, by omega⟩
      rw [List.append_nil]
      by_cases he : p < e
      · obtain ⟨y, hy⟩ : ∃ y : Int32, T[p]? = some y := ⟨T[p]'(by omega), List.getElem?_eq_getElem (by omega)⟩
        rw [ztk he hy]
        show (if y = 42 ∨ y = 47 then (zp f 4 (6 - dep) a ((T.take e).drop (p + 1))).bind fun q => zp f 3 (6 - dep) (q.1 ++ [0 - y]) q.2 else some (a, y :: (T.take e).drop (p + 1))) = _
        rw [if_neg (fun z => hop ⟨y, hy, z⟩)]
      · rw [ztn (by omega)]
        rfl
theorem zj_outP {N dep p : Nat} {T : List Int32} {rc : zM → Nat → Int32 → Option zM} {rf : zM → Nat → Option (Int32 × zM)} (hN : 122 < N) (hT : T.length ≤ 120) (hI : zJo T (fun S => f_X7_readAtom N rc S 405 (nI dep)) (fun R => f_X12_readsAtom N rf R 436) 4 dep p (3 * (T.length - p) + 1)) (hR : ∀ p1 : Nat, p < p1 → p1 ≤ T.length → zJr T (fun k j S => f_X7_readProduct_L7 N rc 405 (nI dep) rc (fun S7 => some S7) k (nI j) S) (fun k => zRst 42 47 (f_X12_readsProduct_L0 N rf 436 rf k)) 3 dep p1 (3 * (T.length - p1) + 1)) :
    zJo T (fun S => f_X7_readProduct N rc S 405 (nI dep)) (fun R => f_X12_readsProduct N rf R 436) 2 dep p (3 * (T.length - p) + 2) := by
  have n10 : ¬ (1 : Int32) = 0 := by decide
  obtain ⟨N, rfl⟩ : ∃ i, N = i + 1 := ⟨N - 1, by omega⟩
  obtain ⟨ok1, p1, c1, l1, l2, l3, l4, l5, l6⟩ := hI
  cases ok1 with
  | false =>
    refine ⟨false, p1, [], l1, l2, fun z => absurd z (by decide), fun q S a hS => ?_, fun row base R hR1 hd => ?_, fun q => absurd q (by decide)⟩
    · obtain ⟨A, a1, a2, a3⟩ := l4 q _ a hS
      have a4 := a3.2 rfl
      have a1' : f_X7_readAtom (N + 1) rc S 405 (nI dep) = some A := a1
      refine ⟨A, ?_, a2, fun z => absurd z (by decide), fun _ => a4⟩
      dsimp only
      unfold f_X7_readProduct
      rw [a1', zB1_s, zLet_d]
      show f_X7_readProduct_L7b (N + 1) rc 405 (nI dep) rc (fun S7 => some S7) (f_X7_readProduct_L7 (N + 1) rc 405 (nI dep) rc (fun S7 => some S7) N) 0 A = _
      unfold f_X7_readProduct_L7b
      rw [a4.2.1, if_neg n10]
      split <;> rfl
    · obtain ⟨A, a1, a2, a3, a4⟩ := l5 row base R hR1 hd
      have a1' : f_X12_readsAtom (N + 1) rf R 436 = some (0, A) := a1
      refine ⟨A, ?_, a2, a3, fun z => absurd z (by decide)⟩
      show f_X12_readsProduct_L0b (N + 1) rf 436 rf (f_X12_readsProduct_L0 (N + 1) rf 436 rf N) R = some (0, A)
      unfold f_X12_readsProduct_L0b
      rw [a1', zB2_s, if_pos rfl]
  | true =>
    have hp1 := l3 rfl
    obtain ⟨ok2, p2, c2, r1, r2, r3, r4, r5⟩ := hR p1 hp1 l2
    obtain ⟨g1, g2⟩ := l6 rfl
    refine ⟨ok2, p2, c1 ++ c2, by omega, r2, fun _ => by omega, fun q S a hS => ?_, fun row base R hR1 hd => ?_, fun hok => ?_⟩
    · obtain ⟨A, a1, a2, a3⟩ := l4 q _ a hS
      have a4 := a3.1 rfl
      have a1' : f_X7_readAtom (N + 1) rc S 405 (nI dep) = some A := a1
      obtain ⟨C, d1, d2, d3⟩ := r3 (N + 1) 0 (by omega) (by omega) q A _ a4
      have d1' : f_X7_readProduct_L7 (N + 1) rc 405 (nI dep) rc (fun S7 => some S7) (N + 1) 0 A = some C := d1
      refine ⟨C, ?_, a2.tr d2, by rw [← List.append_assoc]; exact d3⟩
      dsimp only
      unfold f_X7_readProduct
      rw [a1', zB1_s, zLet_d]
      exact d1'
    · obtain ⟨A, a1, a2, a3, a4⟩ := l5 row base R hR1 hd
      have a1' : f_X12_readsAtom (N + 1) rf R 436 = some (1, A) := a1
      obtain ⟨C, d1, d2, d3, d4⟩ := r4 N (by omega) row base A a3 (a4 rfl)
      refine ⟨C, ?_, a2.tr d2, d3, d4⟩
      show f_X12_readsProduct_L0b (N + 1) rf 436 rf (f_X12_readsProduct_L0 (N + 1) rf 436 rf N) R = _
      unfold f_X12_readsProduct_L0b
      rw [a1', zB2_s, if_neg n10]
      exact d1
    · obtain ⟨h1, h2⟩ := r5 hok
      refine ⟨by rw [List.length_append]; omega, fun e f a he1 he2 hf => ?_⟩
      obtain ⟨f, rfl⟩ : ∃ i, f = i + 1 := ⟨f - 1, by omega⟩
      show ((zp f 4 (6 - dep) a ((T.take e).drop p)).bind fun q => zp f 3 (6 - dep) q.1 q.2) = _
      rw [g2 e f a (by omega) he2 (by omega)]
      show zp f 3 (6 - dep) (a ++ c1) ((T.take e).drop p1) = _
      rw [h2 e f _ he1 he2 (by omega), List.append_assoc]
theorem zj_restS {N dep p : Nat} {T : List Int32} {rc : zM → Nat → Int32 → Option zM} {rf : zM → Nat → Option (Int32 × zM)} (hT : T.length ≤ 120) (hp : p ≤ T.length) (hI : ∀ p1 : Nat, p < p1 → p1 ≤ T.length → zJo T (fun S => f_X7_readProduct N rc S 405 (nI dep)) (fun R => f_X12_readsProduct N rf R 436) 2 dep p1 (3 * (T.length - p1) + 2)) (hR : ∀ p1 : Nat, p < p1 → p1 ≤ T.length → zJr T (fun k j S => f_X7_readSum_L7 N rc 405 (nI dep) rc (fun S7 => some S7) k (nI j) S) (fun k => zRst 43 45 (f_X12_readsSum_L0 N rf 436 rf k)) 1 dep p1 (3 * (T.length - p1) + 1)) :
    zJr T (fun k j S => f_X7_readSum_L7 N rc 405 (nI dep) rc (fun S7 => some S7) k (nI j) S) (fun k => zRst 43 45 (f_X12_readsSum_L0 N rf 436 rf k)) 1 dep p (3 * (T.length - p) + 1) := by
  have n10 : ¬ (1 : Int32) = 0 := by decide
  by_cases hop : ∃ y : Int32, T[p]? = some y ∧ (y = 43 ∨ y = 45)
  · obtain ⟨y, hy, hc⟩ := id hop
    have hlt : p < T.length := (List.getElem?_eq_some_iff.mp hy).1
    have hy2 : zYn T p = y := by unfold zYn; rw [hy]
    have hb : ∀ (q k j : Nat) (S : zM) (a : List Int32), zYg S q T p a → j ≤ p → f_X7_readSum_L7 N rc 405 (nI dep) rc (fun S7 => some S7) (k + 1) (nI j) S = zB1 (f_X7_readProduct N rc (zpI S 405 3 (zi S 405 3 + 1)) 405 (nI dep)) (fun S33 => zChk (¬ (zr S33 405 0) = 0) (zB1 (f_X6_append S33 (zr S33 405 0) (-y)) (fun S41 => f_X7_readSum_L7 N rc 405 (nI dep) rc (fun S7 => some S7) k (nI (j + 1)) S41))) := by
      intro q k j S a hS hj
      show f_X7_readSum_L7b N rc 405 (nI dep) rc (fun S7 => some S7) (f_X7_readSum_L7 N rc 405 (nI dep) rc (fun S7 => some S7) k) (nI j) S = _
      unfold f_X7_readSum_L7b
      rw [if_neg (show ¬ (120 : Int32) ≤ nI j from nI_ge (b := 120) (by omega) (by omega)), hS.2.1, if_pos rfl, x_next hS.1, hy2]
      simp only [nB1, nLet]
      rw [nI_1]
      by_cases e1 : y = 43
      · rw [if_pos e1]
      · rw [if_neg e1, if_pos (hc.resolve_left e1)]
    have hst : ∀ (q k j p1 : Nat) (S : zM), zYs S q T p1 → f_X7_readSum_L7 N rc 405 (nI dep) rc (fun S7 => some S7) (k + 1) (nI j) S = some S := by
      intro q k j p1 S hS
      show f_X7_readSum_L7b N rc 405 (nI dep) rc (fun S7 => some S7) (f_X7_readSum_L7 N rc 405 (nI dep) rc (fun S7 => some S7) k) (nI j) S = _
      unfold f_X7_readSum_L7b
      rw [hS.2.1, if_neg n10]
      split <;> rfl
    obtain ⟨ok1, p1, c1, l1, l2, l3, l4, l5, l6⟩ := hI (p + 1) (by omega) hlt
    cases ok1 with
    | false =>
      refine ⟨false, p1, [], by omega, l2, fun k j hk hj q S a hS => ?_, fun k hk row base R hR1 hd => ?_, fun q => absurd q (by decide)⟩
      · obtain ⟨k, rfl⟩ : ∃ i, k = i + 2 := ⟨k - 2, by omega⟩
        obtain ⟨s1, s2⟩ := hS.step hlt
        obtain ⟨A, a1, a2, a3⟩ := l4 q _ a s1
        have a4 := a3.2 rfl
        obtain ⟨B, b1, b2, b3⟩ := x_appS (x := -y) a4
        refine ⟨B, ?_, (s2.tr a2).tr b2, fun z => absurd z (by decide), fun _ => b3⟩
        have a1' : f_X7_readProduct N rc (zpI S 405 3 (zi S 405 3 + 1)) 405 (nI dep) = some A := a1
        show f_X7_readSum_L7 N rc 405 (nI dep) rc (fun S7 => some S7) (k + 1 + 1) (nI j) S = _
        rw [hb q (k + 1) j S a hS hj, a1', zB1_s, a4.1.1.1, zChk_t (by decide), b1, zB1_s]
        exact hst q k (j + 1) p1 B b3
      · obtain ⟨k, rfl⟩ : ∃ i, k = i + 1 := ⟨k - 1, by omega⟩
        obtain ⟨s1, s2, s3⟩ := hR1.st hlt hd
        obtain ⟨A, a1, a2, a3, a4⟩ := l5 row base _ s1 s3
        have a1' : f_X12_readsProduct N rf (zpI R 436 12 (zi R 436 12 + 1)) 436 = some (0, A) := a1
        refine ⟨A, ?_, s2.tr a2, a3, fun z => absurd z (by decide)⟩
        refine ((m_rest hR1 (by decide) (by decide)).1 hop).trans ?_
        show f_X12_readsSum_L0b N rf 436 rf (f_X12_readsSum_L0 N rf 436 rf k) (zpI R 436 12 (zi R 436 12 + 1)) = some (0, A)
        unfold f_X12_readsSum_L0b
        rw [a1', zB2_s, if_pos rfl]
    | true =>
      obtain ⟨ok2, p2, c2, r1, r2, r3, r4, r5⟩ := hR p1 (by have := l3 rfl; omega) l2
      obtain ⟨g1, g2⟩ := l6 rfl
      have hp1 := l3 rfl
      have hneg : -y = 0 - y := (Int32.zero_sub y).symm
      refine ⟨ok2, p2, c1 ++ [0 - y] ++ c2, by omega, r2, fun k j hk hj q S a hS => ?_, fun k hk row base R hR1 hd => ?_, fun hok => ?_⟩
      · obtain ⟨k, rfl⟩ : ∃ i, k = i + 1 := ⟨k - 1, by omega⟩
        obtain ⟨s1, s2⟩ := hS.step hlt
        obtain ⟨A, a1, a2, a3⟩ := l4 q _ a s1
        have a4 := a3.1 rfl
        have hla := hS.2.2.2
        have hlen : (a ++ c1).length + 1 ≤ p1 := by rw [List.length_append]; omega
        obtain ⟨B, b1, b2, b3⟩ := x_appG (x := -y) a4 (by omega) hlen
        obtain ⟨C, d1, d2, d3⟩ := r3 k (j + 1) (by omega) (by omega) q B _ b3
        have a1' : f_X7_readProduct N rc (zpI S 405 3 (zi S 405 3 + 1)) 405 (nI dep) = some A := a1
        have d1' : f_X7_readSum_L7 N rc 405 (nI dep) rc (fun S7 => some S7) k (nI (j + 1)) B = some C := d1
        have el : a ++ (c1 ++ [0 - y] ++ c2) = a ++ c1 ++ [-y] ++ c2 := by rw [hneg]; simp only [List.append_assoc]
        refine ⟨C, ?_, ((s2.tr a2).tr b2).tr d2, by rw [el]; exact d3⟩
        show f_X7_readSum_L7 N rc 405 (nI dep) rc (fun S7 => some S7) (k + 1) (nI j) S = _
        rw [hb q k j S a hS hj, a1', zB1_s, a4.1.1.1, zChk_t (by decide), b1, zB1_s, d1']
      · obtain ⟨k, rfl⟩ : ∃ i, k = i + 1 := ⟨k - 1, by omega⟩
        obtain ⟨s1, s2, s3⟩ := hR1.st hlt hd
        obtain ⟨A, a1, a2, a3, a4⟩ := l5 row base _ s1 s3
        have a1' : f_X12_readsProduct N rf (zpI R 436 12 (zi R 436 12 + 1)) 436 = some (1, A) := a1
        obtain ⟨C, d1, d2, d3, d4⟩ := r4 k (by omega) row base A a3 (a4 rfl)
        refine ⟨C, ?_, (s2.tr a2).tr d2, d3, d4⟩
        refine ((m_rest hR1 (by decide) (by decide)).1 hop).trans ?_
        show f_X12_readsSum_L0b N rf 436 rf (f_X12_readsSum_L0 N rf 436 rf k) (zpI R 436 12 (zi R 436 12 + 1)) = _
        unfold f_X12_readsSum_L0b
        rw [a1', zB2_s, if_neg n10]
        exact d1
      · obtain ⟨h1, h2⟩ := r5 hok
        refine ⟨by rw [List.length_append, List.length_append]; show c1.length + 1 + c2.length + p ≤ p2; omega, fun e f a he1 he2 hf => ?_⟩
        obtain ⟨f, rfl⟩ : ∃ i, f = i + 1 := ⟨f - 1, by omega⟩
        rw [ztk (by omega) hy]
        show (if y = 43 ∨ y = 45 then (zp f 2 (6 - dep) a ((T.take e).drop (p + 1))).bind fun q => zp f 1 (6 - dep) (q.1 ++ [0 - y]) q.2 else some (a, y :: (T.take e).drop (p + 1))) = _
        rw [if_pos hc, g2 e f a (by omega) he2 (by omega)]
        show zp f 1 (6 - dep) (a ++ c1 ++ [0 - y]) ((T.take e).drop p1) = _
        rw [h2 e f _ he1 he2 (by omega)]
        simp only [List.append_assoc]
  · refine ⟨true, p, [], Nat.le_refl _, hp, fun k j hk hj q S a hS => ?_, fun k hk row base R hR1 hd => ?_, fun _ => ⟨by show 0 + p ≤ p; omega, fun e f a he1 he2 hf => ?_⟩⟩
    · obtain ⟨k, rfl⟩ : ∃ i, k = i + 1 := ⟨k - 1, by omega⟩
      have e1 : ¬ zYn T p = 43 := by
        unfold zYn
        cases hx : T[p]? with
        | none => exact (by decide)
        | some y => exact fun z => hop ⟨y, hx, Or.inl z⟩
      have e2 : ¬ zYn T p = 45 := by
        unfold zYn
        cases hx : T[p]? with
        | none => exact (by decide)
        | some y => exact fun z => hop ⟨y, hx, Or.inr z⟩
      refine ⟨S, ?_, zF.rf, fun _ => by rw [List.append_nil]; exact hS, fun z => absurd z (by decide)⟩
      show f_X7_readSum_L7b N rc 405 (nI dep) rc (fun S7 => some S7) (f_X7_readSum_L7 N rc 405 (nI dep) rc (fun S7 => some S7) k) (nI j) S = _
      unfold f_X7_readSum_L7b
      rw [hS.2.1, if_pos rfl, x_next hS.1]
      simp only [nB1, nLet]
      rw [if_neg e1, if_neg e2]
      split <;> rfl
    · exact ⟨R, (m_rest hR1 (by decide) (by decide)).2 hop, zF.rf, hR1, fun _ => hd⟩
    · obtain ⟨f, rfl⟩ : ∃ i, f = i + 1 := ⟨f - 1, by omega⟩
      rw [List.append_nil]
      by_cases he : p < e
      · obtain ⟨y, hy⟩ : ∃ y : Int32, T[p]? = some y := ⟨T[p]'(by omega), List.getElem?_eq_getElem (by omega)⟩
        rw [ztk he hy]
        show (if y = 43 ∨ y = 45 then (zp f 2 (6 - dep) a ((T.take e).drop (p + 1))).bind fun q => zp f 1 (6 - dep) (q.1 ++ [0 - y]) q.2 else some (a, y :: (T.take e).drop (p + 1))) = _
        rw [if_neg (fun z => hop ⟨y, hy, z⟩)]
      · rw [ztn (by omega)]
        rfl
theorem zj_outS {N dep p : Nat} {T : List Int32} {rc : zM → Nat → Int32 → Option zM} {rf : zM → Nat → Option (Int32 × zM)} (hN : 122 < N) (hT : T.length ≤ 120) (hI : zJo T (fun S => f_X7_readProduct N rc S 405 (nI dep)) (fun R => f_X12_readsProduct N rf R 436) 2 dep p (3 * (T.length - p) + 2)) (hR : ∀ p1 : Nat, p < p1 → p1 ≤ T.length → zJr T (fun k j S => f_X7_readSum_L7 N rc 405 (nI dep) rc (fun S7 => some S7) k (nI j) S) (fun k => zRst 43 45 (f_X12_readsSum_L0 N rf 436 rf k)) 1 dep p1 (3 * (T.length - p1) + 1)) :
    zJo T (fun S => f_X7_readSumO N rc S 405 (nI dep)) (fun R => f_X12_readsSumO N rf R 436) 0 dep p (3 * (T.length - p) + 3) := by
  have n10 : ¬ (1 : Int32) = 0 := by decide
  obtain ⟨N, rfl⟩ : ∃ i, N = i + 1 := ⟨N - 1, by omega⟩
  obtain ⟨ok1, p1, c1, l1, l2, l3, l4, l5, l6⟩ := hI
  cases ok1 with
  | false =>
    refine ⟨false, p1, [], l1, l2, fun z => absurd z (by decide), fun q S a hS => ?_, fun row base R hR1 hd => ?_, fun q => absurd q (by decide)⟩
    · obtain ⟨A, a1, a2, a3⟩ := l4 q _ a hS
      have a4 := a3.2 rfl
      have a1' : f_X7_readProduct (N + 1) rc S 405 (nI dep) = some A := a1
      refine ⟨A, ?_, a2, fun z => absurd z (by decide), fun _ => a4⟩
      dsimp only
      unfold f_X7_readSumO
      rw [a1', zB1_s, zLet_d]
      show f_X7_readSum_L7b (N + 1) rc 405 (nI dep) rc (fun S7 => some S7) (f_X7_readSum_L7 (N + 1) rc 405 (nI dep) rc (fun S7 => some S7) N) 0 A = _
      unfold f_X7_readSum_L7b
      rw [a4.2.1, if_neg n10]
      split <;> rfl
    · obtain ⟨A, a1, a2, a3, a4⟩ := l5 row base R hR1 hd
      have a1' : f_X12_readsProduct (N + 1) rf R 436 = some (0, A) := a1
      refine ⟨A, ?_, a2, a3, fun z => absurd z (by decide)⟩
      show f_X12_readsSum_L0b (N + 1) rf 436 rf (f_X12_readsSum_L0 (N + 1) rf 436 rf N) R = some (0, A)
      unfold f_X12_readsSum_L0b
      rw [a1', zB2_s, if_pos rfl]
  | true =>
    have hp1 := l3 rfl
    obtain ⟨ok2, p2, c2, r1, r2, r3, r4, r5⟩ := hR p1 hp1 l2
    obtain ⟨g1, g2⟩ := l6 rfl
    refine ⟨ok2, p2, c1 ++ c2, by omega, r2, fun _ => by omega, fun q S a hS => ?_, fun row base R hR1 hd => ?_, fun hok => ?_⟩
    · obtain ⟨A, a1, a2, a3⟩ := l4 q _ a hS
      have a4 := a3.1 rfl
      have a1' : f_X7_readProduct (N + 1) rc S 405 (nI dep) = some A := a1
      obtain ⟨C, d1, d2, d3⟩ := r3 (N + 1) 0 (by omega) (by omega) q A _ a4
      have d1' : f_X7_readSum_L7 (N + 1) rc 405 (nI dep) rc (fun S7 => some S7) (N + 1) 0 A = some C := d1
      refine ⟨C, ?_, a2.tr d2, by rw [← List.append_assoc]; exact d3⟩
      dsimp only
      unfold f_X7_readSumO
      rw [a1', zB1_s, zLet_d]
      exact d1'
    · obtain ⟨A, a1, a2, a3, a4⟩ := l5 row base R hR1 hd
      have a1' : f_X12_readsProduct (N + 1) rf R 436 = some (1, A) := a1
      obtain ⟨C, d1, d2, d3, d4⟩ := r4 N (by omega) row base A a3 (a4 rfl)
      refine ⟨C, ?_, a2.tr d2, d3, d4⟩
      show f_X12_readsSum_L0b (N + 1) rf 436 rf (f_X12_readsSum_L0 (N + 1) rf 436 rf N) R = _
      unfold f_X12_readsSum_L0b
      rw [a1', zB2_s, if_neg n10]
      exact d1
    · obtain ⟨h1, h2⟩ := r5 hok
      refine ⟨by rw [List.length_append]; omega, fun e f a he1 he2 hf => ?_⟩
      obtain ⟨f, rfl⟩ : ∃ i, f = i + 1 := ⟨f - 1, by omega⟩
      show ((zp f 2 (6 - dep) a ((T.take e).drop p)).bind fun q => zp f 1 (6 - dep) q.1 q.2) = _
      rw [g2 e f a (by omega) he2 (by omega)]
      show zp f 1 (6 - dep) (a ++ c1) ((T.take e).drop p1) = _
      rw [h2 e f _ he1 he2 (by omega), List.append_assoc]
