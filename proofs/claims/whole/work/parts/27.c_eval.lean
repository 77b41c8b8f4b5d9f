/-! the reference works a sum out from its text as the code does -/
def zFl (S : zM) (fld : Int32 → Int32) : Prop := zi S 436 26 = fld 97 ∧ zi S 436 24 = fld 104 ∧ zi S 436 25 = fld 109 ∧ zi S 436 23 = fld 110 ∧ zi S 436 22 = fld 115 ∧ zi S 436 27 = fld 122 ∧ zi S 436 28 = fld 112
theorem zFl.fr {S S1 : zM} {fld : Int32 → Int32} (h : zFl S fld) (f : zF zTwr S S1) : zFl S1 fld := by
  obtain ⟨h1, h2, h3, h4, h5, h6, h7⟩ := h
  exact ⟨by rw [f.i (by unfold zTwr; omega)]; exact h1, by rw [f.i (by unfold zTwr; omega)]; exact h2, by rw [f.i (by unfold zTwr; omega)]; exact h3, by rw [f.i (by unfold zTwr; omega)]; exact h4, by rw [f.i (by unfold zTwr; omega)]; exact h5, by rw [f.i (by unfold zTwr; omega)]; exact h6, by rw [f.i (by unfold zTwr; omega)]; exact h7⟩
def zOv (fld : Int32 → Int32) (T : List Int32) (row base : Nat) (S : zM) (a a' t' : List Int32) (p : Nat) (pre : List Int32) (o : Int32 → zM → Prop) : Prop :=
  ∃ (v : Int32) (p' : Nat) (c : List Int32) (S' : zM), a' = a ++ c ∧ t' = T.drop p' ∧ p ≤ p' ∧ o v S' ∧ zTs S' row base T p' ∧ zF zTwr S S' ∧ ∀ st : List Int32, zcR fld c (pre ++ st) = v :: st
theorem zpA_s {y : Int32} {q1 q2 : List Int32 × List Int32} (e : zpA y q1 = some q2) : q2.1 = q1.1 ∧ q1.2 = y :: q2.2 := by
  unfold zpA at e
  cases h2 : q1.2 with
  | nil => rw [h2] at e; cases e
  | cons z w =>
    rw [h2] at e
    dsimp only at e
    by_cases hz : z = y
    · rw [if_pos hz] at e; cases e; exact ⟨rfl, by rw [hz]⟩
    · rw [if_neg hz] at e; cases e
theorem z_eval {N row base : Nat} {T : List Int32} {fld : Int32 → Int32} (hN : 120 < N) : ∀ (f d p : Nat) (a a' t' : List Int32),
    (zp f 0 d a (T.drop p) = some (a', t') → ∀ (S : zM) (m : Nat), zTs S row base T p → zFl S fld → d < m → zOv fld T row base S a a' t' p [] (fun v S' => f_X12_sumOf N m S 436 = some (v, S'))) ∧
    (zp f 1 d a (T.drop p) = some (a', t') → ∀ (S : zM) (m : Nat) (K : Int32 → zM → Option (Int32 × zM)) (k : Nat) (x : Int32), zTs S row base T p → zFl S fld → d ≤ m → T.length - p < k → zOv fld T row base S a a' t' p [x] (fun v S' => f_X12_sumOf_L5 N (f_X12_sumOf N m) 436 (f_X12_sumOf N m) K k x S = K v S')) ∧
    (zp f 2 d a (T.drop p) = some (a', t') → ∀ (S : zM) (m : Nat), zTs S row base T p → zFl S fld → d ≤ m → zOv fld T row base S a a' t' p [] (fun v S' => f_X12_product N (f_X12_sumOf N m) S 436 = some (v, S'))) ∧
    (zp f 3 d a (T.drop p) = some (a', t') → ∀ (S : zM) (m : Nat) (K : Int32 → zM → Option (Int32 × zM)) (k : Nat) (x : Int32), zTs S row base T p → zFl S fld → d ≤ m → T.length - p < k → zOv fld T row base S a a' t' p [x] (fun v S' => f_X12_product_L5 N (f_X12_sumOf N m) 436 (f_X12_sumOf N m) K k x S = K v S')) ∧
    (zp f 4 d a (T.drop p) = some (a', t') → ∀ (S : zM) (m : Nat), zTs S row base T p → zFl S fld → d ≤ m → zOv fld T row base S a a' t' p [] (fun v S' => f_X12_atom N (f_X12_sumOf N m) S 436 = some (v, S'))) := by
  intro f
  induction f with
  | zero =>
    intro d p a a' t'
    refine ⟨?_, ?_, ?_, ?_, ?_⟩ <;> (intro h; cases h)
  | succ f ih =>
    intro d p a a' t'
    refine ⟨?_, ?_, ?_, ?_, ?_⟩
    · intro h S m hT hF hm
      obtain ⟨m, rfl⟩ : ∃ m', m = m' + 1 := ⟨m - 1, by omega⟩
      have h' : ((zp f 2 d a (T.drop p)).bind fun q => zp f 1 d q.1 q.2) = some (a', t') := h
      obtain ⟨⟨a1, t1⟩, e1, e2⟩ := Option.bind_eq_some_iff.mp h'
      obtain ⟨v1, p1, c1, S1, k1, k2, k3, k4, k5, k6, k7⟩ := (ih d p a a1 t1).2.2.1 e1 S m hT hF (by omega)
      subst k1 k2
      obtain ⟨v2, p2, c2, S2, l1, l2, l3, l4, l5, l6, l7⟩ := (ih d p1 (a ++ c1) a' t').2.1 e2 S1 m (fun x8 S9 => some (x8, S9)) N v1 k5 (hF.fr k6) (by omega) (by have := hT.2.2.2.2.2.2.2.1; omega)
      refine ⟨v2, p2, c1 ++ c2, S2, by rw [l1, List.append_assoc], l2, by omega, ?_, l5, k6.tr l6, fun st => ?_⟩
      · show f_X12_sumOfO N (f_X12_sumOf N m) S 436 = some (v2, S2)
        unfold f_X12_sumOfO
        rw [k4, zB2_s, zLet_d]
        exact l4
      · rw [zcR_app, k7]
        exact l7 st
    · intro h S m K k x hT hF hm hk
      obtain ⟨k, rfl⟩ : ∃ k', k = k' + 1 := ⟨k - 1, by omega⟩
      have hsg := m_sign hT
      cases hd : T.drop p with
      | nil =>
        rw [hd] at h
        have h' : some (a, ([] : List Int32)) = some (a', t') := h
        cases h'
        rw [(zdrop_n hd).1] at hsg
        refine ⟨x, p, [], S, (List.append_nil a).symm, hd.symm, Nat.le_refl _, ?_, hT, zF.rf, fun st => rfl⟩
        show f_X12_sumOf_L5b N (f_X12_sumOf N m) 436 (f_X12_sumOf N m) K (f_X12_sumOf_L5 N (f_X12_sumOf N m) 436 (f_X12_sumOf N m) K k) x S = K x S
        unfold f_X12_sumOf_L5b
        simp only [nLet, hsg, nB1]
        rw [if_neg (show ¬ (-1000 : Int32) = 43 by decide), if_neg (show ¬ (-1000 : Int32) = 45 by decide)]
      | cons y r =>
        obtain ⟨hy, hr, hlt⟩ := zdrop_c hd
        rw [hy] at hsg
        dsimp only at hsg
        rw [hd] at h
        have h' : (if y = 43 ∨ y = 45 then (zp f 2 d a r).bind fun q => zp f 1 d (q.1 ++ [0 - y]) q.2 else some (a, y :: r)) = some (a', t') := h
        have hb : f_X12_sumOf_L5 N (f_X12_sumOf N m) 436 (f_X12_sumOf N m) K (k + 1) x S = if y = 43 ∨ y = 45 then zB2 (f_X12_product N (f_X12_sumOf N m) (zpI S 436 12 (zi S 436 12 + 1)) 436) (fun r33 S34 => if y = 43 then f_X12_sumOf_L5 N (f_X12_sumOf N m) 436 (f_X12_sumOf N m) K k (x + r33) S34 else f_X12_sumOf_L5 N (f_X12_sumOf N m) 436 (f_X12_sumOf N m) K k (x - r33) S34) else K x S := by
          show f_X12_sumOf_L5b N (f_X12_sumOf N m) 436 (f_X12_sumOf N m) K (f_X12_sumOf_L5 N (f_X12_sumOf N m) 436 (f_X12_sumOf N m) K k) x S = _
          unfold f_X12_sumOf_L5b
          simp only [nLet, hsg, nB1]
          by_cases y1 : y = 43
          · rw [if_pos y1, if_pos (Or.inl y1)]
          · rw [if_neg y1]
            by_cases y2 : y = 45
            · rw [if_pos y2, if_pos (Or.inr y2)]
            · rw [if_neg y2, if_neg (fun q => q.elim y1 y2)]
        by_cases hop : y = 43 ∨ y = 45
        · rw [if_pos hop] at h' hb
          obtain ⟨⟨a1, t1⟩, e1, e2⟩ := Option.bind_eq_some_iff.mp h'
          rw [hr] at e1
          obtain ⟨hT2, hf2⟩ := hT.step hlt
          obtain ⟨v1, p1, c1, S1, k1, k2, k3, k4, k5, k6, k7⟩ := (ih d (p + 1) a a1 t1).2.2.1 e1 _ m hT2 (hF.fr hf2) hm
          subst k1 k2
          obtain ⟨v2, p2, c2, S2, l1, l2, l3, l4, l5, l6, l7⟩ := (ih d p1 (a ++ c1 ++ [0 - y]) a' t').2.1 e2 S1 m K k (zWk y x v1) k5 ((hF.fr hf2).fr k6) hm (by omega)
          refine ⟨v2, p2, c1 ++ [0 - y] ++ c2, S2, by rw [l1]; simp only [List.append_assoc], l2, by omega, ?_, l5, (hf2.tr k6).tr l6, fun st => ?_⟩
          · rw [hb, k4, zB2_s]
            rcases hop with rfl | rfl
            · rw [if_pos rfl]; exact l4
            · rw [if_neg (by decide)]; exact l4
          · rw [zcR_app, zcR_app, show zcR fld c1 ([x] ++ st) = v1 :: x :: st from k7 (x :: st), zcR_1, zcS_op (by rcases hop with h | h <;> simp [h])]
            exact l7 st
        · rw [if_neg hop] at h' hb
          cases h'
          exact ⟨x, p, [], S, (List.append_nil a).symm, hd.symm, Nat.le_refl _, hb, hT, zF.rf, fun st => rfl⟩
    · intro h S m hT hF hm
      have h' : ((zp f 4 d a (T.drop p)).bind fun q => zp f 3 d q.1 q.2) = some (a', t') := h
      obtain ⟨⟨a1, t1⟩, e1, e2⟩ := Option.bind_eq_some_iff.mp h'
      obtain ⟨v1, p1, c1, S1, k1, k2, k3, k4, k5, k6, k7⟩ := (ih d p a a1 t1).2.2.2.2 e1 S m hT hF hm
      subst k1 k2
      obtain ⟨v2, p2, c2, S2, l1, l2, l3, l4, l5, l6, l7⟩ := (ih d p1 (a ++ c1) a' t').2.2.2.1 e2 S1 m (fun x8 S9 => some (x8, S9)) N v1 k5 (hF.fr k6) hm (by have := hT.2.2.2.2.2.2.2.1; omega)
      refine ⟨v2, p2, c1 ++ c2, S2, by rw [l1, List.append_assoc], l2, by omega, ?_, l5, k6.tr l6, fun st => ?_⟩
      · show f_X12_product N (f_X12_sumOf N m) S 436 = some (v2, S2)
        unfold f_X12_product
        rw [k4, zB2_s, zLet_d]
        exact l4
      · rw [zcR_app, k7]
        exact l7 st
    · intro h S m K k x hT hF hm hk
      obtain ⟨k, rfl⟩ : ∃ k', k = k' + 1 := ⟨k - 1, by omega⟩
      have hsg := m_sign hT
      cases hd : T.drop p with
      | nil =>
        rw [hd] at h
        have h' : some (a, ([] : List Int32)) = some (a', t') := h
        cases h'
        rw [(zdrop_n hd).1] at hsg
        refine ⟨x, p, [], S, (List.append_nil a).symm, hd.symm, Nat.le_refl _, ?_, hT, zF.rf, fun st => rfl⟩
        show f_X12_product_L5b N (f_X12_sumOf N m) 436 (f_X12_sumOf N m) K (f_X12_product_L5 N (f_X12_sumOf N m) 436 (f_X12_sumOf N m) K k) x S = K x S
        unfold f_X12_product_L5b
        simp only [nLet, hsg, nB1]
        rw [if_neg (show ¬ (-1000 : Int32) = 42 by decide), if_neg (show ¬ (-1000 : Int32) = 47 by decide)]
      | cons y r =>
        obtain ⟨hy, hr, hlt⟩ := zdrop_c hd
        rw [hy] at hsg
        dsimp only at hsg
        rw [hd] at h
        have h' : (if y = 42 ∨ y = 47 then (zp f 4 d a r).bind fun q => zp f 3 d (q.1 ++ [0 - y]) q.2 else some (a, y :: r)) = some (a', t') := h
        have hb : f_X12_product_L5 N (f_X12_sumOf N m) 436 (f_X12_sumOf N m) K (k + 1) x S = if y = 42 ∨ y = 47 then zB2 (f_X12_atom N (f_X12_sumOf N m) (zpI S 436 12 (zi S 436 12 + 1)) 436) (fun r33 S34 => f_X12_product_L5 N (f_X12_sumOf N m) 436 (f_X12_sumOf N m) K k (zWk y x r33) S34) else K x S := by
          show f_X12_product_L5b N (f_X12_sumOf N m) 436 (f_X12_sumOf N m) K (f_X12_product_L5 N (f_X12_sumOf N m) 436 (f_X12_sumOf N m) K k) x S = _
          unfold f_X12_product_L5b
          simp only [nLet, hsg, nB1]
          by_cases y1 : y = 42
          · subst y1
            rw [if_pos rfl, if_pos (Or.inl rfl)]
            congr 1
          · rw [if_neg y1]
            by_cases y2 : y = 47
            · subst y2
              rw [if_pos rfl, if_pos (Or.inr rfl)]
              congr 1
              funext r33 S34
              rw [if_neg (show ¬ (47 : Int32) = 42 by decide)]
              unfold zWk
              rw [if_neg (show ¬ (47 : Int32) = 42 by decide), if_neg (show ¬ (47 : Int32) = 43 by decide), if_neg (show ¬ (47 : Int32) = 45 by decide), if_pos (show (47 : Int32) = 47 from rfl)]
              by_cases h0 : r33 = 0
              · rw [if_pos h0, if_pos h0]
              · rw [if_neg h0, if_neg h0, zChk_t h0]
            · rw [if_neg y2, if_neg (fun q => q.elim y1 y2)]
        by_cases hop : y = 42 ∨ y = 47
        · rw [if_pos hop] at h' hb
          obtain ⟨⟨a1, t1⟩, e1, e2⟩ := Option.bind_eq_some_iff.mp h'
          rw [hr] at e1
          obtain ⟨hT2, hf2⟩ := hT.step hlt
          obtain ⟨v1, p1, c1, S1, k1, k2, k3, k4, k5, k6, k7⟩ := (ih d (p + 1) a a1 t1).2.2.2.2 e1 _ m hT2 (hF.fr hf2) hm
          subst k1 k2
          obtain ⟨v2, p2, c2, S2, l1, l2, l3, l4, l5, l6, l7⟩ := (ih d p1 (a ++ c1 ++ [0 - y]) a' t').2.2.2.1 e2 S1 m K k (zWk y x v1) k5 ((hF.fr hf2).fr k6) hm (by omega)
          refine ⟨v2, p2, c1 ++ [0 - y] ++ c2, S2, by rw [l1]; simp only [List.append_assoc], l2, by omega, ?_, l5, (hf2.tr k6).tr l6, fun st => ?_⟩
          · rw [hb, k4, zB2_s]; exact l4
          · rw [zcR_app, zcR_app, show zcR fld c1 ([x] ++ st) = v1 :: x :: st from k7 (x :: st), zcR_1, zcS_op (by rcases hop with h | h <;> simp [h])]
            exact l7 st
        · rw [if_neg hop] at h' hb
          cases h'
          exact ⟨x, p, [], S, (List.append_nil a).symm, hd.symm, Nat.le_refl _, hb, hT, zF.rf, fun st => rfl⟩
    · intro h S m hT hF hm
      have hsg := m_sign hT
      cases hd : T.drop p with
      | nil =>
        rw [hd] at h
        cases h
      | cons y r =>
        obtain ⟨hy, hr, hlt⟩ := zdrop_c hd
        rw [hy] at hsg
        dsimp only at hsg
        rw [hd] at h
        obtain ⟨hT2, hf2⟩ := hT.step hlt
        have h' : (if y = 40 then (if d = 0 then none else (zp f 0 (d - 1) a r).bind fun q => zpA 41 q)
          else if y = 91 ∨ y = 123 then (if d = 0 then none else (zp f 0 (d - 1) a r).bind fun q => (zpA 44 q).bind fun q => (zp f 0 (d - 1) q.1 q.2).bind fun q => zpA (y + 2) (q.1 ++ [0 - y], q.2))
          else if zpF y = true then some (a ++ [0 - y], r)
          else if zpG y = true then some (a ++ [(zpN 2 (y - 48) r).1], (zpN 2 (y - 48) r).2) else none) = some (a', t') := h
        by_cases h40 : y = 40
        · subst h40
          rw [if_pos rfl] at h'
          by_cases hd0 : d = 0
          · rw [if_pos hd0] at h'; cases h'
          · rw [if_neg hd0] at h'
            obtain ⟨⟨a1, t1⟩, e1, e2⟩ := Option.bind_eq_some_iff.mp h'
            rw [hr] at e1
            obtain ⟨v1, p1, c1, S1, k1, k2, k3, k4, k5, k6, k7⟩ := (ih (d - 1) (p + 1) a a1 t1).1 e1 _ m hT2 (hF.fr hf2) (by omega)
            obtain ⟨g1, g2⟩ := zpA_s e2
            dsimp only at g1 g2
            rw [k2] at g2
            obtain ⟨g3, g4, g5⟩ := zdrop_c g2
            obtain ⟨hT3, hf3⟩ := k5.step g5
            refine ⟨v1, p1 + 1, c1, _, by rw [g1, k1], g4, by omega, ?_, hT3, (hf2.tr k6).tr hf3, k7⟩
            unfold f_X12_atom
            rw [hsg, zB1_s, zdig, if_neg (show ¬ zpG 40 = true by decide)]
            simp only [nLet]
            rw [if_pos trivial, if_pos trivial, k4, zB2_s]
        · rw [if_neg h40] at h'
          by_cases hbr : y = 91 ∨ y = 123
          · rw [if_pos hbr] at h'
            by_cases hd0 : d = 0
            · rw [if_pos hd0] at h'; cases h'
            · rw [if_neg hd0] at h'
              obtain ⟨⟨a1, t1⟩, e1, e2⟩ := Option.bind_eq_some_iff.mp h'
              obtain ⟨⟨a2, t2⟩, e3, e4⟩ := Option.bind_eq_some_iff.mp e2
              obtain ⟨⟨a3, t3⟩, e5, e6⟩ := Option.bind_eq_some_iff.mp e4
              rw [hr] at e1
              obtain ⟨v1, p1, c1, S1, k1, k2, k3, k4, k5, k6, k7⟩ := (ih (d - 1) (p + 1) a a1 t1).1 e1 _ m hT2 (hF.fr hf2) (by omega)
              obtain ⟨g1, g2⟩ := zpA_s e3
              dsimp only at g1 g2
              rw [k2] at g2
              obtain ⟨g3, g4, g5⟩ := zdrop_c g2
              obtain ⟨hT3, hf3⟩ := k5.step g5
              dsimp only at e5
              rw [g4] at e5
              obtain ⟨v2, p2, c2, S2, l1, l2, l3, l4, l5, l6, l7⟩ := (ih (d - 1) (p1 + 1) a2 a3 t3).1 e5 _ m hT3 (((hF.fr hf2).fr k6).fr hf3) (by omega)
              obtain ⟨i1, i2⟩ := zpA_s e6
              dsimp only at i1 i2
              rw [l2] at i2
              obtain ⟨i3, i4, i5⟩ := zdrop_c i2
              obtain ⟨hT4, hf4⟩ := l5.step i5
              refine ⟨zWk y v1 v2, p2 + 1, c1 ++ c2 ++ [0 - y], _, ?_, i4, by omega, ?_, hT4, (((hf2.tr k6).tr hf3).tr l6).tr hf4, fun st => ?_⟩
              · rw [i1, l1, g1, k1]
                simp only [List.append_assoc]
              · unfold f_X12_atom
                have hng : ¬ zpG y = true := by rcases hbr with rfl | rfl <;> decide
                rw [hsg, zB1_s, zdig, if_neg hng]
                simp only [nLet]
                rw [if_pos trivial, if_neg h40, k4, zB2_s, l4, zB2_s]
                rcases hbr with rfl | rfl
                · rw [if_pos rfl]
                  unfold zWk zmin
                  rw [if_neg (show ¬ (91 : Int32) = 42 by decide), if_neg (show ¬ (91 : Int32) = 43 by decide), if_neg (show ¬ (91 : Int32) = 45 by decide), if_neg (show ¬ (91 : Int32) = 47 by decide), if_pos (show (91 : Int32) = 91 from rfl)]
                  by_cases q : v2 ≤ v1
                  · rw [if_pos q, if_pos rfl, if_neg (show ¬ (0 : Int32) = 1 by decide)]
                    by_cases q2 : v2 < v1
                    · rw [if_pos q2]
                    · rw [if_neg q2, show v2 = v1 from Int32.le_antisymm q (Int32.not_lt.mp q2)]
                  · rw [if_neg q, if_pos rfl, if_pos rfl, if_neg (fun z => q (Int32.le_of_lt z)), if_pos trivial]
                · rw [if_neg (show ¬ (123 : Int32) = 91 by decide), if_pos rfl]
                  unfold zWk zmax
                  rw [if_neg (show ¬ (123 : Int32) = 42 by decide), if_neg (show ¬ (123 : Int32) = 43 by decide), if_neg (show ¬ (123 : Int32) = 45 by decide), if_neg (show ¬ (123 : Int32) = 47 by decide), if_neg (show ¬ (123 : Int32) = 91 by decide)]
                  by_cases q : v2 ≤ v1
                  · rw [if_pos q, if_neg (Int32.not_lt.mpr q)]
                    rfl
                  · rw [if_neg q, if_pos (Int32.not_le.mp q)]
                    rfl
              · have hc1 : zcR fld c1 st = v1 :: st := k7 st
                have hc2 : zcR fld c2 (v1 :: st) = v2 :: v1 :: st := l7 (v1 :: st)
                show zcR fld (c1 ++ c2 ++ [0 - y]) st = _
                rw [zcR_app, zcR_app, hc1, hc2, zcR_1, zcS_op (by rcases hbr with h | h <;> simp [h])]
          · rw [if_neg hbr] at h'
            by_cases hf : zpF y = true
            · rw [if_pos hf] at h'
              cases h'
              have key : (y = 115 ∨ y = 110 ∨ y = 104 ∨ y = 109 ∨ y = 97 ∨ y = 122 ∨ y = 112) := by
                unfold zpF at hf
                simpa [Bool.or_eq_true, decide_eq_true_eq, or_assoc] using hf
              obtain ⟨w1, w2, w3, w4, w5, w6, w7⟩ := hF.fr hf2
              refine ⟨fld y, p + 1, [0 - y], _, rfl, hr, by omega, ?_, hT2, hf2, fun st => zcS_fld hf⟩
              unfold f_X12_atom
              have hng : ¬ zpG y = true := by rcases key with rfl | rfl | rfl | rfl | rfl | rfl | rfl <;> decide
              rw [hsg, zB1_s, zdig, if_neg hng]
              simp only [nLet, w1, w2, w3, w4, w5, w6, w7]
              rcases key with rfl | rfl | rfl | rfl | rfl | rfl | rfl <;> rfl
            · rw [if_neg hf] at h'
              by_cases hg : zpG y = true
              · rw [if_pos hg] at h'
                cases h'
                obtain ⟨p1, S1, q1, q2, q3, q4, q5, q6⟩ := (m_readsNumber hT (n := N) (by omega)).1 y r hd hg
                obtain ⟨k, hk, rfl⟩ := zpG_k hg
                obtain ⟨w, hw, ew⟩ := zpN_b 2 k r (by omega) (by omega) (by omega)
                have e48 : nI (48 + k) - 48 = nI k := by rw [zq48, nI_sub (by omega), show 48 + k - 48 = k by omega]
                refine ⟨(zpN 2 (nI (48 + k) - 48) r).1, p1, [(zpN 2 (nI (48 + k) - 48) r).1], S1, rfl, q5.symm, by omega, ?_, q2, q3, fun st => ?_⟩
                · unfold f_X12_atom
                  rw [hsg, zB1_s, zdig, if_pos hg, zLet_d, if_neg (show ¬ (1 : Int32) = 0 by decide), q1, zB2_s, q4]
                · rw [zcR_1]
                  show zcS fld _ st = _
                  rw [e48, ew]
                  exact zcS_num (zU_n hw (by omega))
              · rw [if_neg hg] at h'; cases h'
