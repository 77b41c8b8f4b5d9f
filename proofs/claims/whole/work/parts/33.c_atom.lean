/-! an atom, read alike -/
def zL10 : List Int32 := [40, 91, 97, 104, 109, 110, 112, 115, 122, 123]
theorem zFd_i {y : Int32} : f_X12_isField y = if zpF y = true then 1 else 0 := by
  unfold f_X12_isField zpF
  by_cases h1 : y = 115
  · rw [if_pos h1, if_pos (by simp [h1])]
  · rw [if_neg h1]
    by_cases h2 : y = 110
    · rw [if_pos h2, if_pos (by simp [h2])]
    · rw [if_neg h2]
      by_cases h3 : y = 104
      · rw [if_pos h3, if_pos (by simp [h3])]
      · rw [if_neg h3]
        by_cases h4 : y = 109
        · rw [if_pos h4, if_pos (by simp [h4])]
        · rw [if_neg h4]
          by_cases h5 : y = 97
          · rw [if_pos h5, if_pos (by simp [h5])]
          · rw [if_neg h5]
            by_cases h6 : y = 122
            · rw [if_pos h6, if_pos (by simp [h6])]
            · rw [if_neg h6]
              by_cases h7 : y = 112
              · rw [if_pos h7, if_pos (by simp [h7])]
              · rw [if_neg h7, if_neg (by simp [h1, h2, h3, h4, h5, h6, h7])]
def zSg (T : List Int32) (p : Nat) : Int32 := match T[p]? with
  | none => -1000
  | some x => x
theorem m_sg {S : zM} {row base p : Nat} {T : List Int32} (h : zTs S row base T p) : f_X12_sign S 436 = some (zSg T p) := m_sign h
theorem x_atomD {N dep p q : Nat} {T : List Int32} {S : zM} {rc : zM → Nat → Int32 → Option zM} (h : zYt S q T p) (hD : ∀ c : Int32, c ∈ zL10 → ¬ zYn T p = c) : f_X7_readAtom N rc S 405 (nI dep) = zB2 (f_X7_readNumber N S 405) (fun r117 S118 => zB1 (f_X6_append S118 406 r117) (fun S124 => some S124)) := by
  unfold f_X7_readAtom
  rw [x_next h, zB1_s, if_neg (hD 40 (by decide)), if_neg (hD 91 (by decide)), if_neg (hD 97 (by decide)), if_neg (hD 104 (by decide)), if_neg (hD 109 (by decide)), if_neg (hD 110 (by decide)), if_neg (hD 112 (by decide)), if_neg (hD 115 (by decide)), if_neg (hD 122 (by decide)), if_neg (hD 123 (by decide)), h.1.1, zChk_t (by decide)]
theorem m_atomD {N p row base : Nat} {T : List Int32} {R : zM} {rf : zM → Nat → Option (Int32 × zM)} (h : zTs R row base T p) (h1 : ¬ zSg T p = 91) (h2 : ¬ zSg T p = 123) (h3 : ¬ zSg T p = 40) (h4 : ¬ zpF (zSg T p) = true) : f_X12_readsAtom N rf R 436 = zB2 (f_X12_readsNumber N R 436) (fun r75 S76 => zChk (r75 = 0 ∨ r75 = 1) (some (r75, S76))) := by
  unfold f_X12_readsAtom
  rw [m_sg h, zB1_s, zLet_d, if_neg h1, if_neg h2, if_neg h3, zFd_i, if_neg h4, zLet_d, if_pos rfl]
theorem zj_no {N dep p : Nat} {T : List Int32} {rc : zM → Nat → Int32 → Option zM} {rf : zM → Nat → Option (Int32 × zM)} (hN : 122 < N) (hp : p ≤ T.length) (hD : ∀ c : Int32, c ∈ zL10 → ¬ zYn T p = c) (h1 : ¬ zSg T p = 91) (h2 : ¬ zSg T p = 123) (h3 : ¬ zSg T p = 40) (h4 : ¬ zpF (zSg T p) = true) (hno : ∀ x : Int32, T[p]? = some x → ¬ zpG x = true) : zJo T (fun S => f_X7_readAtom N rc S 405 (nI dep)) (fun R => f_X12_readsAtom N rf R 436) 4 dep p (3 * (T.length - p) + 1) := by
  refine ⟨false, p, [], Nat.le_refl _, hp, fun z => absurd z (by decide), fun q S a hS => ?_, fun row base R hR hd => ?_, fun z => absurd z (by decide)⟩
  · obtain ⟨A, a1, a2, a3⟩ := (x_numberG hS (n := N) (by omega)).2 hno
    obtain ⟨B, b1, b2, b3⟩ := x_appS (x := 0) a3
    refine ⟨B, ?_, a2.tr b2, fun z => absurd z (by decide), fun _ => b3⟩
    dsimp only
    rw [x_atomD hS.1 hD, a1, zB2_s, b1, zB1_s]
  · refine ⟨R, ?_, zF.rf, hR, fun z => absurd z (by decide)⟩
    have hr := (m_readsNumber hR (n := N) (by omega)).2 (by
      cases hx : T[p]? with
      | none => exact Or.inl (List.drop_eq_nil_of_le (List.getElem?_eq_none_iff.mp hx))
      | some x => exact Or.inr ⟨x, _, (zdrop T p).trans (by rw [hx]), hno x hx⟩)
    dsimp only
    rw [m_atomD hR h1 h2 h3 h4, hr, zB2_s, zChk_t (Or.inl rfl)]
    rfl
theorem m_numK : ∀ (n : Nat) (x : Int32) (S : zM) (v : Int32) (R1 : zM), f_X12_readsNumber_L42 436 (fun S24 => some ((1 : Int32), S24)) n x S = some (v, R1) → ∀ k : Nat, ¬ k = 12 → ¬ k = 16 → zi R1 436 k = zi S 436 k ∧ zl R1 = zl S := by
  intro n
  induction n with
  | zero => intro x S v R1 h; cases h
  | succ n ih =>
    intro x S v R1 h k k1 k2
    have h' : f_X12_readsNumber_L42b 436 (fun S24 => some ((1 : Int32), S24)) (f_X12_readsNumber_L42 436 (fun S24 => some ((1 : Int32), S24)) n) x S = some (v, R1) := h
    unfold f_X12_readsNumber_L42b at h'
    by_cases c1 : (3 : Int32) ≤ x
    · rw [if_pos c1] at h'
      cases h'
      exact ⟨rfl, rfl⟩
    · rw [if_neg c1] at h'
      by_cases c2 : zi S 436 16 ≤ 0
      · rw [if_pos c2] at h'
        cases h'
        exact ⟨rfl, rfl⟩
      · rw [if_neg c2] at h'
        cases hs : f_X12_sign S 436 with
        | none => rw [hs] at h'; cases h'
        | some r =>
          rw [hs, zB1_s, zLet_d] at h'
          by_cases c3 : f_X12_isIn (Int32.toInt64 r) (48 : Int64) (57 : Int64) = 0
          · rw [if_pos c3] at h'
            cases h'
            exact ⟨rfl, rfl⟩
          · rw [if_neg c3, zB1_s, zLet_d, zLet_d] at h'
            obtain ⟨j1, j2⟩ := ih _ _ _ _ h' k k1 k2
            exact ⟨by rw [j1, mi_ne _ _ (by omega), mi_ne _ _ (by omega)], j2⟩
theorem m_numF {n : Nat} {S : zM} {v : Int32} {R1 : zM} (h : f_X12_readsNumber n S 436 = some (v, R1)) : ∀ k : Nat, ¬ k = 12 → ¬ k = 16 → zi R1 436 k = zi S 436 k ∧ zl R1 = zl S := by
  intro k k1 k2
  unfold f_X12_readsNumber at h
  cases hs : f_X12_sign S 436 with
  | none => rw [hs] at h; cases h
  | some r =>
    rw [hs, zB1_s, zLet_d] at h
    by_cases c3 : f_X12_isIn (Int32.toInt64 r) (48 : Int64) (57 : Int64) = 0
    · rw [if_pos c3] at h
      cases h
      exact ⟨rfl, rfl⟩
    · rw [if_neg c3, zB1_s, zLet_d, zLet_d, zLet_d] at h
      obtain ⟨j1, j2⟩ := m_numK _ _ _ _ _ h k k1 k2
      exact ⟨by rw [j1, mi_ne _ _ (by omega), mi_ne _ _ (by omega)], j2⟩
theorem zj_num {N dep p : Nat} {T : List Int32} {rc : zM → Nat → Int32 → Option zM} {rf : zM → Nat → Option (Int32 × zM)} {y : Int32} (hN : 122 < N) (hT : T.length ≤ 120) (hy : T[p]? = some y) (hg : zpG y = true) : zJo T (fun S => f_X7_readAtom N rc S 405 (nI dep)) (fun R => f_X12_readsAtom N rf R 436) 4 dep p (3 * (T.length - p) + 1) := by
  have hlt : p < T.length := (List.getElem?_eq_some_iff.mp hy).1
  have hy2 : zYn T p = y := by unfold zYn; rw [hy]
  have hy3 : zSg T p = y := by unfold zSg; rw [hy]
  obtain ⟨k, hk, rfl⟩ := zpG_k hg
  have hne : ∀ c : Nat, c < 48 ∨ 57 < c → c < 200 → ¬ nI (48 + k) = nI c := fun c hc hc2 e => by have := nI_inj e (by omega) (by omega); omega
  have hD : ∀ c : Int32, c ∈ zL10 → ¬ zYn T p = c := by
    intro c hc
    rw [hy2]
    unfold zL10 at hc
    simp only [List.mem_cons, List.not_mem_nil, or_false] at hc
    rcases hc with rfl | rfl | rfl | rfl | rfl | rfl | rfl | rfl | rfl | rfl
    · exact hne 40 (by omega) (by omega)
    · exact hne 91 (by omega) (by omega)
    · exact hne 97 (by omega) (by omega)
    · exact hne 104 (by omega) (by omega)
    · exact hne 109 (by omega) (by omega)
    · exact hne 110 (by omega) (by omega)
    · exact hne 112 (by omega) (by omega)
    · exact hne 115 (by omega) (by omega)
    · exact hne 122 (by omega) (by omega)
    · exact hne 123 (by omega) (by omega)
  have hF : ¬ zpF (nI (48 + k)) = true := by
    unfold zpF
    have q1 := hne 115 (by omega) (by omega)
    have q2 := hne 110 (by omega) (by omega)
    have q3 := hne 104 (by omega) (by omega)
    have q4 := hne 109 (by omega) (by omega)
    have q5 := hne 97 (by omega) (by omega)
    have q6 := hne 122 (by omega) (by omega)
    have q7 := hne 112 (by omega) (by omega)
    have w1 : ¬ nI (48 + k) = 115 := q1
    have w2 : ¬ nI (48 + k) = 110 := q2
    have w3 : ¬ nI (48 + k) = 104 := q3
    have w4 : ¬ nI (48 + k) = 109 := q4
    have w5 : ¬ nI (48 + k) = 97 := q5
    have w6 : ¬ nI (48 + k) = 122 := q6
    have w7 : ¬ nI (48 + k) = 112 := q7
    simp only [w1, w2, w3, w4, w5, w6, w7, decide_false, Bool.or_false, Bool.false_eq_true, not_false_eq_true]
  obtain ⟨w, p1, u1, u2, u3⟩ := zpN_e (T := T) 2 (nI (48 + k) - 48) (p + 1) hlt
  have uT := u3 T.length u2 (Nat.le_refl _)
  rw [List.take_length] at uT
  refine ⟨true, p1, [w], by omega, u2, fun _ => by omega, fun q S a hS => ?_, fun row base R hR hd => ?_, fun _ => ⟨?_, fun e f a he1 he2 hf => ?_⟩⟩
  · obtain ⟨p2, A, a1, a2, a3, a4, a5⟩ := (x_numberG hS (n := N) (by omega)).1 _ hy hg
    rw [uT] at a1 a4
    have e2 : p2 = p1 := zdrop_j a4 a3.1.2.2.2.2.1 u2
    subst e2
    have hla := hS.2.2.2
    obtain ⟨B, b1, b2, b3⟩ := x_appG (x := w) a3 (by omega) (by omega)
    refine ⟨B, ?_, a2.tr b2, fun _ => b3, fun z => absurd z (by decide)⟩
    dsimp only
    rw [x_atomD hS.1 hD, a1, zB2_s, b1, zB1_s]
  · obtain ⟨p2, A, a1, a2, a3, a4, a5, a6⟩ := (m_readsNumber hR (n := N) (by omega)).1 _ _ ((zdrop T p).trans (by rw [hy])) hg
    rw [uT] at a5
    have e2 : p2 = p1 := zdrop_j a5 a2.2.2.2.2.2.2.1 u2
    subst e2
    refine ⟨A, ?_, zTw2_n a3 (m_numF a1), a2, fun _ => by rw [(m_numF a1 15 (by decide) (by decide)).1]; exact hd⟩
    dsimp only
    rw [m_atomD hR (by rw [hy3]; exact hne 91 (by omega) (by omega)) (by rw [hy3]; exact hne 123 (by omega) (by omega)) (by rw [hy3]; exact hne 40 (by omega) (by omega)) (by rw [hy3]; exact hF), a1, zB2_s, zChk_t (Or.inr rfl)]
    rfl
  · show 1 + p ≤ p1
    omega
  · obtain ⟨f, rfl⟩ : ∃ i, f = i + 1 := ⟨f - 1, by omega⟩
    rw [ztk (by omega) hy]
    have e1 : ¬ nI (48 + k) = 40 := hne 40 (by omega) (by omega)
    have e2 : ¬ (nI (48 + k) = 91 ∨ nI (48 + k) = 123) := by
      rintro (z | z)
      · exact hne 91 (by omega) (by omega) z
      · exact hne 123 (by omega) (by omega) z
    show (if nI (48 + k) = 40 then (if 6 - dep = 0 then none else (zp f 0 (6 - dep - 1) a ((T.take e).drop (p + 1))).bind fun q => zpA 41 q)
      else if nI (48 + k) = 91 ∨ nI (48 + k) = 123 then (if 6 - dep = 0 then none else (zp f 0 (6 - dep - 1) a ((T.take e).drop (p + 1))).bind fun q => (zpA 44 q).bind fun q => (zp f 0 (6 - dep - 1) q.1 q.2).bind fun q => zpA (nI (48 + k) + 2) (q.1 ++ [0 - nI (48 + k)], q.2))
      else if zpF (nI (48 + k)) = true then some (a ++ [0 - nI (48 + k)], (T.take e).drop (p + 1))
      else if zpG (nI (48 + k)) = true then some (a ++ [(zpN 2 (nI (48 + k) - 48) ((T.take e).drop (p + 1))).1], (zpN 2 (nI (48 + k) - 48) ((T.take e).drop (p + 1))).2) else none) = _
    rw [if_neg e1, if_neg e2, if_neg hF, if_pos hg, u3 e he1 he2]
theorem zYp4 {f d : Nat} {a : List Int32} {x : Int32} {r : List Int32} : zp (f + 1) 4 d a (x :: r) = if x = 40 then (if d = 0 then none else (zp f 0 (d - 1) a r).bind fun q => zpA 41 q)
      else if x = 91 ∨ x = 123 then (if d = 0 then none else (zp f 0 (d - 1) a r).bind fun q => (zpA 44 q).bind fun q => (zp f 0 (d - 1) q.1 q.2).bind fun q => zpA (x + 2) (q.1 ++ [0 - x], q.2))
      else if zpF x = true then some (a ++ [0 - x], r)
      else if zpG x = true then some (a ++ [(zpN 2 (x - 48) r).1], (zpN 2 (x - 48) r).2) else none := rfl
theorem zj_fld {N dep p : Nat} {T : List Int32} {rc : zM → Nat → Int32 → Option zM} {rf : zM → Nat → Option (Int32 × zM)} {y : Int32} (hN : 122 < N) (hT : T.length ≤ 120) (hy : T[p]? = some y) (hf : zpF y = true) : zJo T (fun S => f_X7_readAtom N rc S 405 (nI dep)) (fun R => f_X12_readsAtom N rf R 436) 4 dep p (3 * (T.length - p) + 1) := by
  have hlt : p < T.length := (List.getElem?_eq_some_iff.mp hy).1
  have hy2 : zYn T p = y := by unfold zYn; rw [hy]
  have hy3 : zSg T p = y := by unfold zSg; rw [hy]
  have hneg : -y = 0 - y := (Int32.zero_sub y).symm
  have key : (y = 115 ∨ y = 110 ∨ y = 104 ∨ y = 109 ∨ y = 97 ∨ y = 122 ∨ y = 112) := by
    unfold zpF at hf
    simpa [Bool.or_eq_true, decide_eq_true_eq, or_assoc] using hf
  have e40 : ¬ y = 40 := by rcases key with rfl | rfl | rfl | rfl | rfl | rfl | rfl <;> decide
  have e91 : ¬ y = 91 := by rcases key with rfl | rfl | rfl | rfl | rfl | rfl | rfl <;> decide
  have e123 : ¬ y = 123 := by rcases key with rfl | rfl | rfl | rfl | rfl | rfl | rfl <;> decide
  refine ⟨true, p + 1, [0 - y], by omega, hlt, fun _ => by omega, fun q S a hS => ?_, fun row base R hR hd => ?_, fun _ => ⟨?_, fun e f a he1 he2 hff => ?_⟩⟩
  · obtain ⟨s1, s2⟩ := hS.step hlt
    have hla := hS.2.2.2
    obtain ⟨B, b1, b2, b3⟩ := x_appG (x := -y) s1 (by omega) (by omega)
    rw [hneg] at b3
    refine ⟨B, ?_, s2.tr b2, fun _ => b3, fun z => absurd z (by decide)⟩
    dsimp only
    have hr0 : zr (zpI S 405 3 (zi S 405 3 + 1)) 405 0 = 406 := s1.1.1.1
    have fin : zLet (zpI S 405 3 ((zi S 405 3) + (1 : Int32))) (fun S18 => zChk (¬ (zr S18 405 0) = 0) (zB1 (f_X6_append S18 (zr S18 405 0) (-y)) (fun S26 => some S26))) = some B := by
      rw [zLet_d, hr0, zChk_t (by decide), b1, zB1_s]
    unfold f_X7_readAtom
    rw [x_next hS.1, hy2, zB1_s]
    rcases key with rfl | rfl | rfl | rfl | rfl | rfl | rfl <;> exact fin
  · obtain ⟨s1, s2, s3⟩ := hR.st hlt hd
    refine ⟨_, ?_, s2, s1, fun _ => s3⟩
    dsimp only
    unfold f_X12_readsAtom
    rw [m_sg hR, hy3, zB1_s, zLet_d, if_neg e91, if_neg e123, if_neg e40, zFd_i, if_pos hf, zLet_d, if_neg (show ¬ (1 : Int32) = 0 by decide), zLet_d]
    rfl
  · show 1 + p ≤ p + 1
    omega
  · obtain ⟨f, rfl⟩ : ∃ i, f = i + 1 := ⟨f - 1, by omega⟩
    rw [ztk (by omega) hy, zYp4, if_neg e40, if_neg (fun z => z.elim e91 e123), if_pos hf]
