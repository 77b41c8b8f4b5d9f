/-! the start holds the invariant; every call keeps it; the whole -/
theorem zSv.eq {S S1 : zM} {d : Nat} (h : zSv S d) (hd : d < 8) (er : ∀ a k : Nat, a < 436 → zr S1 a k = zr S a k) (el : ∀ a : Nat, a < 436 → zln S1 a = zln S a) (ei : ∀ a k : Nat, a < 436 → zi S1 a k = zi S a k) : zSv S1 d := by
  have q1 : 420 + 2 * d < 436 := by clear h; omega
  have q2 : 421 + 2 * d < 436 := by clear h; omega
  exact ⟨⟨(er 404 d (by decide)).trans h.1.1, (er _ 0 q1).trans h.1.2.1, (el _ q2).trans h.1.2.2⟩, (er _ 1 q1).trans h.2.1, fun k => (ei _ k q1).trans (h.2.2 k)⟩
theorem zQ11.eq {S S1 : zM} (h : zQ11 S) (er : ∀ a k : Nat, a < 436 → zr S1 a k = zr S a k) (el : ∀ a : Nat, a < 436 → zln S1 a = zln S a) (ei : ∀ a k : Nat, a < 436 → zi S1 a k = zi S a k) : zQ11 S1 := by
  obtain ⟨⟨q1, q2, q3⟩, ⟨r0, r1, r2, r3, r4, r5, r6, r7, l3⟩, ⟨q7, q4, q5⟩, hs, h8⟩ := h
  have e1 : ∀ k : Nat, zr S1 1 k = zr S 1 k := fun k => er 1 k (by decide)
  have lt : ∀ b i m : Nat, i < m → b + m ≤ 436 → b + i < 436 := fun b i m h1 h2 => by clear r0 r1 r2 r3 r4 r5 r6 r7 l3 h8; omega
  exact ⟨⟨q1.eq (fun i k hi => er _ k (lt 2 i 134 hi (by decide))) (fun i hi => el _ (lt 2 i 134 hi (by decide))) (fun i k hi => ei _ k (lt 2 i 14 hi (by decide))), q2.eq (fun i k hi => er _ k (lt 136 i 134 hi (by decide))) (fun i hi => el _ (lt 136 i 134 hi (by decide))) (fun i k hi => ei _ k (lt 136 i 14 hi (by decide))), q3.eq (fun i k hi => er _ k (lt 270 i 134 hi (by decide))) (fun i hi => el _ (lt 270 i 134 hi (by decide))) (fun i k hi => ei _ k (lt 270 i 14 hi (by decide)))⟩, ⟨(e1 0).trans r0, (e1 1).trans r1, (e1 2).trans r2, (e1 3).trans r3, (e1 4).trans r4, (e1 5).trans r5, (e1 6).trans r6, (e1 7).trans r7, (el 404 (by decide)).trans l3⟩, ⟨q7.eq (fun i k hi => er _ k (lt 405 i 6 hi (by decide))) (fun i hi => el _ (lt 405 i 6 hi (by decide))) (fun i k hi => ei _ k (lt 405 i 6 hi (by decide))), q4.eq (fun k => er 411 k (by decide)) (fun i hi => el _ (lt 411 i 3 hi (by decide))), q5.eq (fun k => er 414 k (by decide)) (fun i hi => el _ (lt 414 i 5 hi (by decide)))⟩, fun d hd => (hs d hd).eq hd er el ei, (ei 1 8 (by decide)).trans h8⟩
theorem zQ11.lay {S : zM} (h : zQ11 S) : zLayS (zr S) (zln S) 2 ∧ zLayS (zr S) (zln S) 136 ∧ zLayS (zr S) (zln S) 270 ∧ zLayX (zr S) (zln S) := by
  obtain ⟨⟨q1, q2, q3⟩, q, ⟨q7, q4, q5⟩, hs, h8⟩ := h
  exact ⟨q1.1, q2.1, q3.1, q, ⟨q7.1, q7.2.1.1, q7.2.1.2.1, q7.2.1.2.2, q7.2.2.1.1, q7.2.2.1.2.1, q7.2.2.1.2.2⟩, ⟨q4.1.1, q4.1.2, q4.2.1, q4.2.2, q5.1.1, q5.1.2.1, q5.1.2.2.1, q5.1.2.2.2, q5.2.1, q5.2.2.1, q5.2.2.2.1, q5.2.2.2.2⟩, fun d hd => (hs d hd).1⟩
theorem zR0_0 {k : Nat} (h : k < 872 ∨ 1000 < k) : zR0 k = 0 := by
  unfold zR0
  rw [if_neg (by omega), if_neg (by omega), if_neg (by omega), if_neg (by omega), if_neg (by omega), if_neg (by omega), if_neg (by omega), if_neg (by omega), if_neg (by omega), if_neg (by omega)]
theorem zR0_2 : ∀ p : Nat, p < 6 → zR0 (872 + p) = 2 := by decide
theorem zR0_t : zTx zR0 880 6 = [115, 42, 104, 47, 49, 48] := by decide
theorem zp0 : zp 1000 0 6 [] [115, 42, 104, 47, 49, 48] = some (zCd0, []) := by rfl
theorem zInv.start {S : zM} (hs : zsz S = 453) (h1 : zQ11 S) (h2 : zQ12 S) (h3 : zln S 452 = 1) : zInv S := by
  obtain ⟨lS, lS2, lS3, lX⟩ := h1.lay
  have hL : zLay S := ⟨Nat.le_of_eq hs.symm, lS, lS2, lS3, lX, h2.1, ⟨h2.2.1.1, h2.2.1.2.1, h2.2.1.2.2.1, h2.2.1.2.2.2.1, h2.2.1.2.2.2.2.1, h2.2.1.2.2.2.2.2.1, h2.2.1.2.2.2.2.2.2.1, h2.2.1.2.2.2.2.2.2.2.1, h2.2.1.2.2.2.2.2.2.2.2.1, h2.2.1.2.2.2.2.2.2.2.2.2.1, h2.2.1.2.2.2.2.2.2.2.2.2.2.1, h2.2.1.2.2.2.2.2.2.2.2.2.2.2.1, h2.2.1.2.2.2.2.2.2.2.2.2.2.2.2.1, h2.2.1.2.2.2.2.2.2.2.2.2.2.2.2.2.1, h2.2.1.2.2.2.2.2.2.2.2.2.2.2.2.2.2, h3⟩⟩
  obtain ⟨⟨q9, -, -⟩, -, -, hsv, h18⟩ := h1
  obtain ⟨-, -, g0, g9, g8, g33⟩ := h2
  have g : zi S 437 = zR0 := funext g0
  have z0 : ∀ k : Nat, (k < 872 ∨ 1000 < k) → zR0 k = 0 := fun k h => zR0_0 h
  clear hs h3 lS lS2 lS3 lX
  obtain ⟨-, qa, qb, qc, ⟨qd, qe, qf⟩, q6⟩ := q9
  refine ⟨hL, ?_, ?_, ⟨?_, Or.inl h18⟩, fun z => absurd (h18.symm.trans z) (by decide), fun d hd => Or.inl ⟨g9 d, (hsv d hd).2.2 4, (hsv d hd).2.1⟩, g33⟩
  · rw [g]
    refine zRep.lay (fun i hi => ⟨?_, ?_⟩) (fun i hi => ?_) (fun i hi => ?_) ⟨?_, ?_, ?_⟩ ⟨fun p hp => ?_, ?_, ?_, 6, zCd0, by decide, ?_, ?_, by decide, ?_, q6.2.2.2.2⟩ (fun j hj hj2 => ?_) (fun v hv hv2 => ?_)
    · rw [z0 _ (Or.inl (by clear qd qe qf h18 g8 g33; omega))]; exact (qa i hi).1
    · rw [z0 _ (Or.inl (by clear qd qe qf h18 g8 g33; omega))]; exact (qa i hi).2
    · rw [z0 _ (Or.inl (by clear qd qe qf h18 g8 g33; omega))]; exact qb i hi
    · rw [z0 _ (Or.inl (by clear qd qe qf h18 g8 g33; omega))]; exact (qc i hi).trans (by decide)
    · rw [z0 1001 (Or.inr (by decide))]; exact qd
    · rw [z0 1002 (Or.inr (by decide))]; exact qe
    · rw [z0 1003 (Or.inr (by decide))]; exact qf
    · rw [zR0_2 p hp]; exact q6.2.2.1 p hp
    · exact q6.2.2.2.1.1.trans (by decide)
    · exact q6.2.2.2.1.2.1.trans (by decide)
    · decide
    · rw [zR0_t]; exact zp0
    · exact q6.2.2.2.1.2.2
    · rw [z0 1002 (Or.inr (by decide))] at hj
      exact absurd hj (nI_nlt (a := j) (b := 0) (Nat.zero_le _) (Nat.lt_trans hj2 (by decide)))
    · rw [z0 1003 (Or.inr (by decide))] at hv
      exact absurd hv (nI_nlt (a := v) (b := 0) (Nat.zero_le _) (Nat.lt_trans hv2 (by decide)))
  · rw [g]
    refine zBd_iff.mpr ⟨0, 0, 0, ⟨by decide, by decide, by decide, z0 1001 (Or.inr (by decide)), z0 1002 (Or.inr (by decide)), z0 1003 (Or.inr (by decide))⟩, fun i hi => absurd hi (Nat.not_lt_zero _), fun i hi => absurd hi (Nat.not_lt_zero _), fun i hi => ?_, ⟨fun i hi => ?_, fun i c c1 h1 h2 _ _ _ => ?_⟩, ⟨fun p hp => ?_, by decide, by decide⟩, fun i hi => absurd hi (Nat.not_lt_zero _)⟩
    · rw [z0 _ (Or.inl (by clear qd qe qf h18 g8 g33; omega))]; decide
    · rw [z0 _ (Or.inl (by clear qd qe qf h18 g8 g33; omega))]; decide
    · exact z0 _ (Or.inl (by clear qd qe qf h18 g8 g33; omega))
    · rw [zR0_2 p hp]; decide
  · exact h18.trans g8.symm
theorem zif {c : Prop} [Decidable c] {A B : zM → Prop} (h1 : c → ∃ S1 : zM, A S1 ∧ zInv S1) (h2 : ¬ c → ∃ S1 : zM, B S1 ∧ zInv S1) : ∃ S1 : zM, (if c then A S1 else B S1) ∧ zInv S1 := by
  by_cases h : c
  · obtain ⟨S1, a, b⟩ := h1 h
    exact ⟨S1, by rw [if_pos h]; exact a, b⟩
  · obtain ⟨S1, a, b⟩ := h2 h
    exact ⟨S1, by rw [if_neg h]; exact a, b⟩
theorem s_all {S : zM} (h : zInv S) (op v1 v2 v3 v4 v5 : Int32) : ∃ S1 : zM, zStep 1 436 452 op v1 v2 v3 v4 v5 S S1 ∧ zInv S1 := by
  unfold zStep
  refine zif (fun _ => s_diver h v1 v2 v3 v4 v5) (fun _ => ?_)
  refine zif (fun _ => s_judge h v1 v2 v3 v4 v5) (fun _ => ?_)
  refine zif (fun _ => s_year h v1 v2 v3 v4 v5) (fun _ => ?_)
  refine zif (fun _ => s_chair h v1 v2 v3 v4 v5) (fun _ => ?_)
  refine zif (fun _ => s_dive h v1 v2 v3 v4 v5) (fun _ => ?_)
  refine zif (fun _ => s_of h v1 v2 v3 v4 v5) (fun _ => ?_)
  refine zif (fun _ => s_seen h v1 v2 v3 v4 v5) (fun _ => ?_)
  refine zif (fun _ => s_would h v1 v2 v3 v4 v5) (fun _ => ?_)
  refine zif (fun _ => s_markAll h v1 v2 v3 v4 v5) (fun _ => ?_)
  refine zif (fun _ => s_marks h v1 v2 v3 v4 v5) (fun _ => ?_)
  refine zif (fun _ => s_mark h v1 v2 v3 v4 v5) (fun _ => ?_)
  refine zif (fun _ => s_rule h v1 v2 v3 v4 v5) (fun _ => ?_)
  refine zif (fun _ => s_counts h v1 v2 v3 v4 v5) (fun _ => ?_)
  refine zif (fun _ => s_total h v1 v2 v3 v4 v5) (fun _ => ?_)
  refine zif (fun _ => s_place h v1 v2 v3 v4 v5) (fun _ => ?_)
  refine zif (fun _ => s_won h v1 v2 v3 v4 v5) (fun _ => ?_)
  refine zif (fun _ => s_wonIf h v1 v2 v3 v4 v5) (fun _ => ?_)
  refine zif (fun _ => s_moved h v1 v2 v3 v4 v5) (fun _ => ?_)
  refine zif (fun _ => s_lean h v1 v2 v3 v4 v5) (fun _ => ?_)
  refine zif (fun _ => s_pairs h v1 v2 v3 v4 v5) (fun _ => ?_)
  refine zif (fun _ => s_pairOdds h v1 v2 v3 v4 v5) (fun _ => ?_)
  refine zif (fun _ => s_order h v1 v2 v3 v4 v5) (fun _ => ?_)
  refine zif (fun _ => s_orderOdds h v1 v2 v3 v4 v5) (fun _ => ?_)
  refine zif (fun _ => s_creep h v1 v2 v3 v4 v5) (fun _ => ?_)
  refine zif (fun _ => s_near h v1 v2 v3 v4 v5) (fun _ => ?_)
  refine zif (fun _ => s_nearest h v1 v2 v3 v4 v5) (fun _ => ?_)
  refine zif (fun _ => s_seeing h v1 v2 v3 v4 v5) (fun _ => ?_)
  refine zif (fun _ => s_worlds h v1 v2 v3 v4 v5) (fun _ => ?_)
  refine zif (fun _ => s_image h v1 v2 v3 v4 v5) (fun _ => ?_)
  refine zif (fun _ => s_restore h v1 v2 v3 v4 v5) (fun _ => ?_)
  refine zif (fun _ => s_count h v1 v2 v3 v4 v5) (fun _ => ?_)
  refine zif (fun _ => s_keep h v1 v2 v3 v4 v5) (fun _ => ?_)
  refine zif (fun _ => s_row h v1 v2 v3 v4 v5) (fun _ => ?_)
  refine zif (fun _ => s_put h v1 v2 v3 v4 v5) (fun _ => ?_)
  refine zif (fun _ => s_element h v1 v2 v3 v4 v5) (fun _ => ?_)
  refine zif (fun _ => s_copy h v1 v2 v3 v4 v5) (fun _ => ?_)
  refine zif (fun _ => s_weight h v1 v2 v3 v4 v5) (fun _ => ?_)
  refine zif (fun _ => s_toss h v1 v2 v3 v4 v5) (fun _ => ?_)
  exact ⟨S, rfl, h⟩
theorem run_all {L : Nat} {xs : Nat → Int32} : ∀ (n j : Nat) (S : zM), zInv S → zRun 1 436 452 L xs n j S := by
  intro n
  induction n with
  | zero => intro j S h; trivial
  | succ n ih =>
    intro j S h hj
    obtain ⟨S1, a, b⟩ := s_all h (xs j &&& 63) (xs (j + 1)) (xs (j + 2)) (xs (j + 3)) (xs (j + 4)) (xs (j + 5))
    exact ⟨S1, a, ih (j + 6) S1 b⟩
theorem zMain_all {L : Nat} (hL : L ≤ 3072) (xs : Nat → Int32) : zMain L xs := by
  obtain ⟨S1, a1, a2, a3⟩ := x11_init
  have e2 := znw_o (t := 12) (n := 0) (S := S1) a2
  obtain ⟨S2, b1, b2, b3, b4⟩ := x12_init (S := znw S1 12 0) e2.1 (fun k => (e2.2.1 k).1)
  have e3 := znw_o (t := 21) (n := 1) (S := S2) b2
  have o1 : zOld S1 (znw S1 12 0) := (zGw.nw (a0 := 436) (lo := 0)).old (Nat.le_of_eq a2)
  have o3 : zOld S2 (znw S2 21 1) := (zGw.nw (a0 := 452) (lo := 0)).old (Nat.le_of_eq b2)
  have l1 : ∀ a : Nat, a < 436 → a < zsz S1 := fun a h => by rw [a2]; exact h
  have l2 : ∀ a : Nat, a < 436 → a < zsz (znw S1 12 0) := fun a h => by rw [e2.1]; exact Nat.lt_succ_of_lt h
  have l3 : ∀ a : Nat, a < 436 → a < zsz S2 := fun a h => by rw [b2]; exact Nat.lt_trans h (by decide)
  have ne : ∀ a : Nat, a < 436 → ¬ a = 436 := fun a h => Nat.ne_of_lt h
  have q11 : zQ11 (znw S2 21 1) := a3.eq (fun a k h => (((o3 a (l3 a h)).2 k).1.trans (b3.r (l2 a h) (fun z => ne a h z.1))).trans ((o1 a (l1 a h)).2 k).1) (fun a h => ((o3 a (l3 a h)).1.trans (b3.n (l2 a h))).trans (o1 a (l1 a h)).1) (fun a k h => (((o3 a (l3 a h)).2 k).2.trans (b3.i (l2 a h) (fun z => ne a h z.1))).trans ((o1 a (l1 a h)).2 k).2)
  have lt : ∀ a : Nat, a < 452 → a < zsz S2 := fun a h => by rw [b2]; exact h
  have er : ∀ k : Nat, zr (znw S2 21 1) 436 k = zr S2 436 k := fun k => ((o3 436 (lt 436 (by decide))).2 k).1
  have en : ∀ a : Nat, a < 452 → zln (znw S2 21 1) a = zln S2 a := fun a h => (o3 a (lt a h)).1
  have ei : ∀ a k : Nat, a < 452 → zi (znw S2 21 1) a k = zi S2 a k := fun a k h => ((o3 a (lt a h)).2 k).2
  obtain ⟨r, l, c1, c2, c3, c4⟩ := b4
  have q12 : zQ12 (znw S2 21 1) := by
    refine ⟨?_, ?_, fun k => (ei 437 k (by decide)).trans (c1 k), fun k => (ei 439 k (by decide)).trans (c2 k), (ei 436 8 (by decide)).trans c3, (ei 436 33 (by decide)).trans c4⟩
    · obtain ⟨r0, r1, r2, r3, r4, r5, r6, r7, r8, r9, r10, r11, r12, r13, r14⟩ := r
      exact ⟨(er 0).trans r0, (er 1).trans r1, (er 2).trans r2, (er 3).trans r3, (er 4).trans r4, (er 5).trans r5, (er 6).trans r6, (er 7).trans r7, (er 10).trans r8, (er 39).trans r9, (er 40).trans r10, (er 41).trans r11, (er 44).trans r12, (er 45).trans r13, (er 49).trans r14⟩
    · obtain ⟨r0, r1, r2, r3, r4, r5, r6, r7, r8, r9, r10, r11, r12, r13, r14⟩ := l
      exact ⟨(en 437 (by decide)).trans r0, (en 438 (by decide)).trans r1, (en 439 (by decide)).trans r2, (en 440 (by decide)).trans r3, (en 441 (by decide)).trans r4, (en 442 (by decide)).trans r5, (en 443 (by decide)).trans r6, (en 444 (by decide)).trans r7, (en 445 (by decide)).trans r8, (en 446 (by decide)).trans r9, (en 447 (by decide)).trans r10, (en 448 (by decide)).trans r11, (en 449 (by decide)).trans r12, (en 450 (by decide)).trans r13, (en 451 (by decide)).trans r14⟩
  have inv : zInv (znw S2 21 1) := zInv.start e3.1 q11 q12 e3.2.2
  refine ⟨200, 200, 513, S1, S2, a1, ?_, Nat.lt_of_le_of_lt hL (by decide), ?_⟩
  · rw [a2]; exact b1
  · rw [a2, b2]
    exact run_all 513 0 _ inv
