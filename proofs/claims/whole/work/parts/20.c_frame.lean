/-! scratch places: what the invariant doesn't read -/
theorem zRepD.fr {i i1 : Nat → Nat → Int32} {q t : Nat} {g : Nat → Int32} (h : zRepD i q g t) (hi : ∀ a k : Nat, q ≤ a → a ≤ q + 2 → i1 a k = i a k) : zRepD i1 q g t := by
  obtain ⟨h1, h2, h3, h4, h5, h6⟩ := h
  refine ⟨by rw [hi _ _ (by omega) (by omega)]; exact h1, by rw [hi _ _ (by omega) (by omega)]; exact h2, by rw [hi _ _ (by omega) (by omega)]; exact h3, by rw [hi _ _ (by omega) (by omega)]; exact h4, by rw [hi _ _ (by omega) (by omega)]; exact h5, fun c hc => ?_⟩
  rw [hi _ _ (by omega) (by omega), hi _ _ (by omega) (by omega)]
  exact h6 c hc
theorem zRepJ.fr {S S1 : zM} {q j : Nat} {g : Nat → Int32} (h : zRepJ S q j g) (hs : zsz S ≤ zsz S1) (hi : ∀ k : Nat, zi S1 q k = zi S q k) : zRepJ S1 q j g := by
  obtain ⟨h1, h2, h3, h4, h5, h6, h7⟩ := h
  exact ⟨h1, by omega, by rw [hi]; exact h3, by rw [hi]; exact h4, by rw [hi]; exact h5, by rw [hi]; exact h6, by rw [hi]; exact h7⟩
theorem zRepR.fr {S S1 : zM} {q : Nat} {g : Nat → Int32} (h : zRepR S q g) (hi : ∀ a k : Nat, q ≤ a → a ≤ q + 2 → zi S1 a k = zi S a k) : zRepR S1 q g := by
  obtain ⟨h1, h2, h3, n, cd, h4, h5, h6, h7, h8, h9⟩ := h
  refine ⟨fun p hp => by rw [hi _ _ (by omega) (by omega)]; exact h1 p hp, by rw [hi _ _ (by omega) (by omega)]; exact h2, by rw [hi _ _ (by omega) (by omega)]; exact h3, n, cd, h4, h5, h6, h7, by rw [hi _ _ (by omega) (by omega)]; exact h8, fun k hk => ?_⟩
  rw [hi _ _ (by omega) (by omega)]
  exact h9 k hk
theorem zRep.fr {S S1 : zM} {b : Nat} {g : Nat → Int32} (h : zRep S b g) (hs : zsz S ≤ zsz S1) (hr : ∀ j : Nat, zr S1 (b + 9) j = zr S (b + 9) j) (hi : ∀ a k : Nat, (b ≤ a ∧ a ≤ b + 7) ∨ (b + 14 ≤ a ∧ a ≤ b + 133) ∨ (453 ≤ a ∧ a < zsz S) → zi S1 a k = zi S a k) : zRep S1 b g := by
  obtain ⟨h1, h2, h3, ⟨h4, h5, h6⟩, h7, h8, h9⟩ := h
  refine ⟨fun i hk => ?_, fun i hk => ?_, fun i hk => ?_, ⟨?_, ?_, ?_⟩, h7.fr (fun a k ha hb => hi a k (Or.inl ⟨by omega, by omega⟩)), fun j hj hj2 => ?_, fun v hv hv2 => ?_⟩
  · rw [hi _ _ (by omega), hi _ _ (by omega)]; exact h1 i hk
  · rw [hi _ _ (by omega)]; exact h2 i hk
  · rw [hi _ _ (by omega)]; exact h3 i hk
  · rw [hi _ _ (by omega)]; exact h4
  · rw [hi _ _ (by omega)]; exact h5
  · rw [hi _ _ (by omega)]; exact h6
  · rw [hr]
    have hj3 := h8 j hj hj2
    exact hj3.fr hs (fun k => hi _ _ (Or.inr (Or.inr ⟨hj3.1, hj3.2.1⟩)))
  · exact (h9 v hv hv2).fr (fun a k ha hb => hi a k (by omega))
theorem heft_c {S S1 : zM} {q : Nat} (h : ∀ k : Nat, zi S1 q k = zi S q k) : f_X2_heft S1 q = f_X2_heft S q := by
  unfold f_X2_heft
  simp only [h]
theorem fail_c {S S1 : zM} {q : Nat} (h : ∀ k : Nat, zi S1 q k = zi S q k) : f_X2_failureNumber S1 q = f_X2_failureNumber S q := by
  unfold f_X2_failureNumber
  simp only [h]
theorem thr_c {S S1 : zM} {q : Nat} (h : ∀ k : Nat, zi S1 q k = zi S q k) : zthr S1 q = zthr S q := by
  unfold zthr
  simp only [h]
theorem zRepK.fr {S S1 : zM} {d : Nat} (h : zRepK S d) (hs : zsz S ≤ zsz S1) (hr : zr S1 (420 + 2 * d) 1 = zr S (420 + 2 * d) 1) (hi : ∀ a k : Nat, (a = 420 + 2 * d ∨ a = 421 + 2 * d) ∨ (439 ≤ a ∧ a ≤ 444) ∨ (453 ≤ a ∧ a < zsz S) → zi S1 a k = zi S a k) : zRepK S1 d := by
  unfold zRepK at h ⊢
  have e1 := fun k => hi (420 + 2 * d) k (Or.inl (Or.inl rfl))
  have e2 := fun k => hi (421 + 2 * d) k (Or.inl (Or.inr rfl))
  have e3 := fun k => hi 439 k (Or.inr (Or.inl (by omega)))
  have e4 := fun k => hi 440 k (Or.inr (Or.inl (by omega)))
  have e5 := fun k => hi 441 k (Or.inr (Or.inl (by omega)))
  have e6 := fun k => hi 442 k (Or.inr (Or.inl (by omega)))
  have e7 := fun k => hi 443 k (Or.inr (Or.inl (by omega)))
  have e8 := fun k => hi 444 k (Or.inr (Or.inl (by omega)))
  rw [hr]
  simp only [e1, e2, e3, e4, e5, e6, e7, e8]
  rcases h with h | ⟨h1, h2, h3, h4, h5, h6⟩ | h
  · exact Or.inl h
  · have e9 := fun k => hi (zr S (420 + 2 * d) 1) k (Or.inr (Or.inr ⟨h3, h4⟩))
    refine Or.inr (Or.inl ⟨h1, h2, h3, by omega, ?_, ?_⟩)
    · rw [heft_c e9]; exact h5
    · rw [thr_c e9, fail_c e9]; exact h6
  · exact Or.inr (Or.inr h)
/-- scratch: the stack, totals and panel of the State now; all of the State in mind; the reader, the dealings, the tally; the reference's own notes -/
def zScr (a k : Nat) : Prop := a = 10 ∨ a = 13 ∨ a = 14 ∨ a = 15 ∨ (270 ≤ a ∧ a ≤ 403) ∨ (405 ≤ a ∧ a ≤ 419) ∨ (a = 436 ∧ k ≠ 8 ∧ k ≠ 33) ∨ (445 ≤ a ∧ a ≤ 452)
theorem zScr_n {a k : Nat} (h : a ≠ 10 ∧ a ≠ 13 ∧ a ≠ 14 ∧ a ≠ 15 ∧ (a < 270 ∨ 403 < a) ∧ (a < 405 ∨ 419 < a) ∧ a ≠ 436 ∧ (a < 445 ∨ 452 < a)) : ¬ zScr a k := by
  unfold zScr
  omega
theorem zInv.fr {S S1 : zM} (h : zInv S) (f : zF zScr S S1) : zInv S1 := by
  obtain ⟨h1, h2, h3, h4, h5, h6, h7⟩ := h
  have e : ∀ a : Nat, a ≠ 10 ∧ a ≠ 13 ∧ a ≠ 14 ∧ a ≠ 15 ∧ (a < 270 ∨ 403 < a) ∧ (a < 405 ∨ 419 < a) ∧ a ≠ 436 ∧ (a < 445 ∨ 452 < a) → zi S1 a = zi S a := fun a ha => funext fun k => f.i (zScr_n ha)
  have e8 : zi S1 436 8 = zi S 436 8 := f.i (by unfold zScr; omega)
  have e33 : zi S1 436 33 = zi S 436 33 := f.i (by unfold zScr; omega)
  have e437 := e 437 (by omega)
  have e438 := e 438 (by omega)
  have e1 := e 1 (by omega)
  have hs : zsz S ≤ zsz S1 := by rw [f.s]; exact Nat.le_refl _
  refine ⟨h1.fr f, ?_, by rw [e437]; exact h3, by rw [e1, e8]; exact h4, ?_, fun d hd => ?_, by rw [e33]; exact h7⟩
  · rw [e437]
    exact h2.fr hs (fun j => by rw [f.r]) (fun a k ha => by rw [e a (by omega)])
  · rw [e1, e438]
    intro hq
    exact ⟨(h5 hq).1.fr hs (fun j => by rw [f.r]) (fun a k ha => by rw [e a (by omega)]), (h5 hq).2⟩
  · exact (h6 d hd).fr hs (by rw [f.r]) (fun a k ha => by rw [e a (by omega)])
/-- a step that changes nothing but scratch -/
theorem zInv.keep {S S1 : zM} (h : zInv S) (f : zF zScr S S1) : zInv S1 := h.fr f
