/-! all of a sum, read alike -/
def zJa (N : Nat) (T : List Int32) (dep p : Nat) : Prop :=
  zJo T (fun S => f_X7_readSum N (8 - dep) S 405 (nI dep)) (fun R => f_X12_readsSum N (8 - dep) R 436) 0 dep p (3 * (T.length - p) + 3) ∧
  zJo T (fun S => f_X7_readProduct N (f_X7_readSum N (7 - dep)) S 405 (nI dep)) (fun R => f_X12_readsProduct N (f_X12_readsSum N (7 - dep)) R 436) 2 dep p (3 * (T.length - p) + 2) ∧
  zJo T (fun S => f_X7_readAtom N (f_X7_readSum N (7 - dep)) S 405 (nI dep)) (fun R => f_X12_readsAtom N (f_X12_readsSum N (7 - dep)) R 436) 4 dep p (3 * (T.length - p) + 1) ∧
  zJr T (fun k j S => f_X7_readProduct_L7 N (f_X7_readSum N (7 - dep)) 405 (nI dep) (f_X7_readSum N (7 - dep)) (fun S7 => some S7) k (nI j) S) (fun k => zRst 42 47 (f_X12_readsProduct_L0 N (f_X12_readsSum N (7 - dep)) 436 (f_X12_readsSum N (7 - dep)) k)) 3 dep p (3 * (T.length - p) + 1) ∧
  zJr T (fun k j S => f_X7_readSum_L7 N (f_X7_readSum N (7 - dep)) 405 (nI dep) (f_X7_readSum N (7 - dep)) (fun S7 => some S7) k (nI j) S) (fun k => zRst 43 45 (f_X12_readsSum_L0 N (f_X12_readsSum N (7 - dep)) 436 (f_X12_readsSum N (7 - dep)) k)) 1 dep p (3 * (T.length - p) + 1)
theorem zj_all {N : Nat} {T : List Int32} (hN : 122 < N) (hT : T.length ≤ 120) : ∀ n p : Nat, T.length - p = n → p ≤ T.length → ∀ dep : Nat, dep ≤ 6 → zJa N T dep p := by
  intro n
  induction n using Nat.strongRecOn with
  | ind n ih =>
    intro p hn hp dep hdep
    have IH : ∀ p1 : Nat, p < p1 → p1 ≤ T.length → ∀ d : Nat, d ≤ 6 → zJa N T d p1 := fun p1 h1 h2 d hd => ih (T.length - p1) (by omega) p1 rfl h2 d hd
    have h0 : dep < 6 → ∀ p1 : Nat, p < p1 → p1 ≤ T.length → zJo T (fun S => f_X7_readSum N (7 - dep) S 405 (nI (dep + 1))) (fun R => f_X12_readsSum N (7 - dep) R 436) 0 (dep + 1) p1 (3 * (T.length - p1) + 3) := by
      intro hd p1 h1 h2
      have := (IH p1 h1 h2 (dep + 1) (by omega)).1
      rw [show 8 - (dep + 1) = 7 - dep by omega] at this
      exact this
    have P4 : zJo T (fun S => f_X7_readAtom N (f_X7_readSum N (7 - dep)) S 405 (nI dep)) (fun R => f_X12_readsAtom N (f_X12_readsSum N (7 - dep)) R 436) 4 dep p (3 * (T.length - p) + 1) := by
      cases hx : T[p]? with
      | none =>
        have e1 : zYn T p = 1000 := by unfold zYn; rw [hx]
        have e2 : zSg T p = -1000 := by unfold zSg; rw [hx]
        refine zj_no hN hp (fun c hc => ?_) (by rw [e2]; decide) (by rw [e2]; decide) (by rw [e2]; decide) (by rw [e2]; decide) (fun x h => by rw [hx] at h; cases h)
        rw [e1]
        revert c
        decide
      | some y =>
        by_cases hb : y = 40 ∨ y = 91 ∨ y = 123
        · by_cases hd : dep < 6
          · rcases hb with rfl | hb
            · exact zj_par hT hx hd (h0 hd)
            · exact zj_brk hT hx hb hd (h0 hd)
          · have : dep = 6 := by omega
            subst this
            exact zj_deep hx hb
        · by_cases hf : zpF y = true
          · exact zj_fld hN hT hx hf
          · by_cases hg : zpG y = true
            · exact zj_num hN hT hx hg
            · have e1 : zYn T p = y := by unfold zYn; rw [hx]
              have e2 : zSg T p = y := by unfold zSg; rw [hx]
              refine zj_no hN hp (fun c hc => ?_) (by rw [e2]; exact fun z => hb (Or.inr (Or.inl z))) (by rw [e2]; exact fun z => hb (Or.inr (Or.inr z))) (by rw [e2]; exact fun z => hb (Or.inl z)) (by rw [e2]; exact hf) (fun x h => by rw [hx] at h; cases h; exact hg)
              rw [e1]
              intro z
              rw [← z] at hc
              unfold zL10 at hc
              simp only [List.mem_cons, List.not_mem_nil, or_false] at hc
              unfold zpF at hf
              simp only [Bool.or_eq_true, decide_eq_true_eq] at hf
              rcases hc with h | h | h | h | h | h | h | h | h | h
              · exact hb (Or.inl h)
              · exact hb (Or.inr (Or.inl h))
              · exact hf (by simp [h])
              · exact hf (by simp [h])
              · exact hf (by simp [h])
              · exact hf (by simp [h])
              · exact hf (by simp [h])
              · exact hf (by simp [h])
              · exact hf (by simp [h])
              · exact hb (Or.inr (Or.inr h))
    have P3 := zj_restP hT hp (fun p1 h1 h2 => (IH p1 h1 h2 dep hdep).2.2.1) (fun p1 h1 h2 => (IH p1 h1 h2 dep hdep).2.2.2.1)
    have P1 := zj_restS hT hp (fun p1 h1 h2 => (IH p1 h1 h2 dep hdep).2.1) (fun p1 h1 h2 => (IH p1 h1 h2 dep hdep).2.2.2.2)
    have P2 := zj_outP hN hT P4 (fun p1 h1 h2 => (IH p1 h1 h2 dep hdep).2.2.2.1)
    have P0 := zj_outS hN hT P2 (fun p1 h1 h2 => (IH p1 h1 h2 dep hdep).2.2.2.2)
    refine ⟨?_, P2, P4, P3, P1⟩
    rw [show 8 - dep = (7 - dep) + 1 by omega]
    exact P0
