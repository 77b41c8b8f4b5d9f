/-! the start: the reference -/
def zR0 (k : Nat) : Int32 := if k = 1000 then 6 else if k = 885 then 48 else if k = 884 then 49 else if k = 883 then 47 else if k = 882 then 104 else if k = 881 then 42 else if k = 880 then 115 else if k = 879 then 1 else if k = 878 then 1 else if 872 ≤ k ∧ k < 878 then 2 else 0
def zR436 (S : zM) : Prop := (zr S 436 0 = 437 ∧ zr S 436 1 = 438 ∧ zr S 436 2 = 439 ∧ zr S 436 3 = 440 ∧ zr S 436 4 = 441 ∧ zr S 436 5 = 442 ∧ zr S 436 6 = 443 ∧ zr S 436 7 = 444 ∧ zr S 436 10 = 445 ∧ zr S 436 39 = 446 ∧ zr S 436 40 = 447 ∧ zr S 436 41 = 448 ∧ zr S 436 44 = 449 ∧ zr S 436 45 = 450 ∧ zr S 436 49 = 451)
def zL436 (S : zM) : Prop := (zln S 437 = 1004 ∧ zln S 438 = 1004 ∧ zln S 439 = 8 ∧ zln S 440 = 8 ∧ zln S 441 = 8 ∧ zln S 442 = 960 ∧ zln S 443 = 8 ∧ zln S 444 = 8 ∧ zln S 445 = 7 ∧ zln S 446 = 72 ∧ zln S 447 = 12 ∧ zln S 448 = 144 ∧ zln S 449 = 40 ∧ zln S 450 = 40 ∧ zln S 451 = 1004)
def zQ12 (S : zM) : Prop := zR436 S ∧ zL436 S ∧ (∀ k : Nat, zi S 437 k = zR0 k) ∧ (∀ k : Nat, zi S 439 k = 0) ∧ zi S 436 8 = 0 ∧ zi S 436 33 = 0
def zP12 (S : zM) (o : Option zM) : Prop := ∃ S1 : zM, o = some S1 ∧ zsz S1 = 452 ∧ zGw 436 0 S S1 ∧ zQ12 S1
theorem zst_k {P : Option zM → Prop} {S : zM} {v : Int32} {C : zM → Option zM} (c : Nat) (r0 : zr S 436 0 = 437) (l0 : zln S 437 = 1004) (hc : c < 1004) (h : ∀ X : zM, zF (fun a _ => a = 437) S X → (∀ k : Nat, zi X 437 k = if k = c then v else zi S 437 k) → P (C X)) : P (zChk (¬ (zr S 436 0) = 0) (zChk (¬ (nI c < 0 ∨ zln S (zr S 436 0) ≤ (nI c).toNatClampNeg)) (zLet (zpI S (zr S 436 0) (Int32.toNatClampNeg (nI c)) v) C))) := by
  rw [r0, zChk_t (by decide), l0, zChk_t (zix hc (Nat.lt_trans hc (by decide))), nI_clamp (Nat.lt_trans hc (by decide)), zLet_d]
  refine h _ (zF_pI rfl) (fun k => ?_)
  by_cases e : k = c
  · rw [if_pos e, e, mi_eq]
  · rw [if_neg e, mi_ne _ _ (fun z => e z.2)]
theorem m12_loop {S0 : zM} {K : zM → Option zM} (r0 : zr S0 436 0 = 437) (l0 : zln S0 437 = 1004) (h0 : ∀ k : Nat, zi S0 437 k = 0) {n : Nat} (hn : 42 < n) : ∃ S1 : zM, f_X12_init_L149 436 K n 0 S0 = K S1 ∧ zF (fun a _ => a = 437) S0 S1 ∧ ∀ k : Nat, zi S1 437 k = if 872 ≤ k ∧ k < 878 then 2 else 0 := by
  refine zloopR (fun f (s : Int32 × zM) => f_X12_init_L149 436 K f s.1 s.2) (fun c s => s.1 = nI c ∧ zF (fun a _ => a = 437) S0 s.2 ∧ ∀ k : Nat, zi s.2 437 k = if 872 ≤ k ∧ k < 872 + c then 2 else 0) 6 (fun o => ∃ S1 : zM, o = K S1 ∧ zF (fun a _ => a = 437) S0 S1 ∧ ∀ k : Nat, zi S1 437 k = if 872 ≤ k ∧ k < 878 then 2 else 0) ?_ ?_ n (0, S0) (Nat.lt_trans (by decide) hn) ⟨rfl, zF.rf, fun k => by rw [if_neg (by omega)]; exact h0 k⟩
  · rintro c f ⟨y, S⟩ hc ⟨i1, i2, i3⟩
    dsimp only at i1 i2 i3
    subst i1
    refine ⟨(nI (c + 1), zpI S 437 (872 + c) 2), ⟨rfl, zF.pI i2 rfl, fun k => ?_⟩, ?_⟩
    · dsimp only
      by_cases e : k = 872 + c
      · rw [e, mi_eq, if_pos (by omega)]
      · rw [mi_ne _ _ (fun z => e z.2), i3 k]
        by_cases q : 872 ≤ k ∧ k < 872 + c
        · rw [if_pos q, if_pos (by omega)]
        · rw [if_neg q, if_neg (by omega)]
    · show f_X12_init_L149b 436 K (f_X12_init_L149 436 K f) (nI c) S = _
      unfold f_X12_init_L149b
      rw [if_neg (show ¬ (6 : Int32) ≤ nI c from nI_ge (b := 6) hc (by omega)), i2.r, r0, zChk_t (by decide), zq872, nI_add, i2.n, l0, zChk_t (zix (by omega) (by omega)), nI_clamp (show 872 + c < 2 ^ 31 by omega), zLet_d, nI_1]
  · rintro f ⟨y, S⟩ ⟨i1, i2, i3⟩
    dsimp only at i1 i2 i3 ⊢
    subst i1
    refine ⟨S, ?_, i2, i3⟩
    show f_X12_init_L149b 436 K (f_X12_init_L149 436 K f) (nI 6) S = _
    unfold f_X12_init_L149b
    rw [if_pos (show (6 : Int32) ≤ nI 6 by decide)]
/-- the row's first text -/
theorem m12_row {S Q R : zM} {n : Nat} {C : zM → Option zM} (hC : C = fun S183 => zChk (¬ (zr S183 436 0) = 0) (zChk (¬ ((878 : Int32) < 0 ∨ zln S183 (zr S183 436 0) ≤ ((878 : Int32)).toNatClampNeg)) (zLet (zpI S183 (zr S183 436 0) (Int32.toNatClampNeg (878 : Int32)) (1 : Int32)) (fun S189 => zChk (¬ (zr S189 436 0) = 0) (zChk (¬ ((879 : Int32) < 0 ∨ zln S189 (zr S189 436 0) ≤ ((879 : Int32)).toNatClampNeg)) (zLet (zpI S189 (zr S189 436 0) (Int32.toNatClampNeg (879 : Int32)) (1 : Int32)) (fun S197 => zChk (¬ (zr S197 436 0) = 0) (zChk (¬ ((880 : Int32) < 0 ∨ zln S197 (zr S197 436 0) ≤ ((880 : Int32)).toNatClampNeg)) (zLet (zpI S197 (zr S197 436 0) (Int32.toNatClampNeg (880 : Int32)) (115 : Int32)) (fun S205 => zChk (¬ (zr S205 436 0) = 0) (zChk (¬ ((881 : Int32) < 0 ∨ zln S205 (zr S205 436 0) ≤ ((881 : Int32)).toNatClampNeg)) (zLet (zpI S205 (zr S205 436 0) (Int32.toNatClampNeg (881 : Int32)) (42 : Int32)) (fun S213 => zChk (¬ (zr S213 436 0) = 0) (zChk (¬ ((882 : Int32) < 0 ∨ zln S213 (zr S213 436 0) ≤ ((882 : Int32)).toNatClampNeg)) (zLet (zpI S213 (zr S213 436 0) (Int32.toNatClampNeg (882 : Int32)) (104 : Int32)) (fun S221 => zChk (¬ (zr S221 436 0) = 0) (zChk (¬ ((883 : Int32) < 0 ∨ zln S221 (zr S221 436 0) ≤ ((883 : Int32)).toNatClampNeg)) (zLet (zpI S221 (zr S221 436 0) (Int32.toNatClampNeg (883 : Int32)) (47 : Int32)) (fun S229 => zChk (¬ (zr S229 436 0) = 0) (zChk (¬ ((884 : Int32) < 0 ∨ zln S229 (zr S229 436 0) ≤ ((884 : Int32)).toNatClampNeg)) (zLet (zpI S229 (zr S229 436 0) (Int32.toNatClampNeg (884 : Int32)) (49 : Int32)) (fun S237 => zChk (¬ (zr S237 436 0) = 0) (zChk (¬ ((885 : Int32) < 0 ∨ zln S237 (zr S237 436 0) ≤ ((885 : Int32)).toNatClampNeg)) (zLet (zpI S237 (zr S237 436 0) (Int32.toNatClampNeg (885 : Int32)) (48 : Int32)) (fun S245 => zChk (¬ (zr S245 436 0) = 0) (zChk (¬ ((1000 : Int32) < 0 ∨ zln S245 (zr S245 436 0) ≤ ((1000 : Int32)).toNatClampNeg)) (zLet (zpI S245 (zr S245 436 0) (Int32.toNatClampNeg (1000 : Int32)) (6 : Int32)) (fun S253 => some S253)))))))))))))))))))))))))))) (hR : zF (fun a _ => a = 437) Q R) (r0 : zr Q 436 0 = 437) (l0 : zln Q 437 = 1004) (h : ∀ k : Nat, zi R 437 k = if 872 ≤ k ∧ k < 878 then 2 else 0) : ∃ Z : zM, C R = some Z ∧ zF (fun a _ => a = 437) Q Z ∧ ∀ k : Nat, zi Z 437 k = zR0 k := by
  subst hC
  have rr : ∀ X : zM, zF (fun a _ => a = 437) Q X → zr X 436 0 = 437 := fun X f => by rw [f.r]; exact r0
  have ll : ∀ X : zM, zF (fun a _ => a = 437) Q X → zln X 437 = 1004 := fun X f => by rw [f.n]; exact l0
  dsimp only
  refine zst_k (P := fun o => ∃ Z : zM, o = some Z ∧ zF (fun a _ => a = 437) Q Z ∧ ∀ k : Nat, zi Z 437 k = zR0 k) 878 (rr R hR) (ll R hR) (by decide) ?_
  intro X1 f1 g1
  have hX1 := hR.tr f1
  refine zst_k (P := fun o => ∃ Z : zM, o = some Z ∧ zF (fun a _ => a = 437) Q Z ∧ ∀ k : Nat, zi Z 437 k = zR0 k) 879 (rr X1 hX1) (ll X1 hX1) (by decide) ?_
  intro X2 f2 g2
  have hX2 := hX1.tr f2
  refine zst_k (P := fun o => ∃ Z : zM, o = some Z ∧ zF (fun a _ => a = 437) Q Z ∧ ∀ k : Nat, zi Z 437 k = zR0 k) 880 (rr X2 hX2) (ll X2 hX2) (by decide) ?_
  intro X3 f3 g3
  have hX3 := hX2.tr f3
  refine zst_k (P := fun o => ∃ Z : zM, o = some Z ∧ zF (fun a _ => a = 437) Q Z ∧ ∀ k : Nat, zi Z 437 k = zR0 k) 881 (rr X3 hX3) (ll X3 hX3) (by decide) ?_
  intro X4 f4 g4
  have hX4 := hX3.tr f4
  refine zst_k (P := fun o => ∃ Z : zM, o = some Z ∧ zF (fun a _ => a = 437) Q Z ∧ ∀ k : Nat, zi Z 437 k = zR0 k) 882 (rr X4 hX4) (ll X4 hX4) (by decide) ?_
  intro X5 f5 g5
  have hX5 := hX4.tr f5
  refine zst_k (P := fun o => ∃ Z : zM, o = some Z ∧ zF (fun a _ => a = 437) Q Z ∧ ∀ k : Nat, zi Z 437 k = zR0 k) 883 (rr X5 hX5) (ll X5 hX5) (by decide) ?_
  intro X6 f6 g6
  have hX6 := hX5.tr f6
  refine zst_k (P := fun o => ∃ Z : zM, o = some Z ∧ zF (fun a _ => a = 437) Q Z ∧ ∀ k : Nat, zi Z 437 k = zR0 k) 884 (rr X6 hX6) (ll X6 hX6) (by decide) ?_
  intro X7 f7 g7
  have hX7 := hX6.tr f7
  refine zst_k (P := fun o => ∃ Z : zM, o = some Z ∧ zF (fun a _ => a = 437) Q Z ∧ ∀ k : Nat, zi Z 437 k = zR0 k) 885 (rr X7 hX7) (ll X7 hX7) (by decide) ?_
  intro X8 f8 g8
  have hX8 := hX7.tr f8
  refine zst_k (P := fun o => ∃ Z : zM, o = some Z ∧ zF (fun a _ => a = 437) Q Z ∧ ∀ k : Nat, zi Z 437 k = zR0 k) 1000 (rr X8 hX8) (ll X8 hX8) (by decide) ?_
  intro X9 f9 g9
  have hX9 := hX8.tr f9
  refine ⟨X9, rfl, hX9, fun k => ?_⟩
  unfold zR0
  rw [g9, g8, g7, g6, g5, g4, g3, g2, g1, h]
