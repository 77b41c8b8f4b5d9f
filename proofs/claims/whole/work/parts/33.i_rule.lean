/-! the third pass; rule -/
theorem zTs.o {S S1 : zM} {base p : Nat} {T : List Int32} (h : zTs S 442 base T p) (f : zF (fun a _ => a = 437) S S1) : zTs S1 442 base T p := by
  obtain ⟨h1, h2, h3, h4, h5, h6, h7, h8, h9, h10, h11⟩ := h
  refine ⟨by rw [f.r]; exact h1, h2, h3, by rw [f.i (by omega)]; exact h4, by rw [f.i (by omega)]; exact h5, by rw [f.i (by omega)]; exact h6, h7, h8, h9, by rw [f.n]; exact h10, fun k hk => ?_⟩
  rw [f.i (by omega)]
  exact h11 k hk
theorem m_cpT {S0 : zM} {base fr to : Nat} {K : zM → Option (Int32 × zM)} (hL : zLay S0) (e13 : zi S0 436 13 = nI base) (e20 : zi S0 436 20 = nI fr) (e21 : zi S0 436 21 = nI to) (h1 : fr ≤ to) (h2 : to ≤ 120) (hb : base + to ≤ 960) {n : Nat} (hn : 120 < n) : ∃ S1 : zM, f_X12_rule_L254 436 K n 0 S0 = K S1 ∧ zF (fun a k => a = 437 ∧ 880 ≤ k ∧ k < 880 + (to - fr)) S0 S1 ∧ ∀ k : Nat, k < to - fr → zi S1 437 (880 + k) = zi S0 442 (base + fr + k) := by
  refine zloopR (fun f (s : Int32 × zM) => f_X12_rule_L254 436 K f s.1 s.2) (fun c s => s.1 = nI c ∧ zF (fun a k => a = 437 ∧ 880 ≤ k ∧ k < 880 + (to - fr)) S0 s.2 ∧ ∀ k : Nat, k < c → zi s.2 437 (880 + k) = zi S0 442 (base + fr + k)) (to - fr) (fun o => ∃ S1 : zM, o = K S1 ∧ zF (fun a k => a = 437 ∧ 880 ≤ k ∧ k < 880 + (to - fr)) S0 S1 ∧ ∀ k : Nat, k < to - fr → zi S1 437 (880 + k) = zi S0 442 (base + fr + k)) ?_ ?_ n (0, S0) (by omega) ⟨rfl, zF.rf, fun j hj => absurd hj (Nat.not_lt_zero _)⟩
  · rintro c f ⟨y, S⟩ hc ⟨i1, i2, i3⟩
    dsimp only at i1 i2 i3
    subst i1
    have hS := hL.fr i2
    obtain ⟨hr, hl⟩ := hS.2.2.2.2.2
    have r5 : zr S 436 5 = 442 := hr.2.2.2.2.2.1
    have l5 : zln S 442 = 960 := hl.2.2.2.2.2.1
    refine ⟨(nI (c + 1), zpI S 437 (880 + c) (zi S0 442 (base + fr + c))), ⟨rfl, zF.pI i2 ⟨rfl, by omega, by omega⟩, fun k hk => ?_⟩, ?_⟩
    · dsimp only
      by_cases e : k = c
      · rw [e, mi_eq]
      · rw [mi_ne _ _ (by omega)]
        exact i3 k (by omega)
    · show f_X12_rule_L254b 436 K (f_X12_rule_L254 436 K f) (nI c) S = _
      unfold f_X12_rule_L254b
      rw [i2.i (show ¬ (436 = 437 ∧ 880 ≤ 21 ∧ 21 < 880 + (to - fr)) by omega), i2.i (show ¬ (436 = 437 ∧ 880 ≤ 20 ∧ 20 < 880 + (to - fr)) by omega), i2.i (show ¬ (436 = 437 ∧ 880 ≤ 13 ∧ 13 < 880 + (to - fr)) by omega), e13, e20, e21, nI_sub h1, if_neg (nI_ge hc (by omega)), hr.1, zChk_t (by decide), r5, zChk_t (by decide), nI_add, nI_add, l5, zChk_t (zix (by omega) (by omega)), hl.1, zq880, nI_add, zChk_t (zix (by omega) (by omega)), nI_clamp (show base + fr + c < 2 ^ 31 by omega), nI_clamp (show 880 + c < 2 ^ 31 by omega), i2.i (show ¬ (442 = 437 ∧ 880 ≤ base + fr + c ∧ base + fr + c < 880 + (to - fr)) by omega), zLet_d, nI_1]
  · rintro f ⟨y, S⟩ ⟨i1, i2, i3⟩
    dsimp only at i1 i2 i3 ⊢
    subst i1
    refine ⟨S, ?_, i2, i3⟩
    show f_X12_rule_L254b 436 K (f_X12_rule_L254 436 K f) (nI (to - fr)) S = _
    unfold f_X12_rule_L254b
    rw [i2.i (show ¬ (436 = 437 ∧ 880 ≤ 21 ∧ 21 < 880 + (to - fr)) by omega), i2.i (show ¬ (436 = 437 ∧ 880 ≤ 20 ∧ 20 < 880 + (to - fr)) by omega), e20, e21, nI_sub h1, if_pos (Int32.le_refl _)]
def zW3 (a k : Nat) : Prop := zTwr a k ∨ (a = 437 ∧ 872 ≤ k ∧ k ≤ 1000)
theorem zWg_f {x : zRc} (h : ¬ zWg x = true) : (x.1 = 111 → x.2.1 ≤ 5 ∧ x.2.2.1 ≤ 20) ∧ (x.1 = 100 → x.2.1 ≤ 3 ∧ x.2.2.1 ≤ 3) := by
  unfold zWg at h
  rw [Bool.or_eq_true, Bool.and_eq_true, Bool.and_eq_true, Bool.or_eq_true, Bool.or_eq_true, decide_eq_true_iff, decide_eq_true_iff, decide_eq_true_iff, decide_eq_true_iff, decide_eq_true_iff, decide_eq_true_iff] at h
  constructor
  · intro e
    constructor
    · by_cases q : 5 < x.2.1
      · exact absurd (Or.inl ⟨e, Or.inl q⟩) h
      · omega
    · by_cases q : 20 < x.2.2.1
      · exact absurd (Or.inl ⟨e, Or.inr q⟩) h
      · omega
  · intro e
    constructor
    · by_cases q : 3 < x.2.1
      · exact absurd (Or.inr ⟨e, Or.inl q⟩) h
      · omega
    · by_cases q : 3 < x.2.2.1
      · exact absurd (Or.inr ⟨e, Or.inr q⟩) h
      · omega
theorem m_pass3 {T : List Int32} {N base : Nat} {K : zM → Option (Int32 × zM)} (hN : 122 < N) (hb : base ≤ 840) : ∀ (xs : List (Nat × zRc)) (p n : Nat) (R : zM) (g : Nat → Int32), zCh T N xs p none → zFo xs = none → zTs R 442 base T p → zLay R → (∀ k : Nat, zi R 437 k = g k) → xs.length < n →
    ∃ R1 : zM, f_X12_rule_L146 N 436 K n R = K R1 ∧ zF zW3 R R1 ∧ ∀ k : Nat, zi R1 437 k = zYas T xs g k := by
  intro xs
  induction xs with
  | nil =>
    intro p n R g hc _ hR _ hg hn
    obtain ⟨n, rfl⟩ : ∃ i, n = i + 1 := ⟨n - 1, by omega⟩
    have he : p = T.length := by
      rcases hc with ⟨h1, h2⟩ | ⟨h1, h2, p1, x, h3, -⟩
      · exact h1
      · cases h3
    subst he
    refine ⟨R, ?_, zF.rf, hg⟩
    show f_X12_rule_L146b N 436 K (f_X12_rule_L146 N 436 K n) R = _
    unfold f_X12_rule_L146b
    rw [hR.2.2.2.2.1, hR.2.2.2.2.2.1, if_pos (Int32.le_refl _)]
  | cons px xs ih =>
    obtain ⟨p0, x⟩ := px
    intro p n R g hc hfo hR hL hg hn
    have hlen : ((p0, x) :: xs).length = xs.length + 1 := rfl
    obtain ⟨n, rfl⟩ : ∃ i, n = i + 1 := ⟨n - 1, by omega⟩
    obtain ⟨rfl, p1, h1, h2, h3, h4, h5⟩ := hc
    have hfo' : (if zWg x = true then some p0 else zFo xs) = none := hfo
    have hw : ¬ zWg x = true := fun q => by rw [if_pos q] at hfo'; cases hfo'
    rw [if_neg hw] at hfo'
    obtain ⟨A, a1, a2, a3, a4⟩ := h4 442 base R hR
    obtain ⟨a5, a6⟩ := a4 rfl
    have hT := a3.2.2.2.2.2.2.2.1
    have hlt := (List.getElem?_eq_some_iff.mp h1.2.1).1
    have hsg : zSg T p0 = x.1 := by unfold zSg; rw [h1.2.1]
    obtain ⟨wo, wd⟩ := zWg_f hw
    have hLA := hL.fr a2
    have hgA : ∀ k : Nat, zi A 437 k = g k := fun k => by rw [a2.i (by unfold zTwr; omega)]; exact hg k
    obtain ⟨hr, hl⟩ := id hLA.2.2.2.2.2
    have step : ∃ B : zM, f_X12_rule_L146 N 436 K (n + 1) R = f_X12_rule_L146 N 436 K n B ∧ zF (fun a k => a = 437 ∧ 872 ≤ k ∧ k ≤ 1000) A B ∧ ∀ k : Nat, zi B 437 k = zYa T p0 x g k := by
      have hrun : f_X12_rule_L146 N 436 K (n + 1) R = f_X12_rule_L146b N 436 K (f_X12_rule_L146 N 436 K n) R := rfl
      unfold f_X12_rule_L146b at hrun
      rw [hR.2.2.2.2.1, hR.2.2.2.2.2.1, if_neg (nI_ge hlt (by omega)), m_sg hR, hsg, zB1_s, a1, zB2_s] at hrun
      simp only [nLet] at hrun
      obtain ⟨-, -, hk, ho, ht, hpf⟩ := h1
      obtain ⟨k, o, t, to, c⟩ := x
      dsimp only at hk ho ht a5 a6 wo wd hpf hrun ⊢
      rcases hk with rfl | rfl | rfl
      · obtain ⟨w1, w2⟩ := a5 (by decide)
        obtain ⟨wo1, wo2⟩ := wo rfl
        have g1 : zF (fun a k => a = 437 ∧ 872 ≤ k ∧ k ≤ 1000) A (zpI A 437 (872 + o) (nI t)) := zF_pI ⟨rfl, by omega, by omega⟩
        rw [if_pos rfl, w1, w2, hr.1, zChk_t (by decide), zq872, nI_add, hl.1, zChk_t (zix (by omega) (by omega)), nI_clamp (show 872 + o < 2 ^ 31 by omega), if_neg (show ¬ (111 : Int32) = 100 by decide), if_neg (show ¬ (111 : Int32) = 102 by decide)] at hrun
        refine ⟨_, hrun, g1, fun i => ?_⟩
        unfold zYa
        rw [if_pos rfl]
        show _ = if i = 872 + o then nI t else g i
        by_cases e : i = 872 + o
        · rw [if_pos e, e, mi_eq]
        · rw [if_neg e, mi_ne _ _ (by omega)]
          exact hgA i
      · obtain ⟨w1, w2⟩ := a5 (by decide)
        have g1 : zF (fun a k => a = 437 ∧ 872 ≤ k ∧ k ≤ 1000) A (zpI (zpI A 437 878 (nI o)) 437 879 (nI t)) := (zF_pI ⟨rfl, by omega, by omega⟩).tr (zF_pI ⟨rfl, by omega, by omega⟩)
        rw [if_neg (show ¬ (100 : Int32) = 111 by decide), if_pos rfl, hr.1, zChk_t (by decide), hl.1, zq878, zChk_t (zix (by omega) (by omega)), nI_clamp (show 878 < 2 ^ 31 by omega), w1, nr_pI, hr.1, zChk_t (by decide), nln_pI, hl.1, zq879, zChk_t (zix (by omega) (by omega)), nI_clamp (show 879 < 2 ^ 31 by omega), mi_ne _ _ (show ¬ (436 = 437 ∧ 19 = 878) by omega), w2, if_neg (show ¬ (100 : Int32) = 102 by decide)] at hrun
        refine ⟨_, hrun, g1, fun i => ?_⟩
        unfold zYa
        rw [if_neg (show ¬ (100 : Int32) = 111 by decide), if_pos rfl]
        show _ = if i = 878 then nI o else if i = 879 then nI t else g i
        by_cases e : i = 879
        · rw [if_neg (by omega), if_pos e, e, mi_eq]
        · rw [mi_ne _ _ (by omega), if_neg e]
          by_cases e2 : i = 878
          · rw [if_pos e2, e2, mi_eq]
          · rw [if_neg e2, mi_ne _ _ (by omega)]
            exact hgA i
      · obtain ⟨w1, w2⟩ := a6 rfl
        obtain ⟨f1, f2, f3, f4⟩ := hpf rfl
        rw [if_neg (show ¬ (102 : Int32) = 111 by decide), if_neg (show ¬ (102 : Int32) = 100 by decide), if_pos rfl, hr.1, zChk_t (by decide), hl.1, zq1000, zChk_t (zix (by omega) (by omega)), nI_clamp (show 1000 < 2 ^ 31 by omega), w1, w2, nI_sub f1] at hrun
        have g1 : zF (fun a k => a = 437 ∧ 872 ≤ k ∧ k ≤ 1000) A (zpI A 437 1000 (nI (to - (p0 + 1)))) := zF_pI ⟨rfl, by omega, by omega⟩
        obtain ⟨B, b1, b2, b3⟩ := m_cpT (K := fun S67 => f_X12_rule_L146 N 436 K n S67) (hLA.fr g1) (base := base) (fr := p0 + 1) (to := to) (by rw [mi_ne _ _ (by omega)]; exact a3.2.2.2.1) (by rw [mi_ne _ _ (by omega)]; exact w1) (by rw [mi_ne _ _ (by omega)]; exact w2) f1 (by omega) (by omega) (n := N) (by omega)
        rw [b1] at hrun
        refine ⟨B, hrun, g1.tr (b2.mo (fun a k q => ⟨q.1, by omega, by omega⟩)), fun i => ?_⟩
        unfold zYa
        rw [if_neg (show ¬ (102 : Int32) = 111 by decide), if_neg (show ¬ (102 : Int32) = 100 by decide)]
        show _ = if i = 1000 then nI (to - (p0 + 1)) else if 880 ≤ i ∧ i < 880 + (to - (p0 + 1)) then (T[p0 + 1 + (i - 880)]?).getD 0 else g i
        by_cases e : i = 1000
        · rw [if_pos e, e, b2.i (by omega), mi_eq]
        · rw [if_neg e]
          by_cases e2 : 880 ≤ i ∧ i < 880 + (to - (p0 + 1))
          · rw [if_pos e2]
            have := b3 (i - 880) (by omega)
            rw [show 880 + (i - 880) = i by omega] at this
            rw [this, mi_ne _ _ (by omega), show base + (p0 + 1) + (i - 880) = base + (p0 + 1 + (i - 880)) by omega, a3.2.2.2.2.2.2.2.2.2.2 (p0 + 1 + (i - 880)) (by omega)]
            rfl
          · rw [if_neg e2, b2.i (by omega), mi_ne _ _ (by omega)]
            exact hgA i
    obtain ⟨B, b1, b2, b3⟩ := step
    obtain ⟨C, c1, c2, c3⟩ := ih p1 n B (zYa T p0 x g) h5 hfo' (a3.o (b2.mo (fun a k q => q.1))) (hLA.fr b2) b3 (by omega)
    refine ⟨C, by rw [b1]; exact c1, ((a2.mo (fun a k q => Or.inl q)).tr (b2.mo (fun a k q => Or.inr q))).tr c2, c3⟩
/-- what a rule leaves as it was, and its bounds -/
theorem zYas_ok {T : List Int32} {N : Nat} (hT : T.length ≤ 120) : ∀ (xs : List (Nat × zRc)) (p : Nat) (g : Nat → Int32), zCh T N xs p none → zFo xs = none → (∀ k : Nat, (k < 872 ∨ 1000 < k) → zYas T xs g k = g k) ∧ (zB5p g → zB5p (zYas T xs g)) := by
  intro xs
  induction xs with
  | nil => exact fun p g _ _ => ⟨fun k _ => rfl, fun h => h⟩
  | cons px xs ih =>
    obtain ⟨p0, x⟩ := px
    intro p g hc hfo
    obtain ⟨rfl, p1, h1, h2, h3, h4, h5⟩ := hc
    have hfo' : (if zWg x = true then some p0 else zFo xs) = none := hfo
    have hw : ¬ zWg x = true := fun q => by rw [if_pos q] at hfo'; cases hfo'
    rw [if_neg hw] at hfo'
    obtain ⟨wo, wd⟩ := zWg_f hw
    obtain ⟨j1, j2⟩ := ih p1 (zYa T p0 x g) h5 hfo'
    obtain ⟨-, -, hk, ho, ht, hpf⟩ := h1
    obtain ⟨k, o, t, to, c⟩ := x
    dsimp only at hk ho ht wo wd hpf
    have one : (∀ i : Nat, (i < 872 ∨ 1000 < i) → zYa T p0 (k, o, t, to, c) g i = g i) ∧ (zB5p g → zB5p (zYa T p0 (k, o, t, to, c) g)) := by
      rcases hk with rfl | rfl | rfl
      · obtain ⟨wo1, wo2⟩ := wo rfl
        have eA : ∀ i : Nat, zYa T p0 (111, o, t, to, c) g i = if i = 872 + o then nI t else g i := fun i => by unfold zYa; rw [if_pos rfl]
        refine ⟨fun i hi => by rw [eA, if_neg (by omega)], fun ⟨b1, b2, b3⟩ => ⟨fun i hi => ?_, by rw [eA, if_neg (by omega)]; exact b2, by rw [eA, if_neg (by omega)]; exact b3⟩⟩
        rw [eA]
        split
        · exact zU_n (by omega) (by omega)
        · exact b1 i hi
      · obtain ⟨wd1, wd2⟩ := wd rfl
        have eA : ∀ i : Nat, zYa T p0 (100, o, t, to, c) g i = if i = 878 then nI o else if i = 879 then nI t else g i := fun i => by unfold zYa; rw [if_neg (show ¬ (100 : Int32) = 111 by decide), if_pos rfl]
        refine ⟨fun i hi => by rw [eA, if_neg (by omega), if_neg (by omega)], fun ⟨b1, b2, b3⟩ => ⟨fun i hi => by rw [eA, if_neg (by omega), if_neg (by omega)]; exact b1 i hi, by rw [eA, if_pos rfl]; exact zU_n (by omega) (by omega), by rw [eA, if_neg (by omega), if_pos rfl]; exact zU_n (by omega) (by omega)⟩⟩
      · obtain ⟨f1, f2, f3, f4⟩ := hpf rfl
        have eA : ∀ i : Nat, zYa T p0 (102, o, t, to, c) g i = if i = 1000 then nI (to - (p0 + 1)) else if 880 ≤ i ∧ i < 880 + (to - (p0 + 1)) then (T[p0 + 1 + (i - 880)]?).getD 0 else g i := fun i => by unfold zYa; rw [if_neg (show ¬ (102 : Int32) = 111 by decide), if_neg (show ¬ (102 : Int32) = 100 by decide)]
        refine ⟨fun i hi => by rw [eA, if_neg (by omega), if_neg (by omega)], fun ⟨b1, b2, b3⟩ => ⟨fun i hi => by rw [eA, if_neg (by omega), if_neg (by omega)]; exact b1 i hi, by rw [eA, if_neg (by omega), if_neg (by omega)]; exact b2, by rw [eA, if_neg (by omega), if_neg (by omega)]; exact b3⟩⟩
    refine ⟨fun i hi => ?_, fun h => j2 (one.2 h)⟩
    show zYas T xs (zYa T p0 (k, o, t, to, c) g) i = g i
    rw [j1 i hi]
    exact one.1 i hi
