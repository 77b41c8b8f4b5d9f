/-! all statements of a text -/
def zCh (T : List Int32) (N : Nat) : List (Nat × zRc) → Nat → Option Nat → Prop
  | [], p, r => (p = T.length ∧ r = none) ∨ ((p < T.length ∨ p = 0) ∧ p ≤ T.length ∧ ∃ (p1 : Nat) (x : zRc), r = some p1 ∧ p1 ≤ T.length ∧ zSc T N p false p1 x ∧ zSr T N p false p1 x)
  | (p0, x) :: xs, p, r => p0 = p ∧ ∃ p1 : Nat, zSx T p p1 x ∧ p1 ≤ T.length ∧ zSc T N p true p1 x ∧ zSr T N p true p1 x ∧ zCh T N xs p1 r
theorem zch_ex {T : List Int32} {N : Nat} (hN : 122 < N) (hT : T.length ≤ 120) : ∀ n p : Nat, T.length - p = n → p ≤ T.length → ∃ (xs : List (Nat × zRc)) (r : Option Nat), zCh T N xs p r ∧ (p = 0 → xs = [] → ¬ r = none) := by
  intro n
  induction n using Nat.strongRecOn with
  | ind n ih =>
    intro p hn hp
    by_cases h0 : p = T.length ∧ ¬ p = 0
    · exact ⟨[], none, Or.inl ⟨h0.1, rfl⟩, fun z => absurd z h0.2⟩
    · obtain ⟨ok, p1, x, l1, l2, l3, l4, l5⟩ := zj_st (p := p) hN hT hp
      cases ok with
      | false => exact ⟨[], some p1, Or.inr ⟨by omega, hp, p1, x, rfl, l2, l4, l5⟩, fun _ _ z => by cases z⟩
      | true =>
        have hx := l3 rfl
        have hlt : p < p1 := hx.1
        obtain ⟨xs, r, c1, -⟩ := ih (T.length - p1) (by omega) p1 rfl l2
        exact ⟨(p, x) :: xs, r, ⟨rfl, p1, hx, l2, l4, l5, c1⟩, fun _ z => by cases z⟩
def zFo : List (Nat × zRc) → Option Nat
  | [] => none
  | (p, x) :: xs => if zWg x = true then some p else zFo xs
def zYas (T : List Int32) : List (Nat × zRc) → (Nat → Int32) → (Nat → Int32)
  | [], g => g
  | (p, x) :: xs, g => zYas T xs (zYa T p x g)
def zWv (v : Int32) (o : Option Nat) : Int32 := if 0 ≤ v then v else match o with
  | none => v
  | some p => nI p
/-- an int that is a place is not below 0 -/
theorem nI_nn {p : Nat} (h : p < 2 ^ 31) : 0 ≤ nI p := nI_le (a := 0) (Nat.zero_le _) h
def zK43 (x40 : Int32) (S41 : zM) : Option (Int32 × zM) := if (zi S41 405 4) = 0 then if (zi S41 405 5) < 0 then some ((x40, S41)) else some ((((-2000 : Int32) - (zi S41 405 5)), S41)) else some ((((-1000 : Int32) - (zi S41 405 3)), S41))
theorem x_loop {T : List Int32} {N q : Nat} {K : Int32 → zM → Option (Int32 × zM)} (hT : T.length ≤ 120) : ∀ (xs : List (Nat × zRc)) (p k n : Nat) (S : zM) (r : Option Nat), zCh T N xs p r → zYk S q T p → k ≤ p → (k = 0 → p = 0 ∧ (xs = [] → ¬ r = none)) → xs.length + 2 < n →
    ∃ (m : Int32) (S1 : zM), f_X7_read_L50 N 405 K n (nI k) S = K m S1 ∧ zF zYv S S1 ∧ (∀ p1 : Nat, r = some p1 → zYs S1 q T p1) ∧ (r = none → m = nI (k + xs.length) ∧ zYk S1 q T T.length ∧ zi S1 405 5 = zWv (zi S 405 5) (zFo xs) ∧ (zFo xs = none → ∀ g : Nat → Int32, zRepR S 406 g → zRepR S1 406 (zYas T xs g))) := by
  intro xs
  have n10 : ¬ (1 : Int32) = 0 := by decide
  have hb : ∀ (p k n : Nat) (S A : zM), zYk S q T p → k ≤ p → (p < T.length ∨ k = 0) → f_X7_readStatement N S 405 = some A → f_X7_read_L50 N 405 K (n + 1) (nI k) S = f_X7_read_L50 N 405 K n (nI (k + 1)) A := by
    intro p k n S A hS hk hc hA
    have h8 := hS.1.2.2.2.2.1
    show f_X7_read_L50b N 405 K (f_X7_read_L50 N 405 K n) (nI k) S = _
    unfold f_X7_read_L50b
    rw [if_neg (show ¬ (120 : Int32) < nI k from nI_nlt (a := 120) (by omega) (by omega)), hS.2.1, if_pos rfl, hA, zB1_s, zLet_d, nI_1, hS.1.2.2.2.2.2.1, hS.1.2.2.2.2.2.2.1]
    rcases hc with hc | hc
    · rw [if_pos (nI_lt hc (by omega))]
    · by_cases h9 : nI p < nI T.length
      · rw [if_pos h9]
      · rw [if_neg h9, if_pos (by rw [hc]; rfl)]
  induction xs with
  | nil =>
    intro p k n S r hc hS hk h0 hn
    obtain ⟨n, rfl⟩ : ∃ i, n = i + 2 := ⟨n - 2, by omega⟩
    rcases hc with ⟨rfl, rfl⟩ | ⟨h1, h2, p1, x, rfl, h3, h4, h5⟩
    · have hk0 : ¬ k = 0 := fun z => (h0 z).2 rfl rfl
      refine ⟨nI k, S, ?_, zF.rf, fun p1 z => (by cases z), fun _ => ⟨rfl, hS, ?_, fun _ g h => h⟩⟩
      · show f_X7_read_L50b N 405 K (f_X7_read_L50 N 405 K (n + 1)) (nI k) S = _
        unfold f_X7_read_L50b
        rw [if_neg (show ¬ (120 : Int32) < nI k from nI_nlt (a := 120) (by omega) (by omega)), hS.2.1, if_pos rfl, zLet_d, hS.1.2.2.2.2.2.1, hS.1.2.2.2.2.2.2.1, if_neg (nI_nlt (Nat.le_refl _) (by omega)), if_neg (show ¬ nI k = (0 : Int32) from fun z => hk0 (nI_inj (b := 0) z (by omega) (by omega)))]
      · unfold zWv zFo
        dsimp only
        split <;> rfl
    · obtain ⟨A, a1, a2, a3, -⟩ := h4 q S hS
      have a4 := a3 rfl
      refine ⟨nI (k + 1), A, ?_, a2, fun p2 z => by cases z; exact a4, fun z => by cases z⟩
      rw [hb p k (n + 1) S A hS hk (by omega) a1]
      show f_X7_read_L50b N 405 K (f_X7_read_L50 N 405 K n) (nI (k + 1)) A = _
      unfold f_X7_read_L50b
      rw [a4.2.1, if_neg n10]
      split <;> rfl
  | cons px xs ih =>
    obtain ⟨p0, x⟩ := px
    intro p k n S r hc hS hk h0 hn
    obtain ⟨n, rfl⟩ : ∃ i, n = i + 1 := ⟨n - 1, by omega⟩
    obtain ⟨rfl, p1, h1, h2, h3, h4, h5⟩ := hc
    have hlen : ((p0, x) :: xs).length = xs.length + 1 := rfl
    obtain ⟨A, a1, a2, -, a3⟩ := h3 q S hS
    obtain ⟨a4, a5, a6⟩ := a3 rfl
    have hlt := (List.getElem?_eq_some_iff.mp h1.2.1).1
    have hpp := h1.1
    obtain ⟨m, B, b1, b2, b3, b4⟩ := ih p1 (k + 1) n A r h5 a4 (by omega) (fun z => by omega) (by omega)
    refine ⟨m, B, ?_, a2.tr b2, b3, fun hr => ?_⟩
    · rw [hb p0 k n S A hS hk (Or.inl hlt) a1]
      exact b1
    · obtain ⟨c1, c2, c3, c4⟩ := b4 hr
      refine ⟨by rw [c1, hlen, show k + 1 + xs.length = k + (xs.length + 1) by omega], c2, ?_, fun hf g hg => ?_⟩
      · rw [c3, a5]
        show zWv (if zWg x = true then (if 0 ≤ zi S 405 5 then zi S 405 5 else nI p0) else zi S 405 5) (zFo xs) = zWv (zi S 405 5) (if zWg x = true then some p0 else zFo xs)
        by_cases hw : zWg x = true
        · rw [if_pos hw, if_pos hw]
          unfold zWv
          by_cases h9 : 0 ≤ zi S 405 5
          · rw [if_pos h9, if_pos h9]
          · rw [if_neg h9, if_pos (nI_nn (by omega))]
        · rw [if_neg hw, if_neg hw]
      · have hf' : (if zWg x = true then some p0 else zFo xs) = none := hf
        by_cases hw : zWg x = true
        · rw [if_pos hw] at hf'; cases hf'
        · rw [if_neg hw] at hf'
          exact c4 hf' _ (a6 (by simpa using hw) g hg)
/-! the reference's three passes -/
theorem zTs.eq {R : zM} {row base p p1 : Nat} {T : List Int32} (h : zTs R row base T p) (h1 : zTs R row base T p1) : p = p1 := by
  have e : nI p = nI p1 := h.2.2.2.2.2.1.symm.trans h1.2.2.2.2.2.1
  have := h.2.2.2.2.2.2
  have := h1.2.2.2.2.2.2.1
  exact nI_inj e (by omega) (by omega)
theorem zch_end {T : List Int32} {N : Nat} {xs : List (Nat × zRc)} {p : Nat} {r : Option Nat} (h : zCh T N xs p r) (hp : p = T.length) (h0 : ¬ p = 0) : xs = [] ∧ r = none := by
  cases xs with
  | nil =>
    rcases h with ⟨-, h⟩ | ⟨h1, -⟩
    · exact ⟨rfl, h⟩
    · omega
  | cons px xs =>
    obtain ⟨p0, x⟩ := px
    obtain ⟨-, p1, h1, -⟩ := h
    have := (List.getElem?_eq_some_iff.mp h1.2.1).1
    omega
theorem zch_mid {T : List Int32} {N : Nat} {xs : List (Nat × zRc)} {p : Nat} {r : Option Nat} (h : zCh T N xs p r) (hp : p < T.length) : xs = [] → ¬ r = none := by
  intro hx hr
  subst hx hr
  rcases h with ⟨h1, -⟩ | ⟨-, -, p1, x, h2, -⟩
  · omega
  · cases h2
theorem m_pass1 {T : List Int32} {N row base : Nat} {K : Int32 → zM → Option (Int32 × zM)} : ∀ (xs : List (Nat × zRc)) (p k n : Nat) (R : zM) (r : Option Nat), zCh T N xs p r → zTs R row base T p → (xs = [] → ¬ r = none) → xs.length < n →
    ∃ R1 : zM, zF zTwr R R1 ∧ (∀ p1 : Nat, r = some p1 → f_X12_rule_L20 N 436 K n (nI k) R = some ((-1000 : Int32) - nI p1, R1)) ∧ (r = none → f_X12_rule_L20 N 436 K n (nI k) R = K (nI (k + xs.length)) R1 ∧ zTs R1 row base T T.length) := by
  intro xs
  have n10 : ¬ (1 : Int32) = 0 := by decide
  induction xs with
  | nil =>
    intro p k n R r hc hR hx hn
    obtain ⟨n, rfl⟩ : ∃ i, n = i + 1 := ⟨n - 1, by omega⟩
    rcases hc with ⟨h1, h2⟩ | ⟨h1, h2, p1, x, rfl, h3, h4, h5⟩
    · exact absurd h2 (hx rfl)
    · obtain ⟨A, a1, a2, a3, -⟩ := h5 row base R hR
      refine ⟨A, a2, fun p2 z => ?_, fun z => by cases z⟩
      cases z
      show f_X12_rule_L20b N 436 K (f_X12_rule_L20 N 436 K n) (nI k) R = _
      unfold f_X12_rule_L20b
      rw [a1, zB2_s, if_pos (show (if false = true then (1 : Int32) else 0) = 0 by rfl), a3.2.2.2.2.2.1]
  | cons px xs ih =>
    obtain ⟨p0, x⟩ := px
    intro p k n R r hc hR hx hn
    have hlen : ((p0, x) :: xs).length = xs.length + 1 := rfl
    obtain ⟨n, rfl⟩ : ∃ i, n = i + 1 := ⟨n - 1, by omega⟩
    obtain ⟨rfl, p1, h1, h2, h3, h4, h5⟩ := hc
    obtain ⟨A, a1, a2, a3, -⟩ := h4 row base R hR
    have hpp := h1.1
    have hT := a3.2.2.2.2.2.2.2.1
    have hb : f_X12_rule_L20 N 436 K (n + 1) (nI k) R = if nI p1 < nI T.length then f_X12_rule_L20 N 436 K n (nI (k + 1)) A else K (nI (k + 1)) A := by
      show f_X12_rule_L20b N 436 K (f_X12_rule_L20 N 436 K n) (nI k) R = _
      unfold f_X12_rule_L20b
      rw [a1, zB2_s, if_neg (show ¬ (if true = true then (1 : Int32) else 0) = 0 by decide), a3.2.2.2.2.2.1, a3.2.2.2.2.1, nI_1]
    by_cases hlt : p1 < T.length
    · rw [if_pos (nI_lt hlt (by omega))] at hb
      obtain ⟨B, b1, b2, b3⟩ := ih p1 (k + 1) n A r h5 a3 (zch_mid h5 hlt) (by omega)
      refine ⟨B, a2.tr b1, fun p2 z => by rw [hb]; exact b2 p2 z, fun z => ?_⟩
      obtain ⟨c1, c2⟩ := b3 z
      exact ⟨by rw [hb, c1, hlen, show k + 1 + xs.length = k + (xs.length + 1) by omega], c2⟩
    · rw [if_neg (nI_nlt (by omega) (by omega))] at hb
      have he : p1 = T.length := by omega
      obtain ⟨e1, e2⟩ := zch_end h5 he (by omega)
      subst e1 e2
      refine ⟨A, a2, fun p2 z => (by cases z), fun _ => ⟨by rw [hb, hlen]; rfl, by rw [← he]; exact a3⟩⟩
theorem m_pass2 {T : List Int32} {N row base : Nat} {K : zM → Option (Int32 × zM)} : ∀ (xs : List (Nat × zRc)) (p n : Nat) (R : zM), zCh T N xs p none → zTs R row base T p → xs.length < n →
    ∃ R1 : zM, zF zTwr R R1 ∧ (∀ w : Nat, zFo xs = some w → f_X12_rule_L55 N 436 K n R = some ((-2000 : Int32) - nI w, R1)) ∧ (zFo xs = none → f_X12_rule_L55 N 436 K n R = K R1) := by
  intro xs
  induction xs with
  | nil =>
    intro p n R hc hR hn
    obtain ⟨n, rfl⟩ : ∃ i, n = i + 1 := ⟨n - 1, by omega⟩
    have he : p = T.length := by
      rcases hc with ⟨h1, h2⟩ | ⟨h1, h2, p1, x, h3, -⟩
      · exact h1
      · cases h3
    subst he
    have hT := hR.2.2.2.2.2.2.2.1
    refine ⟨R, zF.rf, fun w z => (by cases z), fun _ => ?_⟩
    show f_X12_rule_L55b N 436 K (f_X12_rule_L55 N 436 K n) R = _
    unfold f_X12_rule_L55b
    rw [hR.2.2.2.2.1, hR.2.2.2.2.2.1, if_pos (Int32.le_refl _)]
  | cons px xs ih =>
    obtain ⟨p0, x⟩ := px
    intro p n R hc hR hn
    have hlen : ((p0, x) :: xs).length = xs.length + 1 := rfl
    obtain ⟨n, rfl⟩ : ∃ i, n = i + 1 := ⟨n - 1, by omega⟩
    obtain ⟨rfl, p1, h1, h2, h3, h4, h5⟩ := hc
    obtain ⟨A, a1, a2, a3, a4⟩ := h4 row base R hR
    obtain ⟨a5, a6⟩ := a4 rfl
    have hT := a3.2.2.2.2.2.2.2.1
    have hlt := (List.getElem?_eq_some_iff.mp h1.2.1).1
    obtain ⟨B, b1, b2, b3⟩ := ih p1 n A h5 a3 (by omega)
    have hb : f_X12_rule_L55 N 436 K (n + 1) R = if zWg x = true then some ((-2000 : Int32) - nI p0, A) else f_X12_rule_L55 N 436 K n A := by
      show f_X12_rule_L55b N 436 K (f_X12_rule_L55 N 436 K n) R = _
      have hsg : zSg T p0 = x.1 := by unfold zSg; rw [h1.2.1]
      obtain ⟨-, -, hk, ho, ht, -⟩ := h1
      unfold f_X12_rule_L55b
      rw [hR.2.2.2.2.1, hR.2.2.2.2.2.1, if_neg (nI_ge hlt (by omega)), m_sg hR, hsg, zB1_s, a1, zB2_s, zLet_d]
      obtain ⟨k, o, t, to, c⟩ := x
      dsimp only at hk ho ht a5 ⊢
      unfold zWg
      rcases hk with rfl | rfl | rfl
      · obtain ⟨w1, w2⟩ := a5 (by decide)
        rw [w1, w2, if_pos rfl, if_neg (show ¬ (111 : Int32) = 100 by decide)]
        by_cases q1 : 5 < o
        · rw [if_pos (show (5 : Int32) < nI o from nI_lt (a := 5) q1 (by omega)), if_pos (by simp [q1])]
        · rw [if_neg (show ¬ (5 : Int32) < nI o from nI_nlt (a := 5) (by omega) (by omega))]
          by_cases q2 : 20 < t
          · rw [if_pos (show (20 : Int32) < nI t from nI_lt (a := 20) q2 (by omega)), if_pos (by simp [q2])]
          · rw [if_neg (show ¬ (20 : Int32) < nI t from nI_nlt (a := 20) (by omega) (by omega)), if_neg (by simp [q1, q2])]
      · obtain ⟨w1, w2⟩ := a5 (by decide)
        rw [w1, w2, if_neg (show ¬ (100 : Int32) = 111 by decide), if_pos rfl]
        by_cases q1 : 3 < o
        · rw [if_pos (show (3 : Int32) < nI o from nI_lt (a := 3) q1 (by omega)), if_pos (by simp [q1])]
        · rw [if_neg (show ¬ (3 : Int32) < nI o from nI_nlt (a := 3) (by omega) (by omega))]
          by_cases q2 : 3 < t
          · rw [if_neg (show ¬ nI t ≤ (3 : Int32) from nI_ge (a := 3) q2 (by omega)), if_pos (by simp [q2])]
          · rw [if_pos (show nI t ≤ (3 : Int32) from nI_le (b := 3) (by omega) (by omega)), if_neg (by simp [q1, q2])]
      · rw [if_neg (show ¬ (102 : Int32) = 111 by decide), if_neg (show ¬ (102 : Int32) = 100 by decide), if_neg (by simp)]
    by_cases hw : zWg x = true
    · rw [if_pos hw] at hb
      refine ⟨A, a2, fun w z => ?_, fun z => ?_⟩
      · have z' : (if zWg x = true then some p0 else zFo xs) = some w := z
        rw [if_pos hw] at z'
        cases z'
        exact hb
      · have z' : (if zWg x = true then some p0 else zFo xs) = none := z
        rw [if_pos hw] at z'
        cases z'
    · rw [if_neg hw] at hb
      refine ⟨B, a2.tr b1, fun w z => ?_, fun z => ?_⟩
      · have z' : (if zWg x = true then some p0 else zFo xs) = some w := z
        rw [if_neg hw] at z'
        rw [hb]
        exact b2 w z'
      · have z' : (if zWg x = true then some p0 else zFo xs) = none := z
        rw [if_neg hw] at z'
        rw [hb]
        exact b3 z'
