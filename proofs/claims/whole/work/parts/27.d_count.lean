/-! what a dive counts: the class's side -/
/-- the code of a whole text leaves one thing -/
theorem zp_val {fld : Int32 → Int32} : ∀ (f d : Nat) (a t a' t' : List Int32),
    (zp f 0 d a t = some (a', t') → ∃ c : List Int32, a' = a ++ c ∧ ∃ v : Int32, ∀ st : List Int32, zcR fld c st = v :: st) ∧
    (zp f 1 d a t = some (a', t') → ∃ c : List Int32, a' = a ++ c ∧ ∀ x : Int32, ∃ v : Int32, ∀ st : List Int32, zcR fld c (x :: st) = v :: st) ∧
    (zp f 2 d a t = some (a', t') → ∃ c : List Int32, a' = a ++ c ∧ ∃ v : Int32, ∀ st : List Int32, zcR fld c st = v :: st) ∧
    (zp f 3 d a t = some (a', t') → ∃ c : List Int32, a' = a ++ c ∧ ∀ x : Int32, ∃ v : Int32, ∀ st : List Int32, zcR fld c (x :: st) = v :: st) ∧
    (zp f 4 d a t = some (a', t') → ∃ c : List Int32, a' = a ++ c ∧ ∃ v : Int32, ∀ st : List Int32, zcR fld c st = v :: st) := by
  intro f
  induction f with
  | zero =>
    intro d a t a' t'
    refine ⟨?_, ?_, ?_, ?_, ?_⟩ <;> (intro h; cases h)
  | succ f ih =>
    intro d a t a' t'
    refine ⟨?_, ?_, ?_, ?_, ?_⟩
    · intro h
      have h' : ((zp f 2 d a t).bind fun q => zp f 1 d q.1 q.2) = some (a', t') := h
      obtain ⟨⟨a1, t1⟩, e1, e2⟩ := Option.bind_eq_some_iff.mp h'
      obtain ⟨c1, k1, v1, k2⟩ := (ih d a t a1 t1).2.2.1 e1
      obtain ⟨c2, l1, l2⟩ := (ih d a1 t1 a' t').2.1 e2
      obtain ⟨v2, l3⟩ := l2 v1
      exact ⟨c1 ++ c2, by rw [l1, k1, List.append_assoc], v2, fun st => by rw [zcR_app, k2, l3]⟩
    · intro h
      cases t with
      | nil =>
        have h' : some (a, ([] : List Int32)) = some (a', t') := h
        cases h'
        exact ⟨[], (List.append_nil a).symm, fun x => ⟨x, fun st => rfl⟩⟩
      | cons y r =>
        have h' : (if y = 43 ∨ y = 45 then (zp f 2 d a r).bind fun q => zp f 1 d (q.1 ++ [0 - y]) q.2 else some (a, y :: r)) = some (a', t') := h
        by_cases hop : y = 43 ∨ y = 45
        · rw [if_pos hop] at h'
          obtain ⟨⟨a1, t1⟩, e1, e2⟩ := Option.bind_eq_some_iff.mp h'
          obtain ⟨c1, k1, v1, k2⟩ := (ih d a r a1 t1).2.2.1 e1
          obtain ⟨c2, l1, l2⟩ := (ih d (a1 ++ [0 - y]) t1 a' t').2.1 e2
          refine ⟨c1 ++ [0 - y] ++ c2, by rw [l1, k1]; simp only [List.append_assoc], fun x => ?_⟩
          obtain ⟨v2, l3⟩ := l2 (zWk y x v1)
          exact ⟨v2, fun st => by rw [zcR_app, zcR_app, k2, zcR_1, zcS_op (by rcases hop with h | h <;> simp [h]), l3]⟩
        · rw [if_neg hop] at h'
          cases h'
          exact ⟨[], (List.append_nil a).symm, fun x => ⟨x, fun st => rfl⟩⟩
    · intro h
      have h' : ((zp f 4 d a t).bind fun q => zp f 3 d q.1 q.2) = some (a', t') := h
      obtain ⟨⟨a1, t1⟩, e1, e2⟩ := Option.bind_eq_some_iff.mp h'
      obtain ⟨c1, k1, v1, k2⟩ := (ih d a t a1 t1).2.2.2.2 e1
      obtain ⟨c2, l1, l2⟩ := (ih d a1 t1 a' t').2.2.2.1 e2
      obtain ⟨v2, l3⟩ := l2 v1
      exact ⟨c1 ++ c2, by rw [l1, k1, List.append_assoc], v2, fun st => by rw [zcR_app, k2, l3]⟩
    · intro h
      cases t with
      | nil =>
        have h' : some (a, ([] : List Int32)) = some (a', t') := h
        cases h'
        exact ⟨[], (List.append_nil a).symm, fun x => ⟨x, fun st => rfl⟩⟩
      | cons y r =>
        have h' : (if y = 42 ∨ y = 47 then (zp f 4 d a r).bind fun q => zp f 3 d (q.1 ++ [0 - y]) q.2 else some (a, y :: r)) = some (a', t') := h
        by_cases hop : y = 42 ∨ y = 47
        · rw [if_pos hop] at h'
          obtain ⟨⟨a1, t1⟩, e1, e2⟩ := Option.bind_eq_some_iff.mp h'
          obtain ⟨c1, k1, v1, k2⟩ := (ih d a r a1 t1).2.2.2.2 e1
          obtain ⟨c2, l1, l2⟩ := (ih d (a1 ++ [0 - y]) t1 a' t').2.2.2.1 e2
          refine ⟨c1 ++ [0 - y] ++ c2, by rw [l1, k1]; simp only [List.append_assoc], fun x => ?_⟩
          obtain ⟨v2, l3⟩ := l2 (zWk y x v1)
          exact ⟨v2, fun st => by rw [zcR_app, zcR_app, k2, zcR_1, zcS_op (by rcases hop with h | h <;> simp [h]), l3]⟩
        · rw [if_neg hop] at h'
          cases h'
          exact ⟨[], (List.append_nil a).symm, fun x => ⟨x, fun st => rfl⟩⟩
    · intro h
      cases t with
      | nil => cases h
      | cons y r =>
        have h' : (if y = 40 then (if d = 0 then none else (zp f 0 (d - 1) a r).bind fun q => zpA 41 q)
          else if y = 91 ∨ y = 123 then (if d = 0 then none else (zp f 0 (d - 1) a r).bind fun q => (zpA 44 q).bind fun q => (zp f 0 (d - 1) q.1 q.2).bind fun q => zpA (y + 2) (q.1 ++ [0 - y], q.2))
          else if zpF y = true then some (a ++ [0 - y], r)
          else if zpG y = true then some (a ++ [(zpN 2 (y - 48) r).1], (zpN 2 (y - 48) r).2) else none) = some (a', t') := h
        by_cases h40 : y = 40
        · rw [if_pos h40] at h'
          by_cases hd0 : d = 0
          · rw [if_pos hd0] at h'; cases h'
          · rw [if_neg hd0] at h'
            obtain ⟨⟨a1, t1⟩, e1, e2⟩ := Option.bind_eq_some_iff.mp h'
            obtain ⟨c1, k1, v1, k2⟩ := (ih (d - 1) a r a1 t1).1 e1
            exact ⟨c1, ((zpA_s e2).1).trans k1, v1, k2⟩
        · rw [if_neg h40] at h'
          by_cases hbr : y = 91 ∨ y = 123
          · rw [if_pos hbr] at h'
            by_cases hd0 : d = 0
            · rw [if_pos hd0] at h'; cases h'
            · rw [if_neg hd0] at h'
              obtain ⟨⟨a1, t1⟩, e1, e2⟩ := Option.bind_eq_some_iff.mp h'
              obtain ⟨⟨a2, t2⟩, e3, e4⟩ := Option.bind_eq_some_iff.mp e2
              obtain ⟨⟨a3, t3⟩, e5, e6⟩ := Option.bind_eq_some_iff.mp e4
              obtain ⟨c1, k1, v1, k2⟩ := (ih (d - 1) a r a1 t1).1 e1
              obtain ⟨c2, l1, v2, l2⟩ := (ih (d - 1) a2 t2 a3 t3).1 e5
              have g1 := (zpA_s e3).1
              have i1 := (zpA_s e6).1
              dsimp only at g1 i1
              refine ⟨c1 ++ c2 ++ [0 - y], ?_, zWk y v1 v2, fun st => ?_⟩
              · rw [i1, l1, g1, k1]
                simp only [List.append_assoc]
              · rw [zcR_app, zcR_app, k2, l2, zcR_1, zcS_op (by rcases hbr with h | h <;> simp [h])]
          · rw [if_neg hbr] at h'
            by_cases hf : zpF y = true
            · rw [if_pos hf] at h'
              cases h'
              exact ⟨[0 - y], rfl, fld y, fun st => zcS_fld hf⟩
            · rw [if_neg hf] at h'
              by_cases hg : zpG y = true
              · rw [if_pos hg] at h'
                cases h'
                obtain ⟨k, hk, rfl⟩ := zpG_k hg
                obtain ⟨w, hw, ew⟩ := zpN_b 2 k r (by omega) (by omega) (by omega)
                have e48 : nI (48 + k) - 48 = nI k := by rw [zq48, nI_sub (by omega), show 48 + k - 48 = k by omega]
                refine ⟨[(zpN 2 (nI (48 + k) - 48) r).1], rfl, (zpN 2 (nI (48 + k) - 48) r).1, fun st => ?_⟩
                rw [zcR_1]
                show zcS fld _ st = _
                rw [e48, ew]
                exact zcS_num (zU_n hw (by omega))
              · rw [if_neg hg] at h'; cases h'
theorem zp_one {fld : Int32 → Int32} {f d : Nat} {t cd t' : List Int32} (h : zp f 0 d [] t = some (cd, t')) : ∃ v : Int32, zcR fld cd [] = [v] := by
  obtain ⟨c, e, v, hv⟩ := (zp_val (fld := fld) f d [] t cd t').1 h
  rw [List.nil_append] at e
  exact ⟨v, by rw [e]; exact hv []⟩
def zFd (n : Nat) (f : Nat → Int32) (hi lo : Nat) (hd sp x : Int32) : Int32 :=
  if x = 97 then (if n = 0 then 0 else f (n - 1)) else if x = 104 then hd else if x = 109 then (if n = 0 then 0 else f (n / 2)) else if x = 110 then nI n - nI lo - nI hi else if x = 115 then zSm f n lo hi else if x = 122 then (if n = 0 then 0 else f 0) else sp
theorem x_worked {o l r : Int32} : f_X6_worked o l r = some (zWk o l r) := by
  unfold f_X6_worked zWk
  by_cases h1 : o = 42
  · rw [if_pos h1, if_pos h1]
  · rw [if_neg h1, if_neg h1]
    by_cases h2 : o = 43
    · rw [if_pos h2, if_pos h2]
    · rw [if_neg h2, if_neg h2]
      by_cases h3 : o = 45
      · rw [if_pos h3, if_pos h3]
      · rw [if_neg h3, if_neg h3]
        by_cases h4 : o = 47
        · rw [if_pos h4, if_pos h4]
          by_cases h5 : r = 0
          · rw [if_pos h5, if_pos h5]
          · rw [if_neg h5, if_neg h5, zChk_t h5]
        · rw [if_neg h4, if_neg h4]
          split <;> rfl
def zSk (S : zM) (row : Nat) (st : List Int32) : Prop := ∀ k : Nat, k < st.length → st[k]? = some (zi S row (st.length - 1 - k))
theorem x_code {S0 : zM} {b q hi lo n0 : Nat} {f : Nat → Int32} {hd sp : Int32} {cd : List Int32} {K : zM → Option (Int32 × zM)} (hL : zLayS (zr S0) (zln S0) b) (h1 : zi S0 (b + 5) 1 = nI hi) (h2 : zi S0 (b + 5) 2 = nI lo) (h4 : zi S0 (b + 5) 4 = nI cd.length) (hcd : cd.length ≤ 120) (hc : ∀ k : Nat, k < cd.length → cd[k]? = some (zi S0 (b + 5 + 2) k)) (hP : zPan S0 (b + 12) 1 (b + 13) n0 f) (hn7 : n0 ≤ 7) (hlh : lo + hi ≤ n0) (e6 : zi S0 q 6 = hd) (e5 : zi S0 q 5 = sp) (hq : q ≠ b + 8) {n : Nat} (hn : 120 < n) :
    ∃ S1 : zM, f_X6_countFor_L25 n (b + 5) (b + 12) q K n 0 0 S0 = K S1 ∧ zF (fun a _ => a = b + 8) S0 S1 ∧ zSk S1 (b + 8) (zcR (zFd n0 f hi lo hd sp) cd []) := by
  have r3 : zr S0 (b + 5) 3 = b + 7 := hL.2.1.2.1
  have r5 : zr S0 (b + 5) 5 = b + 8 := hL.2.1.2.2.1
  have l7 : zln S0 (b + 7) = 120 := hL.2.2.1.2.2.2.2.2.1
  have l8 : zln S0 (b + 8) = 120 := hL.2.2.1.2.2.2.2.2.2.1
  have r12 : zr S0 (b + 12) 0 = b + 13 := hL.2.1.2.2.2
  have l13 : zln S0 (b + 13) = 7 := hL.2.2.1.2.2.2.2.2.2.2.2.2.2
  refine zloopR (fun m (s : Int32 × Int32 × zM) => f_X6_countFor_L25 n (b + 5) (b + 12) q K m s.1 s.2.1 s.2.2) (fun k s => s.1 = nI (zcR (zFd n0 f hi lo hd sp) (cd.take k) []).length ∧ s.2.1 = nI k ∧ zF (fun a _ => a = b + 8) S0 s.2.2 ∧ zSk s.2.2 (b + 8) (zcR (zFd n0 f hi lo hd sp) (cd.take k) [])) cd.length (fun o => ∃ S1 : zM, o = K S1 ∧ zF (fun a _ => a = b + 8) S0 S1 ∧ zSk S1 (b + 8) (zcR (zFd n0 f hi lo hd sp) cd [])) ?_ ?_ n (0, 0, S0) (by omega) ⟨rfl, rfl, zF.rf, fun k hk => absurd hk (Nat.not_lt_zero _)⟩
  · rintro k m ⟨x, y, S⟩ hk ⟨i1, i2, i3, i4⟩
    dsimp only at i1 i2 i3 i4
    have hck := hc k hk
    have htk : cd.take (k + 1) = cd.take k ++ [zi S0 (b + 5 + 2) k] := by
      rw [List.take_add_one, hck]; rfl
    have hst : zcR (zFd n0 f hi lo hd sp) (cd.take (k + 1)) [] = zcS (zFd n0 f hi lo hd sp) (zi S0 (b + 5 + 2) k) (zcR (zFd n0 f hi lo hd sp) (cd.take k) []) := by
      rw [htk, zcR_app, zcR_1]
    have hle := zcR_len (zFd n0 f hi lo hd sp) (cd.take k) []
    have hlt : (cd.take k).length ≤ k := by rw [List.length_take]; omega
    rw [hst]
    generalize zcR (zFd n0 f hi lo hd sp) (cd.take k) [] = st at i1 i4 hle
    rw [List.length_nil] at hle
    have hst0 : st.length ≤ k := by omega
    generalize hcc : zi S0 (b + 5 + 2) k = c at hck
    have ec : zi S (b + 7) k = c := by
      rw [i3.i (by omega)]
      exact hcc
    subst i1 i2
    have hPS : zPan S (b + 12) 1 (b + 13) n0 f := ⟨by rw [i3.i (by omega)]; exact hP.1, fun j hj => by rw [i3.i (by omega)]; exact hP.2 j hj⟩
    have hfld : ∀ x : Int32, f_X6_fieldOf n S (b + 5) x (b + 12) q = some (zFd n0 f hi lo hd sp x) := by
      intro x
      unfold f_X6_fieldOf zFd
      rw [x_highest (S := S) (by rw [i3.r]; exact r12) (by omega) (by rw [i3.n]; exact l13) hn7 hPS, x_middle (S := S) (by rw [i3.r]; exact r12) (by omega) (by rw [i3.n]; exact l13) hn7 hPS, x_lowest (S := S) (by rw [i3.r]; exact r12) (by omega) (by rw [i3.n]; exact l13) hn7 hPS, hPS.1, i3.i (show ¬ q = b + 8 from hq), i3.i (show ¬ q = b + 8 from hq), e6, e5, i3.i (show ¬ b + 5 = b + 8 by omega), i3.i (show ¬ b + 5 = b + 8 by omega), h1, h2, x_sumBetween (S := S) (by rw [i3.r]; exact r12) (by omega) (by rw [i3.n]; exact l13) hn7 hPS hlh (by omega)]
      simp only [nB1]
      repeat' split
      all_goals rfl
    have hrun : f_X6_countFor_L25 n (b + 5) (b + 12) q K (m + 1) (nI st.length) (nI k) S = if f_X6_isWorking (-c) = 0 then f_X6_countFor_L25 n (b + 5) (b + 12) q K m (nI (st.length + 1)) (nI (k + 1)) (zpI S (b + 8) st.length (if c < 0 then zFd n0 f hi lo hd sp (-c) else c)) else if nI st.length < 2 then f_X6_countFor_L25 n (b + 5) (b + 12) q K m (nI st.length) (nI (k + 1)) S else f_X6_countFor_L25 n (b + 5) (b + 12) q K m (nI (st.length - 1)) (nI (k + 1)) (zpI S (b + 8) (st.length - 2) (zWk (-c) (zi S (b + 8) (st.length - 2)) (zi S (b + 8) (st.length - 1)))) := by
      show f_X6_countFor_L25b n (b + 5) (b + 12) q K (f_X6_countFor_L25 n (b + 5) (b + 12) q K m) (nI st.length) (nI k) S = _
      unfold f_X6_countFor_L25b
      rw [i3.i (show ¬ b + 5 = b + 8 by omega), h4, if_neg (nI_ge hk (by omega)), i3.r, i3.n, r3, r5, l7, l8, zChk_t (by omega), zChk_t (zix (by omega) (by omega)), nI_clamp (show k < 2 ^ 31 by omega), ec, nI_1]
      simp only [nLet]
      by_cases hw : f_X6_isWorking (-c) = 0
      · rw [if_pos hw, if_pos hw, if_neg (show ¬ (120 : Int32) ≤ nI st.length from nI_ge (a := st.length) (b := 120) (by omega) (by omega)), zChk_t (by omega), hfld, zB1_s, nI_1, nI_clamp (show st.length < 2 ^ 31 by omega)]
        by_cases hc0 : c < 0
        · rw [if_pos hc0, if_pos hc0, zChk_t (zixc (by omega) (by omega))]
        · rw [if_neg hc0, if_neg hc0, zChk_t (zixc (by omega) (by omega))]
      · rw [if_neg hw, if_neg hw]
        by_cases h2' : nI st.length < 2
        · rw [if_pos h2', if_pos h2']
        · have hl2 : 2 ≤ st.length := by
            by_cases q : st.length < 2
            · exact absurd (nI_lt (a := st.length) (b := 2) q (by omega)) h2'
            · omega
          rw [if_neg h2', if_neg h2', show nI st.length + (-1 : Int32) = nI (st.length - 1) by rw [← Int32.sub_eq_add_neg]; exact nI_sub (b := 1) (by omega), show nI (st.length - 1) - (1 : Int32) = nI (st.length - 2) by rw [show (1 : Int32) = nI 1 from rfl, nI_sub (by omega), show st.length - 1 - 1 = st.length - 2 by omega], zChk_t (by omega), zChk_t (zix (by omega) (by omega)), zChk_t (zix (by omega) (by omega)), nI_clamp (show st.length - 2 < 2 ^ 31 by omega), nI_clamp (show st.length - 1 < 2 ^ 31 by omega), x_worked, zB1_s, zChk_t (zixc (by omega) (by omega))]
    unfold zcS
    by_cases hw : f_X6_isWorking (-c) = 0
    · rw [if_pos hw] at hrun ⊢
      refine ⟨(nI (st.length + 1), nI (k + 1), zpI S (b + 8) st.length (if c < 0 then zFd n0 f hi lo hd sp (-c) else c)), ⟨rfl, rfl, zF.pI i3 rfl, fun j hj => ?_⟩, hrun⟩
      cases j with
      | zero =>
        show some _ = some (zi (zpI S (b + 8) st.length (if c < 0 then zFd n0 f hi lo hd sp (-c) else c)) (b + 8) (st.length + 1 - 1 - 0))
        rw [show st.length + 1 - 1 - 0 = st.length by omega, mi_eq]
      | succ j =>
        have hj' : j < st.length := by
          have : j + 1 < st.length + 1 := hj
          omega
        show st[j]? = some (zi (zpI S (b + 8) st.length (if c < 0 then zFd n0 f hi lo hd sp (-c) else c)) (b + 8) (st.length + 1 - 1 - (j + 1)))
        rw [mi_ne _ _ (by omega), show st.length + 1 - 1 - (j + 1) = st.length - 1 - j by omega]
        exact i4 j hj'
    · rw [if_neg hw] at hrun ⊢
      match st, i4, hst0, hrun with
      | [], i4, hst0, hrun => 
        rw [if_pos (show nI ([] : List Int32).length < (2 : Int32) from (show nI 0 < (2 : Int32) by decide +kernel))] at hrun
        exact ⟨(nI 0, nI (k + 1), S), ⟨rfl, rfl, i3, i4⟩, hrun⟩
      | [z], i4, hst0, hrun => 
        rw [if_pos (show nI [z].length < (2 : Int32) from (show nI 1 < (2 : Int32) by decide +kernel))] at hrun
        exact ⟨(nI 1, nI (k + 1), S), ⟨rfl, rfl, i3, i4⟩, hrun⟩
      | r :: l :: s, i4, hst0, hrun => 
        have e0 := i4 0 (by simp)
        have e1 := i4 1 (by simp)
        have er : zi S (b + 8) ((r :: l :: s).length - 1) = r := (Option.some.inj e0).symm
        have el : zi S (b + 8) ((r :: l :: s).length - 2) = l := (Option.some.inj e1).symm
        rw [er, el, if_neg (show ¬ nI (r :: l :: s).length < (2 : Int32) from nI_nlt (a := (r :: l :: s).length) (b := 2) (by show 2 ≤ s.length + 2; omega) (by omega))] at hrun
        refine ⟨(nI ((r :: l :: s).length - 1), nI (k + 1), zpI S (b + 8) ((r :: l :: s).length - 2) (zWk (-c) l r)), ⟨rfl, rfl, zF.pI i3 rfl, fun j hj => ?_⟩, hrun⟩
        have hlen : (r :: l :: s).length = s.length + 2 := rfl
        cases j with
        | zero =>
          show some _ = some (zi (zpI S (b + 8) ((r :: l :: s).length - 2) (zWk (-c) l r)) (b + 8) (s.length + 1 - 1 - 0))
          rw [show s.length + 1 - 1 - 0 = (r :: l :: s).length - 2 by rw [hlen]; omega, mi_eq]
        | succ j =>
          have hj' : j < s.length := by
            have : j + 1 < s.length + 1 := hj
            omega
          show s[j]? = some (zi (zpI S (b + 8) ((r :: l :: s).length - 2) (zWk (-c) l r)) (b + 8) (s.length + 1 - 1 - (j + 1)))
          have e2 := i4 (j + 2) (by rw [hlen]; omega)
          have e3 : s[j]? = some (zi S (b + 8) ((r :: l :: s).length - 1 - (j + 2))) := e2
          rw [e3, mi_ne _ _ (by rw [hlen]; omega), show s.length + 1 - 1 - (j + 1) = (r :: l :: s).length - 1 - (j + 2) by rw [hlen]; omega]
  · rintro m ⟨x, y, S⟩ ⟨i1, i2, i3, i4⟩
    dsimp only at i1 i2 i3 i4 ⊢
    rw [List.take_length] at i4
    subst i2
    refine ⟨S, ?_, i3, i4⟩
    show f_X6_countFor_L25b n (b + 5) (b + 12) q K (f_X6_countFor_L25 n (b + 5) (b + 12) q K m) x (nI cd.length) S = _
    unfold f_X6_countFor_L25b
    rw [i3.i (show ¬ b + 5 = b + 8 by omega), h4, if_pos (Int32.le_refl _)]
/-- the code of a row's rule; what a dive counts -/
def zCd (g : Nat → Int32) : List Int32 := match zp 1000 0 6 [] (zTx g 880 (g 1000).toNatClampNeg) with
  | none => []
  | some q => q.1
def zHi (g : Nat → Int32) : Nat := (g 878).toNatClampNeg
def zLo (g : Nat → Int32) : Nat := (g 879).toNatClampNeg
def zFe (g : Nat → Int32) (v : Nat) : Int32 → Int32 := zFd (zPn g v).1 (zPn g v).2 (zHi g) (zLo g) (g (112 + 19 * v + 4)) (g (112 + 19 * v + 3))
def zCv (g : Nat → Int32) (v : Nat) : Int32 := if (zPn g v).1 < zHi g + zLo g + 1 then 0 else (zcR (zFe g v) (zCd g) []).headD 0
def zPsc (b a : Nat) (_ : Nat) : Prop := a = b + 8 ∨ a = b + 12 ∨ a = b + 13
theorem zPsc.s {b a k : Nat} (h : zPsc b a k) : zPs b a k := by
  unfold zPsc at h
  unfold zPs
  omega
theorem x_countOf {S : zM} {b nd nj nv v : Nat} {g : Nat → Int32} (h : zCx S b g nd nj nv) (hz : zBz g nd nj nv) (hv : v < nv) {n : Nat} (hn : 120 < n) : ∃ S1 : zM, f_X9_countOf n S b (b + 14 + 3 * v) = some (zCv g v, S1) ∧ zF (zPsc b) S S1 := by
  have hb := h.1
  have b3 := hz.1.2.2.1
  have r11 : zr S b 11 = b + 12 := h.2.1.1.2.2.2.2.2.2.2.2
  have r4 : zr S b 4 = b + 5 := h.2.1.1.2.2.2.2.1
  have r5 : zr S (b + 5) 5 = b + 8 := h.2.1.2.1.2.2.1
  have l8 : zln S (b + 8) = 120 := h.2.1.2.2.1.2.2.2.2.2.2.1
  obtain ⟨hi, hhi, ehi⟩ := hz.2.2.2.2.2.1.2.1.k
  obtain ⟨lo, hlo, elo⟩ := hz.2.2.2.2.2.1.2.2.k
  have zhi : zHi g = hi := by unfold zHi; rw [ehi]; exact nI_clamp (by omega)
  have zlo : zLo g = lo := by unfold zLo; rw [elo]; exact nI_clamp (by omega)
  obtain ⟨T, t1, t2, t3⟩ := x_gatherD (S := S) (b := b) (v := v) (g := g) h.2.1 (by omega) (h.d hv) (hz.2.2.2.2.2.2 v hv) (n := n) (by omega)
  have t2' : zF (zPsc b) S T := t2.mo (fun a j q => by unfold zPsc; omega)
  have hT := h.fr (t2'.mo (fun a j q => q.s))
  obtain ⟨-, d1, d2, m, cd, d3, d4, d5, d6, d7, d8⟩ := hT.2.2.1.2.2.2.2.1
  have hcd : zCd g = cd := by
    unfold zCd
    rw [d4, nI_clamp (by omega), d5]
  have hle := zPn_le g v
  unfold f_X9_countOf zCv
  rw [zhi, zlo, hcd, r11, zChk_t (by omega), t1, zB1_s, t2.r, r4, r11, zChk_t (by omega), zChk_t (by omega)]
  unfold f_X6_countFor
  rw [d1, d2, ehi, elo, t3.1, nI_add, nI_1]
  by_cases hlt : (zPn g v).1 < hi + lo + 1
  · rw [if_neg (nI_ge hlt (by omega)), if_pos hlt, zB2_s]
    exact ⟨T, rfl, t2'⟩
  · rw [if_pos (nI_le (by omega) (by omega)), if_neg hlt, zLet_d]
    have hD := hT.d hv
    obtain ⟨U, u1, u2, u3⟩ := x_code (K := fun (S3 : zM) => zChk (¬ (zr S3 (b + 5) 5) = 0) (zChk (¬ ((0 : Int32) < 0 ∨ zln S3 (zr S3 (b + 5) 5) ≤ ((0 : Int32)).toNatClampNeg)) (some (((zi S3 (zr S3 (b + 5) 5) (Int32.toNatClampNeg (0 : Int32))), S3))))) (q := b + 14 + 3 * v) (hd := g (112 + 19 * v + 4)) (sp := g (112 + 19 * v + 3)) hT.2.1 (d1.trans ehi) (d2.trans elo) d7 (by omega) d8 t3 hle (show lo + hi ≤ (zPn g v).1 by omega) hD.2.2.2.2.1 hD.2.2.2.1 (by omega) hn
    refine ⟨U, ?_, t2'.tr (u2.mo (fun a j q => Or.inl q))⟩
    rw [u1, u2.r, t2.r, r5, zChk_t (by omega), u2.n, t2.n, l8, zChk_t (show ¬ ((0 : Int32) < 0 ∨ 120 ≤ ((0 : Int32)).toNatClampNeg) by decide), zB2_s]
    have hfe : zFe g v = zFd (zPn g v).1 (zPn g v).2 hi lo (g (112 + 19 * v + 4)) (g (112 + 19 * v + 3)) := by
      unfold zFe
      rw [zhi, zlo]
    rw [hfe]
    -- the text's own value shows that one thing is left on the stack
    have hv1 := zp_one (fld := zFd (zPn g v).1 (zPn g v).2 hi lo (g (112 + 19 * v + 4)) (g (112 + 19 * v + 3))) d5
    obtain ⟨w, hw⟩ := hv1
    rw [hw] at u3 ⊢
    have := u3 0 (by simp)
    have e0 : zi U (b + 8) 0 = w := (Option.some.inj this).symm
    show some (zi U (b + 8) 0, U) = some (w, U)
    rw [e0]
