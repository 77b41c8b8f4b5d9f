/-! the code of a sum: how it works on a stack -/
def zWk (o l r : Int32) : Int32 := if o = 42 then l * r else if o = 43 then l + r else if o = 45 then l - r else if o = 47 then (if r = 0 then 0 else l / r) else if o = 91 then zmin l r else zmax l r
def zcS (fld : Int32 → Int32) (c : Int32) (st : List Int32) : List Int32 :=
  if f_X6_isWorking (-c) = 0 then (if c < 0 then fld (-c) else c) :: st
  else match st with
    | r :: l :: s => zWk (-c) l r :: s
    | s => s
def zcR (fld : Int32 → Int32) (cd st : List Int32) : List Int32 := cd.foldl (fun s c => zcS fld c s) st
theorem zcR_app (fld : Int32 → Int32) (c1 c2 st : List Int32) : zcR fld (c1 ++ c2) st = zcR fld c2 (zcR fld c1 st) := List.foldl_append ..
theorem zcR_1 (fld : Int32 → Int32) (c : Int32) (st : List Int32) : zcR fld [c] st = zcS fld c st := rfl
theorem zcR_nil (fld : Int32 → Int32) (st : List Int32) : zcR fld [] st = st := rfl
theorem zneg0 (x : Int32) : -(0 - x) = x := by rw [Int32.zero_sub, Int32.neg_neg]
theorem zcS_num {fld : Int32 → Int32} {v : Int32} {st : List Int32} (h : zU v 1000) : zcS fld v st = v :: st := by
  obtain ⟨k, hk, rfl⟩ := h.k
  have h1 : f_X6_isWorking (-(nI k)) = 0 := by
    have hne : ∀ c : Nat, 0 < c → c < 1000 → ¬ -(nI k) = nI c := by
      intro c h0 hc q
      have q2 : nI k + nI c = 0 := by rw [← q, Int32.add_right_neg]
      rw [nI_add] at q2
      exact nI_ne0 (by omega) (by omega) q2
    unfold f_X6_isWorking
    rw [if_neg (show ¬ -(nI k) = (42 : Int32) from hne 42 (by omega) (by omega)), if_neg (show ¬ -(nI k) = (43 : Int32) from hne 43 (by omega) (by omega)), if_neg (show ¬ -(nI k) = (45 : Int32) from hne 45 (by omega) (by omega)), if_neg (show ¬ -(nI k) = (47 : Int32) from hne 47 (by omega) (by omega)), if_neg (show ¬ -(nI k) = (91 : Int32) from hne 91 (by omega) (by omega)), if_neg (show ¬ -(nI k) = (123 : Int32) from hne 123 (by omega) (by omega))]
  unfold zcS
  rw [if_pos h1, if_neg (nI_pos (by omega))]
theorem zcS_fld {fld : Int32 → Int32} {x : Int32} {st : List Int32} (h : zpF x = true) : zcS fld (0 - x) st = fld x :: st := by
  have key : (x = 115 ∨ x = 110 ∨ x = 104 ∨ x = 109 ∨ x = 97 ∨ x = 122 ∨ x = 112) := by
    unfold zpF at h
    simpa [Bool.or_eq_true, decide_eq_true_eq, or_assoc] using h
  have h1 : f_X6_isWorking x = 0 ∧ (0 : Int32) - x < 0 := by
    rcases key with rfl | rfl | rfl | rfl | rfl | rfl | rfl <;> decide +kernel
  unfold zcS
  rw [zneg0, if_pos h1.1, if_pos h1.2]
theorem zcS_op {fld : Int32 → Int32} {x l r : Int32} {st : List Int32} (h : x = 42 ∨ x = 43 ∨ x = 45 ∨ x = 47 ∨ x = 91 ∨ x = 123) : zcS fld (0 - x) (r :: l :: st) = zWk x l r :: st := by
  have h1 : ¬ f_X6_isWorking x = 0 := by
    rcases h with rfl | rfl | rfl | rfl | rfl | rfl <;> decide +kernel
  unfold zcS
  rw [zneg0, if_neg h1]
theorem zcS_len (fld : Int32 → Int32) (c : Int32) (st : List Int32) : (zcS fld c st).length ≤ st.length + 1 := by
  unfold zcS
  split
  · simp
  · cases st with
    | nil => simp
    | cons r s =>
      cases s with
      | nil => simp
      | cons l s => simp
theorem zcR_len (fld : Int32 → Int32) : ∀ (cd st : List Int32), (zcR fld cd st).length ≤ st.length + cd.length := by
  intro cd
  induction cd with
  | nil => intro st; exact Nat.le_refl _
  | cons c cd ih =>
    intro st
    have h1 := ih (zcS fld c st)
    have h2 := zcS_len fld c st
    show (zcR fld cd (zcS fld c st)).length ≤ st.length + (cd.length + 1)
    omega
/-- digits make a small number -/
theorem zpG_k {x : Int32} (h : zpG x = true) : ∃ k : Nat, k < 10 ∧ x = nI (48 + k) := by
  unfold zpG at h
  rw [Bool.and_eq_true, decide_eq_true_eq, decide_eq_true_eq, Int32.le_iff_toInt_le, Int32.le_iff_toInt_le] at h
  have e1 : (48 : Int32).toInt = 48 := by decide +kernel
  have e2 : (57 : Int32).toInt = 57 := by decide +kernel
  rw [e1, e2] at h
  obtain ⟨k, hk, rfl⟩ := (show zU x 58 from ⟨by omega, by omega⟩).k
  rw [nI_toInt (by omega)] at h
  exact ⟨k - 48, by omega, by rw [show 48 + (k - 48) = k by omega]⟩
theorem zq48 : (48 : Int32) = nI 48 := rfl
theorem zpN_b : ∀ (k : Nat) (v : Nat) (t : List Int32), k ≤ 2 → v < 1000 → v * 10 ^ k < 1000 → ∃ w : Nat, w < 1000 ∧ (zpN k (nI v) t).1 = nI w := by
  intro k
  induction k with
  | zero => intro v t _ hv _; exact ⟨v, hv, rfl⟩
  | succ k ih =>
    intro v t hk hv hp
    cases t with
    | nil => exact ⟨v, hv, rfl⟩
    | cons x r =>
      show ∃ w : Nat, w < 1000 ∧ (if 0 < nI v ∧ zpG x = true then zpN k (10 * nI v + x - 48) r else (nI v, x :: r)).1 = nI w
      by_cases h : 0 < nI v ∧ zpG x = true
      · rw [if_pos h]
        obtain ⟨c, hc, rfl⟩ := zpG_k h.2
        rw [zq10, nI_mul, nI_add, zq48, nI_sub (by omega), show 10 * v + (48 + c) - 48 = 10 * v + c by omega]
        have h10 : v * 10 ^ (k + 1) = v * 10 ^ k * 10 := by rw [Nat.pow_succ, Nat.mul_assoc]
        have hk1 : k = 0 ∨ k = 1 := by omega
        have hv0 : v = 0 ∨ 0 < v := by omega
        rcases hk1 with rfl | rfl
        · rw [Nat.pow_zero, Nat.mul_one] at h10
          exact ih (10 * v + c) r (by omega) (by omega) (by omega)
        · have : v * 10 ^ 1 = v * 10 := by rw [Nat.pow_one]
          rw [this] at h10
          refine ih (10 * v + c) r (by omega) (by omega) ?_
          rw [Nat.pow_one]
          omega
      · rw [if_neg h]; exact ⟨v, hv, rfl⟩
/-- the code that a text spells is put behind what was there -/
theorem zp_app : ∀ (f m d : Nat) (a t : List Int32) (q : List Int32 × List Int32), zp f m d a t = some q → ∃ c : List Int32, q.1 = a ++ c := by
  intro f
  induction f with
  | zero => intro m d a t q h; cases h
  | succ f ih =>
    intro m d a t q h
    match m with
    | 0 =>
      have h' : ((zp f 2 d a t).bind fun q => zp f 1 d q.1 q.2) = some q := h
      obtain ⟨q1, e1, e2⟩ := Option.bind_eq_some_iff.mp h'
      obtain ⟨c1, k1⟩ := ih 2 d a t q1 e1
      obtain ⟨c2, k2⟩ := ih 1 d q1.1 q1.2 q e2
      exact ⟨c1 ++ c2, by rw [k2, k1, List.append_assoc]⟩
    | 1 =>
      match t with
      | [] =>
        have h' : some (a, ([] : List Int32)) = some q := h
        cases h'
        exact ⟨[], (List.append_nil a).symm⟩
      | x :: r =>
        have h' : (if x = 43 ∨ x = 45 then (zp f 2 d a r).bind fun q => zp f 1 d (q.1 ++ [0 - x]) q.2 else some (a, x :: r)) = some q := h
        by_cases hx : x = 43 ∨ x = 45
        · rw [if_pos hx] at h'
          obtain ⟨q1, e1, e2⟩ := Option.bind_eq_some_iff.mp h'
          obtain ⟨c1, k1⟩ := ih 2 d a r q1 e1
          obtain ⟨c2, k2⟩ := ih 1 d (q1.1 ++ [0 - x]) q1.2 q e2
          exact ⟨c1 ++ [0 - x] ++ c2, by rw [k2, k1]; simp only [List.append_assoc]⟩
        · rw [if_neg hx] at h'
          cases h'
          exact ⟨[], (List.append_nil a).symm⟩
    | 2 =>
      have h' : ((zp f 4 d a t).bind fun q => zp f 3 d q.1 q.2) = some q := h
      obtain ⟨q1, e1, e2⟩ := Option.bind_eq_some_iff.mp h'
      obtain ⟨c1, k1⟩ := ih 4 d a t q1 e1
      obtain ⟨c2, k2⟩ := ih 3 d q1.1 q1.2 q e2
      exact ⟨c1 ++ c2, by rw [k2, k1, List.append_assoc]⟩
    | 3 =>
      match t with
      | [] =>
        have h' : some (a, ([] : List Int32)) = some q := h
        cases h'
        exact ⟨[], (List.append_nil a).symm⟩
      | x :: r =>
        have h' : (if x = 42 ∨ x = 47 then (zp f 4 d a r).bind fun q => zp f 3 d (q.1 ++ [0 - x]) q.2 else some (a, x :: r)) = some q := h
        by_cases hx : x = 42 ∨ x = 47
        · rw [if_pos hx] at h'
          obtain ⟨q1, e1, e2⟩ := Option.bind_eq_some_iff.mp h'
          obtain ⟨c1, k1⟩ := ih 4 d a r q1 e1
          obtain ⟨c2, k2⟩ := ih 3 d (q1.1 ++ [0 - x]) q1.2 q e2
          exact ⟨c1 ++ [0 - x] ++ c2, by rw [k2, k1]; simp only [List.append_assoc]⟩
        · rw [if_neg hx] at h'
          cases h'
          exact ⟨[], (List.append_nil a).symm⟩
    | m + 4 =>
      match t with
      | [] => cases h
      | x :: r =>
        have h' : (if x = 40 then (if d = 0 then none else (zp f 0 (d - 1) a r).bind fun q => zpA 41 q)
          else if x = 91 ∨ x = 123 then (if d = 0 then none else (zp f 0 (d - 1) a r).bind fun q => (zpA 44 q).bind fun q => (zp f 0 (d - 1) q.1 q.2).bind fun q => zpA (x + 2) (q.1 ++ [0 - x], q.2))
          else if zpF x = true then some (a ++ [0 - x], r)
          else if zpG x = true then some (a ++ [(zpN 2 (x - 48) r).1], (zpN 2 (x - 48) r).2) else none) = some q := h
        have hA : ∀ (y : Int32) (q1 q2 : List Int32 × List Int32), zpA y q1 = some q2 → q2.1 = q1.1 := by
          intro y q1 q2 e
          unfold zpA at e
          cases h2 : q1.2 with
          | nil => rw [h2] at e; cases e
          | cons z w =>
            rw [h2] at e
            dsimp only at e
            by_cases hz : z = y
            · rw [if_pos hz] at e; cases e; rfl
            · rw [if_neg hz] at e; cases e
        by_cases h40 : x = 40
        · rw [if_pos h40] at h'
          by_cases hd : d = 0
          · rw [if_pos hd] at h'; cases h'
          · rw [if_neg hd] at h'
            obtain ⟨q1, e1, e2⟩ := Option.bind_eq_some_iff.mp h'
            obtain ⟨c1, k1⟩ := ih 0 (d - 1) a r q1 e1
            exact ⟨c1, (hA _ _ _ e2).trans k1⟩
        · rw [if_neg h40] at h'
          by_cases hb : x = 91 ∨ x = 123
          · rw [if_pos hb] at h'
            by_cases hd : d = 0
            · rw [if_pos hd] at h'; cases h'
            · rw [if_neg hd] at h'
              obtain ⟨q1, e1, e2⟩ := Option.bind_eq_some_iff.mp h'
              obtain ⟨q2, e3, e4⟩ := Option.bind_eq_some_iff.mp e2
              obtain ⟨q3, e5, e6⟩ := Option.bind_eq_some_iff.mp e4
              obtain ⟨c1, k1⟩ := ih 0 (d - 1) a r q1 e1
              obtain ⟨c2, k2⟩ := ih 0 (d - 1) q2.1 q2.2 q3 e5
              refine ⟨c1 ++ c2 ++ [0 - x], ?_⟩
              rw [hA _ _ _ e6, k2, hA _ _ _ e3, k1]
              simp only [List.append_assoc]
          · rw [if_neg hb] at h'
            by_cases hf : zpF x = true
            · rw [if_pos hf] at h'
              cases h'
              exact ⟨[0 - x], rfl⟩
            · rw [if_neg hf] at h'
              by_cases hg : zpG x = true
              · rw [if_pos hg] at h'
                cases h'
                exact ⟨[(zpN 2 (x - 48) r).1], rfl⟩
              · rw [if_neg hg] at h'; cases h'
