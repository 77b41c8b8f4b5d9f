/-! dealing things to places: what class and reference count -/
theorem zand1 (x : Int32) : x &&& 1 = 0 ∨ x &&& 1 = 1 := by
  rcases Nat.mod_two_eq_zero_or_one x.toBitVec.toNat with h | h
  · left
    apply Int32.toBitVec_inj.mp
    apply BitVec.eq_of_toNat_eq
    rw [Int32.toBitVec_and, BitVec.toNat_and]
    show x.toBitVec.toNat &&& 1 = 0
    rw [Nat.and_one_is_mod, h]
  · right
    apply Int32.toBitVec_inj.mp
    apply BitVec.eq_of_toNat_eq
    rw [Int32.toBitVec_and, BitVec.toNat_and]
    show x.toBitVec.toNat &&& 1 = 1
    rw [Nat.and_one_is_mod, h]
theorem zbt01 (x : Int32) (p : Nat) : zbt x p = 0 ∨ zbt x p = 1 := zand1 _
theorem zbt10 {x : Int32} {p : Nat} (h : ¬ zbt x p = 1) : zbt x p = 0 := (zbt01 x p).resolve_right h
def zGn (B : Nat → Nat → Nat → Nat → Int32) (D : Nat → Nat) (i : Nat) : Int32 := zSum (fun j => B j (D j) i (D i)) i
def zAl (B : Nat → Nat → Nat → Nat → Int32) (D : Nat → Nat) (n : Nat) : Int32 := zSum (zGn B D) n
theorem zGn_c {B : Nat → Nat → Nat → Nat → Int32} {D D1 : Nat → Nat} {i : Nat} (h : ∀ j : Nat, j ≤ i → D j = D1 j) : zGn B D i = zGn B D1 i := by
  unfold zGn
  exact zSum_c (fun j hj => by rw [h j (by omega), h i (Nat.le_refl _)])
theorem zAl_c {B : Nat → Nat → Nat → Nat → Int32} {D D1 : Nat → Nat} {n : Nat} (h : ∀ j : Nat, j < n → D j = D1 j) : zAl B D n = zAl B D1 n := by
  unfold zAl
  exact zSum_c (fun i hi => zGn_c (fun j hj => h j (by omega)))
def zup (D : Nat → Nat) (p t : Nat) : Nat → Nat := fun j => if j = p then t else D j
theorem zup_e {D : Nat → Nat} {p t : Nat} : zup D p t p = t := if_pos rfl
theorem zup_n {D : Nat → Nat} {p t j : Nat} (h : ¬ j = p) : zup D p t j = D j := if_neg h
def zTb (tk : Int32) (t : Nat) : Int32 := tk ||| ((1 : Int32) <<< (nI t &&& 31))
def zWy (B : Nat → Nat → Nat → Nat → Int32) (N : Nat) (w : Int32) : Nat → Int32 → (Nat → Nat) → Int32
  | 0, _, D => if zAl B D N < w then 0 else 1
  | r + 1, tk, D => zSum (fun t => if zbt tk t = 1 then 0 else zWy B N w r (zTb tk t) (zup D (N - (r + 1)) t)) N
def zLv (N : Nat) : Nat → Int32 → Int32
  | 0, _ => 1
  | r + 1, tk => zSum (fun t => if zbt tk t = 1 then 0 else zLv N r (zTb tk t)) N
def zFa : Nat → Nat
  | 0 => 1
  | k + 1 => zFa k * (k + 1)
theorem zTb_b {tk : Int32} {t s : Nat} (ht : t < 8) (hs : s < 8) : zbt (zTb tk t) s = if t = s then 1 else zbt tk s := by
  unfold zTb
  rw [zbt_or, zbt_sh t ht s hs]
  by_cases h : t = s
  · rw [if_pos h, if_pos h]
    rcases zbt01 tk s with e | e <;> rw [e] <;> decide
  · rw [if_neg h, if_neg h]
    rcases zbt01 tk s with e | e <;> rw [e] <;> decide
theorem zCnt_flip {p q : Nat → Bool} {t : Nat} (hp : p t = true) : ∀ N : Nat, (∀ s : Nat, s < N → q s = if s = t then false else p s) → (t < N → zCnt q N + 1 = zCnt p N) ∧ (N ≤ t → zCnt q N = zCnt p N) := by
  intro N
  induction N with
  | zero => exact fun _ => ⟨fun h => absurd h (Nat.not_lt_zero _), fun _ => rfl⟩
  | succ N ih =>
    intro h
    obtain ⟨i1, i2⟩ := ih (fun s hs => h s (by omega))
    have hN := h N (by omega)
    have eq : zCnt q (N + 1) = if q N = true then zCnt q N + 1 else zCnt q N := rfl
    have ep : zCnt p (N + 1) = if p N = true then zCnt p N + 1 else zCnt p N := rfl
    rw [eq, ep]
    refine ⟨fun ht => ?_, fun ht => ?_⟩
    · by_cases e : N = t
      · rw [if_pos e] at hN
        rw [hN, e, hp, if_neg (by decide), if_pos rfl, ← e, i2 (by omega)]
      · rw [if_neg e] at hN
        have := i1 (by omega)
        rw [hN]
        by_cases hb : p N = true
        · rw [if_pos hb, if_pos hb]; omega
        · rw [if_neg hb, if_neg hb]; omega
    · rw [if_neg (by omega)] at hN
      have := i2 (by omega)
      rw [hN, this]
theorem zSum_cnt {tk : Int32} {c : Nat} : ∀ N : Nat, zSum (fun t => if zbt tk t = 1 then 0 else nI c) N = nI (zCnt (fun t => !decide (zbt tk t = 1)) N * c) := by
  intro N
  induction N with
  | zero => show (0 : Int32) = nI (0 * c); rw [Nat.zero_mul]; rfl
  | succ N ih =>
    have e : zCnt (fun t => !decide (zbt tk t = 1)) (N + 1) = if (!decide (zbt tk N = 1)) = true then zCnt (fun t => !decide (zbt tk t = 1)) N + 1 else zCnt (fun t => !decide (zbt tk t = 1)) N := rfl
    show zSum _ N + (if zbt tk N = 1 then 0 else nI c) = _
    rw [ih, e]
    by_cases h : zbt tk N = 1
    · rw [if_pos h, if_neg (by simp [h]), Int32.add_zero]
    · rw [if_neg h, if_pos (by simp [h]), nI_add, Nat.succ_mul]
theorem zLv_fa {N : Nat} (hN : N ≤ 7) : ∀ (r : Nat) (tk : Int32), zCnt (fun t => !decide (zbt tk t = 1)) N = r → zLv N r tk = nI (zFa r) := by
  intro r
  induction r with
  | zero => intro tk _; rfl
  | succ r ih =>
    intro tk h
    show zSum (fun t => if zbt tk t = 1 then 0 else zLv N r (zTb tk t)) N = nI (zFa r * (r + 1))
    have e : zSum (fun t => if zbt tk t = 1 then 0 else zLv N r (zTb tk t)) N = zSum (fun t => if zbt tk t = 1 then 0 else nI (zFa r)) N := zSum_c (fun t ht => by
      by_cases hb : zbt tk t = 1
      · rw [if_pos hb, if_pos hb]
      · rw [if_neg hb, if_neg hb]
        refine ih _ ?_
        have := (zCnt_flip (p := fun t => !decide (zbt tk t = 1)) (q := fun s => !decide (zbt (zTb tk t) s = 1)) (t := t) (by simp [hb]) N (fun s hs => by
          rw [zTb_b (by omega) (by omega)]
          by_cases q : s = t
          · rw [if_pos q, if_pos q.symm]; rfl
          · rw [if_neg q, if_neg (fun x => q x.symm)])).1 ht
        omega)
    rw [e, zSum_cnt, h, Nat.mul_comm]
theorem zbt_0 {p : Nat} : zbt 0 p = 0 := by
  unfold zbt
  rw [show (0 : Int32) >>> (nI p &&& 31) = 0 from Int32.zero_shiftRight]
  decide
theorem zCnt_all {p : Nat → Bool} {N : Nat} (h : ∀ t : Nat, t < N → p t = true) : zCnt p N = N := by
  induction N with
  | zero => rfl
  | succ N ih =>
    show (if p N = true then zCnt p N + 1 else zCnt p N) = N + 1
    rw [if_pos (h N (by omega)), ih (fun t ht => h t (by omega))]
theorem zLv_0 {N : Nat} (hN : N ≤ 7) : zLv N N 0 = nI (zFa N) := zLv_fa hN N 0 (zCnt_all (fun t _ => by rw [zbt_0]; decide))
