/-! the memory of what the law makes: addresses counted from B (0 is null), each with a kind, a length and its places; and how the heap holds it -/
abbrev zM : Type := Nat × (Nat → Nat) × (Nat → Nat) × (Nat → Nat → Int32) × (Nat → Nat → Nat) × (Nat → Nat → Int64)
def zsz (S : zM) : Nat := S.1
def zty (S : zM) : Nat → Nat := S.2.1
def zln (S : zM) : Nat → Nat := S.2.2.1
def zi (S : zM) : Nat → Nat → Int32 := S.2.2.2.1
def zr (S : zM) : Nat → Nat → Nat := S.2.2.2.2.1
def zl (S : zM) : Nat → Nat → Int64 := S.2.2.2.2.2
def zu {α : Type} (f : Nat → Nat → α) (a k : Nat) (v : α) : Nat → Nat → α := fun x j => if x = a ∧ j = k then v else f x j
def zu1 {α : Type} (f : Nat → α) (a : Nat) (v : α) : Nat → α := fun x => if x = a then v else f x
def zpI (S : zM) (a k : Nat) (v : Int32) : zM := (zsz S, zty S, zln S, zu (zi S) a k v, zr S, zl S)
def zpR (S : zM) (a k : Nat) (v : Nat) : zM := (zsz S, zty S, zln S, zi S, zu (zr S) a k v, zl S)
def zpL (S : zM) (a k : Nat) (v : Int64) : zM := (zsz S, zty S, zln S, zi S, zr S, zu (zl S) a k v)
/-- n places of the row a0 from sp on come to those of the row a1 from dp on -/
def zcp (S : zM) (a0 sp a1 dp n : Nat) : zM := (zsz S, zty S, zln S, (fun x j => if x = a1 ∧ dp ≤ j ∧ j < dp + n then zi S a0 (sp + (j - dp)) else zi S x j), zr S, zl S)
/-- a new cell of kind t and length n, all its places 0 -/
def znw (S : zM) (t n : Nat) : zM := (zsz S + 1, zu1 (zty S) (zsz S) t, zu1 (zln S) (zsz S) n, (fun x j => if x = zsz S then 0 else zi S x j), (fun x j => if x = zsz S then 0 else zr S x j), (fun x j => if x = zsz S then 0 else zl S x j))
def zgO (B r : Nat) : Option Nat := if r = 0 then none else some (B + r)
def zv (B r : Nat) : Value := va_rf (zgO B r)
theorem zv_0 (B : Nat) : zv B 0 = .null := rfl
theorem zv_ref {B r : Nat} (h : 0 < r) : zv B r = .ref (B + r) := by
  show va_rf (zgO B r) = _
  rw [show zgO B r = some (B + r) from if_neg (by omega)]
  rfl
theorem zv_cat (B r : Nat) : (zv B r).category = 1 := by
  rcases Nat.eq_zero_or_pos r with h | h
  · subst h; rfl
  · rw [zv_ref h]; rfl
/-- how many fields a kind of object has -/
def zN (t : Nat) : Nat := match t with
  | 1 => 7 | 2 => 5 | 3 => 6 | 4 => 4 | 5 => 2 | 6 => 6 | 7 => 6 | 8 => 5 | 9 => 12 | 10 => 5 | 11 => 9 | 12 => 50 | _ => 0
/-- of what kind a place's reference is (0: the place holds a number) -/
def zK (t k : Nat) : Nat := match t with
  | 1 => if k ≤ 1 then 20 else 0
  | 3 => if k = 0 ∨ k = 3 ∨ k = 4 ∨ k = 5 then 20 else 0
  | 4 => if k = 0 ∨ k = 3 then 20 else 0
  | 5 => if k = 0 then 20 else 0
  | 6 => if k = 0 ∨ k = 3 ∨ k = 5 then 20 else 0
  | 7 => if k = 0 then 6 else if k = 1 then 20 else 0
  | 8 => if k = 0 then 20 else if k = 1 then 2 else 0
  | 9 => if k ≤ 3 then 20 else if k = 4 then 6 else if k = 8 then 24 else if k = 9 then 23 else if k = 10 then 21 else if k = 11 then 5 else 0
  | 11 => if k ≤ 2 then 9 else if k = 3 then 25 else if k = 4 then 7 else if k = 5 then 4 else if k = 6 then 3 else if k = 7 then 10 else 0
  | 12 => if k ≤ 7 ∨ k = 10 ∨ k = 17 ∨ k = 39 ∨ k = 40 ∨ k = 44 ∨ k = 45 ∨ k = 49 then 20 else if k = 41 then 22 else 0
  | 23 => 1
  | 24 => 2
  | 25 => 8
  | _ => 0
def zfv (B : Nat) (S : zM) (t a k : Nat) : Value := if zK t k = 0 then .int (zi S a k) else zv B (zr S a k)
def zfs (B : Nat) (S : zM) (t a : Nat) : List Value := (List.range (zN t)).map (zfv B S t a)
theorem zfs_at (B : Nat) (S : zM) (t a k : Nat) (h : k < zN t) : (zfs B S t a)[k]? = some (zfv B S t a k) := by
  simp [zfs, h]
def zE (cy : Nat → ClassId) (B : Nat) (S : zM) (a : Nat) : va_E :=
  if zty S a ≤ 12 then .inr (zty S a - 1, zfs B S (zty S a) a)
  else if zty S a = 20 then .inl (cy 20, zln S a, .inl (zi S a))
  else if zty S a = 21 then .inl (cy 21, zln S a, .inr (.inl (zl S a)))
  else if zty S a = 22 then .inl (cy 22, zln S a, .inl (zi S a))
  else .inl (cy (zty S a), zln S a, .inr (.inr (.inr (.inr (fun j => zgO B (zr S a j))))))
/-- a is a cell of kind t; r is null or such a cell -/
def zA (S : zM) (a t : Nat) : Prop := 0 < a ∧ a < zsz S ∧ zty S a = t
def zQ (S : zM) (r t : Nat) : Prop := r = 0 ∨ zA S r t
theorem zQ.nn {S : zM} {r t : Nat} (h : zQ S r t) (h0 : ¬ r = 0) : zA S r t := h.resolve_left h0
theorem zA.q {S : zM} {r t : Nat} (h : zA S r t) : zQ S r t := Or.inr h
theorem zA.ne {S : zM} {r t : Nat} (h : zA S r t) : ¬ r = 0 := fun e => by have := h.1; omega
theorem zQ_0 {S : zM} {t : Nat} : zQ S 0 t := Or.inl rfl
/-- every place that holds a reference holds null or a cell of its kind -/
def zW (S : zM) : Prop := ∀ a : Nat, 0 < a → a < zsz S → ∀ k : Nat, zK (zty S a) k ≠ 0 → zQ S (zr S a k) (zK (zty S a) k)
/-- later memories: what was there keeps its kind and its length -/
def zX (S S1 : zM) : Prop := zsz S ≤ zsz S1 ∧ ∀ a : Nat, a < zsz S → zty S1 a = zty S a ∧ zln S1 a = zln S a
theorem zX.rf {S : zM} : zX S S := ⟨Nat.le_refl _, fun _ _ => ⟨rfl, rfl⟩⟩
theorem zX.tr {S S1 S2 : zM} (h : zX S S1) (h2 : zX S1 S2) : zX S S2 := ⟨Nat.le_trans h.1 h2.1, fun a ha => ⟨((h2.2 a (Nat.lt_of_lt_of_le ha h.1)).1).trans (h.2 a ha).1, ((h2.2 a (Nat.lt_of_lt_of_le ha h.1)).2).trans (h.2 a ha).2⟩⟩
theorem zA.mo {S S1 : zM} {a t : Nat} (hX : zX S S1) (h : zA S a t) : zA S1 a t := ⟨h.1, Nat.lt_of_lt_of_le h.2.1 hX.1, ((hX.2 a h.2.1).1).trans h.2.2⟩
theorem zQ.mo {S S1 : zM} {a t : Nat} (hX : zX S S1) (h : zQ S a t) : zQ S1 a t := h.elim Or.inl (fun h => Or.inr (h.mo hX))
def ztys (cy : Nat → ClassId) : List (ClassId × FieldType) := [(cy 20, .int), (cy 21, .long), (cy 22, .boolean), (cy 23, .object "DiveChairs$Dive"), (cy 24, .object "DiveChairs$Judge"), (cy 25, .object "DiveChairs$Shelf")]
/-- the heap holds the memory S, its addresses counted from B -/
def zMR (D : va_G) (cy : Nat → ClassId) (B : Nat) (S : zM) (H : Heap) : Prop :=
  H.size = B + zsz S ∧ 0 < zsz S ∧ (∀ a : Nat, 0 < a → a < zsz S → zty S a ≠ 0 → va_at D vwCl (B + a, zE cy B S a) H) ∧ zW S
theorem zMR.wt {D : va_G} {cy : Nat → ClassId} {B : Nat} {S : zM} {H : Heap} (h : zMR D cy B S H) {a t k : Nat} (ha : zA S a t) (hk : zK t k ≠ 0) : zQ S (zr S a k) (zK t k) := by
  have := h.2.2.2 a ha.1 ha.2.1 k (by rw [ha.2.2]; exact hk)
  rw [ha.2.2] at this
  exact this
theorem zE_obj {cy : Nat → ClassId} {B : Nat} {S : zM} {a t : Nat} (h : zty S a = t) (h1 : t ≤ 12) : zE cy B S a = .inr (t - 1, zfs B S t a) := by
  unfold zE
  rw [h, if_pos h1]
theorem zE_20 {cy : Nat → ClassId} {B : Nat} {S : zM} {a : Nat} (h : zty S a = 20) : zE cy B S a = .inl (cy 20, zln S a, .inl (zi S a)) := by
  unfold zE
  rw [h]; rfl
theorem zE_21 {cy : Nat → ClassId} {B : Nat} {S : zM} {a : Nat} (h : zty S a = 21) : zE cy B S a = .inl (cy 21, zln S a, .inr (.inl (zl S a))) := by
  unfold zE
  rw [h]; rfl
theorem zE_22 {cy : Nat → ClassId} {B : Nat} {S : zM} {a : Nat} (h : zty S a = 22) : zE cy B S a = .inl (cy 22, zln S a, .inl (zi S a)) := by
  unfold zE
  rw [h]; rfl
theorem zE_q {cy : Nat → ClassId} {B : Nat} {S : zM} {a t : Nat} (h : zty S a = t) (h1 : 23 ≤ t) : zE cy B S a = .inl (cy t, zln S a, .inr (.inr (.inr (.inr (fun j => zgO B (zr S a j)))))) := by
  unfold zE
  rw [h, if_neg (by omega), if_neg (by omega), if_neg (by omega), if_neg (by omega)]
theorem zMR.obj {D : va_G} {cy : Nat → ClassId} {B : Nat} {S : zM} {H : Heap} (h : zMR D cy B S H) {a t : Nat} (ha : zA S a t) (h0 : t ≠ 0) (h1 : t ≤ 12) : va_P D vwCl [(B + a, .inr (t - 1, zfs B S t a))] H := by
  intro k q hk
  have := h.2.2.1 a ha.1 ha.2.1 (by rw [ha.2.2]; exact h0)
  rw [zE_obj ha.2.2 h1] at this
  match k, hk with
  | 0, hk => cases hk; exact this
theorem zMR.cell {D : va_G} {cy : Nat → ClassId} {B : Nat} {S : zM} {H : Heap} (h : zMR D cy B S H) {a t : Nat} {e : va_E} (ha : zA S a t) (h0 : t ≠ 0) (he : zE cy B S a = e) : va_P D vwCl [(B + a, e)] H := by
  intro k q hk
  have := h.2.2.1 a ha.1 ha.2.1 (by rw [ha.2.2]; exact h0)
  rw [he] at this
  match k, hk with
  | 0, hk => cases hk; exact this
/-- a memory that differs from another in one cell's places -/
theorem zMR.one {D : va_G} {cy : Nat → ClassId} {B : Nat} {S S1 : zM} {H H1 : Heap} (h : zMR D cy B S H) {a : Nat} (hz : H1.size = H.size) (ho : ∀ q : Nat, q ≠ B + a → H1[q]? = H[q]?)
    (e1 : zsz S1 = zsz S) (e2 : zty S1 = zty S) (e3 : zln S1 = zln S) (e4 : ∀ x : Nat, x ≠ a → zi S1 x = zi S x ∧ zr S1 x = zr S x ∧ zl S1 x = zl S x) (hc : va_at D vwCl (B + a, zE cy B S1 a) H1) (hw : zW S1) : zMR D cy B S1 H1 := by
  refine ⟨by rw [hz, e1]; exact h.1, by rw [e1]; exact h.2.1, fun x h0 hx ht => ?_, hw⟩
  by_cases hxa : x = a
  · subst hxa; exact hc
  · have h1 := h.2.2.1 x h0 (by rw [← e1]; exact hx) (by rw [← e2]; exact ht)
    obtain ⟨f1, f2, f3⟩ := e4 x hxa
    have : zE cy B S1 x = zE cy B S x := by
      have g : ∀ t k, zfv B S1 t x k = zfv B S t x k := fun t k => by unfold zfv; rw [f1, f2]
      have g2 : ∀ t, zfs B S1 t x = zfs B S t x := fun t => by unfold zfs; rw [show zfv B S1 t x = zfv B S t x from funext (g t)]
      unfold zE
      rw [e2, e3, f1, f2, f3, g2]
    rw [this]
    exact h1.kept (ho _ (by show B + x ≠ B + a; omega))
theorem zW.same {S S1 : zM} (h : zW S) (e1 : zsz S1 = zsz S) (e2 : zty S1 = zty S) (e3 : zr S1 = zr S) : zW S1 := by
  intro a h0 ha k hk
  rw [e2] at hk ⊢
  rw [e3]
  have := h a h0 (by rw [← e1]; exact ha) k hk
  unfold zQ zA at this ⊢
  rw [e1, e2]
  exact this
theorem zW.pR {S : zM} (h : zW S) {a t k v : Nat} (ha : zA S a t) (hv : zQ S v (zK t k)) : zW (zpR S a k v) := by
  intro x h0 hx j hj
  show zQ S ((zu (zr S) a k v) x j) _
  unfold zu
  by_cases hxj : x = a ∧ j = k
  · rw [if_pos hxj]
    obtain ⟨rfl, rfl⟩ := hxj
    show zQ S v (zK (zty S x) j)
    rw [ha.2.2]; exact hv
  · rw [if_neg hxj]
    exact h x h0 hx j hj
