/-! rows over that memory: an instruction that reads or writes it, a row each -/
theorem zt {α : Sort _} {c : Prop} [Decidable c] {a b z : α} (h : (if c then a else b) = z) (hc : c) : a = z := by rw [if_pos hc] at h; exact h
theorem zf {α : Sort _} {c : Prop} [Decidable c] {a b z : α} (h : (if c then a else b) = z) (hc : ¬ c) : b = z := by rw [if_neg hc] at h; exact h
def zChk {α : Type} (c : Prop) [Decidable c] (x : Option α) : Option α := if c then x else none
theorem zk {α : Type} {c : Prop} [Decidable c] {x : Option α} {z : α} (h : zChk c x = some z) : c ∧ x = some z := by
  unfold zChk at h
  split at h
  · exact ⟨by assumption, h⟩
  · cases h
def zLet {α β : Type} (v : α) (k : α → β) : β := k v
theorem zlt {α β : Type} {v : α} {k : α → β} {z : β} (h : zLet v k = z) : k v = z := h
theorem zlg {α β : Type} {v : α} {k : α → β} {z : β} (h : zLet v k = z) : ∃ y : α, y = v ∧ k y = z := ⟨v, rfl, h⟩
def zB1 {α β : Type} (x : Option α) (k : α → Option β) : Option β := match x with
  | none => none
  | some y => k y
theorem zb1 {α β : Type} {x : Option α} {k : α → Option β} {z : β} (h : zB1 x k = some z) : ∃ y : α, x = some y ∧ k y = some z := by
  cases x with
  | none => cases h
  | some y => exact ⟨y, rfl, h⟩
def zB2 {α β γ : Type} (x : Option (α × β)) (k : α → β → Option γ) : Option γ := match x with
  | none => none
  | some y => k y.1 y.2
theorem zb2 {α β γ : Type} {x : Option (α × β)} {k : α → β → Option γ} {z : γ} (h : zB2 x k = some z) : ∃ (a : α) (b : β), x = some (a, b) ∧ k a b = some z := by
  cases x with
  | none => cases h
  | some y => exact ⟨y.1, y.2, rfl, h⟩
theorem zsm {α : Type} {v z : α} (h : some v = some z) : v = z := Option.some.inj h
theorem zsp {α β : Type} {v z : α} {w y : β} (h : some (v, w) = some (z, y)) : v = z ∧ w = y := by cases h; exact ⟨rfl, rfl⟩
theorem zpp {α β : Type} {v z : α} {w y : β} (h : (v, w) = (z, y)) : v = z ∧ w = y := by cases h; exact ⟨rfl, rfl⟩
theorem z_room {st : List Value} (h : st.length ≤ 4) : (st.map fun v => v.category).sum ≤ 8 := by
  have hc : ∀ v : Value, v.category ≤ 2 := fun v => by rcases lv_cat v with h | h <;> omega
  have : ∀ l : List Value, (l.map fun v => v.category).sum ≤ 2 * l.length := by
    intro l
    induction l with
    | nil => simp
    | cons a l ih =>
      have := hc a
      simp only [List.map_cons, List.sum_cons, List.length_cons]
      omega
  have := this st
  omega
theorem zfv_i {B : Nat} {S : zM} {t a k : Nat} (h : zK t k = 0) : zfv B S t a k = .int (zi S a k) := if_pos h
theorem zfv_r {B : Nat} {S : zM} {t a k : Nat} (h : zK t k ≠ 0) : zfv B S t a k = zv B (zr S a k) := if_neg h
theorem zfs_set {B : Nat} {S S1 : zM} {t a k : Nat} {v : Value} (hk : k < zN t) (h1 : zfv B S1 t a k = v) (h2 : ∀ j, j ≠ k → zfv B S1 t a j = zfv B S t a j) : zfs B S1 t a = (zfs B S t a).set k v := by
  apply List.ext_getElem?
  intro j
  by_cases hj : j < zN t
  · rw [zfs_at _ _ _ _ _ hj]
    by_cases hjk : j = k
    · subst hjk
      rw [List.getElem?_set_self (by simpa [zfs] using hj), h1]
    · rw [List.getElem?_set_ne (Ne.symm hjk), zfs_at _ _ _ _ _ hj, h2 j hjk]
  · rw [List.getElem?_eq_none (by simp [zfs]; omega), List.getElem?_eq_none (by simp [zfs]; omega)]
theorem zi_pI (S : zM) (a k : Nat) (v : Int32) (x j : Nat) : zi (zpI S a k v) x j = if x = a ∧ j = k then v else zi S x j := rfl
theorem zr_pR (S : zM) (a k : Nat) (v : Nat) (x j : Nat) : zr (zpR S a k v) x j = if x = a ∧ j = k then v else zr S x j := rfl
theorem zl_pL (S : zM) (a k : Nat) (v : Int64) (x j : Nat) : zl (zpL S a k v) x j = if x = a ∧ j = k then v else zl S x j := rfl
section ZR
variable {p : Program} {l : Launch} {e : Env} {R : Room} {s : State} {m : MethodId} {args : Array Value} {below : List Frame} {meth : Method} {c : Code} {H : Heap} {locs : List Loc} {cells slots : Nat} {Q : State → Prop}
variable {cc : ByteArray} {pc : Nat} {ls : Array Slot} {rest : List Value} {D : va_G} {cy : Nat → ClassId} {B : Nat} {S : zM} {H0 : Heap}
theorem z_getI (hexec : p.tables.exec = Jvm.exec) (hb : c.code = cc) {own ref C : String} {T : u_T} {N index : Nat} {Ts : List Cond} (hts : ∀ w ∈ Ts, w.before args s = true) (hin : ∀ w ∈ u_ws C T N, w ∈ Ts) (hown : s.vm.findClass own = some m.cls) (hK : va_K D vwCl (ztys cy) s) (hM : zMR D cy B S H) {a t : Nat} (ha : zA S a t) (k : Nat) (hc : vwCl[t - 1]? = some (C, T, N)) (hz : t ≠ 0 ∧ t ≤ 12 ∧ k < N ∧ k < zN t ∧ zK t k = 0) (hlink : (Cond.fieldLink own index ref (T k).2.1 (T k).2.2.1).before args s = true) (hsame : ∀ x, s.fieldFound? (T k).1 (T k).2.1 (T k).2.2.1 = some x → s.fieldFound? ref (T k).2.1 (T k).2.2.1 = some x) (hdg : decode cc pc = .ok (.getfield index, 3))
    (kk : W p l e R s m args below meth c H locs cells slots Q (F0 m (pc + 3) ls (.int (zi S a k) :: rest))) : W p l e R s m args below meth c H locs cells slots Q (F0 m pc ls (.ref (B + a) :: rest)) :=
  va_get hexec hb hts hin hown hK (hM.obj ha hz.1 hz.2.1) 0 rfl hc k hz.2.2.1 hlink hsame ((zfs_at B S t a k hz.2.2.2.1).trans (congrArg some (zfv_i hz.2.2.2.2))) hdg kk
theorem z_getR (hexec : p.tables.exec = Jvm.exec) (hb : c.code = cc) {own ref C : String} {T : u_T} {N index : Nat} {Ts : List Cond} (hts : ∀ w ∈ Ts, w.before args s = true) (hin : ∀ w ∈ u_ws C T N, w ∈ Ts) (hown : s.vm.findClass own = some m.cls) (hK : va_K D vwCl (ztys cy) s) (hM : zMR D cy B S H) {a t : Nat} (ha : zA S a t) (k : Nat) (hc : vwCl[t - 1]? = some (C, T, N)) (hz : t ≠ 0 ∧ t ≤ 12 ∧ k < N ∧ k < zN t ∧ zK t k ≠ 0) (hlink : (Cond.fieldLink own index ref (T k).2.1 (T k).2.2.1).before args s = true) (hsame : ∀ x, s.fieldFound? (T k).1 (T k).2.1 (T k).2.2.1 = some x → s.fieldFound? ref (T k).2.1 (T k).2.2.1 = some x) (hdg : decode cc pc = .ok (.getfield index, 3))
    (kk : zQ S (zr S a k) (zK t k) → W p l e R s m args below meth c H locs cells slots Q (F0 m (pc + 3) ls (zv B (zr S a k) :: rest))) : W p l e R s m args below meth c H locs cells slots Q (F0 m pc ls (.ref (B + a) :: rest)) :=
  va_get hexec hb hts hin hown hK (hM.obj ha hz.1 hz.2.1) 0 rfl hc k hz.2.2.1 hlink hsame ((zfs_at B S t a k hz.2.2.2.1).trans (congrArg some (zfv_r hz.2.2.2.2))) hdg (kk (hM.wt ha hz.2.2.2.2))
theorem z_getN (hexec : p.tables.exec = Jvm.exec) (hb : c.code = cc) {own ref C : String} {T : u_T} {N index : Nat} {Ts : List Cond} (hts : ∀ w ∈ Ts, w.before args s = true) (hin : ∀ w ∈ u_ws C T N, w ∈ Ts) (hown : s.vm.findClass own = some m.cls) (hK : va_K D vwCl (ztys cy) s) (hM : zMR D cy B S H) {a t : Nat} (ha : zA S a t) (k : Nat) (hc : vwCl[t - 1]? = some (C, T, N)) (hz : t ≠ 0 ∧ t ≤ 12 ∧ k < N ∧ k < zN t ∧ zK t k ≠ 0) (hlink : (Cond.fieldLink own index ref (T k).2.1 (T k).2.2.1).before args s = true) (hsame : ∀ x, s.fieldFound? (T k).1 (T k).2.1 (T k).2.2.1 = some x → s.fieldFound? ref (T k).2.1 (T k).2.2.1 = some x) (hnn : ¬ zr S a k = 0) (hdg : decode cc pc = .ok (.getfield index, 3))
    (kk : zA S (zr S a k) (zK t k) → W p l e R s m args below meth c H locs cells slots Q (F0 m (pc + 3) ls (.ref (B + zr S a k) :: rest))) : W p l e R s m args below meth c H locs cells slots Q (F0 m pc ls (.ref (B + a) :: rest)) :=
  z_getR hexec hb hts hin hown hK hM ha k hc hz hlink hsame hdg (fun h => by rw [zv_ref (Nat.pos_of_ne_zero hnn)]; exact kk (h.nn hnn))
/-- the heap behind a write of one place of one cell -/
theorem zS_put (hS : va_S (fun q => B < q) H0 H locs) {H1 : Heap} {a k : Nat} (ha : 0 < a) (z : H1.size = H.size) (oq : ∀ q : Nat, q ≠ B + a → H1[q]? = H[q]?) : va_S (fun q => B < q) H0 H1 (locs ++ [⟨B + a, k⟩]) := hS.put z oq (by show B < B + a; omega)
theorem z_put (hexec : p.tables.exec = Jvm.exec) (hb : c.code = cc) {own ref C : String} {T : u_T} {N index : Nat} {Ts : List Cond} (hts : ∀ w ∈ Ts, w.before args s = true) (hin : ∀ w ∈ u_ws C T N, w ∈ Ts) (ty0 : Nat → FieldType) (hty : ∀ k, k < N → parseFieldDescriptor (T k).2.2.1 = some (ty0 k)) (hnm : ∀ a, a < N → ∀ b, b < N → a ≠ b → (T a).2.1 ≠ (T b).2.1) (hown : s.vm.findClass own = some m.cls) (hK : va_K D vwCl (ztys cy) s) (hM : zMR D cy B S H) (hS : va_S (fun q => B < q) H0 H locs) {a t : Nat} (ha : zA S a t) (k : Nat) (hc : vwCl[t - 1]? = some (C, T, N)) (hz : t ≠ 0 ∧ t ≤ 12 ∧ k < N ∧ k < zN t) (hlink : (Cond.fieldLink own index ref (T k).2.1 (T k).2.2.1).before args s = true) (hsame : ∀ x, s.fieldFound? (T k).1 (T k).2.1 (T k).2.2.1 = some x → s.fieldFound? ref (T k).2.1 (T k).2.2.1 = some x)
    (hfin : (T k).2.2.2 = false ∨ ((T k).2.2.2 = true ∧ meth.name = "<init>" ∧ (T k).1 = own)) {ty : FieldType} {v : Value} (hd : parseFieldDescriptor (T k).2.2.1 = some ty) (hn : narrow ty v = v) (hfit : fits ty v = true) {S1 : zM} (e1 : zsz S1 = zsz S) (e2 : zty S1 = zty S) (e3 : zln S1 = zln S) (e4 : ∀ x : Nat, x ≠ a → zi S1 x = zi S x ∧ zr S1 x = zr S x ∧ zl S1 x = zl S x) (hfs : zfs B S1 t a = (zfs B S t a).set k v) (hw : zW S1) (hdg : decode cc pc = .ok (.putfield index, 3))
    (kk : ∀ (H1 : Heap) (locs1 : List Loc), zMR D cy B S1 H1 → va_S (fun q => B < q) H0 H1 locs1 → W p l e R s m args below meth c H1 locs1 cells slots Q (F0 m (pc + 3) ls rest)) : W p l e R s m args below meth c H locs cells slots Q (F0 m pc ls (v :: .ref (B + a) :: rest)) := by
  have hap := va_apart (own := own) hts hin ty0 hty hnm hK hc
  obtain ⟨r, h1, cell, q1, q2, q3, q4⟩ := hM.obj ha hz.1 hz.2.1 0 _ rfl
  have hr : r = (C, T, N) := Option.some.inj (h1.symm.trans hc)
  subst hr
  obtain ⟨hSl, hfc, kC, hkC, hkind⟩ := hK.1 (t - 1) _ hc
  obtain ⟨cf, kf, fi, f, hi, hsl⟩ := hSl k hz.2.2.1
  have hst := (u_facts hfc hkC (u_lays hts hin hz.2.2.1) hi).1
  have done : ∀ H1 : Heap, H1[B + a]? = some (cell.setSlot f.slot v) → H1.size = H.size → (∀ q, q ≠ B + a → H1[q]? = H[q]?) → W p l e R s m args below meth c H1 (locs ++ [⟨B + a, f.slot⟩]) cells slots Q (F0 m (pc + 3) ls rest) := fun H1 f1 f2 f3 => by
    refine kk H1 _ (hM.one f2 f3 e1 e2 e3 e4 ?_ hw) (zS_put hS ha.1 f2 f3)
    rw [zE_obj (by rw [e2]; exact ha.2.2) hz.2.1, hfs]
    rw [hsl] at f1
    exact ⟨_, hc, t_OB.to (V := updV (vp_V (zfs B S t a)) k v) ⟨_, f1, q2, q3, t_set q4 hap hz.2.2.1 v⟩ (fun j _ => vp_updV_set (by simpa [zfs] using hz.2.2.2) v j)⟩
  rcases hfin with hfin | ⟨hfin, hinit, hdecl⟩
  · have hlay := hts _ (hin _ (u_in_lay hz.2.2.1))
    unfold u_lay at hlay
    rw [if_neg (by rw [hfin]; decide)] at hlay
    have h6 := u_store hfc hkC hkind hlay hi hd hn hfit
    exact W.putK hexec hb (f := f) ⟨hown, hlink, ⟨_, _, _, hsame _ hi⟩, hst⟩ (by rw [q2]; exact h6) q1 q3 (by rw [hsl]; exact k2_hasslot (q4 k hz.2.2.1)) rfl rfl hdg done
  · have hlay := hts _ (hin _ (u_in_lay hz.2.2.1))
    unfold u_lay at hlay
    rw [if_pos hfin] at hlay
    have hcf : m.cls = cf := by
      obtain ⟨_, _, c', _, _, _, -, -, hf', -, -, -, hown2, -⟩ := Cond.laysFinal_spec hlay
      have e1 : c' = cf := by have := hi.symm.trans hf'; simp at this; exact this.1.symm
      rw [hdecl] at hown2
      rw [← e1]; exact Option.some.inj (hown.symm.trans hown2)
    have h6 := u_fits hfc hkC hkind (Or.inr hlay) hi hd hn hfit
    exact W.putFinK hexec hb hown hlink (hsame _ hi) hst hcf hinit (by rw [q2]; exact h6) q1 q3 (by rw [hsl]; exact k2_hasslot (q4 k hz.2.2.1)) rfl rfl hdg done
theorem z_putI (hexec : p.tables.exec = Jvm.exec) (hb : c.code = cc) {own ref C : String} {T : u_T} {N index : Nat} {Ts : List Cond} (hts : ∀ w ∈ Ts, w.before args s = true) (hin : ∀ w ∈ u_ws C T N, w ∈ Ts) (ty0 : Nat → FieldType) (hty : ∀ k, k < N → parseFieldDescriptor (T k).2.2.1 = some (ty0 k)) (hnm : ∀ a, a < N → ∀ b, b < N → a ≠ b → (T a).2.1 ≠ (T b).2.1) (hown : s.vm.findClass own = some m.cls) (hK : va_K D vwCl (ztys cy) s) (hM : zMR D cy B S H) (hS : va_S (fun q => B < q) H0 H locs) {a t : Nat} (ha : zA S a t) (k : Nat) (hc : vwCl[t - 1]? = some (C, T, N)) (hz : t ≠ 0 ∧ t ≤ 12 ∧ k < N ∧ k < zN t ∧ zK t k = 0) (hlink : (Cond.fieldLink own index ref (T k).2.1 (T k).2.2.1).before args s = true) (hsame : ∀ x, s.fieldFound? (T k).1 (T k).2.1 (T k).2.2.1 = some x → s.fieldFound? ref (T k).2.1 (T k).2.2.1 = some x)
    (hfin : (T k).2.2.2 = false ∨ ((T k).2.2.2 = true ∧ meth.name = "<init>" ∧ (T k).1 = own)) {ty : FieldType} {x : Int32} (hd : parseFieldDescriptor (T k).2.2.1 = some ty) (hn : narrow ty (.int x) = .int x) (hfit : fits ty (.int x) = true) (hdg : decode cc pc = .ok (.putfield index, 3))
    (kk : ∀ (H1 : Heap) (locs1 : List Loc), zMR D cy B (zpI S a k x) H1 → va_S (fun q => B < q) H0 H1 locs1 → W p l e R s m args below meth c H1 locs1 cells slots Q (F0 m (pc + 3) ls rest)) : W p l e R s m args below meth c H locs cells slots Q (F0 m pc ls (.int x :: .ref (B + a) :: rest)) := by
  refine z_put hexec hb hts hin ty0 hty hnm hown hK hM hS ha k hc ⟨hz.1, hz.2.1, hz.2.2.1, hz.2.2.2.1⟩ hlink hsame hfin hd hn hfit (S1 := zpI S a k x) rfl rfl rfl (fun y hy => ⟨funext fun j => ?_, rfl, rfl⟩) (zfs_set hz.2.2.2.1 ?_ (fun j hj => ?_)) (hM.2.2.2.same rfl rfl rfl) hdg kk
  · rw [zi_pI, if_neg (fun h => hy h.1)]
  · rw [zfv_i hz.2.2.2.2, zi_pI, if_pos ⟨rfl, rfl⟩]
  · have e : zi (zpI S a k x) a j = zi S a j := if_neg (fun h => hj h.2)
    unfold zfv
    rw [e]
    rfl
theorem z_putR (hexec : p.tables.exec = Jvm.exec) (hb : c.code = cc) {own ref C : String} {T : u_T} {N index : Nat} {Ts : List Cond} (hts : ∀ w ∈ Ts, w.before args s = true) (hin : ∀ w ∈ u_ws C T N, w ∈ Ts) (ty0 : Nat → FieldType) (hty : ∀ k, k < N → parseFieldDescriptor (T k).2.2.1 = some (ty0 k)) (hnm : ∀ a, a < N → ∀ b, b < N → a ≠ b → (T a).2.1 ≠ (T b).2.1) (hown : s.vm.findClass own = some m.cls) (hK : va_K D vwCl (ztys cy) s) (hM : zMR D cy B S H) (hS : va_S (fun q => B < q) H0 H locs) {a t : Nat} (ha : zA S a t) (k : Nat) (hc : vwCl[t - 1]? = some (C, T, N)) (hz : t ≠ 0 ∧ t ≤ 12 ∧ k < N ∧ k < zN t ∧ zK t k ≠ 0) (hlink : (Cond.fieldLink own index ref (T k).2.1 (T k).2.2.1).before args s = true) (hsame : ∀ x, s.fieldFound? (T k).1 (T k).2.1 (T k).2.2.1 = some x → s.fieldFound? ref (T k).2.1 (T k).2.2.1 = some x)
    (hfin : (T k).2.2.2 = false ∨ ((T k).2.2.2 = true ∧ meth.name = "<init>" ∧ (T k).1 = own)) {ty : FieldType} {r : Nat} {v : Value} (hv : v = zv B r) (hd : parseFieldDescriptor (T k).2.2.1 = some ty) (hty2 : (∃ n, ty = .object n) ∨ ∃ q, ty = .array q) (hr : zQ S r (zK t k)) (hdg : decode cc pc = .ok (.putfield index, 3))
    (kk : ∀ (H1 : Heap) (locs1 : List Loc), zMR D cy B (zpR S a k r) H1 → va_S (fun q => B < q) H0 H1 locs1 → W p l e R s m args below meth c H1 locs1 cells slots Q (F0 m (pc + 3) ls rest)) : W p l e R s m args below meth c H locs cells slots Q (F0 m pc ls (v :: .ref (B + a) :: rest)) := by
  have hrf : v = .null ∨ ∃ q, v = .ref q := by
    subst hv
    rcases Nat.eq_zero_or_pos r with h | h
    · subst h; exact Or.inl rfl
    · exact Or.inr ⟨_, zv_ref h⟩
  have hnf : narrow ty v = v ∧ fits ty v = true := by
    rcases hty2 with ⟨n, rfl⟩ | ⟨q, rfl⟩ <;> rcases hrf with h | ⟨q', h⟩ <;> rw [h] <;> exact ⟨rfl, rfl⟩
  refine z_put hexec hb hts hin ty0 hty hnm hown hK hM hS ha k hc ⟨hz.1, hz.2.1, hz.2.2.1, hz.2.2.2.1⟩ hlink hsame hfin hd hnf.1 hnf.2 (S1 := zpR S a k r) rfl rfl rfl (fun y hy => ⟨rfl, funext fun j => ?_, rfl⟩) (zfs_set hz.2.2.2.1 ?_ (fun j hj => ?_)) (hM.2.2.2.pR ha hr) hdg kk
  · rw [zr_pR, if_neg (fun h => hy h.1)]
  · rw [zfv_r hz.2.2.2.2, zr_pR, if_pos ⟨rfl, rfl⟩, hv]
  · have e : zr (zpR S a k r) a j = zr S a j := if_neg (fun h => hj h.2)
    unfold zfv
    rw [e]
    rfl
end ZR
