/-! rows over that memory: arrays, new cells, arraycopy -/
section ZS
variable {p : Program} {l : Launch} {e : Env} {R : Room} {s : State} {m : MethodId} {args : Array Value} {below : List Frame} {meth : Method} {c : Code} {H : Heap} {locs : List Loc} {cells slots : Nat} {Q : State → Prop}
variable {cc : ByteArray} {pc : Nat} {ls : Array Slot} {rest : List Value} {D : va_G} {cy : Nat → ClassId} {B : Nat} {S : zM} {H0 : Heap}
theorem z_iald (hexec : p.tables.exec = Jvm.exec) (hb : c.code = cc) (hK : va_K D vwCl (ztys cy) s) (hM : zMR D cy B S H) {a : Nat} (ha : zA S a 20) {i : Int32} (hin : ¬ (i < 0 ∨ zln S a ≤ i.toNatClampNeg)) (hdg : decode cc pc = .ok (.iaload, 1))
    (kk : W p l e R s m args below meth c H locs cells slots Q (F0 m (pc + 1) ls (.int (zi S a i.toNatClampNeg) :: rest))) : W p l e R s m args below meth c H locs cells slots Q (F0 m pc ls (.int i :: .ref (B + a) :: rest)) :=
  va_iald hexec hb hK (hM.cell ha (by decide) (zE_20 ha.2.2)) 0 0 rfl rfl hin hdg kk
theorem z_lald (hexec : p.tables.exec = Jvm.exec) (hb : c.code = cc) (hK : va_K D vwCl (ztys cy) s) (hM : zMR D cy B S H) {a : Nat} (ha : zA S a 21) {i : Int32} (hin : ¬ (i < 0 ∨ zln S a ≤ i.toNatClampNeg)) (hdg : decode cc pc = .ok (.laload, 1))
    (kk : W p l e R s m args below meth c H locs cells slots Q (F0 m (pc + 1) ls (.long (zl S a i.toNatClampNeg) :: rest))) : W p l e R s m args below meth c H locs cells slots Q (F0 m pc ls (.int i :: .ref (B + a) :: rest)) :=
  va_lald hexec hb hK (hM.cell ha (by decide) (zE_21 ha.2.2)) 0 1 rfl rfl hin hdg kk
theorem z_zald (hexec : p.tables.exec = Jvm.exec) (hb : c.code = cc) (hK : va_K D vwCl (ztys cy) s) (hM : zMR D cy B S H) {a : Nat} (ha : zA S a 22) {i : Int32} (hin : ¬ (i < 0 ∨ zln S a ≤ i.toNatClampNeg)) (hdg : decode cc pc = .ok (.baload, 1))
    (kk : W p l e R s m args below meth c H locs cells slots Q (F0 m (pc + 1) ls (.int (zi S a i.toNatClampNeg) :: rest))) : W p l e R s m args below meth c H locs cells slots Q (F0 m pc ls (.int i :: .ref (B + a) :: rest)) :=
  va_zald hexec hb hK (hM.cell ha (by decide) (zE_22 ha.2.2)) 0 2 rfl rfl hin hdg kk
theorem z_aald (hexec : p.tables.exec = Jvm.exec) (hb : c.code = cc) (hK : va_K D vwCl (ztys cy) s) (hM : zMR D cy B S H) {a t : Nat} (ha : zA S a t) (ht : 23 ≤ t ∧ t ≤ 25) {C : String} (hty : (ztys cy)[t - 20]? = some (cy t, .object C)) {i : Int32} (hin : ¬ (i < 0 ∨ zln S a ≤ i.toNatClampNeg)) (hdg : decode cc pc = .ok (.aaload, 1))
    (kk : zQ S (zr S a i.toNatClampNeg) (zK t i.toNatClampNeg) → W p l e R s m args below meth c H locs cells slots Q (F0 m (pc + 1) ls (zv B (zr S a i.toNatClampNeg) :: rest))) : W p l e R s m args below meth c H locs cells slots Q (F0 m pc ls (.int i :: .ref (B + a) :: rest)) :=
  va_aldq hexec hb hK (hM.cell ha (by omega) (zE_q ha.2.2 ht.1)) 0 (t - 20) rfl hty hin hdg (kk (hM.wt ha (by
    rcases (show t = 23 ∨ t = 24 ∨ t = 25 by omega) with h | h | h <;> subst h <;> exact Nat.succ_ne_zero _)))
theorem z_alen (hexec : p.tables.exec = Jvm.exec) (hb : c.code = cc) (hK : va_K D vwCl (ztys cy) s) (hM : zMR D cy B S H) {a : Nat} (ha : zA S a 20) (hdg : decode cc pc = .ok (.arraylength, 1))
    (kk : W p l e R s m args below meth c H locs cells slots Q (F0 m (pc + 1) ls (.int (Int32.ofNat (zln S a)) :: rest))) : W p l e R s m args below meth c H locs cells slots Q (F0 m pc ls (.ref (B + a) :: rest)) :=
  va_alen hexec hb hK (hM.cell ha (by decide) (zE_20 ha.2.2)) 0 0 rfl rfl rfl hdg kk
theorem z_iast (hexec : p.tables.exec = Jvm.exec) (hb : c.code = cc) (hK : va_K D vwCl (ztys cy) s) (hM : zMR D cy B S H) (hS : va_S (fun q => B < q) H0 H locs) {a : Nat} (ha : zA S a 20) {i x : Int32} (hin : ¬ (i < 0 ∨ zln S a ≤ i.toNatClampNeg)) (hdg : decode cc pc = .ok (.iastore, 1))
    (kk : ∀ (H1 : Heap) (locs1 : List Loc), zMR D cy B (zpI S a i.toNatClampNeg x) H1 → va_S (fun q => B < q) H0 H1 locs1 → W p l e R s m args below meth c H1 locs1 cells slots Q (F0 m (pc + 1) ls rest)) : W p l e R s m args below meth c H locs cells slots Q (F0 m pc ls (.int x :: .int i :: .ref (B + a) :: rest)) := by
  have hP := hM.cell ha (by decide) (zE_20 ha.2.2) 0 _ rfl
  refine W.iast hexec hb hP ((hK.2 0 _ rfl).1 (zln S a) (fun j => .int (zi S a j))) (fun q => by cases q) (by show ¬ (i < 0 ∨ (arrV _ _ _).slots.size ≤ _); rw [arrV_size]; exact hin) rfl rfl hdg fun H1 e z oq => ?_
  refine kk H1 _ (hM.one z oq rfl rfl rfl (fun y hy => ⟨funext fun j => ?_, rfl, rfl⟩) ?_ (hM.2.2.2.same rfl rfl rfl)) (zS_put hS ha.1 z oq)
  · rw [zi_pI, if_neg (fun h => hy h.1)]
  · rw [zE_20 (show zty (zpI S a i.toNatClampNeg x) a = 20 from ha.2.2)]
    show H1[B + a]? = some (vp_cell _ _)
    rw [e]
    show some ((vp_cell (cy 20) (zln S a, .inl (zi S a))).setSlot _ _) = _
    rw [vp_cell_i, vp_cell_i, arrV_store]
    congr 2
    funext q
    show _ = Value.int (zi (zpI S a i.toNatClampNeg x) a q)
    rw [zi_pI]
    by_cases hq : q = i.toNatClampNeg
    · subst hq; simp [updV]
    · simp [updV, hq]
theorem z_zast (hexec : p.tables.exec = Jvm.exec) (hb : c.code = cc) (hK : va_K D vwCl (ztys cy) s) (hM : zMR D cy B S H) (hS : va_S (fun q => B < q) H0 H locs) {a : Nat} (ha : zA S a 22) {i x : Int32} (hx : narrow .boolean (.int x) = .int x) (hin : ¬ (i < 0 ∨ zln S a ≤ i.toNatClampNeg)) (hdg : decode cc pc = .ok (.bastore, 1))
    (kk : ∀ (H1 : Heap) (locs1 : List Loc), zMR D cy B (zpI S a i.toNatClampNeg x) H1 → va_S (fun q => B < q) H0 H1 locs1 → W p l e R s m args below meth c H1 locs1 cells slots Q (F0 m (pc + 1) ls rest)) : W p l e R s m args below meth c H locs cells slots Q (F0 m pc ls (.int x :: .int i :: .ref (B + a) :: rest)) := by
  have hP := hM.cell ha (by decide) (zE_22 ha.2.2) 0 _ rfl
  refine W.zast hexec hb hP ((hK.2 2 _ rfl).1 (zln S a) (fun j => .int (zi S a j))) (fun q => by cases q) (by show ¬ (i < 0 ∨ (arrV _ _ _).slots.size ≤ _); rw [arrV_size]; exact hin) rfl rfl hdg fun H1 e z oq => ?_
  refine kk H1 _ (hM.one z oq rfl rfl rfl (fun y hy => ⟨funext fun j => ?_, rfl, rfl⟩) ?_ (hM.2.2.2.same rfl rfl rfl)) (zS_put hS ha.1 z oq)
  · rw [zi_pI, if_neg (fun h => hy h.1)]
  · rw [zE_22 (show zty (zpI S a i.toNatClampNeg x) a = 22 from ha.2.2)]
    show H1[B + a]? = some (vp_cell _ _)
    rw [e, hx]
    show some ((vp_cell (cy 22) (zln S a, .inl (zi S a))).setSlot _ _) = _
    rw [vp_cell_i, vp_cell_i, arrV_store]
    congr 2
    funext q
    show _ = Value.int (zi (zpI S a i.toNatClampNeg x) a q)
    rw [zi_pI]
    by_cases hq : q = i.toNatClampNeg
    · subst hq; simp [updV]
    · simp [updV, hq]
theorem z_last (hexec : p.tables.exec = Jvm.exec) (hb : c.code = cc) (hK : va_K D vwCl (ztys cy) s) (hM : zMR D cy B S H) (hS : va_S (fun q => B < q) H0 H locs) {a : Nat} (ha : zA S a 21) {i : Int32} {x : Int64} (hin : ¬ (i < 0 ∨ zln S a ≤ i.toNatClampNeg)) (hdg : decode cc pc = .ok (.lastore, 1))
    (kk : ∀ (H1 : Heap) (locs1 : List Loc), zMR D cy B (zpL S a i.toNatClampNeg x) H1 → va_S (fun q => B < q) H0 H1 locs1 → W p l e R s m args below meth c H1 locs1 cells slots Q (F0 m (pc + 1) ls rest)) : W p l e R s m args below meth c H locs cells slots Q (F0 m pc ls (.long x :: .int i :: .ref (B + a) :: rest)) := by
  have hP := hM.cell ha (by decide) (zE_21 ha.2.2) 0 _ rfl
  refine W.last hexec hb hP ((hK.2 1 _ rfl).1 (zln S a) (fun j => .long (zl S a j))) (fun q => by cases q) (by show ¬ (i < 0 ∨ (arrV _ _ _).slots.size ≤ _); rw [arrV_size]; exact hin) rfl rfl hdg fun H1 e z oq => ?_
  refine kk H1 _ (hM.one z oq rfl rfl rfl (fun y hy => ⟨rfl, rfl, funext fun j => ?_⟩) ?_ (hM.2.2.2.same rfl rfl rfl)) (zS_put hS ha.1 z oq)
  · rw [zl_pL, if_neg (fun h => hy h.1)]
  · rw [zE_21 (show zty (zpL S a i.toNatClampNeg x) a = 21 from ha.2.2)]
    show H1[B + a]? = some (vp_cell _ _)
    rw [e]
    show some ((vp_cell (cy 21) (zln S a, .inr (.inl (zl S a)))).setSlot _ _) = _
    rw [vp_cell_l, vp_cell_l, arrV_store]
    congr 2
    funext q
    show _ = Value.long (zl (zpL S a i.toNatClampNeg x) a q)
    rw [zl_pL]
    by_cases hq : q = i.toNatClampNeg
    · subst hq; simp [updV]
    · simp [updV, hq]
/-- a reference, or null, into a row of references -/
theorem z_aast (hexec : p.tables.exec = Jvm.exec) (hb : c.code = cc) (hK : va_K D vwCl (ztys cy) s) (hM : zMR D cy B S H) (hS : va_S (fun q => B < q) H0 H locs) {a t : Nat} (ha : zA S a t) (ht : 23 ≤ t ∧ t ≤ 25) {q : vw_C} (hty : (ztys cy)[t - 20]? = some (cy t, .object q.1)) {tr : Nat} (hk : ∀ k, zK t k = tr) (htr : tr ≠ 0 ∧ tr ≤ 12) (hc : vwCl[tr - 1]? = some q) {i : Int32} {r : Nat} {v : Value} (hv : v = zv B r) (hr : zQ S r tr) (hin : ¬ (i < 0 ∨ zln S a ≤ i.toNatClampNeg)) (hdg : decode cc pc = .ok (.aastore, 1))
    (kk : ∀ (H1 : Heap) (locs1 : List Loc), zMR D cy B (zpR S a i.toNatClampNeg r) H1 → va_S (fun q => B < q) H0 H1 locs1 → W p l e R s m args below meth c H1 locs1 cells slots Q (F0 m (pc + 1) ls rest)) : W p l e R s m args below meth c H locs cells slots Q (F0 m pc ls (v :: .int i :: .ref (B + a) :: rest)) := by
  subst hv
  have hP := hM.cell ha (by omega) (zE_q ha.2.2 ht.1) 0 _ rfl
  have hlt : i.toNatClampNeg < zln S a := Nat.not_le.mp fun q => hin (Or.inr q)
  have h0 : ¬ i < 0 := fun q => hin (Or.inl q)
  have done : ∀ H1 : Heap, H1[B + a]? = some ((arrV (cy t) (zln S a) (fun j => va_rf (zgO B (zr S a j)))).setSlot i.toNatClampNeg (zv B r)) → H1.size = H.size → (∀ q, q ≠ B + a → H1[q]? = H[q]?) → W p l e R s m args below meth c H1 (locs ++ [⟨B + a, i.toNatClampNeg⟩]) cells slots Q (F0 m (pc + 1) ls rest) := fun H1 e z oq => by
    refine kk H1 _ (hM.one z oq rfl rfl rfl (fun y hy => ⟨rfl, funext fun j => ?_, rfl⟩) ?_ (hM.2.2.2.pR ha (by rw [hk]; exact hr))) (zS_put hS ha.1 z oq)
    · rw [zr_pR, if_neg (fun h => hy h.1)]
    · rw [zE_q (show zty (zpR S a i.toNatClampNeg r) a = t from ha.2.2) ht.1]
      show H1[B + a]? = some (vp_cell _ _)
      rw [e, vp_cell_q, arrV_store]
      congr 2
      funext q
      show _ = va_rf (zgO B (zr (zpR S a i.toNatClampNeg r) a q))
      rw [zr_pR]
      by_cases hq : q = i.toNatClampNeg
      · subst hq; simp [updV, zv]
      · simp [updV, hq]
  rcases Nat.eq_zero_or_pos r with hr0 | hr0
  · subst hr0
    exact va_WaastN (C := q.1) hexec hb hP ((hK.2 (t - 20) _ hty).1 (zln S a) (fun j => va_rf (zgO B (zr S a j)))) (fun h => by cases h) (by show ¬ (i < 0 ∨ (arrV _ _ _).slots.size ≤ _); rw [arrV_size]; exact hin) rfl rfl hdg done
  · have hrA := hr.nn (by omega)
    obtain ⟨r', hr', cellV, g1, g2, g3, -⟩ := hM.obj hrA htr.1 htr.2 0 _ rfl
    have hcls := (hK.1 (tr - 1) q hc).2
    obtain ⟨kA, comp, k1, k2, k3, -⟩ := (hK.2 (t - 20) _ hty).2
    have hcomp : comp = D.1 (tr - 1) := Option.some.inj (k3.symm.trans hcls.1)
    subst hcomp
    obtain ⟨kC, hkC, -⟩ := hcls.2
    rw [zv_ref hr0] at done ⊢
    exact W.aast hexec hb hP (fun q h => by cases h) (fun h => by cases h) k1 k2 rfl hkC ⟨h0, by show _ < (arrV _ _ _).slots.size; rw [arrV_size]; exact hlt⟩ g1 (fun q h => by rw [g3] at h; cases h) (by rw [g2]; exact hkC) (by rw [g2]; exact va_assign hcls) rfl rfl hdg done
/-- a new cell behind all others -/
theorem zMR.new {t n : Nat} {H1 : Heap} (hM : zMR D cy B S H) (hz : H1.size = H.size + 1) (ho : ∀ q : Nat, q < H.size → H1[q]? = H[q]?) (hc : t ≠ 0 → va_at D vwCl (B + zsz S, zE cy B (znw S t n) (zsz S)) H1) : zMR D cy B (znw S t n) H1 := by
  have hx : ∀ x : Nat, x ≠ zsz S → zi (znw S t n) x = zi S x ∧ zr (znw S t n) x = zr S x ∧ zl (znw S t n) x = zl S x ∧ zty (znw S t n) x = zty S x ∧ zln (znw S t n) x = zln S x := fun x hx =>
    ⟨funext fun j => if_neg hx, funext fun j => if_neg hx, funext fun j => if_neg hx, if_neg hx, if_neg hx⟩
  have hty : zty (znw S t n) (zsz S) = t := if_pos rfl
  refine ⟨by rw [hz, hM.1]; rfl, Nat.succ_pos _, fun a h0 ha ht => ?_, fun a h0 ha k hk => ?_⟩
  · by_cases hxa : a = zsz S
    · subst hxa; exact hc (by rw [hty] at ht; exact ht)
    · obtain ⟨f1, f2, f3, f4, f5⟩ := hx a hxa
      have hlt : a < zsz S := by
        have : a < zsz S + 1 := ha
        omega
      have h1 := hM.2.2.1 a h0 hlt (by rw [← f4]; exact ht)
      have : zE cy B (znw S t n) a = zE cy B S a := by
        have g : ∀ t' k, zfv B (znw S t n) t' a k = zfv B S t' a k := fun t' k => by unfold zfv; rw [f1, f2]
        have g2 : ∀ t', zfs B (znw S t n) t' a = zfs B S t' a := fun t' => by unfold zfs; rw [show zfv B (znw S t n) t' a = zfv B S t' a from funext (g t')]
        unfold zE
        rw [f4, f5, f1, f2, f3, g2]
      rw [this]
      exact h1.kept (ho _ (by show B + a < H.size; rw [hM.1]; omega))
  · by_cases hxa : a = zsz S
    · have : zr (znw S t n) a k = 0 := if_pos hxa
      rw [this]; exact zQ_0
    · obtain ⟨f1, f2, f3, f4, f5⟩ := hx a hxa
      have hlt : a < zsz S := by
        have : a < zsz S + 1 := ha
        omega
      rw [f4] at hk ⊢
      rw [f2]
      rcases hM.2.2.2 a h0 hlt k hk with h | h
      · exact Or.inl h
      · refine Or.inr ⟨h.1, Nat.lt_succ_of_lt h.2.1, ?_⟩
        rw [show zty (znw S t n) (zr S a k) = zty S (zr S a k) from if_neg (by have := h.2.1; omega)]
        exact h.2.2
theorem zX_new {t n : Nat} : zX S (znw S t n) := ⟨Nat.le_succ _, fun a ha => ⟨if_neg (by omega), if_neg (by omega)⟩⟩
theorem zA_new {t n : Nat} (hM : zMR D cy B S H) : zA (znw S t n) (zsz S) t := ⟨hM.2.1, Nat.lt_succ_self _, if_pos rfl⟩
theorem zS_new (hS : va_S (fun q => B < q) H0 H locs) {H1 : Heap} (hz : H1.size = H.size + 1) (ho : ∀ q : Nat, q < H.size → H1[q]? = H[q]?) : va_S (fun q => B < q) H0 H1 locs := ⟨Nat.le_trans hS.1 (by omega), fun x h1 h2 => (ho x (Nat.lt_of_lt_of_le h1 hS.1)).trans (hS.2.1 x h1 h2), hS.2.2⟩
theorem z_new (hexec : p.tables.exec = Jvm.exec) (hb : c.code = cc) {own C : String} {T : u_T} {N index : Nat} {Ts : List Cond} (hts : ∀ w ∈ Ts, w.before args s = true) (hin : ∀ w ∈ u_ws C T N, w ∈ Ts) (ty : Nat → FieldType) (hty : ∀ k, k < N → parseFieldDescriptor (T k).2.2.1 = some (ty k)) (hown : s.vm.findClass own = some m.cls) (hcl : (Cond.classLink own index C).before args s = true) (hinst : (Cond.instantiable C N).before args s = true) (hini : (Cond.initialized C).before args s = true)
    (hK : va_K D vwCl (ztys cy) s) (hM : zMR D cy B S H) (hS : va_S (fun q => B < q) H0 H locs) (t : Nat) (hc : vwCl[t - 1]? = some (C, T, N)) (hz : t ≠ 0 ∧ t ≤ 12 ∧ N = zN t) (hdf : ∀ j, j < N → defaultValue (ty j) = if zK t j = 0 then .int 0 else .null) (hcells : cells + 1 ≤ R.cells) (hslots : slots + N ≤ R.slots) (hdg : decode cc pc = .ok (.new index, 3))
    (kk : ∀ (H1 : Heap), zMR D cy B (znw S t 0) H1 → zA (znw S t 0) (zsz S) t → zX S (znw S t 0) → va_S (fun q => B < q) H0 H1 locs →
      W p l e R s m args below meth c H1 locs (cells + 1) (slots + N) Q (F0 m (pc + 3) ls (.ref (B + zsz S) :: rest))) : W p l e R s m args below meth c H locs cells slots Q (F0 m pc ls rest) := by
  have hKn := hK.1 (t - 1) _ hc
  refine W.newcK hexec hb hown hcl hinst hini rfl hdg hcells hslots hKn.2.1 hM.1 fun H1 kC hkC e1 z1 o1 => ?_
  refine kk H1 (hM.new (by rw [z1, hM.1]) (fun q hq => o1 q (by rw [← hM.1]; exact hq)) fun _ => ?_) (zA_new hM) zX_new (zS_new hS (by rw [z1, hM.1]) (fun q hq => o1 q (by rw [← hM.1]; exact hq)))
  rw [zE_obj (show zty (znw S t 0) (zsz S) = t from if_pos rfl) hz.2.1]
  refine ⟨_, hc, (u_born ty hts hin hKn hkC e1 hty).to (fun j hj => ?_)⟩
  show defaultValue (ty j) = _
  rw [hdf j hj]
  show _ = (zfs B (znw S t 0) t (zsz S)).getD j .null
  rw [List.getD_eq_getElem?_getD, zfs_at _ _ _ _ _ (by rw [← hz.2.2]; exact hj)]
  show _ = zfv B (znw S t 0) t (zsz S) j
  have g1 : zi (znw S t 0) (zsz S) j = 0 := if_pos rfl
  have g2 : zr (znw S t 0) (zsz S) j = 0 := if_pos rfl
  unfold zfv
  rw [g1, g2]
  rfl
theorem z_newa (hexec : p.tables.exec = Jvm.exec) (hb : c.code = cc) {atype : ArrayType} (harr : (Cond.arrayClass (newarray.typeOf atype)).before args s = true) (hK : va_K D vwCl (ztys cy) s) (hM : zMR D cy B S H) (hS : va_S (fun q => B < q) H0 H locs) (t : Nat) (ht : 20 ≤ t ∧ t ≤ 22) (hty : (ztys cy)[t - 20]? = some (cy t, newarray.typeOf atype))
    {n : Int32} {N : Nat} (hn : ¬ n < 0) (hN : n.toNatClampNeg = N) (hbytes : N * componentBytes (newarray.typeOf atype) ≤ 536870912) (hcells : cells + 1 ≤ R.cells) (hslots : slots + N ≤ R.slots) (hdg : decode cc pc = .ok (.newarray atype, 2))
    (kk : ∀ (H1 : Heap), zMR D cy B (znw S t N) H1 → zA (znw S t N) (zsz S) t → zX S (znw S t N) → va_S (fun q => B < q) H0 H1 locs →
      W p l e R s m args below meth c H1 locs (cells + 1) (slots + N) Q (F0 m (pc + 2) ls (.ref (B + zsz S) :: rest))) : W p l e R s m args below meth c H locs cells slots Q (F0 m pc ls (.int n :: rest)) := by
  refine va_newaK hexec hb harr rfl hdg rfl hn hN hbytes hcells hslots hM.1 fun H1 cA e1 z1 o1 hAr hNm => ?_
  have hra := (hK.2 (t - 20) _ hty).2
  have hcA : cA = cy t := by
    have h2 : s.vm.findClass ("[" ++ (newarray.typeOf atype).toString) = some (cy t) := by
      cases atype <;> first | exact hra | exact hra
    exact Option.some.inj (hNm.symm.trans h2)
  subst hcA
  refine kk H1 (hM.new (by rw [z1, hM.1]) (fun q hq => o1 q (by rw [← hM.1]; exact hq)) fun _ => ?_) (zA_new hM) zX_new (zS_new hS (by rw [z1, hM.1]) (fun q hq => o1 q (by rw [← hM.1]; exact hq)))
  have hk : zty (znw S t N) (zsz S) = t := if_pos rfl
  have hl : zln (znw S t N) (zsz S) = N := if_pos rfl
  have gi : zi (znw S t N) (zsz S) = fun _ => 0 := funext fun j => if_pos rfl
  have gl : zl (znw S t N) (zsz S) = fun _ => 0 := funext fun j => if_pos rfl
  rcases (show t = 20 ∨ t = 21 ∨ t = 22 by omega) with h | h | h
  · subst h
    have ha : newarray.typeOf atype = .int := (congrArg Prod.snd (Option.some.inj hty)).symm
    rw [zE_20 hk, gi, hl]
    show H1[B + zsz S]? = some (vp_cell _ _)
    rw [e1, ha]; rfl
  · subst h
    have ha : newarray.typeOf atype = .long := (congrArg Prod.snd (Option.some.inj hty)).symm
    rw [zE_21 hk, gl, hl]
    show H1[B + zsz S]? = some (vp_cell _ _)
    rw [e1, ha]; rfl
  · subst h
    have ha : newarray.typeOf atype = .boolean := (congrArg Prod.snd (Option.some.inj hty)).symm
    rw [zE_22 hk, gi, hl]
    show H1[B + zsz S]? = some (vp_cell _ _)
    rw [e1, ha]; rfl
theorem z_anew (hexec : p.tables.exec = Jvm.exec) (hb : c.code = cc) {own C : String} {index : Nat} (hown : s.vm.findClass own = some m.cls) (hclink : (Cond.classLink own index C).before args s = true) (hover : va_AO C s) (hK : va_K D vwCl (ztys cy) s) (hM : zMR D cy B S H) (hS : va_S (fun q => B < q) H0 H locs) (t : Nat) (ht : 23 ≤ t ∧ t ≤ 25) (hty : (ztys cy)[t - 20]? = some (cy t, .object C))
    {n : Int32} {N : Nat} (hn : ¬ n < 0) (hN : n.toNatClampNeg = N) (hbytes : N * 4 ≤ 536870912) (hcells : cells + 1 ≤ R.cells) (hslots : slots + N ≤ R.slots) (hdg : decode cc pc = .ok (.anewarray index, 3))
    (kk : ∀ (H1 : Heap), zMR D cy B (znw S t N) H1 → zA (znw S t N) (zsz S) t → zX S (znw S t N) → va_S (fun q => B < q) H0 H1 locs →
      W p l e R s m args below meth c H1 locs (cells + 1) (slots + N) Q (F0 m (pc + 3) ls (.ref (B + zsz S) :: rest))) : W p l e R s m args below meth c H locs cells slots Q (F0 m pc ls (.int n :: rest)) := by
  subst hN
  refine W.anew hexec hb hown hclink (va_AO.use hover) rfl hdg rfl hn hbytes hcells hslots fun cA kA comp f1 f2 f3 f4 => ?_
  obtain ⟨_, _, _, _, _, hra⟩ := (hK.2 (t - 20) _ hty).2
  have hcA : cA = cy t := Option.some.inj (f1.symm.trans hra)
  subst hcA
  generalize hH1 : H.push ({ cls := cy t, slots := Array.replicate n.toNatClampNeg .null, vm := .none } : Cell) = H1
  have z1 : H1.size = H.size + 1 := by rw [← hH1, Array.size_push]
  have e1 : H1[H.size]? = some (arrV (cy t) n.toNatClampNeg (fun _ => .null)) := by rw [← hH1, Array.getElem?_push_size, ← arrV_new]
  have o1 : ∀ q : Nat, q < H.size → H1[q]? = H[q]? := fun q hq => by rw [← hH1, Array.getElem?_push, if_neg (Nat.ne_of_lt hq)]
  have := kk H1 (hM.new z1 o1 fun _ => ?_) (zA_new hM) zX_new (zS_new hS z1 o1)
  · rw [← hM.1] at this
    exact this
  have hk : zty (znw S t n.toNatClampNeg) (zsz S) = t := if_pos rfl
  have hl : zln (znw S t n.toNatClampNeg) (zsz S) = n.toNatClampNeg := if_pos rfl
  have gr : zr (znw S t n.toNatClampNeg) (zsz S) = fun _ => 0 := funext fun j => if_pos rfl
  rw [zE_q hk ht.1, gr, hl, hM.1] at *
  show H1[B + zsz S]? = some (vp_cell _ _)
  rw [e1]; rfl
theorem z_copy {cc : ByteArray} (hexec : p.tables.exec = Jvm.exec) (hb : c.code = cc) (hml : c.maxLocals = ls.size) {own : String} {index : Nat} (hown : s.vm.findClass own = some m.cls) (hlink : (Cond.methodLink own index arraycopyName).before args s = true) (hnat : (Cond.native arraycopyName).before args s = true) (hstat : (Cond.static arraycopyName).before args s = true) (hini : (Cond.initialized "java/lang/System").before args s = true)
    (hK : va_K D vwCl (ztys cy) s) (hM : zMR D cy B S H) (hS : va_S (fun q => B < q) H0 H locs) {a0 a : Nat} (ha0 : zA S a0 20) (ha : zA S a 20)
    {sp dp n : Int32} (hz : ¬ sp < 0 ∧ ¬ dp < 0 ∧ ¬ n < 0 ∧ sp.toNatClampNeg + n.toNatClampNeg ≤ zln S a0 ∧ dp.toNatClampNeg + n.toNatClampNeg ≤ zln S a)
    (hframes : 1 ≤ R.frames) (hlocals : (rest.map fun v => v.category).sum + (nativeFrameWords "java/lang/System" "arraycopy" 5 + 11) ≤ R.locals) (hdg : decode cc pc = .ok (.invokestatic index, 3))
    (kk : ∀ (H1 : Heap) (locs1 : List Loc), zMR D cy B (zcp S a0 sp.toNatClampNeg a dp.toNatClampNeg n.toNatClampNeg) H1 → va_S (fun q => B < q) H0 H1 locs1 → W p l e R s m args below meth c H1 locs1 cells slots Q (F0 m (pc + 3) ls rest)) : W p l e R s m args below meth c H locs cells slots Q (F0 m pc ls (.int n :: .int dp :: .ref (B + a) :: .int sp :: .ref (B + a0) :: rest)) := by
  obtain ⟨h1, h2, h3, h4, h5⟩ := hz
  have nn : ∀ z : Int32, ¬ z < 0 → z.toInt = (z.toNatClampNeg : Int) := by
    intro z hz
    have hz0 : (0 : Int) ≤ z.toInt := by
      have := Int32.not_lt.mp hz
      simpa using Int32.le_iff_toInt_le.mp this
    show z.toInt = ((z.toInt.toNat : Nat) : Int)
    omega
  intro T hT X
  have hc0 : H[B + a0]? = some (vp_cell (cy 20) (zln S a0, .inl (zi S a0))) := hM.cell ha0 (by decide) (zE_20 ha0.2.2) 0 _ rfl
  have hc1 : H[B + a]? = some (vp_cell (cy 20) (zln S a, .inl (zi S a))) := hM.cell ha (by decide) (zE_20 ha.2.2) 0 _ rfl
  obtain ⟨-, k0, hk0, cm0, hkk0⟩ := (hK.2 0 _ rfl).1 (zln S a0) (fun j => .int (zi S a0 j))
  obtain ⟨-, k1, hk1, cm1, hkk1⟩ := (hK.2 0 _ rfl).1 (zln S a) (fun j => .int (zi S a j))
  obtain ⟨vm', X', step⟩ := X.arraycopy hexec hown hlink hnat hstat hini (src := B + a0) (dst := B + a) (cs := vp_cell (cy 20) (zln S a0, .inl (zi S a0))) (cd := vp_cell (cy 20) (zln S a, .inl (zi S a))) (srcPos := sp) (destPos := dp) (n := n) (by rw [hT]; exact hc0) (by rw [hT]; exact hc1)
    (fun _ h => by cases h) (fun _ h => by cases h) (fun h => by cases h) (fun h => by cases h) hk0 hk1 hkk0 hkk1 (by simp [refKind]) h1 h2 h3
    (by rw [nn sp h1, nn n h3]; show ¬ _ > ((arrV (cy 20) (zln S a0) (fun j => .int (zi S a0 j))).slots.size : Int); rw [arrV_size]; omega)
    (by rw [nn dp h2, nn n h3]; show ¬ _ > ((arrV (cy 20) (zln S a) (fun j => .int (zi S a j))).slots.size : Int); rw [arrV_size]; omega)
    (fun vm₁ _ i hi => by
      have e : (vp_cell (cy 20) (zln S a0, .inl (zi S a0))).slots.getD (sp.toNatClampNeg + i) .null = .int (zi S a0 (sp.toNatClampNeg + i)) := by
        show (arrV (cy 20) (zln S a0) (fun j => .int (zi S a0 j))).slots.getD _ _ = _
        rw [Array.getD_eq_getD_getElem?, arrV_read _ _ (by omega)]
        rfl
      refine ⟨?_, ?_⟩
      · rw [e]
        rfl
      · rw [e]
        exact trivial)
    (g := F0 m pc ls (.int n :: .int dp :: .ref (B + a) :: .int sp :: .ref (B + a0) :: rest)) rfl (by rw [hml]) (rest := rest) rfl (by rw [hb]; exact hdg) hframes (by show 2 * 0 + _ + _ ≤ _; omega)
  have e1 : copied (vp_cell (cy 20) (zln S a0, .inl (zi S a0))) (vp_cell (cy 20) (zln S a, .inl (zi S a))) sp dp n = vp_cell (cy 20) (zln S a, .inl (va_cpy (zi S a0) (zi S a) sp.toNatClampNeg dp.toNatClampNeg n.toNatClampNeg)) := va_copied (fun z => .int z) (cy 20) (cy 20) (zi S a0) (zi S a) h4
  rw [e1] at X' step
  generalize hcell : vp_cell (cy 20) (zln S a, .inl (va_cpy (zi S a0) (zi S a) sp.toNatClampNeg dp.toNatClampNeg n.toNatClampNeg)) = cellN at X' step
  have hl : B + a < H.size := (Array.getElem?_eq_some_iff.mp hc1).1
  have hheap : ((T.setVm vm').setCell (B + a) cellN).heap = H.setIfInBounds (B + a) cellN := by rw [← hT]; rfl
  have oq : ∀ q : Nat, q ≠ B + a → (H.setIfInBounds (B + a) cellN)[q]? = H[q]? := fun q hq => by simp [Array.getElem?_setIfInBounds, Ne.symm hq]
  have hzz : (H.setIfInBounds (B + a) cellN).size = H.size := by simp
  obtain ⟨t, a1, b1⟩ := kk _ _ (hM.one hzz oq (S1 := zcp S a0 sp.toNatClampNeg a dp.toNatClampNeg n.toNatClampNeg) rfl rfl rfl (fun y hy => ⟨funext fun j => if_neg (fun h => hy h.1), rfl, rfl⟩) (by
      rw [zE_20 (show zty (zcp S a0 sp.toNatClampNeg a dp.toNatClampNeg n.toNatClampNeg) a = 20 from ha.2.2)]
      show (H.setIfInBounds (B + a) cellN)[B + a]? = some (vp_cell (cy 20) (zln S a, .inl (zi (zcp S a0 sp.toNatClampNeg a dp.toNatClampNeg n.toNatClampNeg) a)))
      have hf : zi (zcp S a0 sp.toNatClampNeg a dp.toNatClampNeg n.toNatClampNeg) a = va_cpy (zi S a0) (zi S a) sp.toNatClampNeg dp.toNatClampNeg n.toNatClampNeg := funext fun j => by
        show (if a = a ∧ dp.toNatClampNeg ≤ j ∧ j < dp.toNatClampNeg + n.toNatClampNeg then _ else _) = _
        simp only [true_and]
        rfl
      rw [hf, hcell]
      simp [Array.getElem?_setIfInBounds, hl]) (hM.2.2.2.same rfl rfl rfl)) ⟨by rw [hzz]; exact hS.1, fun q g1 g2 => by
      rw [oq q (fun e => g2 (by have := ha.1; rw [e]; show B < B + a; omega))]
      exact hS.2.1 q g1 g2, fun q hq => by
      rcases List.mem_append.mp hq with h | h
      · exact hS.2.2 q h
      · obtain ⟨z, -, hz⟩ := List.mem_map.mp h
        rw [← hz]
        have := ha.1
        show B < B + a
        omega⟩ _ hheap X'
  exact ⟨t, step t a1, b1⟩
end ZS
