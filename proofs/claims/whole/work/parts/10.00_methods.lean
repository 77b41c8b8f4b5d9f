def f_X0L_init (S0 : zM) (a0 : Nat) : zM :=
  zLet (znw S0 20 7) (fun S1 => zLet (zpR S1 a0 0 (zsz S0)) (fun S7 => S7))
set_option maxHeartbeats 4000000 in
set_option maxRecDepth 100000 in
theorem c_X0L_init (l : Launch) (D : va_G) (cy : Nat → ClassId) (B : Nat) {S0 : zM} {a0 : Nat} {S' : zM} (ha0 : zA S0 a0 3) (h : f_X0L_init S0 a0 = S') : Met l yX0_init (zws yX0_init cX0_init 1 none) { frames := 1, cells := 1, slots := 7, locals := 20 } (zPc D cy B S0 [.ref (B + a0)]) (zQv D cy B S0 S') 1 7 (fun q => B < q) := by
  refine Met.ofW (cc := cX0_init) (maxL := 1) (ret := none) (by decide) rfl ?_
  intro p e s m args below meth c s₁ Bd hml hv
  obtain ⟨rfl, hC, hM⟩ := hv
  obtain ⟨hx, hb, hr, hg, hown, hlk⟩ := z_open Bd
  have hK := hC.1
  have hin : meth.name = "<init>" := (name_of_methodNamed Bd.named Bd.method).1
  have hS : va_S (fun q => B < q) s.heap s.heap [] := va_S.rf
  have hX0 : zX S0 S0 := zX.rf
  refine z_entry (vs := [.ref (B + a0)]) (Nat.le_of_ble_eq_true rfl) (fun ls hl => ?_)
  have hl : lv_has ls 1 [(0, .ref (B + a0))] := hl
  unfold f_X0L_init at h
  refine lv_aload_n hx hb dX0_init_0 rfl (lv_at hl 0 rfl) ?_
  refine W.objInit hx hb hown (hg _ zw_192) (hg _ zw_29) (hg _ zw_30) rfl (by rw [hml]; exact hl.1) rfl dX0_init_1 (Nat.le_of_ble_eq_true rfl) (Nat.le_of_ble_eq_true rfl) ?_
  refine W.eq (g2 := F0 m 4 ls []) rfl ?_
  refine lv_aload_n hx hb dX0_init_4 rfl (lv_at hl 0 rfl) ?_
  refine lv_bipush (v := (7 : Int32)) hx hb dX0_init_5 (by decide +kernel) ?_
  refine z_newa (atype := .int) hx hb (hg _ zw_66) hK hM hS 20 (by decide) rfl (N := 7) (by decide +kernel) (by decide +kernel) (by decide +kernel) (Nat.le_of_ble_eq_true rfl) (Nat.le_of_ble_eq_true rfl) dX0_init_7 (fun H hM hA hX hS => ?_)
  obtain ⟨S1, e2, h⟩ := zlg h
  rw [← e2] at hM hA hX
  have hX3 := hX
  have h4 := hA
  have h5 := ha0.mo hX3
  have hX6 := hX0.tr hX3
  refine W.widen (k := 1) (n := 7) (Nat.le_refl _) (Nat.le_refl _) ?_
  refine z_putR (r := (zsz S0)) hx hb hg zin_3 tyX3 tyX3_ok nmX3 hown hK hM hS h5 0 rfl (by decide) (hg _ zw_194) (fun _ h9 => h9) (Or.inr ⟨rfl, hin, rfl⟩) (zv_ref h4.1).symm (tyX3_ok 0 (by decide)) (Or.inr ⟨_, rfl⟩) (h4.q) dX0_init_9 (fun H locs hM hS => ?_)
  obtain ⟨S7, e8, h⟩ := zlg h
  rw [← e8] at hM
  have hX9 : zX S1 S7 := by rw [e8]; exact zX_pR
  have hX10 := hX6.tr hX9
  refine W.widen (k := 1) (n := 7) (by omega) (by omega) ?_
  exact z_vret hx hb hr hlk hM hX10 hS h dX0_init_12
def f_X0O_init (S0 : zM) (a0 : Nat) : zM :=
  zLet (znw S0 20 7) (fun S1 => zLet (zpR S1 a0 0 (zsz S0)) (fun S7 => S7))
set_option maxHeartbeats 4000000 in
set_option maxRecDepth 100000 in
theorem c_X0O_init (l : Launch) (D : va_G) (cy : Nat → ClassId) (B : Nat) {S0 : zM} {a0 : Nat} {S' : zM} (ha0 : zA S0 a0 4) (h : f_X0O_init S0 a0 = S') : Met l yX0_init (zws yX0_init cX0_init 1 none) { frames := 1, cells := 1, slots := 7, locals := 20 } (zPc D cy B S0 [.ref (B + a0)]) (zQv D cy B S0 S') 1 7 (fun q => B < q) := by
  refine Met.ofW (cc := cX0_init) (maxL := 1) (ret := none) (by decide) rfl ?_
  intro p e s m args below meth c s₁ Bd hml hv
  obtain ⟨rfl, hC, hM⟩ := hv
  obtain ⟨hx, hb, hr, hg, hown, hlk⟩ := z_open Bd
  have hK := hC.1
  have hin : meth.name = "<init>" := (name_of_methodNamed Bd.named Bd.method).1
  have hS : va_S (fun q => B < q) s.heap s.heap [] := va_S.rf
  have hX0 : zX S0 S0 := zX.rf
  refine z_entry (vs := [.ref (B + a0)]) (Nat.le_of_ble_eq_true rfl) (fun ls hl => ?_)
  have hl : lv_has ls 1 [(0, .ref (B + a0))] := hl
  unfold f_X0O_init at h
  refine lv_aload_n hx hb dX0_init_0 rfl (lv_at hl 0 rfl) ?_
  refine W.objInit hx hb hown (hg _ zw_192) (hg _ zw_29) (hg _ zw_30) rfl (by rw [hml]; exact hl.1) rfl dX0_init_1 (Nat.le_of_ble_eq_true rfl) (Nat.le_of_ble_eq_true rfl) ?_
  refine W.eq (g2 := F0 m 4 ls []) rfl ?_
  refine lv_aload_n hx hb dX0_init_4 rfl (lv_at hl 0 rfl) ?_
  refine lv_bipush (v := (7 : Int32)) hx hb dX0_init_5 (by decide +kernel) ?_
  refine z_newa (atype := .int) hx hb (hg _ zw_66) hK hM hS 20 (by decide) rfl (N := 7) (by decide +kernel) (by decide +kernel) (by decide +kernel) (Nat.le_of_ble_eq_true rfl) (Nat.le_of_ble_eq_true rfl) dX0_init_7 (fun H hM hA hX hS => ?_)
  obtain ⟨S1, e2, h⟩ := zlg h
  rw [← e2] at hM hA hX
  have hX3 := hX
  have h4 := hA
  have h5 := ha0.mo hX3
  have hX6 := hX0.tr hX3
  refine W.widen (k := 1) (n := 7) (Nat.le_refl _) (Nat.le_refl _) ?_
  refine z_putR (r := (zsz S0)) hx hb hg zin_4 tyX4 tyX4_ok nmX4 hown hK hM hS h5 0 rfl (by decide) (hg _ zw_194) (fun _ h9 => h9) (Or.inr ⟨rfl, hin, rfl⟩) (zv_ref h4.1).symm (tyX4_ok 0 (by decide)) (Or.inr ⟨_, rfl⟩) (h4.q) dX0_init_9 (fun H locs hM hS => ?_)
  obtain ⟨S7, e8, h⟩ := zlg h
  rw [← e8] at hM
  have hX9 : zX S1 S7 := by rw [e8]; exact zX_pR
  have hX10 := hX6.tr hX9
  refine W.widen (k := 1) (n := 7) (by omega) (by omega) ?_
  exact z_vret hx hb hr hlk hM hX10 hS h dX0_init_12
def f_X11_within (v0 : Int32) (v1 : Int32) : Int32 :=
  if v0 < 0 then (0 : Int32) else if v1 ≤ v0 then (0 : Int32) else (1 : Int32)
set_option maxHeartbeats 4000000 in
set_option maxRecDepth 100000 in
theorem c_X11_within (l : Launch) (D : va_G) (cy : Nat → ClassId) (B : Nat) {S0 : zM} {v0 : Int32} {v1 : Int32} {r : Int32}  (h : f_X11_within v0 v1 = r) : Met l yX11_within (zws yX11_within cX11_within 2 ((some .boolean))) { frames := 0, cells := 0, slots := 0, locals := 0 } (zPc D cy B S0 [.int v0, .int v1]) (zQi D cy B S0 r S0) 0 0 (fun q => B < q) := by
  refine Met.ofW (cc := cX11_within) (maxL := 2) (ret := ((some .boolean))) (by decide) rfl ?_
  intro p e s m args below meth c s₁ Bd hml hv
  obtain ⟨rfl, hC, hM⟩ := hv
  obtain ⟨hx, hb, hr, hg, hown, hlk⟩ := z_open Bd
  have hK := hC.1
  have hS : va_S (fun q => B < q) s.heap s.heap [] := va_S.rf
  have hX0 : zX S0 S0 := zX.rf
  refine z_entry (vs := [.int v0, .int v1]) (Nat.le_of_ble_eq_true rfl) (fun ls hl => ?_)
  have hl : lv_has ls 2 [(0, .int v0), (1, .int v1)] := hl
  unfold f_X11_within at h
  refine lv_iload_n hx hb dX11_within_0 rfl (lv_at hl 0 rfl) ?_
  refine lv_if_lt (tgt := 13) hx hb dX11_within_1 (by decide) (fun hc1 => ?_) (fun hc1 => ?_)
  · have h := zt h hc1
    refine lv_iconst (v := (0 : Int32)) hx hb dX11_within_13 (by decide +kernel) ?_
    exact z_zret (by decide +kernel) hx hb hr hlk hM hX0 hS ⟨h, rfl⟩ dX11_within_14
  · have h := zf h hc1
    refine lv_iload_n hx hb dX11_within_4 rfl (lv_at hl 0 rfl) ?_
    refine lv_iload_n hx hb dX11_within_5 rfl (lv_at hl 1 rfl) ?_
    refine lv_icmp_ge (tgt := 13) hx hb dX11_within_6 (by decide) (fun hc2 => ?_) (fun hc2 => ?_)
    · have h := zt h hc2
      refine lv_iconst (v := (0 : Int32)) hx hb dX11_within_13 (by decide +kernel) ?_
      exact z_zret (by decide +kernel) hx hb hr hlk hM hX0 hS ⟨h, rfl⟩ dX11_within_14
    · have h := zf h hc2
      refine lv_iconst (v := (1 : Int32)) hx hb dX11_within_9 (by decide +kernel) ?_
      refine lv_goto (tgt := 14) hx hb dX11_within_10 (by decide) ?_
      exact z_zret (by decide +kernel) hx hb hr hlk hM hX0 hS ⟨h, rfl⟩ dX11_within_14
def f_X3_leansTo (S0 : zM) (a0 : Nat) (v1 : Int32) (v2 : Int32) : Option (Int32) :=
  zLet (f_X11_within v1 (12 : Int32)) (fun r2 => if r2 = 0 then some (0 : Int32) else zLet (f_X11_within v2 (6 : Int32)) (fun r7 => if r7 = 0 then some (0 : Int32) else zChk (¬ (zr S0 a0 5) = 0) (zChk (¬ (((v1 * (6 : Int32)) + v2) < 0 ∨ zln S0 (zr S0 a0 5) ≤ (((v1 * (6 : Int32)) + v2)).toNatClampNeg)) (if (zi S0 (zr S0 a0 5) (Int32.toNatClampNeg ((v1 * (6 : Int32)) + v2))) ≤ 0 then some (0 : Int32) else some (1 : Int32)))))
set_option maxHeartbeats 4000000 in
set_option maxRecDepth 100000 in
theorem c_X3_leansTo (l : Launch) (D : va_G) (cy : Nat → ClassId) (B : Nat) {S0 : zM} {a0 : Nat} {v1 : Int32} {v2 : Int32} {r : Int32} (ha0 : zA S0 a0 3) (h : f_X3_leansTo S0 a0 v1 v2 = some r) : Met l yX3_leansTo (zws yX3_leansTo cX3_leansTo 3 ((some .boolean))) { frames := 1, cells := 0, slots := 0, locals := 21 } (zPc D cy B S0 [.ref (B + a0), .int v1, .int v2]) (zQi D cy B S0 r S0) 0 0 (fun q => B < q) := by
  refine Met.ofW (cc := cX3_leansTo) (maxL := 3) (ret := ((some .boolean))) (by decide) rfl ?_
  intro p e s m args below meth c s₁ Bd hml hv
  obtain ⟨rfl, hC, hM⟩ := hv
  obtain ⟨hx, hb, hr, hg, hown, hlk⟩ := z_open Bd
  have hK := hC.1
  have hS : va_S (fun q => B < q) s.heap s.heap [] := va_S.rf
  have hX0 : zX S0 S0 := zX.rf
  refine z_entry (vs := [.ref (B + a0), .int v1, .int v2]) (Nat.le_of_ble_eq_true rfl) (fun ls hl => ?_)
  have hl : lv_has ls 3 [(0, .ref (B + a0)), (1, .int v1), (2, .int v2)] := hl
  unfold f_X3_leansTo at h
  refine lv_iload_n hx hb dX3_leansTo_0 rfl (lv_at hl 1 rfl) ?_
  refine lv_bipush (v := (12 : Int32)) hx hb dX3_leansTo_1 (by decide +kernel) ?_
  obtain ⟨r2, hr1, h⟩ := zlg h
  have hr1 := hr1.symm
  refine z_runi (va_runSN (As := [.int v1, .int (12 : Int32)]) (rest := []) ⟨hx, hb, hml, hown, hg⟩ (c_X11_within l D cy B hr1) ⟨z_cnB hg hC (List.mem_of_getElem? (i := 15) rfl) zw_2 zw_292 zh_X11_within.2 ⟨(Nat.le_of_ble_eq_true rfl), (Nat.le_of_ble_eq_true rfl)⟩, hg _ zw_291, trivial⟩ (zPS hC hM) rfl rfl hl.1 rfl (lv_room (Nat.le_of_ble_eq_true rfl)) dX3_leansTo_3 ⟨(Nat.le_of_ble_eq_true rfl), (Nat.le_of_ble_eq_true rfl)⟩) hS (fun H locs hM hX3 hS => ?_)
  refine lv_if_eq (tgt := 36) hx hb dX3_leansTo_6 (by decide) (fun hc5 => ?_) (fun hc5 => ?_)
  · have h := zt h hc5
    refine lv_iconst (v := (0 : Int32)) hx hb dX3_leansTo_36 (by decide +kernel) ?_
    exact z_zret (by decide +kernel) hx hb hr hlk hM hX0 hS ⟨zsm h, rfl⟩ dX3_leansTo_37
  · have h := zf h hc5
    refine lv_iload_n hx hb dX3_leansTo_9 rfl (lv_at hl 2 rfl) ?_
    refine lv_bipush (v := (6 : Int32)) hx hb dX3_leansTo_10 (by decide +kernel) ?_
    obtain ⟨r7, hr6, h⟩ := zlg h
    have hr6 := hr6.symm
    refine z_runi (va_runSN (As := [.int v2, .int (6 : Int32)]) (rest := []) ⟨hx, hb, hml, hown, hg⟩ (c_X11_within l D cy B hr6) ⟨z_cnB hg hC (List.mem_of_getElem? (i := 15) rfl) zw_2 zw_292 zh_X11_within.2 ⟨(Nat.le_of_ble_eq_true rfl), (Nat.le_of_ble_eq_true rfl)⟩, hg _ zw_291, trivial⟩ (zPS hC hM) rfl rfl hl.1 rfl (lv_room (Nat.le_of_ble_eq_true rfl)) dX3_leansTo_12 ⟨(Nat.le_of_ble_eq_true rfl), (Nat.le_of_ble_eq_true rfl)⟩) hS (fun H locs hM hX8 hS => ?_)
    refine lv_if_eq (tgt := 36) hx hb dX3_leansTo_15 (by decide) (fun hc10 => ?_) (fun hc10 => ?_)
    · have h := zt h hc10
      refine lv_iconst (v := (0 : Int32)) hx hb dX3_leansTo_36 (by decide +kernel) ?_
      exact z_zret (by decide +kernel) hx hb hr hlk hM hX0 hS ⟨zsm h, rfl⟩ dX3_leansTo_37
    · have h := zf h hc10
      refine lv_aload_n hx hb dX3_leansTo_18 rfl (lv_at hl 0 rfl) ?_
      obtain ⟨hq12, h⟩ := zk h
      refine z_getN hx hb hg zin_3 hown hK hM ha0 5 rfl (by decide) (hg _ zw_215) (fun _ h9 => h9) hq12 dX3_leansTo_19 (fun h11 => ?_)
      refine lv_iload_n hx hb dX3_leansTo_22 rfl (lv_at hl 1 rfl) ?_
      refine lv_bipush (v := (6 : Int32)) hx hb dX3_leansTo_23 (by decide +kernel) ?_
      refine lv_imul hx hb dX3_leansTo_25 ?_
      refine lv_iload_n hx hb dX3_leansTo_26 rfl (lv_at hl 2 rfl) ?_
      refine lv_iadd hx hb dX3_leansTo_27 ?_
      obtain ⟨hq13, h⟩ := zk h
      refine z_iald hx hb hK hM h11 hq13 dX3_leansTo_28 ?_
      refine lv_if_le (tgt := 36) hx hb dX3_leansTo_29 (by decide) (fun hc14 => ?_) (fun hc14 => ?_)
      · have h := zt h hc14
        refine lv_iconst (v := (0 : Int32)) hx hb dX3_leansTo_36 (by decide +kernel) ?_
        exact z_zret (by decide +kernel) hx hb hr hlk hM hX0 hS ⟨zsm h, rfl⟩ dX3_leansTo_37
      · have h := zf h hc14
        refine lv_iconst (v := (1 : Int32)) hx hb dX3_leansTo_32 (by decide +kernel) ?_
        refine lv_goto (tgt := 37) hx hb dX3_leansTo_33 (by decide) ?_
        exact z_zret (by decide +kernel) hx hb hr hlk hM hX0 hS ⟨zsm h, rfl⟩ dX3_leansTo_37
def f_X3_between (S0 : zM) (a0 : Nat) (v1 : Int32) (v2 : Int32) (v3 : Int32) (v4 : Int32) : Option (Int32) :=
  zLet (f_X11_within v2 (12 : Int32)) (fun r2 => if r2 = 0 then some (0 : Int32) else zLet (f_X11_within v4 (12 : Int32)) (fun r7 => if r7 = 0 then some (0 : Int32) else zLet (f_X11_within v1 (12 : Int32)) (fun r12 => if r12 = 0 then some (0 : Int32) else zLet (f_X11_within v3 (12 : Int32)) (fun r17 => if r17 = 0 then some (0 : Int32) else zChk (¬ (zr S0 a0 3) = 0) (zChk (¬ (v2 < 0 ∨ zln S0 (zr S0 a0 3) ≤ (v2).toNatClampNeg)) (zChk (¬ (v4 < 0 ∨ zln S0 (zr S0 a0 3) ≤ (v4).toNatClampNeg)) (zChk (¬ (zr S0 a0 4) = 0) (zChk (¬ (v1 < 0 ∨ zln S0 (zr S0 a0 4) ≤ (v1).toNatClampNeg)) (zChk (¬ (v3 < 0 ∨ zln S0 (zr S0 a0 4) ≤ (v3).toNatClampNeg)) (zLet (fun (x32 : Int32) => zB1 (f_X3_leansTo S0 a0 v1 (zi S0 (zr S0 a0 3) (Int32.toNatClampNeg v4))) (fun r36 => zLet (fun (x39 : Int32) => if x32 = 0 then some (0 : Int32) else if (zi S0 (zr S0 a0 3) (Int32.toNatClampNeg v2)) = (zi S0 (zr S0 a0 3) (Int32.toNatClampNeg v4)) then some (0 : Int32) else if x39 = 0 then some (0 : Int32) else some (1 : Int32)) (fun K41 => zLet (K41 (0 : Int32)) (fun K46 => if r36 = 0 then K46 else zB1 (f_X3_leansTo S0 a0 v3 (zi S0 (zr S0 a0 3) (Int32.toNatClampNeg v2))) (fun r49 => if r49 = 0 then K46 else K41 (1 : Int32)))))) (fun K34 => if ((zi S0 (zr S0 a0 4) (Int32.toNatClampNeg v1)) &&& (zi S0 (zr S0 a0 4) (Int32.toNatClampNeg v3))) = 0 then K34 (1 : Int32) else K34 (0 : Int32))))))))))))
set_option maxHeartbeats 4000000 in
set_option maxRecDepth 100000 in
theorem c_X3_between (l : Launch) (D : va_G) (cy : Nat → ClassId) (B : Nat) {S0 : zM} {a0 : Nat} {v1 : Int32} {v2 : Int32} {v3 : Int32} {v4 : Int32} {r : Int32} (ha0 : zA S0 a0 3) (h : f_X3_between S0 a0 v1 v2 v3 v4 = some r) : Met l yX3_between (zws yX3_between cX3_between 9 ((some .int))) { frames := 2, cells := 0, slots := 0, locals := 43 } (zPc D cy B S0 [.ref (B + a0), .int v1, .int v2, .int v3, .int v4]) (zQi D cy B S0 r S0) 0 0 (fun q => B < q) := by
  refine Met.ofW (cc := cX3_between) (maxL := 9) (ret := ((some .int))) (by decide) rfl ?_
  intro p e s m args below meth c s₁ Bd hml hv
  obtain ⟨rfl, hC, hM⟩ := hv
  obtain ⟨hx, hb, hr, hg, hown, hlk⟩ := z_open Bd
  have hK := hC.1
  have hS : va_S (fun q => B < q) s.heap s.heap [] := va_S.rf
  have hX0 : zX S0 S0 := zX.rf
  refine z_entry (vs := [.ref (B + a0), .int v1, .int v2, .int v3, .int v4]) (Nat.le_of_ble_eq_true rfl) (fun ls hl => ?_)
  have hl : lv_has ls 9 [(0, .ref (B + a0)), (1, .int v1), (2, .int v2), (3, .int v3), (4, .int v4)] := hl
  unfold f_X3_between at h
  refine lv_iload_n hx hb dX3_between_0 rfl (lv_at hl 2 rfl) ?_
  refine lv_bipush (v := (12 : Int32)) hx hb dX3_between_1 (by decide +kernel) ?_
  obtain ⟨r2, hr1, h⟩ := zlg h
  have hr1 := hr1.symm
  refine z_runi (va_runSN (As := [.int v2, .int (12 : Int32)]) (rest := []) ⟨hx, hb, hml, hown, hg⟩ (c_X11_within l D cy B hr1) ⟨z_cnB hg hC (List.mem_of_getElem? (i := 15) rfl) zw_2 zw_292 zh_X11_within.2 ⟨(Nat.le_of_ble_eq_true rfl), (Nat.le_of_ble_eq_true rfl)⟩, hg _ zw_291, trivial⟩ (zPS hC hM) rfl rfl hl.1 rfl (lv_room (Nat.le_of_ble_eq_true rfl)) dX3_between_3 ⟨(Nat.le_of_ble_eq_true rfl), (Nat.le_of_ble_eq_true rfl)⟩) hS (fun H locs hM hX3 hS => ?_)
  refine lv_if_eq (tgt := 37) hx hb dX3_between_6 (by decide) (fun hc5 => ?_) (fun hc5 => ?_)
  · have h := zt h hc5
    refine lv_iconst (v := (0 : Int32)) hx hb dX3_between_37 (by decide +kernel) ?_
    exact z_iret hx hb hr hlk hM hX0 hS ⟨zsm h, rfl⟩ dX3_between_38
  · have h := zf h hc5
    refine lv_iload hx hb dX3_between_9 (lv_at hl 4 rfl) ?_
    refine lv_bipush (v := (12 : Int32)) hx hb dX3_between_11 (by decide +kernel) ?_
    obtain ⟨r7, hr6, h⟩ := zlg h
    have hr6 := hr6.symm
    refine z_runi (va_runSN (As := [.int v4, .int (12 : Int32)]) (rest := []) ⟨hx, hb, hml, hown, hg⟩ (c_X11_within l D cy B hr6) ⟨z_cnB hg hC (List.mem_of_getElem? (i := 15) rfl) zw_2 zw_292 zh_X11_within.2 ⟨(Nat.le_of_ble_eq_true rfl), (Nat.le_of_ble_eq_true rfl)⟩, hg _ zw_291, trivial⟩ (zPS hC hM) rfl rfl hl.1 rfl (lv_room (Nat.le_of_ble_eq_true rfl)) dX3_between_13 ⟨(Nat.le_of_ble_eq_true rfl), (Nat.le_of_ble_eq_true rfl)⟩) hS (fun H locs hM hX8 hS => ?_)
    refine lv_if_eq (tgt := 37) hx hb dX3_between_16 (by decide) (fun hc10 => ?_) (fun hc10 => ?_)
    · have h := zt h hc10
      refine lv_iconst (v := (0 : Int32)) hx hb dX3_between_37 (by decide +kernel) ?_
      exact z_iret hx hb hr hlk hM hX0 hS ⟨zsm h, rfl⟩ dX3_between_38
    · have h := zf h hc10
      refine lv_iload_n hx hb dX3_between_19 rfl (lv_at hl 1 rfl) ?_
      refine lv_bipush (v := (12 : Int32)) hx hb dX3_between_20 (by decide +kernel) ?_
      obtain ⟨r12, hr11, h⟩ := zlg h
      have hr11 := hr11.symm
      refine z_runi (va_runSN (As := [.int v1, .int (12 : Int32)]) (rest := []) ⟨hx, hb, hml, hown, hg⟩ (c_X11_within l D cy B hr11) ⟨z_cnB hg hC (List.mem_of_getElem? (i := 15) rfl) zw_2 zw_292 zh_X11_within.2 ⟨(Nat.le_of_ble_eq_true rfl), (Nat.le_of_ble_eq_true rfl)⟩, hg _ zw_291, trivial⟩ (zPS hC hM) rfl rfl hl.1 rfl (lv_room (Nat.le_of_ble_eq_true rfl)) dX3_between_22 ⟨(Nat.le_of_ble_eq_true rfl), (Nat.le_of_ble_eq_true rfl)⟩) hS (fun H locs hM hX13 hS => ?_)
      refine lv_if_eq (tgt := 37) hx hb dX3_between_25 (by decide) (fun hc15 => ?_) (fun hc15 => ?_)
      · have h := zt h hc15
        refine lv_iconst (v := (0 : Int32)) hx hb dX3_between_37 (by decide +kernel) ?_
        exact z_iret hx hb hr hlk hM hX0 hS ⟨zsm h, rfl⟩ dX3_between_38
      · have h := zf h hc15
        refine lv_iload_n hx hb dX3_between_28 rfl (lv_at hl 3 rfl) ?_
        refine lv_bipush (v := (12 : Int32)) hx hb dX3_between_29 (by decide +kernel) ?_
        obtain ⟨r17, hr16, h⟩ := zlg h
        have hr16 := hr16.symm
        refine z_runi (va_runSN (As := [.int v3, .int (12 : Int32)]) (rest := []) ⟨hx, hb, hml, hown, hg⟩ (c_X11_within l D cy B hr16) ⟨z_cnB hg hC (List.mem_of_getElem? (i := 15) rfl) zw_2 zw_292 zh_X11_within.2 ⟨(Nat.le_of_ble_eq_true rfl), (Nat.le_of_ble_eq_true rfl)⟩, hg _ zw_291, trivial⟩ (zPS hC hM) rfl rfl hl.1 rfl (lv_room (Nat.le_of_ble_eq_true rfl)) dX3_between_31 ⟨(Nat.le_of_ble_eq_true rfl), (Nat.le_of_ble_eq_true rfl)⟩) hS (fun H locs hM hX18 hS => ?_)
        refine lv_if_ne (tgt := 39) hx hb dX3_between_34 (by decide) (fun hc20 => ?_) (fun hc20 => ?_)
        · have h := zf h hc20
          refine lv_aload_n hx hb dX3_between_39 rfl (lv_at hl 0 rfl) ?_
          obtain ⟨hq22, h⟩ := zk h
          refine z_getN hx hb hg zin_3 hown hK hM ha0 3 rfl (by decide) (hg _ zw_213) (fun _ h9 => h9) hq22 dX3_between_40 (fun h21 => ?_)
          refine lv_iload_n hx hb dX3_between_43 rfl (lv_at hl 2 rfl) ?_
          obtain ⟨hq23, h⟩ := zk h
          refine z_iald hx hb hK hM h21 hq23 dX3_between_44 ?_
          refine lv_istore (i := 5) (lv' := [(5, .int (zi S0 (zr S0 a0 3) (Int32.toNatClampNeg v2))), (0, .ref (B + a0)), (1, .int v1), (2, .int v2), (3, .int v3), (4, .int v4)]) hx hb dX3_between_45 hl (by decide) rfl (fun ls hl => ?_)
          refine lv_aload_n hx hb dX3_between_47 rfl (lv_at hl 1 rfl) ?_
          refine z_getN hx hb hg zin_3 hown hK hM ha0 3 rfl (by decide) (hg _ zw_213) (fun _ h9 => h9) h21.ne dX3_between_48 (fun h24 => ?_)
          refine lv_iload hx hb dX3_between_51 (lv_at hl 5 rfl) ?_
          obtain ⟨hq25, h⟩ := zk h
          refine z_iald hx hb hK hM h24 hq25 dX3_between_53 ?_
          refine lv_istore (i := 6) (lv' := [(6, .int (zi S0 (zr S0 a0 3) (Int32.toNatClampNeg v4))), (5, .int (zi S0 (zr S0 a0 3) (Int32.toNatClampNeg v2))), (0, .ref (B + a0)), (1, .int v1), (2, .int v2), (3, .int v3), (4, .int v4)]) hx hb dX3_between_54 hl (by decide) rfl (fun ls hl => ?_)
          refine lv_aload_n hx hb dX3_between_56 rfl (lv_at hl 2 rfl) ?_
          obtain ⟨hq27, h⟩ := zk h
          refine z_getN hx hb hg zin_3 hown hK hM ha0 4 rfl (by decide) (hg _ zw_214) (fun _ h9 => h9) hq27 dX3_between_57 (fun h26 => ?_)
          refine lv_iload_n hx hb dX3_between_60 rfl (lv_at hl 3 rfl) ?_
          obtain ⟨hq28, h⟩ := zk h
          refine z_iald hx hb hK hM h26 hq28 dX3_between_61 ?_
          refine lv_aload_n hx hb dX3_between_62 rfl (lv_at hl 2 rfl) ?_
          refine z_getN hx hb hg zin_3 hown hK hM ha0 4 rfl (by decide) (hg _ zw_214) (fun _ h9 => h9) h26.ne dX3_between_63 (fun h29 => ?_)
          refine lv_iload_n hx hb dX3_between_66 rfl (lv_at hl 5 rfl) ?_
          obtain ⟨hq30, h⟩ := zk h
          refine z_iald hx hb hK hM h29 hq30 dX3_between_67 ?_
          refine lv_iand hx hb dX3_between_68 ?_
          obtain ⟨K34, eK34, h⟩ := zlg h
          have hK34 : ∀ (x32 : Int32) (H : Heap) (locs : List Loc), zMR D cy B S0 H → zX S0 S0 → va_S (fun q => B < q) s.heap H locs → zA S0 a0 3 → ∀ ls : Array Slot, lv_has ls 9 [(0, .ref (B + a0)), (1, .int v1), (3, .int v3), (5, .int (zi S0 (zr S0 a0 3) (Int32.toNatClampNeg v2))), (6, .int (zi S0 (zr S0 a0 3) (Int32.toNatClampNeg v4)))] → K34 x32 = some r → W p l e (headSpec (zws yX3_between cX3_between 9 ((some .int))) { frames := 2, cells := 0, slots := 0, locals := 43 }).room s m (([.ref (B + a0), .int v1, .int v2, .int v3, .int v4] : List Value).toArray) below meth c H locs 0 0 (MQ below (zQi D cy B S0 r S0) (([.ref (B + a0), .int v1, .int v2, .int v3, .int v4] : List Value).toArray) s 0 0 (fun q => B < q)) (F0 m 77 ls [.int x32]) := by
            intro x32 H locs hM hX33 hS h31 ls hl h
            rw [eK34] at h
            refine lv_istore (i := 7) (lv' := [(7, .int x32), (0, .ref (B + a0)), (1, .int v1), (3, .int v3), (5, .int (zi S0 (zr S0 a0 3) (Int32.toNatClampNeg v2))), (6, .int (zi S0 (zr S0 a0 3) (Int32.toNatClampNeg v4)))]) hx hb dX3_between_77 hl (by decide) rfl (fun ls hl => ?_)
            refine lv_aload_n hx hb dX3_between_79 rfl (lv_at hl 1 rfl) ?_
            refine lv_iload_n hx hb dX3_between_80 rfl (lv_at hl 2 rfl) ?_
            refine lv_iload hx hb dX3_between_81 (lv_at hl 5 rfl) ?_
            obtain ⟨r36, hr35, h⟩ := zb1 h
            refine z_runi (va_runV (As := [.int v1, .int (zi S0 (zr S0 a0 3) (Int32.toNatClampNeg v4))]) (rest := []) ⟨hx, hb, hml, hown, hg⟩ (c_X3_leansTo l D cy B h31 hr35) (z_cwV hg zw_715 zw_716 zw_1480 zw_10 zw_717 zh_X3_leansTo ⟨(Nat.le_of_ble_eq_true rfl), (Nat.le_of_ble_eq_true rfl)⟩) (zPV hC hM h31 (by decide) rfl) rfl rfl hl.1 rfl (lv_room (Nat.le_of_ble_eq_true rfl)) dX3_between_83 ⟨(Nat.le_of_ble_eq_true rfl), (Nat.le_of_ble_eq_true rfl)⟩) hS (fun H locs hM hX37 hS => ?_)
            obtain ⟨K41, eK41, h⟩ := zlg h
            have hK41 : ∀ (x39 : Int32) (H : Heap) (locs : List Loc), zMR D cy B S0 H → zX S0 S0 → va_S (fun q => B < q) s.heap H locs → ∀ ls : Array Slot, lv_has ls 9 [(5, .int (zi S0 (zr S0 a0 3) (Int32.toNatClampNeg v2))), (6, .int (zi S0 (zr S0 a0 3) (Int32.toNatClampNeg v4))), (7, .int x32)] → K41 x39 = some r → W p l e (headSpec (zws yX3_between cX3_between 9 ((some .int))) { frames := 2, cells := 0, slots := 0, locals := 43 }).room s m (([.ref (B + a0), .int v1, .int v2, .int v3, .int v4] : List Value).toArray) below meth c H locs 0 0 (MQ below (zQi D cy B S0 r S0) (([.ref (B + a0), .int v1, .int v2, .int v3, .int v4] : List Value).toArray) s 0 0 (fun q => B < q)) (F0 m 104 ls [.int x39]) := by
              intro x39 H locs hM hX40 hS ls hl h
              rw [eK41] at h
              refine lv_istore (i := 8) (lv' := [(8, .int x39), (5, .int (zi S0 (zr S0 a0 3) (Int32.toNatClampNeg v2))), (6, .int (zi S0 (zr S0 a0 3) (Int32.toNatClampNeg v4))), (7, .int x32)]) hx hb dX3_between_104 hl (by decide) rfl (fun ls hl => ?_)
              refine lv_iload hx hb dX3_between_106 (lv_at hl 3 rfl) ?_
              refine lv_if_eq (tgt := 127) hx hb dX3_between_108 (by decide) (fun hc42 => ?_) (fun hc42 => ?_)
              · have h := zt h hc42
                refine lv_iconst (v := (0 : Int32)) hx hb dX3_between_127 (by decide +kernel) ?_
                exact z_iret hx hb hr hlk hM hX40 hS ⟨zsm h, rfl⟩ dX3_between_128
              · have h := zf h hc42
                refine lv_iload hx hb dX3_between_111 (lv_at hl 1 rfl) ?_
                refine lv_iload hx hb dX3_between_113 (lv_at hl 2 rfl) ?_
                refine lv_icmp_eq (tgt := 127) hx hb dX3_between_115 (by decide) (fun hc43 => ?_) (fun hc43 => ?_)
                · have h := zt h hc43
                  refine lv_iconst (v := (0 : Int32)) hx hb dX3_between_127 (by decide +kernel) ?_
                  exact z_iret hx hb hr hlk hM hX40 hS ⟨zsm h, rfl⟩ dX3_between_128
                · have h := zf h hc43
                  refine lv_iload hx hb dX3_between_118 (lv_at hl 0 rfl) ?_
                  refine lv_if_eq (tgt := 127) hx hb dX3_between_120 (by decide) (fun hc44 => ?_) (fun hc44 => ?_)
                  · have h := zt h hc44
                    refine lv_iconst (v := (0 : Int32)) hx hb dX3_between_127 (by decide +kernel) ?_
                    exact z_iret hx hb hr hlk hM hX40 hS ⟨zsm h, rfl⟩ dX3_between_128
                  · have h := zf h hc44
                    refine lv_iconst (v := (1 : Int32)) hx hb dX3_between_123 (by decide +kernel) ?_
                    refine lv_goto (tgt := 128) hx hb dX3_between_124 (by decide) ?_
                    exact z_iret hx hb hr hlk hM hX40 hS ⟨zsm h, rfl⟩ dX3_between_128
            obtain ⟨K46, eK46, h⟩ := zlg h
            have hK46 : ∀ (H : Heap) (locs : List Loc), zMR D cy B S0 H → zX S0 S0 → va_S (fun q => B < q) s.heap H locs → ∀ ls : Array Slot, lv_has ls 9 [(5, .int (zi S0 (zr S0 a0 3) (Int32.toNatClampNeg v2))), (6, .int (zi S0 (zr S0 a0 3) (Int32.toNatClampNeg v4))), (7, .int x32)] → K46 = some r → W p l e (headSpec (zws yX3_between cX3_between 9 ((some .int))) { frames := 2, cells := 0, slots := 0, locals := 43 }).room s m (([.ref (B + a0), .int v1, .int v2, .int v3, .int v4] : List Value).toArray) below meth c H locs 0 0 (MQ below (zQi D cy B S0 r S0) (([.ref (B + a0), .int v1, .int v2, .int v3, .int v4] : List Value).toArray) s 0 0 (fun q => B < q)) (F0 m 103 ls []) := by
              intro H locs hM hX45 hS ls hl h
              rw [eK46] at h
              refine lv_iconst (v := (0 : Int32)) hx hb dX3_between_103 (by decide +kernel) ?_
              exact hK41 (0 : Int32) _ _ hM hX45 hS _ (lv_sub hl [0, 1, 2] rfl) h
            refine lv_if_eq (tgt := 103) hx hb dX3_between_86 (by decide) (fun hc47 => ?_) (fun hc47 => ?_)
            · have h := zt h hc47
              exact hK46 _ _ hM hX33 hS _ (lv_sub hl [4, 5, 0] rfl) h
            · have h := zf h hc47
              refine lv_aload_n hx hb dX3_between_89 rfl (lv_at hl 1 rfl) ?_
              refine lv_iload_n hx hb dX3_between_90 rfl (lv_at hl 3 rfl) ?_
              refine lv_iload hx hb dX3_between_91 (lv_at hl 4 rfl) ?_
              obtain ⟨r49, hr48, h⟩ := zb1 h
              refine z_runi (va_runV (As := [.int v3, .int (zi S0 (zr S0 a0 3) (Int32.toNatClampNeg v2))]) (rest := []) ⟨hx, hb, hml, hown, hg⟩ (c_X3_leansTo l D cy B h31 hr48) (z_cwV hg zw_715 zw_716 zw_1480 zw_10 zw_717 zh_X3_leansTo ⟨(Nat.le_of_ble_eq_true rfl), (Nat.le_of_ble_eq_true rfl)⟩) (zPV hC hM h31 (by decide) rfl) rfl rfl hl.1 rfl (lv_room (Nat.le_of_ble_eq_true rfl)) dX3_between_93 ⟨(Nat.le_of_ble_eq_true rfl), (Nat.le_of_ble_eq_true rfl)⟩) hS (fun H locs hM hX50 hS => ?_)
              refine lv_if_eq (tgt := 103) hx hb dX3_between_96 (by decide) (fun hc52 => ?_) (fun hc52 => ?_)
              · have h := zt h hc52
                exact hK46 _ _ hM hX33 hS _ (lv_sub hl [4, 5, 0] rfl) h
              · have h := zf h hc52
                refine lv_iconst (v := (1 : Int32)) hx hb dX3_between_99 (by decide +kernel) ?_
                refine lv_goto (tgt := 104) hx hb dX3_between_100 (by decide) ?_
                exact hK41 (1 : Int32) _ _ hM hX33 hS _ (lv_sub hl [4, 5, 0] rfl) h
          refine lv_if_ne (tgt := 76) hx hb dX3_between_69 (by decide) (fun hc53 => ?_) (fun hc53 => ?_)
          · have h := zf h hc53
            refine lv_iconst (v := (0 : Int32)) hx hb dX3_between_76 (by decide +kernel) ?_
            exact hK34 (0 : Int32) _ _ hM hX0 hS ha0 _ (lv_sub hl [2, 3, 5, 1, 0] rfl) h
          · have h := zt h hc53
            refine lv_iconst (v := (1 : Int32)) hx hb dX3_between_72 (by decide +kernel) ?_
            refine lv_goto (tgt := 77) hx hb dX3_between_73 (by decide) ?_
            exact hK34 (1 : Int32) _ _ hM hX0 hS ha0 _ (lv_sub hl [2, 3, 5, 1, 0] rfl) h
        · have h := zt h hc20
          refine lv_iconst (v := (0 : Int32)) hx hb dX3_between_37 (by decide +kernel) ?_
          exact z_iret hx hb hr hlk hM hX0 hS ⟨zsm h, rfl⟩ dX3_between_38
def f_X0L_asItStands_L14b (S0 : zM) (a0 : Nat) (x6 : Int32) (K12 : Int32 → Option (Int32)) (rec14 : Int32 → Int32 → Option (Int32)) (x14 : Int32) (x15 : Int32) : Option (Int32) :=
  if x6 ≤ x15 then K12 x14 else zB1 (f_X3_between S0 a0 x15 x15 x6 x6) (fun r19 => rec14 (x14 + r19) (x15 + (1 : Int32)))
def f_X0L_asItStands_L14 (S0 : zM) (a0 : Nat) (x6 : Int32) (K12 : Int32 → Option (Int32)) : Nat → Int32 → Int32 → Option (Int32)
  | 0 => fun _ _ => none
  | k + 1 => fun x14 x15 => f_X0L_asItStands_L14b S0 a0 x6 K12 (f_X0L_asItStands_L14 S0 a0 x6 K12 k) x14 x15
def f_X0L_asItStands_L4b (n : Nat) (S0 : zM) (a0 : Nat) (K3 : Int32 → Option (Int32)) (rec4 : Int32 → Int32 → Option (Int32)) (x5 : Int32) (x6 : Int32) : Option (Int32) :=
  if (zi S0 a0 2) ≤ x6 then K3 x5 else zLet (fun (x10 : Int32) => rec4 x10 (x6 + (1 : Int32))) (fun K12 => f_X0L_asItStands_L14 S0 a0 x6 K12 n x5 (0 : Int32))
def f_X0L_asItStands_L4 (n : Nat) (S0 : zM) (a0 : Nat) (K3 : Int32 → Option (Int32)) : Nat → Int32 → Int32 → Option (Int32)
  | 0 => fun _ _ => none
  | k + 1 => fun x5 x6 => f_X0L_asItStands_L4b n S0 a0 K3 (f_X0L_asItStands_L4 n S0 a0 K3 k) x5 x6
def f_X0L_asItStands (n : Nat) (S0 : zM) (a0 : Nat) : Option (Int32) :=
  zLet (fun (x1 : Int32) => some x1) (fun K3 => f_X0L_asItStands_L4 n S0 a0 K3 n (0 : Int32) (1 : Int32))
set_option maxHeartbeats 4000000 in
set_option maxRecDepth 100000 in
theorem c_X0L_asItStands (l : Launch) (D : va_G) (cy : Nat → ClassId) (B : Nat) {n : Nat} {S0 : zM} {a0 : Nat} {r : Int32} (ha0 : zA S0 a0 3) (h : f_X0L_asItStands n S0 a0 = some r) : Met l yX0_asItStands (zws yX0_asItStands cX0_asItStands 4 ((some .int))) { frames := 3, cells := 0, slots := 0, locals := 71 } (zPc D cy B S0 [.ref (B + a0)]) (zQi D cy B S0 r S0) 0 0 (fun q => B < q) := by
  refine Met.ofW (cc := cX0_asItStands) (maxL := 4) (ret := ((some .int))) (by decide) rfl ?_
  intro p e s m args below meth c s₁ Bd hml hv
  obtain ⟨rfl, hC, hM⟩ := hv
  obtain ⟨hx, hb, hr, hg, hown, hlk⟩ := z_open Bd
  have hK := hC.1
  have hS : va_S (fun q => B < q) s.heap s.heap [] := va_S.rf
  have hX0 : zX S0 S0 := zX.rf
  refine z_entry (vs := [.ref (B + a0)]) (Nat.le_of_ble_eq_true rfl) (fun ls hl => ?_)
  have hl : lv_has ls 4 [(0, .ref (B + a0))] := hl
  unfold f_X0L_asItStands at h
  refine lv_iconst (v := (0 : Int32)) hx hb dX0_asItStands_0 (by decide +kernel) ?_
  refine lv_istore_n (i := 1) (lv' := [(1, .int (0 : Int32)), (0, .ref (B + a0))]) hx hb dX0_asItStands_1 rfl hl (by decide) rfl (fun ls hl => ?_)
  refine lv_iconst (v := (1 : Int32)) hx hb dX0_asItStands_2 (by decide +kernel) ?_
  refine lv_istore_n (i := 2) (lv' := [(2, .int (1 : Int32)), (1, .int (0 : Int32)), (0, .ref (B + a0))]) hx hb dX0_asItStands_3 rfl hl (by decide) rfl (fun ls hl => ?_)
  obtain ⟨K3, eK3, h⟩ := zlg h
  have hK3 : ∀ (x1 : Int32) (H : Heap) (locs : List Loc), zMR D cy B S0 H → zX S0 S0 → va_S (fun q => B < q) s.heap H locs → ∀ ls : Array Slot, lv_has ls 4 [(1, .int x1)] → K3 x1 = some r → W p l e (headSpec (zws yX0_asItStands cX0_asItStands 4 ((some .int))) { frames := 3, cells := 0, slots := 0, locals := 71 }).room s m (([.ref (B + a0)] : List Value).toArray) below meth c H locs 0 0 (MQ below (zQi D cy B S0 r S0) (([.ref (B + a0)] : List Value).toArray) s 0 0 (fun q => B < q)) (F0 m 42 ls []) := by
    intro x1 H locs hM hX2 hS ls hl h
    rw [eK3] at h
    refine lv_iload_n hx hb dX0_asItStands_42 rfl (lv_at hl 0 rfl) ?_
    exact z_iret hx hb hr hlk hM hX2 hS ⟨zsm h, rfl⟩ dX0_asItStands_43
  have hL4 : ∀ (k : Nat) (x5 : Int32) (x6 : Int32) (H : Heap) (locs : List Loc), zMR D cy B S0 H → zX S0 S0 → va_S (fun q => B < q) s.heap H locs → zA S0 a0 3 → ∀ ls : Array Slot, lv_has ls 4 [(0, .ref (B + a0)), (1, .int x5), (2, .int x6)] → f_X0L_asItStands_L4 n S0 a0 K3 k x5 x6 = some r → W p l e (headSpec (zws yX0_asItStands cX0_asItStands 4 ((some .int))) { frames := 3, cells := 0, slots := 0, locals := 71 }).room s m (([.ref (B + a0)] : List Value).toArray) below meth c H locs 0 0 (MQ below (zQi D cy B S0 r S0) (([.ref (B + a0)] : List Value).toArray) s 0 0 (fun q => B < q)) (F0 m 4 ls []) := by
    intro k
    induction k with
    | zero =>
      intro x5 x6 H locs hM hX7 hS h4 ls hl h
      exact znone h
    | succ k ih4 =>
      intro x5 x6 H locs hM hX7 hS h4 ls hl h
      replace h : f_X0L_asItStands_L4b n S0 a0 K3 (f_X0L_asItStands_L4 n S0 a0 K3 k) x5 x6 = some r := h
      generalize f_X0L_asItStands_L4 n S0 a0 K3 k = rec4 at ih4 h
      unfold f_X0L_asItStands_L4b at h
      refine lv_iload_n hx hb dX0_asItStands_4 rfl (lv_at hl 2 rfl) ?_
      refine lv_aload_n hx hb dX0_asItStands_5 rfl (lv_at hl 0 rfl) ?_
      refine z_getI hx hb hg zin_3 hown hK hM h4 2 rfl (by decide) (hg _ zw_200) (fun _ h9 => h9) dX0_asItStands_6 ?_
      refine lv_icmp_ge (tgt := 42) hx hb dX0_asItStands_9 (by decide) (fun hc8 => ?_) (fun hc8 => ?_)
      · have h := zt h hc8
        exact hK3 x5 _ _ hM hX7 hS _ (lv_sub hl [1] rfl) h
      · have h := zf h hc8
        refine lv_iconst (v := (0 : Int32)) hx hb dX0_asItStands_12 (by decide +kernel) ?_
        refine lv_istore_n (i := 3) (lv' := [(3, .int (0 : Int32)), (0, .ref (B + a0)), (1, .int x5), (2, .int x6)]) hx hb dX0_asItStands_13 rfl hl (by decide) rfl (fun ls hl => ?_)
        obtain ⟨K12, eK12, h⟩ := zlg h
        have hK12 : ∀ (x10 : Int32) (H : Heap) (locs : List Loc), zMR D cy B S0 H → zX S0 S0 → va_S (fun q => B < q) s.heap H locs → zA S0 a0 3 → ∀ ls : Array Slot, lv_has ls 4 [(0, .ref (B + a0)), (1, .int x10), (2, .int x6)] → K12 x10 = some r → W p l e (headSpec (zws yX0_asItStands cX0_asItStands 4 ((some .int))) { frames := 3, cells := 0, slots := 0, locals := 71 }).room s m (([.ref (B + a0)] : List Value).toArray) below meth c H locs 0 0 (MQ below (zQi D cy B S0 r S0) (([.ref (B + a0)] : List Value).toArray) s 0 0 (fun q => B < q)) (F0 m 36 ls []) := by
          intro x10 H locs hM hX11 hS h9 ls hl h
          rw [eK12] at h
          refine lv_iinc (v := (x6 + (1 : Int32))) (lv' := [(2, .int (x6 + (1 : Int32))), (0, .ref (B + a0)), (1, .int x10)]) hx hb dX0_asItStands_36 hl (k := 2) rfl rfl (by decide) rfl (fun ls hl => ?_)
          refine lv_goto (tgt := 4) hx hb dX0_asItStands_39 (by decide) ?_
          exact ih4 x10 (x6 + (1 : Int32)) _ _ hM hX11 hS h9 _ (lv_sub hl [1, 2, 0] rfl) h
        have hL14 : ∀ (k : Nat) (x14 : Int32) (x15 : Int32) (H : Heap) (locs : List Loc), zMR D cy B S0 H → zX S0 S0 → va_S (fun q => B < q) s.heap H locs → zA S0 a0 3 → ∀ ls : Array Slot, lv_has ls 4 [(0, .ref (B + a0)), (1, .int x14), (2, .int x6), (3, .int x15)] → f_X0L_asItStands_L14 S0 a0 x6 K12 k x14 x15 = some r → W p l e (headSpec (zws yX0_asItStands cX0_asItStands 4 ((some .int))) { frames := 3, cells := 0, slots := 0, locals := 71 }).room s m (([.ref (B + a0)] : List Value).toArray) below meth c H locs 0 0 (MQ below (zQi D cy B S0 r S0) (([.ref (B + a0)] : List Value).toArray) s 0 0 (fun q => B < q)) (F0 m 14 ls []) := by
          intro k
          induction k with
          | zero =>
            intro x14 x15 H locs hM hX16 hS h13 ls hl h
            exact znone h
          | succ k ih14 =>
            intro x14 x15 H locs hM hX16 hS h13 ls hl h
            replace h : f_X0L_asItStands_L14b S0 a0 x6 K12 (f_X0L_asItStands_L14 S0 a0 x6 K12 k) x14 x15 = some r := h
            generalize f_X0L_asItStands_L14 S0 a0 x6 K12 k = rec14 at ih14 h
            unfold f_X0L_asItStands_L14b at h
            refine lv_iload_n hx hb dX0_asItStands_14 rfl (lv_at hl 3 rfl) ?_
            refine lv_iload_n hx hb dX0_asItStands_15 rfl (lv_at hl 2 rfl) ?_
            refine lv_icmp_ge (tgt := 36) hx hb dX0_asItStands_16 (by decide) (fun hc17 => ?_) (fun hc17 => ?_)
            · have h := zt h hc17
              exact hK12 x14 _ _ hM hX16 hS h13 _ (lv_sub hl [0, 1, 2] rfl) h
            · have h := zf h hc17
              refine lv_iload_n hx hb dX0_asItStands_19 rfl (lv_at hl 1 rfl) ?_
              refine lv_aload_n hx hb dX0_asItStands_20 rfl (lv_at hl 0 rfl) ?_
              refine lv_iload_n hx hb dX0_asItStands_21 rfl (lv_at hl 3 rfl) ?_
              refine lv_iload_n hx hb dX0_asItStands_22 rfl (lv_at hl 3 rfl) ?_
              refine lv_iload_n hx hb dX0_asItStands_23 rfl (lv_at hl 2 rfl) ?_
              refine lv_iload_n hx hb dX0_asItStands_24 rfl (lv_at hl 2 rfl) ?_
              obtain ⟨r19, hr18, h⟩ := zb1 h
              refine z_runi (va_runU (As := [.int x15, .int x15, .int x6, .int x6]) (rest := [.int x14]) ⟨hx, hb, hml, hown, hg⟩ (c_X3_between l D cy B h13 hr18) (z_cwA (n := 4) (owner := "DiveChairs$Dealing") hg hC (by decide +kernel) zw_709 zw_711 zw_712 zw_713 zw_10 zw_714 (by decide +kernel) ⟨(Nat.le_of_ble_eq_true rfl), (Nat.le_of_ble_eq_true rfl)⟩) (zPV hC hM h13 (by decide) rfl) rfl rfl hl.1 rfl (lv_room (Nat.le_of_ble_eq_true rfl)) dX0_asItStands_25 ⟨(Nat.le_of_ble_eq_true rfl), (Nat.le_of_ble_eq_true rfl)⟩) hS (fun H locs hM hX20 hS => ?_)
              refine lv_iadd hx hb dX0_asItStands_28 ?_
              refine lv_istore_n (i := 1) (lv' := [(1, .int (x14 + r19)), (0, .ref (B + a0)), (2, .int x6), (3, .int x15)]) hx hb dX0_asItStands_29 rfl hl (by decide) rfl (fun ls hl => ?_)
              refine lv_iinc (v := (x15 + (1 : Int32))) (lv' := [(3, .int (x15 + (1 : Int32))), (1, .int (x14 + r19)), (0, .ref (B + a0)), (2, .int x6)]) hx hb dX0_asItStands_30 hl (k := 3) rfl rfl (by decide) rfl (fun ls hl => ?_)
              refine lv_goto (tgt := 14) hx hb dX0_asItStands_33 (by decide) ?_
              exact ih14 (x14 + r19) (x15 + (1 : Int32)) _ _ hM hX16 hS h13 _ (lv_sub hl [2, 1, 3, 0] rfl) h
        exact hL14 n x5 (0 : Int32) _ _ hM hX7 hS h4 _ (lv_sub hl [1, 2, 3, 0] rfl) h
  exact hL4 n (0 : Int32) (1 : Int32) _ _ hM hX0 hS ha0 _ (lv_sub hl [2, 1, 0] rfl) h
def f_X4_between (S0 : zM) (a0 : Nat) (v1 : Int32) (v2 : Int32) (v3 : Int32) (v4 : Int32) : Option (Int32) :=
  zLet (f_X11_within v2 (40 : Int32)) (fun r2 => if r2 = 0 then some (0 : Int32) else zLet (f_X11_within v4 (40 : Int32)) (fun r7 => if r7 = 0 then some (0 : Int32) else zChk (¬ (zr S0 a0 3) = 0) (zChk (¬ (v2 < 0 ∨ zln S0 (zr S0 a0 3) ≤ (v2).toNatClampNeg)) (zChk (¬ (v4 < 0 ∨ zln S0 (zr S0 a0 3) ≤ (v4).toNatClampNeg)) (if (zi S0 (zr S0 a0 3) (Int32.toNatClampNeg v4)) ≤ (zi S0 (zr S0 a0 3) (Int32.toNatClampNeg v2)) then if (zi S0 (zr S0 a0 3) (Int32.toNatClampNeg v2)) ≤ (zi S0 (zr S0 a0 3) (Int32.toNatClampNeg v4)) then some (0 : Int32) else some (-1 : Int32) else some (1 : Int32))))))
set_option maxHeartbeats 4000000 in
set_option maxRecDepth 100000 in
theorem c_X4_between (l : Launch) (D : va_G) (cy : Nat → ClassId) (B : Nat) {S0 : zM} {a0 : Nat} {v1 : Int32} {v2 : Int32} {v3 : Int32} {v4 : Int32} {r : Int32} (ha0 : zA S0 a0 4) (h : f_X4_between S0 a0 v1 v2 v3 v4 = some r) : Met l yX4_between (zws yX4_between cX4_between 7 ((some .int))) { frames := 1, cells := 0, slots := 0, locals := 21 } (zPc D cy B S0 [.ref (B + a0), .int v1, .int v2, .int v3, .int v4]) (zQi D cy B S0 r S0) 0 0 (fun q => B < q) := by
  refine Met.ofW (cc := cX4_between) (maxL := 7) (ret := ((some .int))) (by decide) rfl ?_
  intro p e s m args below meth c s₁ Bd hml hv
  obtain ⟨rfl, hC, hM⟩ := hv
  obtain ⟨hx, hb, hr, hg, hown, hlk⟩ := z_open Bd
  have hK := hC.1
  have hS : va_S (fun q => B < q) s.heap s.heap [] := va_S.rf
  have hX0 : zX S0 S0 := zX.rf
  refine z_entry (vs := [.ref (B + a0), .int v1, .int v2, .int v3, .int v4]) (Nat.le_of_ble_eq_true rfl) (fun ls hl => ?_)
  have hl : lv_has ls 7 [(0, .ref (B + a0)), (1, .int v1), (2, .int v2), (3, .int v3), (4, .int v4)] := hl
  unfold f_X4_between at h
  refine lv_iload_n hx hb dX4_between_0 rfl (lv_at hl 2 rfl) ?_
  refine lv_bipush (v := (40 : Int32)) hx hb dX4_between_1 (by decide +kernel) ?_
  obtain ⟨r2, hr1, h⟩ := zlg h
  have hr1 := hr1.symm
  refine z_runi (va_runSN (As := [.int v2, .int (40 : Int32)]) (rest := []) ⟨hx, hb, hml, hown, hg⟩ (c_X11_within l D cy B hr1) ⟨z_cnB hg hC (List.mem_of_getElem? (i := 16) rfl) zw_2 zw_292 zh_X11_within.2 ⟨(Nat.le_of_ble_eq_true rfl), (Nat.le_of_ble_eq_true rfl)⟩, hg _ zw_291, trivial⟩ (zPS hC hM) rfl rfl hl.1 rfl (lv_room (Nat.le_of_ble_eq_true rfl)) dX4_between_3 ⟨(Nat.le_of_ble_eq_true rfl), (Nat.le_of_ble_eq_true rfl)⟩) hS (fun H locs hM hX3 hS => ?_)
  refine lv_if_eq (tgt := 19) hx hb dX4_between_6 (by decide) (fun hc5 => ?_) (fun hc5 => ?_)
  · have h := zt h hc5
    refine lv_iconst (v := (0 : Int32)) hx hb dX4_between_19 (by decide +kernel) ?_
    exact z_iret hx hb hr hlk hM hX0 hS ⟨zsm h, rfl⟩ dX4_between_20
  · have h := zf h hc5
    refine lv_iload hx hb dX4_between_9 (lv_at hl 4 rfl) ?_
    refine lv_bipush (v := (40 : Int32)) hx hb dX4_between_11 (by decide +kernel) ?_
    obtain ⟨r7, hr6, h⟩ := zlg h
    have hr6 := hr6.symm
    refine z_runi (va_runSN (As := [.int v4, .int (40 : Int32)]) (rest := []) ⟨hx, hb, hml, hown, hg⟩ (c_X11_within l D cy B hr6) ⟨z_cnB hg hC (List.mem_of_getElem? (i := 16) rfl) zw_2 zw_292 zh_X11_within.2 ⟨(Nat.le_of_ble_eq_true rfl), (Nat.le_of_ble_eq_true rfl)⟩, hg _ zw_291, trivial⟩ (zPS hC hM) rfl rfl hl.1 rfl (lv_room (Nat.le_of_ble_eq_true rfl)) dX4_between_13 ⟨(Nat.le_of_ble_eq_true rfl), (Nat.le_of_ble_eq_true rfl)⟩) hS (fun H locs hM hX8 hS => ?_)
    refine lv_if_ne (tgt := 21) hx hb dX4_between_16 (by decide) (fun hc10 => ?_) (fun hc10 => ?_)
    · have h := zf h hc10
      refine lv_aload_n hx hb dX4_between_21 rfl (lv_at hl 0 rfl) ?_
      obtain ⟨hq12, h⟩ := zk h
      refine z_getN hx hb hg zin_4 hown hK hM ha0 3 rfl (by decide) (hg _ zw_193) (fun _ h9 => h9) hq12 dX4_between_22 (fun h11 => ?_)
      refine lv_iload_n hx hb dX4_between_25 rfl (lv_at hl 2 rfl) ?_
      obtain ⟨hq13, h⟩ := zk h
      refine z_iald hx hb hK hM h11 hq13 dX4_between_26 ?_
      refine lv_istore (i := 5) (lv' := [(5, .int (zi S0 (zr S0 a0 3) (Int32.toNatClampNeg v2))), (0, .ref (B + a0)), (1, .int v1), (2, .int v2), (3, .int v3), (4, .int v4)]) hx hb dX4_between_27 hl (by decide) rfl (fun ls hl => ?_)
      refine lv_aload_n hx hb dX4_between_29 rfl (lv_at hl 1 rfl) ?_
      refine z_getN hx hb hg zin_4 hown hK hM ha0 3 rfl (by decide) (hg _ zw_193) (fun _ h9 => h9) h11.ne dX4_between_30 (fun h14 => ?_)
      refine lv_iload hx hb dX4_between_33 (lv_at hl 5 rfl) ?_
      obtain ⟨hq15, h⟩ := zk h
      refine z_iald hx hb hK hM h14 hq15 dX4_between_35 ?_
      refine lv_istore (i := 6) (lv' := [(6, .int (zi S0 (zr S0 a0 3) (Int32.toNatClampNeg v4))), (5, .int (zi S0 (zr S0 a0 3) (Int32.toNatClampNeg v2))), (0, .ref (B + a0)), (1, .int v1), (2, .int v2), (3, .int v3), (4, .int v4)]) hx hb dX4_between_36 hl (by decide) rfl (fun ls hl => ?_)
      refine lv_iload hx hb dX4_between_38 (lv_at hl 0 rfl) ?_
      refine lv_iload hx hb dX4_between_40 (lv_at hl 1 rfl) ?_
      refine lv_icmp_le (tgt := 49) hx hb dX4_between_42 (by decide) (fun hc16 => ?_) (fun hc16 => ?_)
      · have h := zt h hc16
        refine lv_iload hx hb dX4_between_49 (lv_at hl 0 rfl) ?_
        refine lv_iload hx hb dX4_between_51 (lv_at hl 1 rfl) ?_
        refine lv_icmp_ge (tgt := 60) hx hb dX4_between_53 (by decide) (fun hc17 => ?_) (fun hc17 => ?_)
        · have h := zt h hc17
          refine lv_iconst (v := (0 : Int32)) hx hb dX4_between_60 (by decide +kernel) ?_
          exact z_iret hx hb hr hlk hM hX0 hS ⟨zsm h, rfl⟩ dX4_between_61
        · have h := zf h hc17
          refine lv_iconst (v := (-1 : Int32)) hx hb dX4_between_56 (by decide +kernel) ?_
          refine lv_goto (tgt := 61) hx hb dX4_between_57 (by decide) ?_
          exact z_iret hx hb hr hlk hM hX0 hS ⟨zsm h, rfl⟩ dX4_between_61
      · have h := zf h hc16
        refine lv_iconst (v := (1 : Int32)) hx hb dX4_between_45 (by decide +kernel) ?_
        refine lv_goto (tgt := 61) hx hb dX4_between_46 (by decide) ?_
        exact z_iret hx hb hr hlk hM hX0 hS ⟨zsm h, rfl⟩ dX4_between_61
    · have h := zt h hc10
      refine lv_iconst (v := (0 : Int32)) hx hb dX4_between_19 (by decide +kernel) ?_
      exact z_iret hx hb hr hlk hM hX0 hS ⟨zsm h, rfl⟩ dX4_between_20
def f_X0O_asItStands_L14b (S0 : zM) (a0 : Nat) (x6 : Int32) (K12 : Int32 → Option (Int32)) (rec14 : Int32 → Int32 → Option (Int32)) (x14 : Int32) (x15 : Int32) : Option (Int32) :=
  if x6 ≤ x15 then K12 x14 else zB1 (f_X4_between S0 a0 x15 x15 x6 x6) (fun r19 => rec14 (x14 + r19) (x15 + (1 : Int32)))
def f_X0O_asItStands_L14 (S0 : zM) (a0 : Nat) (x6 : Int32) (K12 : Int32 → Option (Int32)) : Nat → Int32 → Int32 → Option (Int32)
  | 0 => fun _ _ => none
  | k + 1 => fun x14 x15 => f_X0O_asItStands_L14b S0 a0 x6 K12 (f_X0O_asItStands_L14 S0 a0 x6 K12 k) x14 x15
def f_X0O_asItStands_L4b (n : Nat) (S0 : zM) (a0 : Nat) (K3 : Int32 → Option (Int32)) (rec4 : Int32 → Int32 → Option (Int32)) (x5 : Int32) (x6 : Int32) : Option (Int32) :=
  if (zi S0 a0 2) ≤ x6 then K3 x5 else zLet (fun (x10 : Int32) => rec4 x10 (x6 + (1 : Int32))) (fun K12 => f_X0O_asItStands_L14 S0 a0 x6 K12 n x5 (0 : Int32))
def f_X0O_asItStands_L4 (n : Nat) (S0 : zM) (a0 : Nat) (K3 : Int32 → Option (Int32)) : Nat → Int32 → Int32 → Option (Int32)
  | 0 => fun _ _ => none
  | k + 1 => fun x5 x6 => f_X0O_asItStands_L4b n S0 a0 K3 (f_X0O_asItStands_L4 n S0 a0 K3 k) x5 x6
def f_X0O_asItStands (n : Nat) (S0 : zM) (a0 : Nat) : Option (Int32) :=
  zLet (fun (x1 : Int32) => some x1) (fun K3 => f_X0O_asItStands_L4 n S0 a0 K3 n (0 : Int32) (1 : Int32))
set_option maxHeartbeats 4000000 in
set_option maxRecDepth 100000 in
theorem c_X0O_asItStands (l : Launch) (D : va_G) (cy : Nat → ClassId) (B : Nat) {n : Nat} {S0 : zM} {a0 : Nat} {r : Int32} (ha0 : zA S0 a0 4) (h : f_X0O_asItStands n S0 a0 = some r) : Met l yX0_asItStands (zws yX0_asItStands cX0_asItStands 4 ((some .int))) { frames := 2, cells := 0, slots := 0, locals := 47 } (zPc D cy B S0 [.ref (B + a0)]) (zQi D cy B S0 r S0) 0 0 (fun q => B < q) := by
  refine Met.ofW (cc := cX0_asItStands) (maxL := 4) (ret := ((some .int))) (by decide) rfl ?_
  intro p e s m args below meth c s₁ Bd hml hv
  obtain ⟨rfl, hC, hM⟩ := hv
  obtain ⟨hx, hb, hr, hg, hown, hlk⟩ := z_open Bd
  have hK := hC.1
  have hS : va_S (fun q => B < q) s.heap s.heap [] := va_S.rf
  have hX0 : zX S0 S0 := zX.rf
  refine z_entry (vs := [.ref (B + a0)]) (Nat.le_of_ble_eq_true rfl) (fun ls hl => ?_)
  have hl : lv_has ls 4 [(0, .ref (B + a0))] := hl
  unfold f_X0O_asItStands at h
  refine lv_iconst (v := (0 : Int32)) hx hb dX0_asItStands_0 (by decide +kernel) ?_
  refine lv_istore_n (i := 1) (lv' := [(1, .int (0 : Int32)), (0, .ref (B + a0))]) hx hb dX0_asItStands_1 rfl hl (by decide) rfl (fun ls hl => ?_)
  refine lv_iconst (v := (1 : Int32)) hx hb dX0_asItStands_2 (by decide +kernel) ?_
  refine lv_istore_n (i := 2) (lv' := [(2, .int (1 : Int32)), (1, .int (0 : Int32)), (0, .ref (B + a0))]) hx hb dX0_asItStands_3 rfl hl (by decide) rfl (fun ls hl => ?_)
  obtain ⟨K3, eK3, h⟩ := zlg h
  have hK3 : ∀ (x1 : Int32) (H : Heap) (locs : List Loc), zMR D cy B S0 H → zX S0 S0 → va_S (fun q => B < q) s.heap H locs → ∀ ls : Array Slot, lv_has ls 4 [(1, .int x1)] → K3 x1 = some r → W p l e (headSpec (zws yX0_asItStands cX0_asItStands 4 ((some .int))) { frames := 2, cells := 0, slots := 0, locals := 47 }).room s m (([.ref (B + a0)] : List Value).toArray) below meth c H locs 0 0 (MQ below (zQi D cy B S0 r S0) (([.ref (B + a0)] : List Value).toArray) s 0 0 (fun q => B < q)) (F0 m 42 ls []) := by
    intro x1 H locs hM hX2 hS ls hl h
    rw [eK3] at h
    refine lv_iload_n hx hb dX0_asItStands_42 rfl (lv_at hl 0 rfl) ?_
    exact z_iret hx hb hr hlk hM hX2 hS ⟨zsm h, rfl⟩ dX0_asItStands_43
  have hL4 : ∀ (k : Nat) (x5 : Int32) (x6 : Int32) (H : Heap) (locs : List Loc), zMR D cy B S0 H → zX S0 S0 → va_S (fun q => B < q) s.heap H locs → zA S0 a0 4 → ∀ ls : Array Slot, lv_has ls 4 [(0, .ref (B + a0)), (1, .int x5), (2, .int x6)] → f_X0O_asItStands_L4 n S0 a0 K3 k x5 x6 = some r → W p l e (headSpec (zws yX0_asItStands cX0_asItStands 4 ((some .int))) { frames := 2, cells := 0, slots := 0, locals := 47 }).room s m (([.ref (B + a0)] : List Value).toArray) below meth c H locs 0 0 (MQ below (zQi D cy B S0 r S0) (([.ref (B + a0)] : List Value).toArray) s 0 0 (fun q => B < q)) (F0 m 4 ls []) := by
    intro k
    induction k with
    | zero =>
      intro x5 x6 H locs hM hX7 hS h4 ls hl h
      exact znone h
    | succ k ih4 =>
      intro x5 x6 H locs hM hX7 hS h4 ls hl h
      replace h : f_X0O_asItStands_L4b n S0 a0 K3 (f_X0O_asItStands_L4 n S0 a0 K3 k) x5 x6 = some r := h
      generalize f_X0O_asItStands_L4 n S0 a0 K3 k = rec4 at ih4 h
      unfold f_X0O_asItStands_L4b at h
      refine lv_iload_n hx hb dX0_asItStands_4 rfl (lv_at hl 2 rfl) ?_
      refine lv_aload_n hx hb dX0_asItStands_5 rfl (lv_at hl 0 rfl) ?_
      refine z_getI hx hb hg zin_4 hown hK hM h4 2 rfl (by decide) (hg _ zw_200) (fun _ h9 => h9) dX0_asItStands_6 ?_
      refine lv_icmp_ge (tgt := 42) hx hb dX0_asItStands_9 (by decide) (fun hc8 => ?_) (fun hc8 => ?_)
      · have h := zt h hc8
        exact hK3 x5 _ _ hM hX7 hS _ (lv_sub hl [1] rfl) h
      · have h := zf h hc8
        refine lv_iconst (v := (0 : Int32)) hx hb dX0_asItStands_12 (by decide +kernel) ?_
        refine lv_istore_n (i := 3) (lv' := [(3, .int (0 : Int32)), (0, .ref (B + a0)), (1, .int x5), (2, .int x6)]) hx hb dX0_asItStands_13 rfl hl (by decide) rfl (fun ls hl => ?_)
        obtain ⟨K12, eK12, h⟩ := zlg h
        have hK12 : ∀ (x10 : Int32) (H : Heap) (locs : List Loc), zMR D cy B S0 H → zX S0 S0 → va_S (fun q => B < q) s.heap H locs → zA S0 a0 4 → ∀ ls : Array Slot, lv_has ls 4 [(0, .ref (B + a0)), (1, .int x10), (2, .int x6)] → K12 x10 = some r → W p l e (headSpec (zws yX0_asItStands cX0_asItStands 4 ((some .int))) { frames := 2, cells := 0, slots := 0, locals := 47 }).room s m (([.ref (B + a0)] : List Value).toArray) below meth c H locs 0 0 (MQ below (zQi D cy B S0 r S0) (([.ref (B + a0)] : List Value).toArray) s 0 0 (fun q => B < q)) (F0 m 36 ls []) := by
          intro x10 H locs hM hX11 hS h9 ls hl h
          rw [eK12] at h
          refine lv_iinc (v := (x6 + (1 : Int32))) (lv' := [(2, .int (x6 + (1 : Int32))), (0, .ref (B + a0)), (1, .int x10)]) hx hb dX0_asItStands_36 hl (k := 2) rfl rfl (by decide) rfl (fun ls hl => ?_)
          refine lv_goto (tgt := 4) hx hb dX0_asItStands_39 (by decide) ?_
          exact ih4 x10 (x6 + (1 : Int32)) _ _ hM hX11 hS h9 _ (lv_sub hl [1, 2, 0] rfl) h
        have hL14 : ∀ (k : Nat) (x14 : Int32) (x15 : Int32) (H : Heap) (locs : List Loc), zMR D cy B S0 H → zX S0 S0 → va_S (fun q => B < q) s.heap H locs → zA S0 a0 4 → ∀ ls : Array Slot, lv_has ls 4 [(0, .ref (B + a0)), (1, .int x14), (2, .int x6), (3, .int x15)] → f_X0O_asItStands_L14 S0 a0 x6 K12 k x14 x15 = some r → W p l e (headSpec (zws yX0_asItStands cX0_asItStands 4 ((some .int))) { frames := 2, cells := 0, slots := 0, locals := 47 }).room s m (([.ref (B + a0)] : List Value).toArray) below meth c H locs 0 0 (MQ below (zQi D cy B S0 r S0) (([.ref (B + a0)] : List Value).toArray) s 0 0 (fun q => B < q)) (F0 m 14 ls []) := by
          intro k
          induction k with
          | zero =>
            intro x14 x15 H locs hM hX16 hS h13 ls hl h
            exact znone h
          | succ k ih14 =>
            intro x14 x15 H locs hM hX16 hS h13 ls hl h
            replace h : f_X0O_asItStands_L14b S0 a0 x6 K12 (f_X0O_asItStands_L14 S0 a0 x6 K12 k) x14 x15 = some r := h
            generalize f_X0O_asItStands_L14 S0 a0 x6 K12 k = rec14 at ih14 h
            unfold f_X0O_asItStands_L14b at h
            refine lv_iload_n hx hb dX0_asItStands_14 rfl (lv_at hl 3 rfl) ?_
            refine lv_iload_n hx hb dX0_asItStands_15 rfl (lv_at hl 2 rfl) ?_
            refine lv_icmp_ge (tgt := 36) hx hb dX0_asItStands_16 (by decide) (fun hc17 => ?_) (fun hc17 => ?_)
            · have h := zt h hc17
              exact hK12 x14 _ _ hM hX16 hS h13 _ (lv_sub hl [0, 1, 2] rfl) h
            · have h := zf h hc17
              refine lv_iload_n hx hb dX0_asItStands_19 rfl (lv_at hl 1 rfl) ?_
              refine lv_aload_n hx hb dX0_asItStands_20 rfl (lv_at hl 0 rfl) ?_
              refine lv_iload_n hx hb dX0_asItStands_21 rfl (lv_at hl 3 rfl) ?_
              refine lv_iload_n hx hb dX0_asItStands_22 rfl (lv_at hl 3 rfl) ?_
              refine lv_iload_n hx hb dX0_asItStands_23 rfl (lv_at hl 2 rfl) ?_
              refine lv_iload_n hx hb dX0_asItStands_24 rfl (lv_at hl 2 rfl) ?_
              obtain ⟨r19, hr18, h⟩ := zb1 h
              refine z_runi (va_runU (As := [.int x15, .int x15, .int x6, .int x6]) (rest := [.int x14]) ⟨hx, hb, hml, hown, hg⟩ (c_X4_between l D cy B h13 hr18) (z_cwA (n := 4) (owner := "DiveChairs$Dealing") hg hC (by decide +kernel) zw_709 zw_711 zw_718 zw_719 zw_9 zw_720 (by decide +kernel) ⟨(Nat.le_of_ble_eq_true rfl), (Nat.le_of_ble_eq_true rfl)⟩) (zPV hC hM h13 (by decide) rfl) rfl rfl hl.1 rfl (lv_room (Nat.le_of_ble_eq_true rfl)) dX0_asItStands_25 ⟨(Nat.le_of_ble_eq_true rfl), (Nat.le_of_ble_eq_true rfl)⟩) hS (fun H locs hM hX20 hS => ?_)
              refine lv_iadd hx hb dX0_asItStands_28 ?_
              refine lv_istore_n (i := 1) (lv' := [(1, .int (x14 + r19)), (0, .ref (B + a0)), (2, .int x6), (3, .int x15)]) hx hb dX0_asItStands_29 rfl hl (by decide) rfl (fun ls hl => ?_)
              refine lv_iinc (v := (x15 + (1 : Int32))) (lv' := [(3, .int (x15 + (1 : Int32))), (1, .int (x14 + r19)), (0, .ref (B + a0)), (2, .int x6)]) hx hb dX0_asItStands_30 hl (k := 3) rfl rfl (by decide) rfl (fun ls hl => ?_)
              refine lv_goto (tgt := 14) hx hb dX0_asItStands_33 (by decide) ?_
              exact ih14 (x14 + r19) (x15 + (1 : Int32)) _ _ hM hX16 hS h13 _ (lv_sub hl [2, 1, 3, 0] rfl) h
        exact hL14 n x5 (0 : Int32) _ _ hM hX7 hS h4 _ (lv_sub hl [1, 2, 3, 0] rfl) h
  exact hL4 n (0 : Int32) (1 : Int32) _ _ hM hX0 hS ha0 _ (lv_sub hl [2, 1, 0] rfl) h
def f_X0L_allWays_L4b (S0 : zM) (a0 : Nat) (K3 : Int32 → Option (Int32)) (rec4 : Int32 → Int32 → Option (Int32)) (x5 : Int32) (x6 : Int32) : Option (Int32) :=
  if (zi S0 a0 2) < x6 then K3 x5 else if (7 : Int32) < x6 then K3 x5 else rec4 (x5 * x6) (x6 + (1 : Int32))
def f_X0L_allWays_L4 (S0 : zM) (a0 : Nat) (K3 : Int32 → Option (Int32)) : Nat → Int32 → Int32 → Option (Int32)
  | 0 => fun _ _ => none
  | k + 1 => fun x5 x6 => f_X0L_allWays_L4b S0 a0 K3 (f_X0L_allWays_L4 S0 a0 K3 k) x5 x6
def f_X0L_allWays (n : Nat) (S0 : zM) (a0 : Nat) : Option (Int32) :=
  zLet (fun (x1 : Int32) => some x1) (fun K3 => f_X0L_allWays_L4 S0 a0 K3 n (1 : Int32) (2 : Int32))
set_option maxHeartbeats 4000000 in
set_option maxRecDepth 100000 in
theorem c_X0L_allWays (l : Launch) (D : va_G) (cy : Nat → ClassId) (B : Nat) {n : Nat} {S0 : zM} {a0 : Nat} {r : Int32} (ha0 : zA S0 a0 3) (h : f_X0L_allWays n S0 a0 = some r) : Met l yX0_allWays (zws yX0_allWays cX0_allWays 3 ((some .int))) { frames := 0, cells := 0, slots := 0, locals := 0 } (zPc D cy B S0 [.ref (B + a0)]) (zQi D cy B S0 r S0) 0 0 (fun q => B < q) := by
  refine Met.ofW (cc := cX0_allWays) (maxL := 3) (ret := ((some .int))) (by decide) rfl ?_
  intro p e s m args below meth c s₁ Bd hml hv
  obtain ⟨rfl, hC, hM⟩ := hv
  obtain ⟨hx, hb, hr, hg, hown, hlk⟩ := z_open Bd
  have hK := hC.1
  have hS : va_S (fun q => B < q) s.heap s.heap [] := va_S.rf
  have hX0 : zX S0 S0 := zX.rf
  refine z_entry (vs := [.ref (B + a0)]) (Nat.le_of_ble_eq_true rfl) (fun ls hl => ?_)
  have hl : lv_has ls 3 [(0, .ref (B + a0))] := hl
  unfold f_X0L_allWays at h
  refine lv_iconst (v := (1 : Int32)) hx hb dX0_allWays_0 (by decide +kernel) ?_
  refine lv_istore_n (i := 1) (lv' := [(1, .int (1 : Int32)), (0, .ref (B + a0))]) hx hb dX0_allWays_1 rfl hl (by decide) rfl (fun ls hl => ?_)
  refine lv_iconst (v := (2 : Int32)) hx hb dX0_allWays_2 (by decide +kernel) ?_
  refine lv_istore_n (i := 2) (lv' := [(2, .int (2 : Int32)), (1, .int (1 : Int32)), (0, .ref (B + a0))]) hx hb dX0_allWays_3 rfl hl (by decide) rfl (fun ls hl => ?_)
  obtain ⟨K3, eK3, h⟩ := zlg h
  have hK3 : ∀ (x1 : Int32) (H : Heap) (locs : List Loc), zMR D cy B S0 H → zX S0 S0 → va_S (fun q => B < q) s.heap H locs → ∀ ls : Array Slot, lv_has ls 3 [(1, .int x1)] → K3 x1 = some r → W p l e (headSpec (zws yX0_allWays cX0_allWays 3 ((some .int))) { frames := 0, cells := 0, slots := 0, locals := 0 }).room s m (([.ref (B + a0)] : List Value).toArray) below meth c H locs 0 0 (MQ below (zQi D cy B S0 r S0) (([.ref (B + a0)] : List Value).toArray) s 0 0 (fun q => B < q)) (F0 m 28 ls []) := by
    intro x1 H locs hM hX2 hS ls hl h
    rw [eK3] at h
    refine lv_iload_n hx hb dX0_allWays_28 rfl (lv_at hl 0 rfl) ?_
    exact z_iret hx hb hr hlk hM hX2 hS ⟨zsm h, rfl⟩ dX0_allWays_29
  have hL4 : ∀ (k : Nat) (x5 : Int32) (x6 : Int32) (H : Heap) (locs : List Loc), zMR D cy B S0 H → zX S0 S0 → va_S (fun q => B < q) s.heap H locs → zA S0 a0 3 → ∀ ls : Array Slot, lv_has ls 3 [(0, .ref (B + a0)), (1, .int x5), (2, .int x6)] → f_X0L_allWays_L4 S0 a0 K3 k x5 x6 = some r → W p l e (headSpec (zws yX0_allWays cX0_allWays 3 ((some .int))) { frames := 0, cells := 0, slots := 0, locals := 0 }).room s m (([.ref (B + a0)] : List Value).toArray) below meth c H locs 0 0 (MQ below (zQi D cy B S0 r S0) (([.ref (B + a0)] : List Value).toArray) s 0 0 (fun q => B < q)) (F0 m 4 ls []) := by
    intro k
    induction k with
    | zero =>
      intro x5 x6 H locs hM hX7 hS h4 ls hl h
      exact znone h
    | succ k ih4 =>
      intro x5 x6 H locs hM hX7 hS h4 ls hl h
      replace h : f_X0L_allWays_L4b S0 a0 K3 (f_X0L_allWays_L4 S0 a0 K3 k) x5 x6 = some r := h
      generalize f_X0L_allWays_L4 S0 a0 K3 k = rec4 at ih4 h
      unfold f_X0L_allWays_L4b at h
      refine lv_iload_n hx hb dX0_allWays_4 rfl (lv_at hl 2 rfl) ?_
      refine lv_aload_n hx hb dX0_allWays_5 rfl (lv_at hl 0 rfl) ?_
      refine z_getI hx hb hg zin_3 hown hK hM h4 2 rfl (by decide) (hg _ zw_200) (fun _ h9 => h9) dX0_allWays_6 ?_
      refine lv_icmp_gt (tgt := 28) hx hb dX0_allWays_9 (by decide) (fun hc8 => ?_) (fun hc8 => ?_)
      · have h := zt h hc8
        exact hK3 x5 _ _ hM hX7 hS _ (lv_sub hl [1] rfl) h
      · have h := zf h hc8
        refine lv_iload_n hx hb dX0_allWays_12 rfl (lv_at hl 2 rfl) ?_
        refine lv_bipush (v := (7 : Int32)) hx hb dX0_allWays_13 (by decide +kernel) ?_
        refine lv_icmp_gt (tgt := 28) hx hb dX0_allWays_15 (by decide) (fun hc9 => ?_) (fun hc9 => ?_)
        · have h := zt h hc9
          exact hK3 x5 _ _ hM hX7 hS _ (lv_sub hl [1] rfl) h
        · have h := zf h hc9
          refine lv_iload_n hx hb dX0_allWays_18 rfl (lv_at hl 1 rfl) ?_
          refine lv_iload_n hx hb dX0_allWays_19 rfl (lv_at hl 2 rfl) ?_
          refine lv_imul hx hb dX0_allWays_20 ?_
          refine lv_istore_n (i := 1) (lv' := [(1, .int (x5 * x6)), (0, .ref (B + a0)), (2, .int x6)]) hx hb dX0_allWays_21 rfl hl (by decide) rfl (fun ls hl => ?_)
          refine lv_iinc (v := (x6 + (1 : Int32))) (lv' := [(2, .int (x6 + (1 : Int32))), (1, .int (x5 * x6)), (0, .ref (B + a0))]) hx hb dX0_allWays_22 hl (k := 2) rfl rfl (by decide) rfl (fun ls hl => ?_)
          refine lv_goto (tgt := 4) hx hb dX0_allWays_25 (by decide) ?_
          exact ih4 (x5 * x6) (x6 + (1 : Int32)) _ _ hM hX7 hS h4 _ (lv_sub hl [2, 1, 0] rfl) h
  exact hL4 n (1 : Int32) (2 : Int32) _ _ hM hX0 hS ha0 _ (lv_sub hl [2, 1, 0] rfl) h
def f_X0O_allWays_L4b (S0 : zM) (a0 : Nat) (K3 : Int32 → Option (Int32)) (rec4 : Int32 → Int32 → Option (Int32)) (x5 : Int32) (x6 : Int32) : Option (Int32) :=
  if (zi S0 a0 2) < x6 then K3 x5 else if (7 : Int32) < x6 then K3 x5 else rec4 (x5 * x6) (x6 + (1 : Int32))
def f_X0O_allWays_L4 (S0 : zM) (a0 : Nat) (K3 : Int32 → Option (Int32)) : Nat → Int32 → Int32 → Option (Int32)
  | 0 => fun _ _ => none
  | k + 1 => fun x5 x6 => f_X0O_allWays_L4b S0 a0 K3 (f_X0O_allWays_L4 S0 a0 K3 k) x5 x6
def f_X0O_allWays (n : Nat) (S0 : zM) (a0 : Nat) : Option (Int32) :=
  zLet (fun (x1 : Int32) => some x1) (fun K3 => f_X0O_allWays_L4 S0 a0 K3 n (1 : Int32) (2 : Int32))
set_option maxHeartbeats 4000000 in
set_option maxRecDepth 100000 in
theorem c_X0O_allWays (l : Launch) (D : va_G) (cy : Nat → ClassId) (B : Nat) {n : Nat} {S0 : zM} {a0 : Nat} {r : Int32} (ha0 : zA S0 a0 4) (h : f_X0O_allWays n S0 a0 = some r) : Met l yX0_allWays (zws yX0_allWays cX0_allWays 3 ((some .int))) { frames := 0, cells := 0, slots := 0, locals := 0 } (zPc D cy B S0 [.ref (B + a0)]) (zQi D cy B S0 r S0) 0 0 (fun q => B < q) := by
  refine Met.ofW (cc := cX0_allWays) (maxL := 3) (ret := ((some .int))) (by decide) rfl ?_
  intro p e s m args below meth c s₁ Bd hml hv
  obtain ⟨rfl, hC, hM⟩ := hv
  obtain ⟨hx, hb, hr, hg, hown, hlk⟩ := z_open Bd
  have hK := hC.1
  have hS : va_S (fun q => B < q) s.heap s.heap [] := va_S.rf
  have hX0 : zX S0 S0 := zX.rf
  refine z_entry (vs := [.ref (B + a0)]) (Nat.le_of_ble_eq_true rfl) (fun ls hl => ?_)
  have hl : lv_has ls 3 [(0, .ref (B + a0))] := hl
  unfold f_X0O_allWays at h
  refine lv_iconst (v := (1 : Int32)) hx hb dX0_allWays_0 (by decide +kernel) ?_
  refine lv_istore_n (i := 1) (lv' := [(1, .int (1 : Int32)), (0, .ref (B + a0))]) hx hb dX0_allWays_1 rfl hl (by decide) rfl (fun ls hl => ?_)
  refine lv_iconst (v := (2 : Int32)) hx hb dX0_allWays_2 (by decide +kernel) ?_
  refine lv_istore_n (i := 2) (lv' := [(2, .int (2 : Int32)), (1, .int (1 : Int32)), (0, .ref (B + a0))]) hx hb dX0_allWays_3 rfl hl (by decide) rfl (fun ls hl => ?_)
  obtain ⟨K3, eK3, h⟩ := zlg h
  have hK3 : ∀ (x1 : Int32) (H : Heap) (locs : List Loc), zMR D cy B S0 H → zX S0 S0 → va_S (fun q => B < q) s.heap H locs → ∀ ls : Array Slot, lv_has ls 3 [(1, .int x1)] → K3 x1 = some r → W p l e (headSpec (zws yX0_allWays cX0_allWays 3 ((some .int))) { frames := 0, cells := 0, slots := 0, locals := 0 }).room s m (([.ref (B + a0)] : List Value).toArray) below meth c H locs 0 0 (MQ below (zQi D cy B S0 r S0) (([.ref (B + a0)] : List Value).toArray) s 0 0 (fun q => B < q)) (F0 m 28 ls []) := by
    intro x1 H locs hM hX2 hS ls hl h
    rw [eK3] at h
    refine lv_iload_n hx hb dX0_allWays_28 rfl (lv_at hl 0 rfl) ?_
    exact z_iret hx hb hr hlk hM hX2 hS ⟨zsm h, rfl⟩ dX0_allWays_29
  have hL4 : ∀ (k : Nat) (x5 : Int32) (x6 : Int32) (H : Heap) (locs : List Loc), zMR D cy B S0 H → zX S0 S0 → va_S (fun q => B < q) s.heap H locs → zA S0 a0 4 → ∀ ls : Array Slot, lv_has ls 3 [(0, .ref (B + a0)), (1, .int x5), (2, .int x6)] → f_X0O_allWays_L4 S0 a0 K3 k x5 x6 = some r → W p l e (headSpec (zws yX0_allWays cX0_allWays 3 ((some .int))) { frames := 0, cells := 0, slots := 0, locals := 0 }).room s m (([.ref (B + a0)] : List Value).toArray) below meth c H locs 0 0 (MQ below (zQi D cy B S0 r S0) (([.ref (B + a0)] : List Value).toArray) s 0 0 (fun q => B < q)) (F0 m 4 ls []) := by
    intro k
    induction k with
    | zero =>
      intro x5 x6 H locs hM hX7 hS h4 ls hl h
      exact znone h
    | succ k ih4 =>
      intro x5 x6 H locs hM hX7 hS h4 ls hl h
      replace h : f_X0O_allWays_L4b S0 a0 K3 (f_X0O_allWays_L4 S0 a0 K3 k) x5 x6 = some r := h
      generalize f_X0O_allWays_L4 S0 a0 K3 k = rec4 at ih4 h
      unfold f_X0O_allWays_L4b at h
      refine lv_iload_n hx hb dX0_allWays_4 rfl (lv_at hl 2 rfl) ?_
      refine lv_aload_n hx hb dX0_allWays_5 rfl (lv_at hl 0 rfl) ?_
      refine z_getI hx hb hg zin_4 hown hK hM h4 2 rfl (by decide) (hg _ zw_200) (fun _ h9 => h9) dX0_allWays_6 ?_
      refine lv_icmp_gt (tgt := 28) hx hb dX0_allWays_9 (by decide) (fun hc8 => ?_) (fun hc8 => ?_)
      · have h := zt h hc8
        exact hK3 x5 _ _ hM hX7 hS _ (lv_sub hl [1] rfl) h
      · have h := zf h hc8
        refine lv_iload_n hx hb dX0_allWays_12 rfl (lv_at hl 2 rfl) ?_
        refine lv_bipush (v := (7 : Int32)) hx hb dX0_allWays_13 (by decide +kernel) ?_
        refine lv_icmp_gt (tgt := 28) hx hb dX0_allWays_15 (by decide) (fun hc9 => ?_) (fun hc9 => ?_)
        · have h := zt h hc9
          exact hK3 x5 _ _ hM hX7 hS _ (lv_sub hl [1] rfl) h
        · have h := zf h hc9
          refine lv_iload_n hx hb dX0_allWays_18 rfl (lv_at hl 1 rfl) ?_
          refine lv_iload_n hx hb dX0_allWays_19 rfl (lv_at hl 2 rfl) ?_
          refine lv_imul hx hb dX0_allWays_20 ?_
          refine lv_istore_n (i := 1) (lv' := [(1, .int (x5 * x6)), (0, .ref (B + a0)), (2, .int x6)]) hx hb dX0_allWays_21 rfl hl (by decide) rfl (fun ls hl => ?_)
          refine lv_iinc (v := (x6 + (1 : Int32))) (lv' := [(2, .int (x6 + (1 : Int32))), (1, .int (x5 * x6)), (0, .ref (B + a0))]) hx hb dX0_allWays_22 hl (k := 2) rfl rfl (by decide) rfl (fun ls hl => ?_)
          refine lv_goto (tgt := 4) hx hb dX0_allWays_25 (by decide) ?_
          exact ih4 (x5 * x6) (x6 + (1 : Int32)) _ _ hM hX7 hS h4 _ (lv_sub hl [2, 1, 0] rfl) h
  exact hL4 n (1 : Int32) (2 : Int32) _ _ hM hX0 hS ha0 _ (lv_sub hl [2, 1, 0] rfl) h
def f_X11_holds (v0 : Int32) (v1 : Int32) : Int32 :=
  if ((v0 >>> (v1 &&& 31)) &&& (1 : Int32)) = 0 then (0 : Int32) else (1 : Int32)
set_option maxHeartbeats 4000000 in
set_option maxRecDepth 100000 in
theorem c_X11_holds (l : Launch) (D : va_G) (cy : Nat → ClassId) (B : Nat) {S0 : zM} {v0 : Int32} {v1 : Int32} {r : Int32}  (h : f_X11_holds v0 v1 = r) : Met l yX11_holds (zws yX11_holds cX11_holds 2 ((some .boolean))) { frames := 0, cells := 0, slots := 0, locals := 0 } (zPc D cy B S0 [.int v0, .int v1]) (zQi D cy B S0 r S0) 0 0 (fun q => B < q) := by
  refine Met.ofW (cc := cX11_holds) (maxL := 2) (ret := ((some .boolean))) (by decide) rfl ?_
  intro p e s m args below meth c s₁ Bd hml hv
  obtain ⟨rfl, hC, hM⟩ := hv
  obtain ⟨hx, hb, hr, hg, hown, hlk⟩ := z_open Bd
  have hK := hC.1
  have hS : va_S (fun q => B < q) s.heap s.heap [] := va_S.rf
  have hX0 : zX S0 S0 := zX.rf
  refine z_entry (vs := [.int v0, .int v1]) (Nat.le_of_ble_eq_true rfl) (fun ls hl => ?_)
  have hl : lv_has ls 2 [(0, .int v0), (1, .int v1)] := hl
  unfold f_X11_holds at h
  refine lv_iload_n hx hb dX11_holds_0 rfl (lv_at hl 0 rfl) ?_
  refine lv_iload_n hx hb dX11_holds_1 rfl (lv_at hl 1 rfl) ?_
  refine lv_ishr hx hb dX11_holds_2 ?_
  refine lv_iconst (v := (1 : Int32)) hx hb dX11_holds_3 (by decide +kernel) ?_
  refine lv_iand hx hb dX11_holds_4 ?_
  refine lv_if_eq (tgt := 12) hx hb dX11_holds_5 (by decide) (fun hc1 => ?_) (fun hc1 => ?_)
  · have h := zt h hc1
    refine lv_iconst (v := (0 : Int32)) hx hb dX11_holds_12 (by decide +kernel) ?_
    exact z_zret (by decide +kernel) hx hb hr hlk hM hX0 hS ⟨h, rfl⟩ dX11_holds_13
  · have h := zf h hc1
    refine lv_iconst (v := (1 : Int32)) hx hb dX11_holds_8 (by decide +kernel) ?_
    refine lv_goto (tgt := 13) hx hb dX11_holds_9 (by decide) ?_
    exact z_zret (by decide +kernel) hx hb hr hlk hM hX0 hS ⟨h, rfl⟩ dX11_holds_13
def f_X0L_gainAt_L4b (S0 : zM) (a0 : Nat) (v1 : Int32) (K3 : Int32 → Option (Int32)) (rec4 : Int32 → Int32 → Option (Int32)) (x5 : Int32) (x6 : Int32) : Option (Int32) :=
  if v1 ≤ x6 then K3 x5 else zChk (¬ (zr S0 a0 0) = 0) (zChk (¬ (x6 < 0 ∨ zln S0 (zr S0 a0 0) ≤ (x6).toNatClampNeg)) (zChk (¬ (v1 < 0 ∨ zln S0 (zr S0 a0 0) ≤ (v1).toNatClampNeg)) (zB1 (f_X3_between S0 a0 x6 (zi S0 (zr S0 a0 0) (Int32.toNatClampNeg x6)) v1 (zi S0 (zr S0 a0 0) (Int32.toNatClampNeg v1))) (fun r15 => rec4 (x5 + r15) (x6 + (1 : Int32))))))
def f_X0L_gainAt_L4 (S0 : zM) (a0 : Nat) (v1 : Int32) (K3 : Int32 → Option (Int32)) : Nat → Int32 → Int32 → Option (Int32)
  | 0 => fun _ _ => none
  | k + 1 => fun x5 x6 => f_X0L_gainAt_L4b S0 a0 v1 K3 (f_X0L_gainAt_L4 S0 a0 v1 K3 k) x5 x6
def f_X0L_gainAt (n : Nat) (S0 : zM) (a0 : Nat) (v1 : Int32) : Option (Int32) :=
  zLet (fun (x1 : Int32) => some x1) (fun K3 => f_X0L_gainAt_L4 S0 a0 v1 K3 n (0 : Int32) (0 : Int32))
set_option maxHeartbeats 4000000 in
set_option maxRecDepth 100000 in
theorem c_X0L_gainAt (l : Launch) (D : va_G) (cy : Nat → ClassId) (B : Nat) {n : Nat} {S0 : zM} {a0 : Nat} {v1 : Int32} {r : Int32} (ha0 : zA S0 a0 3) (h : f_X0L_gainAt n S0 a0 v1 = some r) : Met l yX0_gainAt (zws yX0_gainAt cX0_gainAt 4 ((some .int))) { frames := 3, cells := 0, slots := 0, locals := 71 } (zPc D cy B S0 [.ref (B + a0), .int v1]) (zQi D cy B S0 r S0) 0 0 (fun q => B < q) := by
  refine Met.ofW (cc := cX0_gainAt) (maxL := 4) (ret := ((some .int))) (by decide) rfl ?_
  intro p e s m args below meth c s₁ Bd hml hv
  obtain ⟨rfl, hC, hM⟩ := hv
  obtain ⟨hx, hb, hr, hg, hown, hlk⟩ := z_open Bd
  have hK := hC.1
  have hS : va_S (fun q => B < q) s.heap s.heap [] := va_S.rf
  have hX0 : zX S0 S0 := zX.rf
  refine z_entry (vs := [.ref (B + a0), .int v1]) (Nat.le_of_ble_eq_true rfl) (fun ls hl => ?_)
  have hl : lv_has ls 4 [(0, .ref (B + a0)), (1, .int v1)] := hl
  unfold f_X0L_gainAt at h
  refine lv_iconst (v := (0 : Int32)) hx hb dX0_gainAt_0 (by decide +kernel) ?_
  refine lv_istore_n (i := 2) (lv' := [(2, .int (0 : Int32)), (0, .ref (B + a0)), (1, .int v1)]) hx hb dX0_gainAt_1 rfl hl (by decide) rfl (fun ls hl => ?_)
  refine lv_iconst (v := (0 : Int32)) hx hb dX0_gainAt_2 (by decide +kernel) ?_
  refine lv_istore_n (i := 3) (lv' := [(3, .int (0 : Int32)), (2, .int (0 : Int32)), (0, .ref (B + a0)), (1, .int v1)]) hx hb dX0_gainAt_3 rfl hl (by decide) rfl (fun ls hl => ?_)
  obtain ⟨K3, eK3, h⟩ := zlg h
  have hK3 : ∀ (x1 : Int32) (H : Heap) (locs : List Loc), zMR D cy B S0 H → zX S0 S0 → va_S (fun q => B < q) s.heap H locs → ∀ ls : Array Slot, lv_has ls 4 [(2, .int x1)] → K3 x1 = some r → W p l e (headSpec (zws yX0_gainAt cX0_gainAt 4 ((some .int))) { frames := 3, cells := 0, slots := 0, locals := 71 }).room s m (([.ref (B + a0), .int v1] : List Value).toArray) below meth c H locs 0 0 (MQ below (zQi D cy B S0 r S0) (([.ref (B + a0), .int v1] : List Value).toArray) s 0 0 (fun q => B < q)) (F0 m 36 ls []) := by
    intro x1 H locs hM hX2 hS ls hl h
    rw [eK3] at h
    refine lv_iload_n hx hb dX0_gainAt_36 rfl (lv_at hl 0 rfl) ?_
    exact z_iret hx hb hr hlk hM hX2 hS ⟨zsm h, rfl⟩ dX0_gainAt_37
  have hL4 : ∀ (k : Nat) (x5 : Int32) (x6 : Int32) (H : Heap) (locs : List Loc), zMR D cy B S0 H → zX S0 S0 → va_S (fun q => B < q) s.heap H locs → zA S0 a0 3 → ∀ ls : Array Slot, lv_has ls 4 [(0, .ref (B + a0)), (1, .int v1), (2, .int x5), (3, .int x6)] → f_X0L_gainAt_L4 S0 a0 v1 K3 k x5 x6 = some r → W p l e (headSpec (zws yX0_gainAt cX0_gainAt 4 ((some .int))) { frames := 3, cells := 0, slots := 0, locals := 71 }).room s m (([.ref (B + a0), .int v1] : List Value).toArray) below meth c H locs 0 0 (MQ below (zQi D cy B S0 r S0) (([.ref (B + a0), .int v1] : List Value).toArray) s 0 0 (fun q => B < q)) (F0 m 4 ls []) := by
    intro k
    induction k with
    | zero =>
      intro x5 x6 H locs hM hX7 hS h4 ls hl h
      exact znone h
    | succ k ih4 =>
      intro x5 x6 H locs hM hX7 hS h4 ls hl h
      replace h : f_X0L_gainAt_L4b S0 a0 v1 K3 (f_X0L_gainAt_L4 S0 a0 v1 K3 k) x5 x6 = some r := h
      generalize f_X0L_gainAt_L4 S0 a0 v1 K3 k = rec4 at ih4 h
      unfold f_X0L_gainAt_L4b at h
      refine lv_iload_n hx hb dX0_gainAt_4 rfl (lv_at hl 3 rfl) ?_
      refine lv_iload_n hx hb dX0_gainAt_5 rfl (lv_at hl 1 rfl) ?_
      refine lv_icmp_ge (tgt := 36) hx hb dX0_gainAt_6 (by decide) (fun hc8 => ?_) (fun hc8 => ?_)
      · have h := zt h hc8
        exact hK3 x5 _ _ hM hX7 hS _ (lv_sub hl [2] rfl) h
      · have h := zf h hc8
        refine lv_iload_n hx hb dX0_gainAt_9 rfl (lv_at hl 2 rfl) ?_
        refine lv_aload_n hx hb dX0_gainAt_10 rfl (lv_at hl 0 rfl) ?_
        refine lv_iload_n hx hb dX0_gainAt_11 rfl (lv_at hl 3 rfl) ?_
        refine lv_aload_n hx hb dX0_gainAt_12 rfl (lv_at hl 0 rfl) ?_
        obtain ⟨hq10, h⟩ := zk h
        refine z_getN hx hb hg zin_3 hown hK hM h4 0 rfl (by decide) (hg _ zw_194) (fun _ h9 => h9) hq10 dX0_gainAt_13 (fun h9 => ?_)
        refine lv_iload_n hx hb dX0_gainAt_16 rfl (lv_at hl 3 rfl) ?_
        obtain ⟨hq11, h⟩ := zk h
        refine z_iald hx hb hK hM h9 hq11 dX0_gainAt_17 ?_
        refine lv_iload_n hx hb dX0_gainAt_18 rfl (lv_at hl 1 rfl) ?_
        refine lv_aload_n hx hb dX0_gainAt_19 rfl (lv_at hl 0 rfl) ?_
        refine z_getN hx hb hg zin_3 hown hK hM h4 0 rfl (by decide) (hg _ zw_194) (fun _ h9 => h9) h9.ne dX0_gainAt_20 (fun h12 => ?_)
        refine lv_iload_n hx hb dX0_gainAt_23 rfl (lv_at hl 1 rfl) ?_
        obtain ⟨hq13, h⟩ := zk h
        refine z_iald hx hb hK hM h12 hq13 dX0_gainAt_24 ?_
        obtain ⟨r15, hr14, h⟩ := zb1 h
        refine z_runi (va_runU (As := [.int x6, .int (zi S0 (zr S0 a0 0) (Int32.toNatClampNeg x6)), .int v1, .int (zi S0 (zr S0 a0 0) (Int32.toNatClampNeg v1))]) (rest := [.int x5]) ⟨hx, hb, hml, hown, hg⟩ (c_X3_between l D cy B h4 hr14) (z_cwA (n := 4) (owner := "DiveChairs$Dealing") hg hC (by decide +kernel) zw_709 zw_711 zw_712 zw_713 zw_10 zw_714 (by decide +kernel) ⟨(Nat.le_of_ble_eq_true rfl), (Nat.le_of_ble_eq_true rfl)⟩) (zPV hC hM h4 (by decide) rfl) rfl rfl hl.1 rfl (lv_room (Nat.le_of_ble_eq_true rfl)) dX0_gainAt_25 ⟨(Nat.le_of_ble_eq_true rfl), (Nat.le_of_ble_eq_true rfl)⟩) hS (fun H locs hM hX16 hS => ?_)
        refine lv_iadd hx hb dX0_gainAt_28 ?_
        refine lv_istore_n (i := 2) (lv' := [(2, .int (x5 + r15)), (0, .ref (B + a0)), (1, .int v1), (3, .int x6)]) hx hb dX0_gainAt_29 rfl hl (by decide) rfl (fun ls hl => ?_)
        refine lv_iinc (v := (x6 + (1 : Int32))) (lv' := [(3, .int (x6 + (1 : Int32))), (2, .int (x5 + r15)), (0, .ref (B + a0)), (1, .int v1)]) hx hb dX0_gainAt_30 hl (k := 3) rfl rfl (by decide) rfl (fun ls hl => ?_)
        refine lv_goto (tgt := 4) hx hb dX0_gainAt_33 (by decide) ?_
        exact ih4 (x5 + r15) (x6 + (1 : Int32)) _ _ hM hX7 hS h4 _ (lv_sub hl [2, 3, 1, 0] rfl) h
  exact hL4 n (0 : Int32) (0 : Int32) _ _ hM hX0 hS ha0 _ (lv_sub hl [2, 3, 1, 0] rfl) h
def f_X0L_waysFrom_L37b (n : Nat) (rc : zM → Nat → Int32 → Int32 → Int32 → Option (Int32 × zM)) (a0 : Nat) (v1 : Int32) (v2 : Int32) (v3 : Int32) (rc : zM → Nat → Int32 → Int32 → Int32 → Option (Int32 × zM)) (K14 : Int32 → zM → Option (Int32 × zM)) (rec37 : Int32 → Int32 → zM → Option (Int32 × zM)) (x16 : Int32) (x17 : Int32) (S18 : zM) : Option (Int32 × zM) :=
  if (zi S18 a0 2) ≤ x17 then K14 x16 S18 else zLet (f_X11_holds v2 x17) (fun r22 => if r22 = 0 then zChk (¬ (zr S18 a0 0) = 0) (zChk (¬ (v1 < 0 ∨ zln S18 (zr S18 a0 0) ≤ (v1).toNatClampNeg)) (zLet (zpI S18 (zr S18 a0 0) (Int32.toNatClampNeg v1) x17) (fun S29 => zB1 (f_X0L_gainAt n S29 a0 v1) (fun r35 => zB2 (rc S29 a0 (v1 + (1 : Int32)) (v2 ||| ((1 : Int32) <<< (x17 &&& 31))) (v3 + r35)) (fun r39 S40 => rec37 (x16 + r39) (x17 + (1 : Int32)) S40))))) else rec37 x16 (x17 + (1 : Int32)) S18)
def f_X0L_waysFrom_L37 (n : Nat) (rc : zM → Nat → Int32 → Int32 → Int32 → Option (Int32 × zM)) (a0 : Nat) (v1 : Int32) (v2 : Int32) (v3 : Int32) (rc : zM → Nat → Int32 → Int32 → Int32 → Option (Int32 × zM)) (K14 : Int32 → zM → Option (Int32 × zM)) : Nat → Int32 → Int32 → zM → Option (Int32 × zM)
  | 0 => fun _ _ _ => none
  | k + 1 => fun x16 x17 S18 => f_X0L_waysFrom_L37b n rc a0 v1 v2 v3 rc K14 (f_X0L_waysFrom_L37 n rc a0 v1 v2 v3 rc K14 k) x16 x17 S18
def f_X0L_waysFromO (n : Nat) (rc : zM → Nat → Int32 → Int32 → Int32 → Option (Int32 × zM)) (S0 : zM) (a0 : Nat) (v1 : Int32) (v2 : Int32) (v3 : Int32) : Option (Int32 × zM) :=
  zLet (if v3 < (zi S0 a0 1) then some (((0 : Int32), S0)) else some (((1 : Int32), S0))) (fun K3 => if (zi S0 a0 2) ≤ v1 then K3 else zLet (f_X11_within v1 (7 : Int32)) (fun r7 => if r7 = 0 then K3 else zLet (fun (x11 : Int32) (S12 : zM) => some ((x11, S12))) (fun K14 => f_X0L_waysFrom_L37 n rc a0 v1 v2 v3 rc K14 n (0 : Int32) (0 : Int32) S0)))
def f_X0L_waysFrom (n : Nat) : Nat → zM → Nat → Int32 → Int32 → Int32 → Option (Int32 × zM)
  | 0 => fun _ _ _ _ _ => none
  | d + 1 => f_X0L_waysFromO n (f_X0L_waysFrom n d)
set_option maxHeartbeats 4000000 in
set_option maxRecDepth 100000 in
theorem c_X0L_waysFromO (l : Launch) (D : va_G) (cy : Nat → ClassId) (B : Nat) (dd : Nat) {rc : zM → Nat → Int32 → Int32 → Int32 → Option (Int32 × zM)} (hrc : ∀ {S : zM} {b0 : Nat} {b1 : Int32} {b2 : Int32} {b3 : Int32} {q : Int32} {S1 : zM}, zA S b0 3 →  rc S b0 b1 b2 b3 = some (q, S1) → Met l yX0_waysFrom (zws yX0_waysFrom cX0_waysFrom 6 ((some .int))) { frames := 4 * dd, cells := 0, slots := 0, locals := 94 * dd } (zPc D cy B S [.ref (B + b0), .int b1, .int b2, .int b3]) (zQi D cy B S q S1) 0 0 (fun q => B < q)) {n : Nat} {S0 : zM} {a0 : Nat} {v1 : Int32} {v2 : Int32} {v3 : Int32} {r : Int32} {S' : zM} (ha0 : zA S0 a0 3) (h : f_X0L_waysFromO n rc S0 a0 v1 v2 v3 = some (r, S')) : Met l yX0_waysFrom (zws yX0_waysFrom cX0_waysFrom 6 ((some .int))) { frames := 4 * dd + 4, cells := 0, slots := 0, locals := 94 * dd + 94 } (zPc D cy B S0 [.ref (B + a0), .int v1, .int v2, .int v3]) (zQi D cy B S0 r S') 0 0 (fun q => B < q) := by
  refine Met.ofW (cc := cX0_waysFrom) (maxL := 6) (ret := ((some .int))) (by decide) rfl ?_
  intro p e s m args below meth c s₁ Bd hml hv
  obtain ⟨rfl, hC, hM⟩ := hv
  obtain ⟨hx, hb, hr, hg, hown, hlk⟩ := z_open Bd
  have hK := hC.1
  have hS : va_S (fun q => B < q) s.heap s.heap [] := va_S.rf
  have hX0 : zX S0 S0 := zX.rf
  refine z_entry (vs := [.ref (B + a0), .int v1, .int v2, .int v3]) (Nat.le_of_ble_eq_true rfl) (fun ls hl => ?_)
  have hl : lv_has ls 6 [(0, .ref (B + a0)), (1, .int v1), (2, .int v2), (3, .int v3)] := hl
  unfold f_X0L_waysFromO at h
  refine lv_iload_n hx hb dX0_waysFrom_0 rfl (lv_at hl 1 rfl) ?_
  refine lv_aload_n hx hb dX0_waysFrom_1 rfl (lv_at hl 0 rfl) ?_
  refine z_getI hx hb hg zin_3 hown hK hM ha0 2 rfl (by decide) (hg _ zw_200) (fun _ h9 => h9) dX0_waysFrom_2 ?_
  obtain ⟨K3, eK3, h⟩ := zlg h
  have hK3 : ∀ (H : Heap) (locs : List Loc), zMR D cy B S0 H → zX S0 S0 → va_S (fun q => B < q) s.heap H locs → zA S0 a0 3 → ∀ ls : Array Slot, lv_has ls 6 [(0, .ref (B + a0)), (3, .int v3)] → K3 = some (r, S') → W p l e (headSpec (zws yX0_waysFrom cX0_waysFrom 6 ((some .int))) { frames := 4 * dd + 4, cells := 0, slots := 0, locals := 94 * dd + 94 }).room s m (([.ref (B + a0), .int v1, .int v2, .int v3] : List Value).toArray) below meth c H locs 0 0 (MQ below (zQi D cy B S0 r S') (([.ref (B + a0), .int v1, .int v2, .int v3] : List Value).toArray) s 0 0 (fun q => B < q)) (F0 m 17 ls []) := by
    intro H locs hM hX2 hS h1 ls hl h
    rw [eK3] at h
    refine lv_iload_n hx hb dX0_waysFrom_17 rfl (lv_at hl 1 rfl) ?_
    refine lv_aload_n hx hb dX0_waysFrom_18 rfl (lv_at hl 0 rfl) ?_
    refine z_getI hx hb hg zin_3 hown hK hM h1 1 rfl (by decide) (hg _ zw_195) (fun _ h9 => h9) dX0_waysFrom_19 ?_
    refine lv_icmp_lt (tgt := 29) hx hb dX0_waysFrom_22 (by decide) (fun hc4 => ?_) (fun hc4 => ?_)
    · have h := zt h hc4
      refine lv_iconst (v := (0 : Int32)) hx hb dX0_waysFrom_29 (by decide +kernel) ?_
      exact z_iret hx hb hr hlk hM hX2 hS (zsp h) dX0_waysFrom_30
    · have h := zf h hc4
      refine lv_iconst (v := (1 : Int32)) hx hb dX0_waysFrom_25 (by decide +kernel) ?_
      refine lv_goto (tgt := 30) hx hb dX0_waysFrom_26 (by decide) ?_
      exact z_iret hx hb hr hlk hM hX2 hS (zsp h) dX0_waysFrom_30
  refine lv_icmp_ge (tgt := 17) hx hb dX0_waysFrom_5 (by decide) (fun hc5 => ?_) (fun hc5 => ?_)
  · have h := zt h hc5
    exact hK3 _ _ hM hX0 hS ha0 _ (lv_sub hl [0, 3] rfl) h
  · have h := zf h hc5
    refine lv_iload_n hx hb dX0_waysFrom_8 rfl (lv_at hl 1 rfl) ?_
    refine lv_bipush (v := (7 : Int32)) hx hb dX0_waysFrom_9 (by decide +kernel) ?_
    obtain ⟨r7, hr6, h⟩ := zlg h
    have hr6 := hr6.symm
    refine z_runi (va_runSN (As := [.int v1, .int (7 : Int32)]) (rest := []) ⟨hx, hb, hml, hown, hg⟩ (c_X11_within l D cy B hr6) ⟨z_cnB hg hC (List.mem_of_getElem? (i := 17) rfl) zw_2 zw_292 zh_X11_within.2 ⟨by show 0 + 1 ≤ 4 * dd + 4; omega, by show 8 + (2 + 11) + 0 ≤ 94 * dd + 94; omega⟩, hg _ zw_291, trivial⟩ (zPS hC hM) rfl rfl hl.1 rfl (lv_room (Nat.le_of_ble_eq_true rfl)) dX0_waysFrom_11 ⟨(Nat.le_of_ble_eq_true rfl), (Nat.le_of_ble_eq_true rfl)⟩) hS (fun H locs hM hX8 hS => ?_)
    refine lv_if_ne (tgt := 31) hx hb dX0_waysFrom_14 (by decide) (fun hc10 => ?_) (fun hc10 => ?_)
    · have h := zf h hc10
      refine lv_iconst (v := (0 : Int32)) hx hb dX0_waysFrom_31 (by decide +kernel) ?_
      refine lv_istore (i := 4) (lv' := [(4, .int (0 : Int32)), (0, .ref (B + a0)), (1, .int v1), (2, .int v2), (3, .int v3)]) hx hb dX0_waysFrom_32 hl (by decide) rfl (fun ls hl => ?_)
      refine lv_iconst (v := (0 : Int32)) hx hb dX0_waysFrom_34 (by decide +kernel) ?_
      refine lv_istore (i := 5) (lv' := [(5, .int (0 : Int32)), (4, .int (0 : Int32)), (0, .ref (B + a0)), (1, .int v1), (2, .int v2), (3, .int v3)]) hx hb dX0_waysFrom_35 hl (by decide) rfl (fun ls hl => ?_)
      obtain ⟨K14, eK14, h⟩ := zlg h
      have hK14 : ∀ (x11 : Int32) (S12 : zM) (H : Heap) (locs : List Loc), zMR D cy B S12 H → zX S0 S12 → va_S (fun q => B < q) s.heap H locs → ∀ ls : Array Slot, lv_has ls 6 [(4, .int x11)] → K14 x11 S12 = some (r, S') → W p l e (headSpec (zws yX0_waysFrom cX0_waysFrom 6 ((some .int))) { frames := 4 * dd + 4, cells := 0, slots := 0, locals := 94 * dd + 94 }).room s m (([.ref (B + a0), .int v1, .int v2, .int v3] : List Value).toArray) below meth c H locs 0 0 (MQ below (zQi D cy B S0 r S') (([.ref (B + a0), .int v1, .int v2, .int v3] : List Value).toArray) s 0 0 (fun q => B < q)) (F0 m 94 ls []) := by
        intro x11 S12 H locs hM hX13 hS ls hl h
        rw [eK14] at h
        refine lv_iload hx hb dX0_waysFrom_94 (lv_at hl 0 rfl) ?_
        exact z_iret hx hb hr hlk hM hX13 hS (zsp h) dX0_waysFrom_96
      have hL37 : ∀ (k : Nat) (x16 : Int32) (x17 : Int32) (S18 : zM) (H : Heap) (locs : List Loc), zMR D cy B S18 H → zX S0 S18 → va_S (fun q => B < q) s.heap H locs → zA S18 a0 3 → ∀ ls : Array Slot, lv_has ls 6 [(0, .ref (B + a0)), (1, .int v1), (2, .int v2), (3, .int v3), (4, .int x16), (5, .int x17)] → f_X0L_waysFrom_L37 n rc a0 v1 v2 v3 rc K14 k x16 x17 S18 = some (r, S') → W p l e (headSpec (zws yX0_waysFrom cX0_waysFrom 6 ((some .int))) { frames := 4 * dd + 4, cells := 0, slots := 0, locals := 94 * dd + 94 }).room s m (([.ref (B + a0), .int v1, .int v2, .int v3] : List Value).toArray) below meth c H locs 0 0 (MQ below (zQi D cy B S0 r S') (([.ref (B + a0), .int v1, .int v2, .int v3] : List Value).toArray) s 0 0 (fun q => B < q)) (F0 m 37 ls []) := by
        intro k
        induction k with
        | zero =>
          intro x16 x17 S18 H locs hM hX19 hS h15 ls hl h
          exact znone h
        | succ k ih37 =>
          intro x16 x17 S18 H locs hM hX19 hS h15 ls hl h
          replace h : f_X0L_waysFrom_L37b n rc a0 v1 v2 v3 rc K14 (f_X0L_waysFrom_L37 n rc a0 v1 v2 v3 rc K14 k) x16 x17 S18 = some (r, S') := h
          generalize f_X0L_waysFrom_L37 n rc a0 v1 v2 v3 rc K14 k = rec37 at ih37 h
          unfold f_X0L_waysFrom_L37b at h
          refine lv_iload hx hb dX0_waysFrom_37 (lv_at hl 5 rfl) ?_
          refine lv_aload_n hx hb dX0_waysFrom_39 rfl (lv_at hl 0 rfl) ?_
          refine z_getI hx hb hg zin_3 hown hK hM h15 2 rfl (by decide) (hg _ zw_200) (fun _ h9 => h9) dX0_waysFrom_40 ?_
          refine lv_icmp_ge (tgt := 94) hx hb dX0_waysFrom_43 (by decide) (fun hc20 => ?_) (fun hc20 => ?_)
          · have h := zt h hc20
            exact hK14 x16 S18 _ _ hM hX19 hS _ (lv_sub hl [4] rfl) h
          · have h := zf h hc20
            refine lv_iload_n hx hb dX0_waysFrom_46 rfl (lv_at hl 2 rfl) ?_
            refine lv_iload hx hb dX0_waysFrom_47 (lv_at hl 5 rfl) ?_
            obtain ⟨r22, hr21, h⟩ := zlg h
            have hr21 := hr21.symm
            refine z_runi (va_runSN (As := [.int v2, .int x17]) (rest := []) ⟨hx, hb, hml, hown, hg⟩ (c_X11_holds l D cy B hr21) ⟨z_cnB hg hC (List.mem_of_getElem? (i := 18) rfl) zw_2 zw_592 zh_X11_holds.2 ⟨by show 0 + 1 ≤ 4 * dd + 4; omega, by show 8 + (2 + 11) + 0 ≤ 94 * dd + 94; omega⟩, hg _ zw_591, trivial⟩ (zPS hC hM) rfl rfl hl.1 rfl (lv_room (Nat.le_of_ble_eq_true rfl)) dX0_waysFrom_49 ⟨(Nat.le_of_ble_eq_true rfl), (Nat.le_of_ble_eq_true rfl)⟩) hS (fun H locs hM hX23 hS => ?_)
            refine lv_if_ne (tgt := 88) hx hb dX0_waysFrom_52 (by decide) (fun hc25 => ?_) (fun hc25 => ?_)
            · have h := zf h hc25
              refine lv_iinc (v := (x17 + (1 : Int32))) (lv' := [(5, .int (x17 + (1 : Int32))), (0, .ref (B + a0)), (1, .int v1), (2, .int v2), (3, .int v3), (4, .int x16)]) hx hb dX0_waysFrom_88 hl (k := 5) rfl rfl (by decide) rfl (fun ls hl => ?_)
              refine lv_goto (tgt := 37) hx hb dX0_waysFrom_91 (by decide) ?_
              exact ih37 x16 (x17 + (1 : Int32)) S18 _ _ hM hX19 hS h15 _ (lv_sub hl [1, 2, 3, 4, 5, 0] rfl) h
            · have h := zt h hc25
              refine lv_aload_n hx hb dX0_waysFrom_55 rfl (lv_at hl 0 rfl) ?_
              obtain ⟨hq27, h⟩ := zk h
              refine z_getN hx hb hg zin_3 hown hK hM h15 0 rfl (by decide) (hg _ zw_194) (fun _ h9 => h9) hq27 dX0_waysFrom_56 (fun h26 => ?_)
              refine lv_iload_n hx hb dX0_waysFrom_59 rfl (lv_at hl 1 rfl) ?_
              refine lv_iload hx hb dX0_waysFrom_60 (lv_at hl 5 rfl) ?_
              obtain ⟨hq28, h⟩ := zk h
              refine z_iast hx hb hK hM hS h26 hq28 dX0_waysFrom_62 (fun H locs hM hS => ?_)
              obtain ⟨S29, e30, h⟩ := zlg h
              rw [← e30] at hM
              have hX31 : zX S18 S29 := by rw [e30]; exact zX_pI
              have h32 := h15.mo hX31
              have hX33 := hX19.tr hX31
              refine lv_iload hx hb dX0_waysFrom_63 (lv_at hl 4 rfl) ?_
              refine lv_aload_n hx hb dX0_waysFrom_65 rfl (lv_at hl 0 rfl) ?_
              refine lv_iload_n hx hb dX0_waysFrom_66 rfl (lv_at hl 1 rfl) ?_
              refine lv_iconst (v := (1 : Int32)) hx hb dX0_waysFrom_67 (by decide +kernel) ?_
              refine lv_iadd hx hb dX0_waysFrom_68 ?_
              refine lv_iload_n hx hb dX0_waysFrom_69 rfl (lv_at hl 2 rfl) ?_
              refine lv_iconst (v := (1 : Int32)) hx hb dX0_waysFrom_70 (by decide +kernel) ?_
              refine lv_iload hx hb dX0_waysFrom_71 (lv_at hl 5 rfl) ?_
              refine lv_ishl hx hb dX0_waysFrom_73 ?_
              refine lv_ior hx hb dX0_waysFrom_74 ?_
              refine lv_iload_n hx hb dX0_waysFrom_75 rfl (lv_at hl 3 rfl) ?_
              refine lv_aload_n hx hb dX0_waysFrom_76 rfl (lv_at hl 0 rfl) ?_
              refine lv_iload_n hx hb dX0_waysFrom_77 rfl (lv_at hl 1 rfl) ?_
              obtain ⟨r35, hr34, h⟩ := zb1 h
              refine z_runi (va_runU (As := [.int v1]) (rest := [.int v3, .int (v2 ||| ((1 : Int32) <<< (x17 &&& 31))), .int (v1 + (1 : Int32)), .ref (B + a0), .int x16]) ⟨hx, hb, hml, hown, hg⟩ (c_X0L_gainAt l D cy B h32 hr34) (z_cwP (n := 1) (C := "DiveChairs$LandDealing") (owner := "DiveChairs$Dealing") hg hC (by decide +kernel) zw_738 zw_1459 rfl zw_739 zw_8 zw_740 rfl (by decide +kernel) ⟨by show 3 + 1 ≤ 4 * dd + 4; omega, by show 8 + (4 + 11) + 71 ≤ 94 * dd + 94; omega⟩) (zPV hC hM h32 (by decide) rfl) rfl rfl hl.1 rfl (lv_room (Nat.le_of_ble_eq_true rfl)) dX0_waysFrom_78 ⟨(Nat.le_of_ble_eq_true rfl), (Nat.le_of_ble_eq_true rfl)⟩) hS (fun H locs hM hX36 hS => ?_)
              refine lv_iadd hx hb dX0_waysFrom_81 ?_
              obtain ⟨r39, S40, hr38, h⟩ := zb2 h
              refine z_runi (va_runU (As := [.int (v1 + (1 : Int32)), .int (v2 ||| ((1 : Int32) <<< (x17 &&& 31))), .int (v3 + r35)]) (rest := [.int x16]) ⟨hx, hb, hml, hown, hg⟩ (hrc h32 hr38) (z_cwP (n := 3) (C := "DiveChairs$LandDealing") (owner := "DiveChairs$Dealing") hg hC (by decide +kernel) zw_733 zw_1458 rfl zw_734 zw_8 zw_735 rfl (by decide +kernel) ⟨by show 4 * dd + 1 ≤ 4 * dd + 4; omega, by show 8 + (6 + 11) + (94 * dd) ≤ 94 * dd + 94; omega⟩) (zPV hC hM h32 (by decide) rfl) rfl rfl hl.1 rfl (lv_room (Nat.le_of_ble_eq_true rfl)) dX0_waysFrom_82 ⟨(Nat.le_of_ble_eq_true rfl), (Nat.le_of_ble_eq_true rfl)⟩) hS (fun H locs hM hX41 hS => ?_)
              have h43 := h32.mo hX41
              have hX44 := hX33.tr hX41
              refine lv_iadd hx hb dX0_waysFrom_85 ?_
              refine lv_istore (i := 4) (lv' := [(4, .int (x16 + r39)), (0, .ref (B + a0)), (1, .int v1), (2, .int v2), (3, .int v3), (5, .int x17)]) hx hb dX0_waysFrom_86 hl (by decide) rfl (fun ls hl => ?_)
              refine lv_iinc (v := (x17 + (1 : Int32))) (lv' := [(5, .int (x17 + (1 : Int32))), (4, .int (x16 + r39)), (0, .ref (B + a0)), (1, .int v1), (2, .int v2), (3, .int v3)]) hx hb dX0_waysFrom_88 hl (k := 5) rfl rfl (by decide) rfl (fun ls hl => ?_)
              refine lv_goto (tgt := 37) hx hb dX0_waysFrom_91 (by decide) ?_
              exact ih37 (x16 + r39) (x17 + (1 : Int32)) S40 _ _ hM hX44 hS h43 _ (lv_sub hl [2, 3, 4, 5, 1, 0] rfl) h
      exact hL37 n (0 : Int32) (0 : Int32) S0 _ _ hM hX0 hS ha0 _ (lv_sub hl [2, 3, 4, 5, 1, 0] rfl) h
    · have h := zt h hc10
      exact hK3 _ _ hM hX0 hS ha0 _ (lv_sub hl [0, 3] rfl) h
theorem k_X0L_waysFrom (l : Launch) (D : va_G) (cy : Nat → ClassId) (B n : Nat) : ∀ (dd : Nat) {S : zM} {b0 : Nat} {b1 : Int32} {b2 : Int32} {b3 : Int32} {q : Int32} {S1 : zM}, zA S b0 3 →  f_X0L_waysFrom n dd S b0 b1 b2 b3 = some (q, S1) → Met l yX0_waysFrom (zws yX0_waysFrom cX0_waysFrom 6 ((some .int))) { frames := 4 * dd, cells := 0, slots := 0, locals := 94 * dd } (zPc D cy B S [.ref (B + b0), .int b1, .int b2, .int b3]) (zQi D cy B S q S1) 0 0 (fun q => B < q) := by
  intro dd
  induction dd with
  | zero =>
    intro S _ _ _ _ _ _ g0 h
    exact znone h
  | succ dd ih =>
    intro S _ _ _ _ _ _ g0 h
    exact c_X0L_waysFromO l D cy B dd @ih g0 h
theorem c_X0L_waysFrom (l : Launch) (D : va_G) (cy : Nat → ClassId) (B : Nat) {n : Nat} : ∀ {S : zM} {b0 : Nat} {b1 : Int32} {b2 : Int32} {b3 : Int32} {q : Int32} {S1 : zM}, zA S b0 3 →  f_X0L_waysFrom n 9 S b0 b1 b2 b3 = some (q, S1) → Met l yX0_waysFrom (zws yX0_waysFrom cX0_waysFrom 6 ((some .int))) { frames := 36, cells := 0, slots := 0, locals := 846 } (zPc D cy B S [.ref (B + b0), .int b1, .int b2, .int b3]) (zQi D cy B S q S1) 0 0 (fun q => B < q) := by
  intro S _ _ _ _ _ _ g0 h
  exact k_X0L_waysFrom l D cy B n 9 g0 h
def f_X0L_waysAsGood (n : Nat) (S0 : zM) (a0 : Nat) : Option (Int32 × zM) :=
  zB1 (f_X0L_asItStands n S0 a0) (fun r2 => zLet (zpI S0 a0 1 r2) (fun S5 => zB2 (f_X0L_waysFrom n 9 S5 a0 (0 : Int32) (0 : Int32) (0 : Int32)) (fun r11 S12 => some ((r11, S12)))))
set_option maxHeartbeats 4000000 in
set_option maxRecDepth 100000 in
theorem c_X0L_waysAsGood (l : Launch) (D : va_G) (cy : Nat → ClassId) (B : Nat) {n : Nat} {S0 : zM} {a0 : Nat} {r : Int32} {S' : zM} (ha0 : zA S0 a0 3) (h : f_X0L_waysAsGood n S0 a0 = some (r, S')) : Met l yX0_waysAsGood (zws yX0_waysAsGood cX0_waysAsGood 1 ((some .int))) { frames := 37, cells := 0, slots := 0, locals := 871 } (zPc D cy B S0 [.ref (B + a0)]) (zQi D cy B S0 r S') 0 0 (fun q => B < q) := by
  refine Met.ofW (cc := cX0_waysAsGood) (maxL := 1) (ret := ((some .int))) (by decide) rfl ?_
  intro p e s m args below meth c s₁ Bd hml hv
  obtain ⟨rfl, hC, hM⟩ := hv
  obtain ⟨hx, hb, hr, hg, hown, hlk⟩ := z_open Bd
  have hK := hC.1
  have hS : va_S (fun q => B < q) s.heap s.heap [] := va_S.rf
  have hX0 : zX S0 S0 := zX.rf
  refine z_entry (vs := [.ref (B + a0)]) (Nat.le_of_ble_eq_true rfl) (fun ls hl => ?_)
  have hl : lv_has ls 1 [(0, .ref (B + a0))] := hl
  unfold f_X0L_waysAsGood at h
  refine lv_aload_n hx hb dX0_waysAsGood_0 rfl (lv_at hl 0 rfl) ?_
  refine lv_aload_n hx hb dX0_waysAsGood_1 rfl (lv_at hl 0 rfl) ?_
  obtain ⟨r2, hr1, h⟩ := zb1 h
  refine z_runi (va_runU (As := []) (rest := [.ref (B + a0)]) ⟨hx, hb, hml, hown, hg⟩ (c_X0L_asItStands l D cy B ha0 hr1) (z_cwU (n := 0) (owner := "DiveChairs$Dealing") hg zw_732 zw_1455 zw_1456 zw_707 zw_8 zw_708 rfl (by decide +kernel) ⟨(Nat.le_of_ble_eq_true rfl), (Nat.le_of_ble_eq_true rfl)⟩) (zPV hC hM ha0 (by decide) rfl) rfl rfl hl.1 rfl (lv_room (Nat.le_of_ble_eq_true rfl)) dX0_waysAsGood_2 ⟨(Nat.le_of_ble_eq_true rfl), (Nat.le_of_ble_eq_true rfl)⟩) hS (fun H locs hM hX3 hS => ?_)
  refine z_putI hx hb hg zin_3 tyX3 tyX3_ok nmX3 hown hK hM hS ha0 1 rfl (by decide) (hg _ zw_195) (fun _ h9 => h9) (Or.inl rfl) (tyX3_ok 1 (by decide)) rfl rfl dX0_waysAsGood_5 (fun H locs hM hS => ?_)
  obtain ⟨S5, e6, h⟩ := zlg h
  rw [← e6] at hM
  have hX7 : zX S0 S5 := by rw [e6]; exact zX_pI
  have h8 := ha0.mo hX7
  have hX9 := hX0.tr hX7
  refine lv_aload_n hx hb dX0_waysAsGood_8 rfl (lv_at hl 0 rfl) ?_
  refine lv_iconst (v := (0 : Int32)) hx hb dX0_waysAsGood_9 (by decide +kernel) ?_
  refine lv_iconst (v := (0 : Int32)) hx hb dX0_waysAsGood_10 (by decide +kernel) ?_
  refine lv_iconst (v := (0 : Int32)) hx hb dX0_waysAsGood_11 (by decide +kernel) ?_
  obtain ⟨r11, S12, hr10, h⟩ := zb2 h
  refine z_runi (va_runU (As := [.int (0 : Int32), .int (0 : Int32), .int (0 : Int32)]) (rest := []) ⟨hx, hb, hml, hown, hg⟩ (c_X0L_waysFrom l D cy B h8 hr10) (z_cwP (n := 3) (C := "DiveChairs$LandDealing") (owner := "DiveChairs$Dealing") hg hC (by decide +kernel) zw_733 zw_1458 rfl zw_734 zw_8 zw_735 rfl (by decide +kernel) ⟨(Nat.le_of_ble_eq_true rfl), (Nat.le_of_ble_eq_true rfl)⟩) (zPV hC hM h8 (by decide) rfl) rfl rfl hl.1 rfl (lv_room (Nat.le_of_ble_eq_true rfl)) dX0_waysAsGood_12 ⟨(Nat.le_of_ble_eq_true rfl), (Nat.le_of_ble_eq_true rfl)⟩) hS (fun H locs hM hX13 hS => ?_)
  have hX15 := hX9.tr hX13
  exact z_iret hx hb hr hlk hM hX15 hS (zsp h) dX0_waysAsGood_15
def f_X0O_gainAt_L4b (S0 : zM) (a0 : Nat) (v1 : Int32) (K3 : Int32 → Option (Int32)) (rec4 : Int32 → Int32 → Option (Int32)) (x5 : Int32) (x6 : Int32) : Option (Int32) :=
  if v1 ≤ x6 then K3 x5 else zChk (¬ (zr S0 a0 0) = 0) (zChk (¬ (x6 < 0 ∨ zln S0 (zr S0 a0 0) ≤ (x6).toNatClampNeg)) (zChk (¬ (v1 < 0 ∨ zln S0 (zr S0 a0 0) ≤ (v1).toNatClampNeg)) (zB1 (f_X4_between S0 a0 x6 (zi S0 (zr S0 a0 0) (Int32.toNatClampNeg x6)) v1 (zi S0 (zr S0 a0 0) (Int32.toNatClampNeg v1))) (fun r15 => rec4 (x5 + r15) (x6 + (1 : Int32))))))
def f_X0O_gainAt_L4 (S0 : zM) (a0 : Nat) (v1 : Int32) (K3 : Int32 → Option (Int32)) : Nat → Int32 → Int32 → Option (Int32)
  | 0 => fun _ _ => none
  | k + 1 => fun x5 x6 => f_X0O_gainAt_L4b S0 a0 v1 K3 (f_X0O_gainAt_L4 S0 a0 v1 K3 k) x5 x6
def f_X0O_gainAt (n : Nat) (S0 : zM) (a0 : Nat) (v1 : Int32) : Option (Int32) :=
  zLet (fun (x1 : Int32) => some x1) (fun K3 => f_X0O_gainAt_L4 S0 a0 v1 K3 n (0 : Int32) (0 : Int32))
set_option maxHeartbeats 4000000 in
set_option maxRecDepth 100000 in
theorem c_X0O_gainAt (l : Launch) (D : va_G) (cy : Nat → ClassId) (B : Nat) {n : Nat} {S0 : zM} {a0 : Nat} {v1 : Int32} {r : Int32} (ha0 : zA S0 a0 4) (h : f_X0O_gainAt n S0 a0 v1 = some r) : Met l yX0_gainAt (zws yX0_gainAt cX0_gainAt 4 ((some .int))) { frames := 2, cells := 0, slots := 0, locals := 47 } (zPc D cy B S0 [.ref (B + a0), .int v1]) (zQi D cy B S0 r S0) 0 0 (fun q => B < q) := by
  refine Met.ofW (cc := cX0_gainAt) (maxL := 4) (ret := ((some .int))) (by decide) rfl ?_
  intro p e s m args below meth c s₁ Bd hml hv
  obtain ⟨rfl, hC, hM⟩ := hv
  obtain ⟨hx, hb, hr, hg, hown, hlk⟩ := z_open Bd
  have hK := hC.1
  have hS : va_S (fun q => B < q) s.heap s.heap [] := va_S.rf
  have hX0 : zX S0 S0 := zX.rf
  refine z_entry (vs := [.ref (B + a0), .int v1]) (Nat.le_of_ble_eq_true rfl) (fun ls hl => ?_)
  have hl : lv_has ls 4 [(0, .ref (B + a0)), (1, .int v1)] := hl
  unfold f_X0O_gainAt at h
  refine lv_iconst (v := (0 : Int32)) hx hb dX0_gainAt_0 (by decide +kernel) ?_
  refine lv_istore_n (i := 2) (lv' := [(2, .int (0 : Int32)), (0, .ref (B + a0)), (1, .int v1)]) hx hb dX0_gainAt_1 rfl hl (by decide) rfl (fun ls hl => ?_)
  refine lv_iconst (v := (0 : Int32)) hx hb dX0_gainAt_2 (by decide +kernel) ?_
  refine lv_istore_n (i := 3) (lv' := [(3, .int (0 : Int32)), (2, .int (0 : Int32)), (0, .ref (B + a0)), (1, .int v1)]) hx hb dX0_gainAt_3 rfl hl (by decide) rfl (fun ls hl => ?_)
  obtain ⟨K3, eK3, h⟩ := zlg h
  have hK3 : ∀ (x1 : Int32) (H : Heap) (locs : List Loc), zMR D cy B S0 H → zX S0 S0 → va_S (fun q => B < q) s.heap H locs → ∀ ls : Array Slot, lv_has ls 4 [(2, .int x1)] → K3 x1 = some r → W p l e (headSpec (zws yX0_gainAt cX0_gainAt 4 ((some .int))) { frames := 2, cells := 0, slots := 0, locals := 47 }).room s m (([.ref (B + a0), .int v1] : List Value).toArray) below meth c H locs 0 0 (MQ below (zQi D cy B S0 r S0) (([.ref (B + a0), .int v1] : List Value).toArray) s 0 0 (fun q => B < q)) (F0 m 36 ls []) := by
    intro x1 H locs hM hX2 hS ls hl h
    rw [eK3] at h
    refine lv_iload_n hx hb dX0_gainAt_36 rfl (lv_at hl 0 rfl) ?_
    exact z_iret hx hb hr hlk hM hX2 hS ⟨zsm h, rfl⟩ dX0_gainAt_37
  have hL4 : ∀ (k : Nat) (x5 : Int32) (x6 : Int32) (H : Heap) (locs : List Loc), zMR D cy B S0 H → zX S0 S0 → va_S (fun q => B < q) s.heap H locs → zA S0 a0 4 → ∀ ls : Array Slot, lv_has ls 4 [(0, .ref (B + a0)), (1, .int v1), (2, .int x5), (3, .int x6)] → f_X0O_gainAt_L4 S0 a0 v1 K3 k x5 x6 = some r → W p l e (headSpec (zws yX0_gainAt cX0_gainAt 4 ((some .int))) { frames := 2, cells := 0, slots := 0, locals := 47 }).room s m (([.ref (B + a0), .int v1] : List Value).toArray) below meth c H locs 0 0 (MQ below (zQi D cy B S0 r S0) (([.ref (B + a0), .int v1] : List Value).toArray) s 0 0 (fun q => B < q)) (F0 m 4 ls []) := by
    intro k
    induction k with
    | zero =>
      intro x5 x6 H locs hM hX7 hS h4 ls hl h
      exact znone h
    | succ k ih4 =>
      intro x5 x6 H locs hM hX7 hS h4 ls hl h
      replace h : f_X0O_gainAt_L4b S0 a0 v1 K3 (f_X0O_gainAt_L4 S0 a0 v1 K3 k) x5 x6 = some r := h
      generalize f_X0O_gainAt_L4 S0 a0 v1 K3 k = rec4 at ih4 h
      unfold f_X0O_gainAt_L4b at h
      refine lv_iload_n hx hb dX0_gainAt_4 rfl (lv_at hl 3 rfl) ?_
      refine lv_iload_n hx hb dX0_gainAt_5 rfl (lv_at hl 1 rfl) ?_
      refine lv_icmp_ge (tgt := 36) hx hb dX0_gainAt_6 (by decide) (fun hc8 => ?_) (fun hc8 => ?_)
      · have h := zt h hc8
        exact hK3 x5 _ _ hM hX7 hS _ (lv_sub hl [2] rfl) h
      · have h := zf h hc8
        refine lv_iload_n hx hb dX0_gainAt_9 rfl (lv_at hl 2 rfl) ?_
        refine lv_aload_n hx hb dX0_gainAt_10 rfl (lv_at hl 0 rfl) ?_
        refine lv_iload_n hx hb dX0_gainAt_11 rfl (lv_at hl 3 rfl) ?_
        refine lv_aload_n hx hb dX0_gainAt_12 rfl (lv_at hl 0 rfl) ?_
        obtain ⟨hq10, h⟩ := zk h
        refine z_getN hx hb hg zin_4 hown hK hM h4 0 rfl (by decide) (hg _ zw_194) (fun _ h9 => h9) hq10 dX0_gainAt_13 (fun h9 => ?_)
        refine lv_iload_n hx hb dX0_gainAt_16 rfl (lv_at hl 3 rfl) ?_
        obtain ⟨hq11, h⟩ := zk h
        refine z_iald hx hb hK hM h9 hq11 dX0_gainAt_17 ?_
        refine lv_iload_n hx hb dX0_gainAt_18 rfl (lv_at hl 1 rfl) ?_
        refine lv_aload_n hx hb dX0_gainAt_19 rfl (lv_at hl 0 rfl) ?_
        refine z_getN hx hb hg zin_4 hown hK hM h4 0 rfl (by decide) (hg _ zw_194) (fun _ h9 => h9) h9.ne dX0_gainAt_20 (fun h12 => ?_)
        refine lv_iload_n hx hb dX0_gainAt_23 rfl (lv_at hl 1 rfl) ?_
        obtain ⟨hq13, h⟩ := zk h
        refine z_iald hx hb hK hM h12 hq13 dX0_gainAt_24 ?_
        obtain ⟨r15, hr14, h⟩ := zb1 h
        refine z_runi (va_runU (As := [.int x6, .int (zi S0 (zr S0 a0 0) (Int32.toNatClampNeg x6)), .int v1, .int (zi S0 (zr S0 a0 0) (Int32.toNatClampNeg v1))]) (rest := [.int x5]) ⟨hx, hb, hml, hown, hg⟩ (c_X4_between l D cy B h4 hr14) (z_cwA (n := 4) (owner := "DiveChairs$Dealing") hg hC (by decide +kernel) zw_709 zw_711 zw_718 zw_719 zw_9 zw_720 (by decide +kernel) ⟨(Nat.le_of_ble_eq_true rfl), (Nat.le_of_ble_eq_true rfl)⟩) (zPV hC hM h4 (by decide) rfl) rfl rfl hl.1 rfl (lv_room (Nat.le_of_ble_eq_true rfl)) dX0_gainAt_25 ⟨(Nat.le_of_ble_eq_true rfl), (Nat.le_of_ble_eq_true rfl)⟩) hS (fun H locs hM hX16 hS => ?_)
        refine lv_iadd hx hb dX0_gainAt_28 ?_
        refine lv_istore_n (i := 2) (lv' := [(2, .int (x5 + r15)), (0, .ref (B + a0)), (1, .int v1), (3, .int x6)]) hx hb dX0_gainAt_29 rfl hl (by decide) rfl (fun ls hl => ?_)
        refine lv_iinc (v := (x6 + (1 : Int32))) (lv' := [(3, .int (x6 + (1 : Int32))), (2, .int (x5 + r15)), (0, .ref (B + a0)), (1, .int v1)]) hx hb dX0_gainAt_30 hl (k := 3) rfl rfl (by decide) rfl (fun ls hl => ?_)
        refine lv_goto (tgt := 4) hx hb dX0_gainAt_33 (by decide) ?_
        exact ih4 (x5 + r15) (x6 + (1 : Int32)) _ _ hM hX7 hS h4 _ (lv_sub hl [2, 3, 1, 0] rfl) h
  exact hL4 n (0 : Int32) (0 : Int32) _ _ hM hX0 hS ha0 _ (lv_sub hl [2, 3, 1, 0] rfl) h
def f_X0O_waysFrom_L37b (n : Nat) (rc : zM → Nat → Int32 → Int32 → Int32 → Option (Int32 × zM)) (a0 : Nat) (v1 : Int32) (v2 : Int32) (v3 : Int32) (rc : zM → Nat → Int32 → Int32 → Int32 → Option (Int32 × zM)) (K14 : Int32 → zM → Option (Int32 × zM)) (rec37 : Int32 → Int32 → zM → Option (Int32 × zM)) (x16 : Int32) (x17 : Int32) (S18 : zM) : Option (Int32 × zM) :=
  if (zi S18 a0 2) ≤ x17 then K14 x16 S18 else zLet (f_X11_holds v2 x17) (fun r22 => if r22 = 0 then zChk (¬ (zr S18 a0 0) = 0) (zChk (¬ (v1 < 0 ∨ zln S18 (zr S18 a0 0) ≤ (v1).toNatClampNeg)) (zLet (zpI S18 (zr S18 a0 0) (Int32.toNatClampNeg v1) x17) (fun S29 => zB1 (f_X0O_gainAt n S29 a0 v1) (fun r35 => zB2 (rc S29 a0 (v1 + (1 : Int32)) (v2 ||| ((1 : Int32) <<< (x17 &&& 31))) (v3 + r35)) (fun r39 S40 => rec37 (x16 + r39) (x17 + (1 : Int32)) S40))))) else rec37 x16 (x17 + (1 : Int32)) S18)
def f_X0O_waysFrom_L37 (n : Nat) (rc : zM → Nat → Int32 → Int32 → Int32 → Option (Int32 × zM)) (a0 : Nat) (v1 : Int32) (v2 : Int32) (v3 : Int32) (rc : zM → Nat → Int32 → Int32 → Int32 → Option (Int32 × zM)) (K14 : Int32 → zM → Option (Int32 × zM)) : Nat → Int32 → Int32 → zM → Option (Int32 × zM)
  | 0 => fun _ _ _ => none
  | k + 1 => fun x16 x17 S18 => f_X0O_waysFrom_L37b n rc a0 v1 v2 v3 rc K14 (f_X0O_waysFrom_L37 n rc a0 v1 v2 v3 rc K14 k) x16 x17 S18
def f_X0O_waysFromO (n : Nat) (rc : zM → Nat → Int32 → Int32 → Int32 → Option (Int32 × zM)) (S0 : zM) (a0 : Nat) (v1 : Int32) (v2 : Int32) (v3 : Int32) : Option (Int32 × zM) :=
  zLet (if v3 < (zi S0 a0 1) then some (((0 : Int32), S0)) else some (((1 : Int32), S0))) (fun K3 => if (zi S0 a0 2) ≤ v1 then K3 else zLet (f_X11_within v1 (7 : Int32)) (fun r7 => if r7 = 0 then K3 else zLet (fun (x11 : Int32) (S12 : zM) => some ((x11, S12))) (fun K14 => f_X0O_waysFrom_L37 n rc a0 v1 v2 v3 rc K14 n (0 : Int32) (0 : Int32) S0)))
def f_X0O_waysFrom (n : Nat) : Nat → zM → Nat → Int32 → Int32 → Int32 → Option (Int32 × zM)
  | 0 => fun _ _ _ _ _ => none
  | d + 1 => f_X0O_waysFromO n (f_X0O_waysFrom n d)
set_option maxHeartbeats 4000000 in
set_option maxRecDepth 100000 in
theorem c_X0O_waysFromO (l : Launch) (D : va_G) (cy : Nat → ClassId) (B : Nat) (dd : Nat) {rc : zM → Nat → Int32 → Int32 → Int32 → Option (Int32 × zM)} (hrc : ∀ {S : zM} {b0 : Nat} {b1 : Int32} {b2 : Int32} {b3 : Int32} {q : Int32} {S1 : zM}, zA S b0 4 →  rc S b0 b1 b2 b3 = some (q, S1) → Met l yX0_waysFrom (zws yX0_waysFrom cX0_waysFrom 6 ((some .int))) { frames := 3 * dd, cells := 0, slots := 0, locals := 70 * dd } (zPc D cy B S [.ref (B + b0), .int b1, .int b2, .int b3]) (zQi D cy B S q S1) 0 0 (fun q => B < q)) {n : Nat} {S0 : zM} {a0 : Nat} {v1 : Int32} {v2 : Int32} {v3 : Int32} {r : Int32} {S' : zM} (ha0 : zA S0 a0 4) (h : f_X0O_waysFromO n rc S0 a0 v1 v2 v3 = some (r, S')) : Met l yX0_waysFrom (zws yX0_waysFrom cX0_waysFrom 6 ((some .int))) { frames := 3 * dd + 3, cells := 0, slots := 0, locals := 70 * dd + 70 } (zPc D cy B S0 [.ref (B + a0), .int v1, .int v2, .int v3]) (zQi D cy B S0 r S') 0 0 (fun q => B < q) := by
  refine Met.ofW (cc := cX0_waysFrom) (maxL := 6) (ret := ((some .int))) (by decide) rfl ?_
  intro p e s m args below meth c s₁ Bd hml hv
  obtain ⟨rfl, hC, hM⟩ := hv
  obtain ⟨hx, hb, hr, hg, hown, hlk⟩ := z_open Bd
  have hK := hC.1
  have hS : va_S (fun q => B < q) s.heap s.heap [] := va_S.rf
  have hX0 : zX S0 S0 := zX.rf
  refine z_entry (vs := [.ref (B + a0), .int v1, .int v2, .int v3]) (Nat.le_of_ble_eq_true rfl) (fun ls hl => ?_)
  have hl : lv_has ls 6 [(0, .ref (B + a0)), (1, .int v1), (2, .int v2), (3, .int v3)] := hl
  unfold f_X0O_waysFromO at h
  refine lv_iload_n hx hb dX0_waysFrom_0 rfl (lv_at hl 1 rfl) ?_
  refine lv_aload_n hx hb dX0_waysFrom_1 rfl (lv_at hl 0 rfl) ?_
  refine z_getI hx hb hg zin_4 hown hK hM ha0 2 rfl (by decide) (hg _ zw_200) (fun _ h9 => h9) dX0_waysFrom_2 ?_
  obtain ⟨K3, eK3, h⟩ := zlg h
  have hK3 : ∀ (H : Heap) (locs : List Loc), zMR D cy B S0 H → zX S0 S0 → va_S (fun q => B < q) s.heap H locs → zA S0 a0 4 → ∀ ls : Array Slot, lv_has ls 6 [(0, .ref (B + a0)), (3, .int v3)] → K3 = some (r, S') → W p l e (headSpec (zws yX0_waysFrom cX0_waysFrom 6 ((some .int))) { frames := 3 * dd + 3, cells := 0, slots := 0, locals := 70 * dd + 70 }).room s m (([.ref (B + a0), .int v1, .int v2, .int v3] : List Value).toArray) below meth c H locs 0 0 (MQ below (zQi D cy B S0 r S') (([.ref (B + a0), .int v1, .int v2, .int v3] : List Value).toArray) s 0 0 (fun q => B < q)) (F0 m 17 ls []) := by
    intro H locs hM hX2 hS h1 ls hl h
    rw [eK3] at h
    refine lv_iload_n hx hb dX0_waysFrom_17 rfl (lv_at hl 1 rfl) ?_
    refine lv_aload_n hx hb dX0_waysFrom_18 rfl (lv_at hl 0 rfl) ?_
    refine z_getI hx hb hg zin_4 hown hK hM h1 1 rfl (by decide) (hg _ zw_195) (fun _ h9 => h9) dX0_waysFrom_19 ?_
    refine lv_icmp_lt (tgt := 29) hx hb dX0_waysFrom_22 (by decide) (fun hc4 => ?_) (fun hc4 => ?_)
    · have h := zt h hc4
      refine lv_iconst (v := (0 : Int32)) hx hb dX0_waysFrom_29 (by decide +kernel) ?_
      exact z_iret hx hb hr hlk hM hX2 hS (zsp h) dX0_waysFrom_30
    · have h := zf h hc4
      refine lv_iconst (v := (1 : Int32)) hx hb dX0_waysFrom_25 (by decide +kernel) ?_
      refine lv_goto (tgt := 30) hx hb dX0_waysFrom_26 (by decide) ?_
      exact z_iret hx hb hr hlk hM hX2 hS (zsp h) dX0_waysFrom_30
  refine lv_icmp_ge (tgt := 17) hx hb dX0_waysFrom_5 (by decide) (fun hc5 => ?_) (fun hc5 => ?_)
  · have h := zt h hc5
    exact hK3 _ _ hM hX0 hS ha0 _ (lv_sub hl [0, 3] rfl) h
  · have h := zf h hc5
    refine lv_iload_n hx hb dX0_waysFrom_8 rfl (lv_at hl 1 rfl) ?_
    refine lv_bipush (v := (7 : Int32)) hx hb dX0_waysFrom_9 (by decide +kernel) ?_
    obtain ⟨r7, hr6, h⟩ := zlg h
    have hr6 := hr6.symm
    refine z_runi (va_runSN (As := [.int v1, .int (7 : Int32)]) (rest := []) ⟨hx, hb, hml, hown, hg⟩ (c_X11_within l D cy B hr6) ⟨z_cnB hg hC (List.mem_of_getElem? (i := 17) rfl) zw_2 zw_292 zh_X11_within.2 ⟨by show 0 + 1 ≤ 3 * dd + 3; omega, by show 8 + (2 + 11) + 0 ≤ 70 * dd + 70; omega⟩, hg _ zw_291, trivial⟩ (zPS hC hM) rfl rfl hl.1 rfl (lv_room (Nat.le_of_ble_eq_true rfl)) dX0_waysFrom_11 ⟨(Nat.le_of_ble_eq_true rfl), (Nat.le_of_ble_eq_true rfl)⟩) hS (fun H locs hM hX8 hS => ?_)
    refine lv_if_ne (tgt := 31) hx hb dX0_waysFrom_14 (by decide) (fun hc10 => ?_) (fun hc10 => ?_)
    · have h := zf h hc10
      refine lv_iconst (v := (0 : Int32)) hx hb dX0_waysFrom_31 (by decide +kernel) ?_
      refine lv_istore (i := 4) (lv' := [(4, .int (0 : Int32)), (0, .ref (B + a0)), (1, .int v1), (2, .int v2), (3, .int v3)]) hx hb dX0_waysFrom_32 hl (by decide) rfl (fun ls hl => ?_)
      refine lv_iconst (v := (0 : Int32)) hx hb dX0_waysFrom_34 (by decide +kernel) ?_
      refine lv_istore (i := 5) (lv' := [(5, .int (0 : Int32)), (4, .int (0 : Int32)), (0, .ref (B + a0)), (1, .int v1), (2, .int v2), (3, .int v3)]) hx hb dX0_waysFrom_35 hl (by decide) rfl (fun ls hl => ?_)
      obtain ⟨K14, eK14, h⟩ := zlg h
      have hK14 : ∀ (x11 : Int32) (S12 : zM) (H : Heap) (locs : List Loc), zMR D cy B S12 H → zX S0 S12 → va_S (fun q => B < q) s.heap H locs → ∀ ls : Array Slot, lv_has ls 6 [(4, .int x11)] → K14 x11 S12 = some (r, S') → W p l e (headSpec (zws yX0_waysFrom cX0_waysFrom 6 ((some .int))) { frames := 3 * dd + 3, cells := 0, slots := 0, locals := 70 * dd + 70 }).room s m (([.ref (B + a0), .int v1, .int v2, .int v3] : List Value).toArray) below meth c H locs 0 0 (MQ below (zQi D cy B S0 r S') (([.ref (B + a0), .int v1, .int v2, .int v3] : List Value).toArray) s 0 0 (fun q => B < q)) (F0 m 94 ls []) := by
        intro x11 S12 H locs hM hX13 hS ls hl h
        rw [eK14] at h
        refine lv_iload hx hb dX0_waysFrom_94 (lv_at hl 0 rfl) ?_
        exact z_iret hx hb hr hlk hM hX13 hS (zsp h) dX0_waysFrom_96
      have hL37 : ∀ (k : Nat) (x16 : Int32) (x17 : Int32) (S18 : zM) (H : Heap) (locs : List Loc), zMR D cy B S18 H → zX S0 S18 → va_S (fun q => B < q) s.heap H locs → zA S18 a0 4 → ∀ ls : Array Slot, lv_has ls 6 [(0, .ref (B + a0)), (1, .int v1), (2, .int v2), (3, .int v3), (4, .int x16), (5, .int x17)] → f_X0O_waysFrom_L37 n rc a0 v1 v2 v3 rc K14 k x16 x17 S18 = some (r, S') → W p l e (headSpec (zws yX0_waysFrom cX0_waysFrom 6 ((some .int))) { frames := 3 * dd + 3, cells := 0, slots := 0, locals := 70 * dd + 70 }).room s m (([.ref (B + a0), .int v1, .int v2, .int v3] : List Value).toArray) below meth c H locs 0 0 (MQ below (zQi D cy B S0 r S') (([.ref (B + a0), .int v1, .int v2, .int v3] : List Value).toArray) s 0 0 (fun q => B < q)) (F0 m 37 ls []) := by
        intro k
        induction k with
        | zero =>
          intro x16 x17 S18 H locs hM hX19 hS h15 ls hl h
          exact znone h
        | succ k ih37 =>
          intro x16 x17 S18 H locs hM hX19 hS h15 ls hl h
          replace h : f_X0O_waysFrom_L37b n rc a0 v1 v2 v3 rc K14 (f_X0O_waysFrom_L37 n rc a0 v1 v2 v3 rc K14 k) x16 x17 S18 = some (r, S') := h
          generalize f_X0O_waysFrom_L37 n rc a0 v1 v2 v3 rc K14 k = rec37 at ih37 h
          unfold f_X0O_waysFrom_L37b at h
          refine lv_iload hx hb dX0_waysFrom_37 (lv_at hl 5 rfl) ?_
          refine lv_aload_n hx hb dX0_waysFrom_39 rfl (lv_at hl 0 rfl) ?_
          refine z_getI hx hb hg zin_4 hown hK hM h15 2 rfl (by decide) (hg _ zw_200) (fun _ h9 => h9) dX0_waysFrom_40 ?_
          refine lv_icmp_ge (tgt := 94) hx hb dX0_waysFrom_43 (by decide) (fun hc20 => ?_) (fun hc20 => ?_)
          · have h := zt h hc20
            exact hK14 x16 S18 _ _ hM hX19 hS _ (lv_sub hl [4] rfl) h
          · have h := zf h hc20
            refine lv_iload_n hx hb dX0_waysFrom_46 rfl (lv_at hl 2 rfl) ?_
            refine lv_iload hx hb dX0_waysFrom_47 (lv_at hl 5 rfl) ?_
            obtain ⟨r22, hr21, h⟩ := zlg h
            have hr21 := hr21.symm
            refine z_runi (va_runSN (As := [.int v2, .int x17]) (rest := []) ⟨hx, hb, hml, hown, hg⟩ (c_X11_holds l D cy B hr21) ⟨z_cnB hg hC (List.mem_of_getElem? (i := 18) rfl) zw_2 zw_592 zh_X11_holds.2 ⟨by show 0 + 1 ≤ 3 * dd + 3; omega, by show 8 + (2 + 11) + 0 ≤ 70 * dd + 70; omega⟩, hg _ zw_591, trivial⟩ (zPS hC hM) rfl rfl hl.1 rfl (lv_room (Nat.le_of_ble_eq_true rfl)) dX0_waysFrom_49 ⟨(Nat.le_of_ble_eq_true rfl), (Nat.le_of_ble_eq_true rfl)⟩) hS (fun H locs hM hX23 hS => ?_)
            refine lv_if_ne (tgt := 88) hx hb dX0_waysFrom_52 (by decide) (fun hc25 => ?_) (fun hc25 => ?_)
            · have h := zf h hc25
              refine lv_iinc (v := (x17 + (1 : Int32))) (lv' := [(5, .int (x17 + (1 : Int32))), (0, .ref (B + a0)), (1, .int v1), (2, .int v2), (3, .int v3), (4, .int x16)]) hx hb dX0_waysFrom_88 hl (k := 5) rfl rfl (by decide) rfl (fun ls hl => ?_)
              refine lv_goto (tgt := 37) hx hb dX0_waysFrom_91 (by decide) ?_
              exact ih37 x16 (x17 + (1 : Int32)) S18 _ _ hM hX19 hS h15 _ (lv_sub hl [1, 2, 3, 4, 5, 0] rfl) h
            · have h := zt h hc25
              refine lv_aload_n hx hb dX0_waysFrom_55 rfl (lv_at hl 0 rfl) ?_
              obtain ⟨hq27, h⟩ := zk h
              refine z_getN hx hb hg zin_4 hown hK hM h15 0 rfl (by decide) (hg _ zw_194) (fun _ h9 => h9) hq27 dX0_waysFrom_56 (fun h26 => ?_)
              refine lv_iload_n hx hb dX0_waysFrom_59 rfl (lv_at hl 1 rfl) ?_
              refine lv_iload hx hb dX0_waysFrom_60 (lv_at hl 5 rfl) ?_
              obtain ⟨hq28, h⟩ := zk h
              refine z_iast hx hb hK hM hS h26 hq28 dX0_waysFrom_62 (fun H locs hM hS => ?_)
              obtain ⟨S29, e30, h⟩ := zlg h
              rw [← e30] at hM
              have hX31 : zX S18 S29 := by rw [e30]; exact zX_pI
              have h32 := h15.mo hX31
              have hX33 := hX19.tr hX31
              refine lv_iload hx hb dX0_waysFrom_63 (lv_at hl 4 rfl) ?_
              refine lv_aload_n hx hb dX0_waysFrom_65 rfl (lv_at hl 0 rfl) ?_
              refine lv_iload_n hx hb dX0_waysFrom_66 rfl (lv_at hl 1 rfl) ?_
              refine lv_iconst (v := (1 : Int32)) hx hb dX0_waysFrom_67 (by decide +kernel) ?_
              refine lv_iadd hx hb dX0_waysFrom_68 ?_
              refine lv_iload_n hx hb dX0_waysFrom_69 rfl (lv_at hl 2 rfl) ?_
              refine lv_iconst (v := (1 : Int32)) hx hb dX0_waysFrom_70 (by decide +kernel) ?_
              refine lv_iload hx hb dX0_waysFrom_71 (lv_at hl 5 rfl) ?_
              refine lv_ishl hx hb dX0_waysFrom_73 ?_
              refine lv_ior hx hb dX0_waysFrom_74 ?_
              refine lv_iload_n hx hb dX0_waysFrom_75 rfl (lv_at hl 3 rfl) ?_
              refine lv_aload_n hx hb dX0_waysFrom_76 rfl (lv_at hl 0 rfl) ?_
              refine lv_iload_n hx hb dX0_waysFrom_77 rfl (lv_at hl 1 rfl) ?_
              obtain ⟨r35, hr34, h⟩ := zb1 h
              refine z_runi (va_runU (As := [.int v1]) (rest := [.int v3, .int (v2 ||| ((1 : Int32) <<< (x17 &&& 31))), .int (v1 + (1 : Int32)), .ref (B + a0), .int x16]) ⟨hx, hb, hml, hown, hg⟩ (c_X0O_gainAt l D cy B h32 hr34) (z_cwP (n := 1) (C := "DiveChairs$OrderDealing") (owner := "DiveChairs$Dealing") hg hC (by decide +kernel) zw_738 zw_1459 rfl zw_739 zw_8 zw_740 rfl (by decide +kernel) ⟨by show 2 + 1 ≤ 3 * dd + 3; omega, by show 8 + (4 + 11) + 47 ≤ 70 * dd + 70; omega⟩) (zPV hC hM h32 (by decide) rfl) rfl rfl hl.1 rfl (lv_room (Nat.le_of_ble_eq_true rfl)) dX0_waysFrom_78 ⟨(Nat.le_of_ble_eq_true rfl), (Nat.le_of_ble_eq_true rfl)⟩) hS (fun H locs hM hX36 hS => ?_)
              refine lv_iadd hx hb dX0_waysFrom_81 ?_
              obtain ⟨r39, S40, hr38, h⟩ := zb2 h
              refine z_runi (va_runU (As := [.int (v1 + (1 : Int32)), .int (v2 ||| ((1 : Int32) <<< (x17 &&& 31))), .int (v3 + r35)]) (rest := [.int x16]) ⟨hx, hb, hml, hown, hg⟩ (hrc h32 hr38) (z_cwP (n := 3) (C := "DiveChairs$OrderDealing") (owner := "DiveChairs$Dealing") hg hC (by decide +kernel) zw_733 zw_1458 rfl zw_734 zw_8 zw_735 rfl (by decide +kernel) ⟨by show 3 * dd + 1 ≤ 3 * dd + 3; omega, by show 8 + (6 + 11) + (70 * dd) ≤ 70 * dd + 70; omega⟩) (zPV hC hM h32 (by decide) rfl) rfl rfl hl.1 rfl (lv_room (Nat.le_of_ble_eq_true rfl)) dX0_waysFrom_82 ⟨(Nat.le_of_ble_eq_true rfl), (Nat.le_of_ble_eq_true rfl)⟩) hS (fun H locs hM hX41 hS => ?_)
              have h43 := h32.mo hX41
              have hX44 := hX33.tr hX41
              refine lv_iadd hx hb dX0_waysFrom_85 ?_
              refine lv_istore (i := 4) (lv' := [(4, .int (x16 + r39)), (0, .ref (B + a0)), (1, .int v1), (2, .int v2), (3, .int v3), (5, .int x17)]) hx hb dX0_waysFrom_86 hl (by decide) rfl (fun ls hl => ?_)
              refine lv_iinc (v := (x17 + (1 : Int32))) (lv' := [(5, .int (x17 + (1 : Int32))), (4, .int (x16 + r39)), (0, .ref (B + a0)), (1, .int v1), (2, .int v2), (3, .int v3)]) hx hb dX0_waysFrom_88 hl (k := 5) rfl rfl (by decide) rfl (fun ls hl => ?_)
              refine lv_goto (tgt := 37) hx hb dX0_waysFrom_91 (by decide) ?_
              exact ih37 (x16 + r39) (x17 + (1 : Int32)) S40 _ _ hM hX44 hS h43 _ (lv_sub hl [2, 3, 4, 5, 1, 0] rfl) h
      exact hL37 n (0 : Int32) (0 : Int32) S0 _ _ hM hX0 hS ha0 _ (lv_sub hl [2, 3, 4, 5, 1, 0] rfl) h
    · have h := zt h hc10
      exact hK3 _ _ hM hX0 hS ha0 _ (lv_sub hl [0, 3] rfl) h
theorem k_X0O_waysFrom (l : Launch) (D : va_G) (cy : Nat → ClassId) (B n : Nat) : ∀ (dd : Nat) {S : zM} {b0 : Nat} {b1 : Int32} {b2 : Int32} {b3 : Int32} {q : Int32} {S1 : zM}, zA S b0 4 →  f_X0O_waysFrom n dd S b0 b1 b2 b3 = some (q, S1) → Met l yX0_waysFrom (zws yX0_waysFrom cX0_waysFrom 6 ((some .int))) { frames := 3 * dd, cells := 0, slots := 0, locals := 70 * dd } (zPc D cy B S [.ref (B + b0), .int b1, .int b2, .int b3]) (zQi D cy B S q S1) 0 0 (fun q => B < q) := by
  intro dd
  induction dd with
  | zero =>
    intro S _ _ _ _ _ _ g0 h
    exact znone h
  | succ dd ih =>
    intro S _ _ _ _ _ _ g0 h
    exact c_X0O_waysFromO l D cy B dd @ih g0 h
theorem c_X0O_waysFrom (l : Launch) (D : va_G) (cy : Nat → ClassId) (B : Nat) {n : Nat} : ∀ {S : zM} {b0 : Nat} {b1 : Int32} {b2 : Int32} {b3 : Int32} {q : Int32} {S1 : zM}, zA S b0 4 →  f_X0O_waysFrom n 9 S b0 b1 b2 b3 = some (q, S1) → Met l yX0_waysFrom (zws yX0_waysFrom cX0_waysFrom 6 ((some .int))) { frames := 27, cells := 0, slots := 0, locals := 630 } (zPc D cy B S [.ref (B + b0), .int b1, .int b2, .int b3]) (zQi D cy B S q S1) 0 0 (fun q => B < q) := by
  intro S _ _ _ _ _ _ g0 h
  exact k_X0O_waysFrom l D cy B n 9 g0 h
def f_X0O_waysAsGood (n : Nat) (S0 : zM) (a0 : Nat) : Option (Int32 × zM) :=
  zB1 (f_X0O_asItStands n S0 a0) (fun r2 => zLet (zpI S0 a0 1 r2) (fun S5 => zB2 (f_X0O_waysFrom n 9 S5 a0 (0 : Int32) (0 : Int32) (0 : Int32)) (fun r11 S12 => some ((r11, S12)))))
set_option maxHeartbeats 4000000 in
set_option maxRecDepth 100000 in
theorem c_X0O_waysAsGood (l : Launch) (D : va_G) (cy : Nat → ClassId) (B : Nat) {n : Nat} {S0 : zM} {a0 : Nat} {r : Int32} {S' : zM} (ha0 : zA S0 a0 4) (h : f_X0O_waysAsGood n S0 a0 = some (r, S')) : Met l yX0_waysAsGood (zws yX0_waysAsGood cX0_waysAsGood 1 ((some .int))) { frames := 28, cells := 0, slots := 0, locals := 655 } (zPc D cy B S0 [.ref (B + a0)]) (zQi D cy B S0 r S') 0 0 (fun q => B < q) := by
  refine Met.ofW (cc := cX0_waysAsGood) (maxL := 1) (ret := ((some .int))) (by decide) rfl ?_
  intro p e s m args below meth c s₁ Bd hml hv
  obtain ⟨rfl, hC, hM⟩ := hv
  obtain ⟨hx, hb, hr, hg, hown, hlk⟩ := z_open Bd
  have hK := hC.1
  have hS : va_S (fun q => B < q) s.heap s.heap [] := va_S.rf
  have hX0 : zX S0 S0 := zX.rf
  refine z_entry (vs := [.ref (B + a0)]) (Nat.le_of_ble_eq_true rfl) (fun ls hl => ?_)
  have hl : lv_has ls 1 [(0, .ref (B + a0))] := hl
  unfold f_X0O_waysAsGood at h
  refine lv_aload_n hx hb dX0_waysAsGood_0 rfl (lv_at hl 0 rfl) ?_
  refine lv_aload_n hx hb dX0_waysAsGood_1 rfl (lv_at hl 0 rfl) ?_
  obtain ⟨r2, hr1, h⟩ := zb1 h
  refine z_runi (va_runU (As := []) (rest := [.ref (B + a0)]) ⟨hx, hb, hml, hown, hg⟩ (c_X0O_asItStands l D cy B ha0 hr1) (z_cwU (n := 0) (owner := "DiveChairs$Dealing") hg zw_732 zw_1455 zw_1457 zw_707 zw_8 zw_708 rfl (by decide +kernel) ⟨(Nat.le_of_ble_eq_true rfl), (Nat.le_of_ble_eq_true rfl)⟩) (zPV hC hM ha0 (by decide) rfl) rfl rfl hl.1 rfl (lv_room (Nat.le_of_ble_eq_true rfl)) dX0_waysAsGood_2 ⟨(Nat.le_of_ble_eq_true rfl), (Nat.le_of_ble_eq_true rfl)⟩) hS (fun H locs hM hX3 hS => ?_)
  refine z_putI hx hb hg zin_4 tyX4 tyX4_ok nmX4 hown hK hM hS ha0 1 rfl (by decide) (hg _ zw_195) (fun _ h9 => h9) (Or.inl rfl) (tyX4_ok 1 (by decide)) rfl rfl dX0_waysAsGood_5 (fun H locs hM hS => ?_)
  obtain ⟨S5, e6, h⟩ := zlg h
  rw [← e6] at hM
  have hX7 : zX S0 S5 := by rw [e6]; exact zX_pI
  have h8 := ha0.mo hX7
  have hX9 := hX0.tr hX7
  refine lv_aload_n hx hb dX0_waysAsGood_8 rfl (lv_at hl 0 rfl) ?_
  refine lv_iconst (v := (0 : Int32)) hx hb dX0_waysAsGood_9 (by decide +kernel) ?_
  refine lv_iconst (v := (0 : Int32)) hx hb dX0_waysAsGood_10 (by decide +kernel) ?_
  refine lv_iconst (v := (0 : Int32)) hx hb dX0_waysAsGood_11 (by decide +kernel) ?_
  obtain ⟨r11, S12, hr10, h⟩ := zb2 h
  refine z_runi (va_runU (As := [.int (0 : Int32), .int (0 : Int32), .int (0 : Int32)]) (rest := []) ⟨hx, hb, hml, hown, hg⟩ (c_X0O_waysFrom l D cy B h8 hr10) (z_cwP (n := 3) (C := "DiveChairs$OrderDealing") (owner := "DiveChairs$Dealing") hg hC (by decide +kernel) zw_733 zw_1458 rfl zw_734 zw_8 zw_735 rfl (by decide +kernel) ⟨(Nat.le_of_ble_eq_true rfl), (Nat.le_of_ble_eq_true rfl)⟩) (zPV hC hM h8 (by decide) rfl) rfl rfl hl.1 rfl (lv_room (Nat.le_of_ble_eq_true rfl)) dX0_waysAsGood_12 ⟨(Nat.le_of_ble_eq_true rfl), (Nat.le_of_ble_eq_true rfl)⟩) hS (fun H locs hM hX13 hS => ?_)
  have hX15 := hX9.tr hX13
  exact z_iret hx hb hr hlk hM hX15 hS (zsp h) dX0_waysAsGood_15
def f_X1_init (S0 : zM) (a0 : Nat) : zM :=
  zLet (znw S0 20 7) (fun S1 => zLet (zpR S1 a0 0 (zsz S0)) (fun S7 => zLet (znw S7 20 7) (fun S12 => zLet (zpR S12 a0 1 (zsz S7)) (fun S18 => S18))))
set_option maxHeartbeats 4000000 in
set_option maxRecDepth 100000 in
theorem c_X1_init (l : Launch) (D : va_G) (cy : Nat → ClassId) (B : Nat) {S0 : zM} {a0 : Nat} {S' : zM} (ha0 : zA S0 a0 1) (h : f_X1_init S0 a0 = S') : Met l yX1_init (zws yX1_init cX1_init 1 none) { frames := 1, cells := 2, slots := 14, locals := 20 } (zPc D cy B S0 [.ref (B + a0)]) (zQv D cy B S0 S') 2 14 (fun q => B < q) := by
  refine Met.ofW (cc := cX1_init) (maxL := 1) (ret := none) (by decide) rfl ?_
  intro p e s m args below meth c s₁ Bd hml hv
  obtain ⟨rfl, hC, hM⟩ := hv
  obtain ⟨hx, hb, hr, hg, hown, hlk⟩ := z_open Bd
  have hK := hC.1
  have hin : meth.name = "<init>" := (name_of_methodNamed Bd.named Bd.method).1
  have hS : va_S (fun q => B < q) s.heap s.heap [] := va_S.rf
  have hX0 : zX S0 S0 := zX.rf
  refine z_entry (vs := [.ref (B + a0)]) (Nat.le_of_ble_eq_true rfl) (fun ls hl => ?_)
  have hl : lv_has ls 1 [(0, .ref (B + a0))] := hl
  unfold f_X1_init at h
  refine lv_aload_n hx hb dX1_init_0 rfl (lv_at hl 0 rfl) ?_
  refine W.objInit hx hb hown (hg _ zw_89) (hg _ zw_29) (hg _ zw_30) rfl (by rw [hml]; exact hl.1) rfl dX1_init_1 (Nat.le_of_ble_eq_true rfl) (Nat.le_of_ble_eq_true rfl) ?_
  refine W.eq (g2 := F0 m 4 ls []) rfl ?_
  refine lv_aload_n hx hb dX1_init_4 rfl (lv_at hl 0 rfl) ?_
  refine lv_bipush (v := (7 : Int32)) hx hb dX1_init_5 (by decide +kernel) ?_
  refine z_newa (atype := .int) hx hb (hg _ zw_66) hK hM hS 20 (by decide) rfl (N := 7) (by decide +kernel) (by decide +kernel) (by decide +kernel) (Nat.le_of_ble_eq_true rfl) (Nat.le_of_ble_eq_true rfl) dX1_init_7 (fun H hM hA hX hS => ?_)
  obtain ⟨S1, e2, h⟩ := zlg h
  rw [← e2] at hM hA hX
  have hX3 := hX
  have h4 := hA
  have h5 := ha0.mo hX3
  have hX6 := hX0.tr hX3
  refine W.widen (k := 1) (n := 7) (Nat.le_refl _) (Nat.le_refl _) ?_
  refine z_putR (r := (zsz S0)) hx hb hg zin_1 tyX1 tyX1_ok nmX1 hown hK hM hS h5 0 rfl (by decide) (hg _ zw_90) (fun _ h9 => h9) (Or.inr ⟨rfl, hin, rfl⟩) (zv_ref h4.1).symm (tyX1_ok 0 (by decide)) (Or.inr ⟨_, rfl⟩) (h4.q) dX1_init_9 (fun H locs hM hS => ?_)
  obtain ⟨S7, e8, h⟩ := zlg h
  rw [← e8] at hM
  have hX9 : zX S1 S7 := by rw [e8]; exact zX_pR
  have h10 := h5.mo hX9
  have hX11 := hX6.tr hX9
  refine lv_aload_n hx hb dX1_init_12 rfl (lv_at hl 0 rfl) ?_
  refine lv_bipush (v := (7 : Int32)) hx hb dX1_init_13 (by decide +kernel) ?_
  refine z_newa (atype := .int) hx hb (hg _ zw_66) hK hM hS 20 (by decide) rfl (N := 7) (by decide +kernel) (by decide +kernel) (by decide +kernel) (Nat.le_of_ble_eq_true rfl) (Nat.le_of_ble_eq_true rfl) dX1_init_15 (fun H hM hA hX hS => ?_)
  obtain ⟨S12, e13, h⟩ := zlg h
  rw [← e13] at hM hA hX
  have hX14 := hX
  have h15 := hA
  have h16 := h10.mo hX14
  have hX17 := hX11.tr hX14
  refine W.widen (k := 2) (n := 14) (Nat.le_refl _) (Nat.le_refl _) ?_
  refine z_putR (r := (zsz S7)) hx hb hg zin_1 tyX1 tyX1_ok nmX1 hown hK hM hS h16 1 rfl (by decide) (hg _ zw_95) (fun _ h9 => h9) (Or.inr ⟨rfl, hin, rfl⟩) (zv_ref h15.1).symm (tyX1_ok 1 (by decide)) (Or.inr ⟨_, rfl⟩) (h15.q) dX1_init_17 (fun H locs hM hS => ?_)
  obtain ⟨S18, e19, h⟩ := zlg h
  rw [← e19] at hM
  have hX20 : zX S12 S18 := by rw [e19]; exact zX_pR
  have hX21 := hX17.tr hX20
  refine W.widen (k := 2) (n := 14) (by omega) (by omega) ?_
  exact z_vret hx hb hr hlk hM hX21 hS h dX1_init_20
def f_X1_tell (S0 : zM) (a0 : Nat) (v1 : Int32) (v2 : Int32) (v3 : Int32) : Option (zM) :=
  zLet (f_X11_within v1 (7 : Int32)) (fun r2 => if r2 = 0 then some S0 else zChk (¬ (zr S0 a0 0) = 0) (zChk (¬ (v1 < 0 ∨ zln S0 (zr S0 a0 0) ≤ (v1).toNatClampNeg)) (zLet (zpI S0 (zr S0 a0 0) (Int32.toNatClampNeg v1) v2) (fun S9 => zChk (¬ (zr S9 a0 1) = 0) (if v2 = (-128 : Int32) then zChk (¬ (v1 < 0 ∨ zln S9 (zr S9 a0 1) ≤ (v1).toNatClampNeg)) (zLet (zpI S9 (zr S9 a0 1) (Int32.toNatClampNeg v1) (-1 : Int32)) (fun S23 => some S23)) else zChk (¬ (v1 < 0 ∨ zln S9 (zr S9 a0 1) ≤ (v1).toNatClampNeg)) (zLet (zpI S9 (zr S9 a0 1) (Int32.toNatClampNeg v1) v3) (fun S18 => some S18)))))))
set_option maxHeartbeats 4000000 in
set_option maxRecDepth 100000 in
theorem c_X1_tell (l : Launch) (D : va_G) (cy : Nat → ClassId) (B : Nat) {S0 : zM} {a0 : Nat} {v1 : Int32} {v2 : Int32} {v3 : Int32} {S' : zM} (ha0 : zA S0 a0 1) (h : f_X1_tell S0 a0 v1 v2 v3 = some S') : Met l yX1_tell (zws yX1_tell cX1_tell 4 none) { frames := 1, cells := 0, slots := 0, locals := 21 } (zPc D cy B S0 [.ref (B + a0), .int v1, .int v2, .int v3]) (zQv D cy B S0 S') 0 0 (fun q => B < q) := by
  refine Met.ofW (cc := cX1_tell) (maxL := 4) (ret := none) (by decide) rfl ?_
  intro p e s m args below meth c s₁ Bd hml hv
  obtain ⟨rfl, hC, hM⟩ := hv
  obtain ⟨hx, hb, hr, hg, hown, hlk⟩ := z_open Bd
  have hK := hC.1
  have hS : va_S (fun q => B < q) s.heap s.heap [] := va_S.rf
  have hX0 : zX S0 S0 := zX.rf
  refine z_entry (vs := [.ref (B + a0), .int v1, .int v2, .int v3]) (Nat.le_of_ble_eq_true rfl) (fun ls hl => ?_)
  have hl : lv_has ls 4 [(0, .ref (B + a0)), (1, .int v1), (2, .int v2), (3, .int v3)] := hl
  unfold f_X1_tell at h
  refine lv_iload_n hx hb dX1_tell_0 rfl (lv_at hl 1 rfl) ?_
  refine lv_bipush (v := (7 : Int32)) hx hb dX1_tell_1 (by decide +kernel) ?_
  obtain ⟨r2, hr1, h⟩ := zlg h
  have hr1 := hr1.symm
  refine z_runi (va_runSN (As := [.int v1, .int (7 : Int32)]) (rest := []) ⟨hx, hb, hml, hown, hg⟩ (c_X11_within l D cy B hr1) ⟨z_cnB hg hC (List.mem_of_getElem? (i := 10) rfl) zw_2 zw_292 zh_X11_within.2 ⟨(Nat.le_of_ble_eq_true rfl), (Nat.le_of_ble_eq_true rfl)⟩, hg _ zw_291, trivial⟩ (zPS hC hM) rfl rfl hl.1 rfl (lv_room (Nat.le_of_ble_eq_true rfl)) dX1_tell_3 ⟨(Nat.le_of_ble_eq_true rfl), (Nat.le_of_ble_eq_true rfl)⟩) hS (fun H locs hM hX3 hS => ?_)
  refine lv_if_eq (tgt := 33) hx hb dX1_tell_6 (by decide) (fun hc5 => ?_) (fun hc5 => ?_)
  · have h := zt h hc5
    exact z_vret hx hb hr hlk hM hX0 hS (zsm h) dX1_tell_33
  · have h := zf h hc5
    refine lv_aload_n hx hb dX1_tell_9 rfl (lv_at hl 0 rfl) ?_
    obtain ⟨hq7, h⟩ := zk h
    refine z_getN hx hb hg zin_1 hown hK hM ha0 0 rfl (by decide) (hg _ zw_90) (fun _ h9 => h9) hq7 dX1_tell_10 (fun h6 => ?_)
    refine lv_iload_n hx hb dX1_tell_13 rfl (lv_at hl 1 rfl) ?_
    refine lv_iload_n hx hb dX1_tell_14 rfl (lv_at hl 2 rfl) ?_
    obtain ⟨hq8, h⟩ := zk h
    refine z_iast hx hb hK hM hS h6 hq8 dX1_tell_15 (fun H locs hM hS => ?_)
    obtain ⟨S9, e10, h⟩ := zlg h
    rw [← e10] at hM
    have hX11 : zX S0 S9 := by rw [e10]; exact zX_pI
    have h12 := ha0.mo hX11
    have hX13 := hX0.tr hX11
    refine lv_aload_n hx hb dX1_tell_16 rfl (lv_at hl 0 rfl) ?_
    obtain ⟨hq15, h⟩ := zk h
    refine z_getN hx hb hg zin_1 hown hK hM h12 1 rfl (by decide) (hg _ zw_95) (fun _ h9 => h9) hq15 dX1_tell_17 (fun h14 => ?_)
    refine lv_iload_n hx hb dX1_tell_20 rfl (lv_at hl 1 rfl) ?_
    refine lv_iload_n hx hb dX1_tell_21 rfl (lv_at hl 2 rfl) ?_
    refine lv_bipush (v := (-128 : Int32)) hx hb dX1_tell_22 (by decide +kernel) ?_
    refine lv_icmp_ne (tgt := 31) hx hb dX1_tell_24 (by decide) (fun hc16 => ?_) (fun hc16 => ?_)
    · have h := zf h hc16
      refine lv_iload_n hx hb dX1_tell_31 rfl (lv_at hl 3 rfl) ?_
      obtain ⟨hq17, h⟩ := zk h
      refine z_iast hx hb hK hM hS h14 hq17 dX1_tell_32 (fun H locs hM hS => ?_)
      obtain ⟨S18, e19, h⟩ := zlg h
      rw [← e19] at hM
      have hX20 : zX S9 S18 := by rw [e19]; exact zX_pI
      have hX21 := hX13.tr hX20
      exact z_vret hx hb hr hlk hM hX21 hS (zsm h) dX1_tell_33
    · have h := zt h hc16
      refine lv_iconst (v := (-1 : Int32)) hx hb dX1_tell_27 (by decide +kernel) ?_
      refine lv_goto (tgt := 32) hx hb dX1_tell_28 (by decide) ?_
      obtain ⟨hq22, h⟩ := zk h
      refine z_iast hx hb hK hM hS h14 hq22 dX1_tell_32 (fun H locs hM hS => ?_)
      obtain ⟨S23, e24, h⟩ := zlg h
      rw [← e24] at hM
      have hX25 : zX S9 S23 := by rw [e24]; exact zX_pI
      have hX26 := hX13.tr hX25
      exact z_vret hx hb hr hlk hM hX26 hS (zsm h) dX1_tell_33
def f_X1_begin_L39b (a0 : Nat) (K28 : zM → Option (zM)) (rec39 : Int32 → zM → Option (zM)) (x30 : Int32) (S31 : zM) : Option (zM) :=
  if (7 : Int32) ≤ x30 then K28 S31 else zB1 (f_X1_tell S31 a0 x30 (-128 : Int32) (-1 : Int32)) (fun S35 => rec39 (x30 + (1 : Int32)) S35)
def f_X1_begin_L39 (a0 : Nat) (K28 : zM → Option (zM)) : Nat → Int32 → zM → Option (zM)
  | 0 => fun _ _ => none
  | k + 1 => fun x30 S31 => f_X1_begin_L39b a0 K28 (f_X1_begin_L39 a0 K28 k) x30 S31
def f_X1_begin (n : Nat) (S0 : zM) (a0 : Nat) (v1 : Int32) (v2 : Int32) (v3 : Int32) (v4 : Int32) : Option (zM) :=
  zLet (zpI S0 a0 2 v1) (fun S1 => zLet (zpI S1 a0 3 v2) (fun S6 => zLet (zpI S6 a0 4 v3) (fun S11 => zLet (zpI S11 a0 5 ((v4 / (10 : Int32)) - (v4 / (10 : Int32)) / (10 : Int32) * (10 : Int32))) (fun S16 => zLet (zpI S16 a0 6 (v4 / (100 : Int32))) (fun S21 => zLet (fun (S26 : zM) => some S26) (fun K28 => f_X1_begin_L39 a0 K28 n (0 : Int32) S21))))))
set_option maxHeartbeats 4000000 in
set_option maxRecDepth 100000 in
theorem c_X1_begin (l : Launch) (D : va_G) (cy : Nat → ClassId) (B : Nat) {n : Nat} {S0 : zM} {a0 : Nat} {v1 : Int32} {v2 : Int32} {v3 : Int32} {v4 : Int32} {S' : zM} (ha0 : zA S0 a0 1) (h : f_X1_begin n S0 a0 v1 v2 v3 v4 = some S') : Met l yX1_begin (zws yX1_begin cX1_begin 6 none) { frames := 2, cells := 0, slots := 0, locals := 44 } (zPc D cy B S0 [.ref (B + a0), .int v1, .int v2, .int v3, .int v4]) (zQv D cy B S0 S') 0 0 (fun q => B < q) := by
  refine Met.ofW (cc := cX1_begin) (maxL := 6) (ret := none) (by decide) rfl ?_
  intro p e s m args below meth c s₁ Bd hml hv
  obtain ⟨rfl, hC, hM⟩ := hv
  obtain ⟨hx, hb, hr, hg, hown, hlk⟩ := z_open Bd
  have hK := hC.1
  have hS : va_S (fun q => B < q) s.heap s.heap [] := va_S.rf
  have hX0 : zX S0 S0 := zX.rf
  refine z_entry (vs := [.ref (B + a0), .int v1, .int v2, .int v3, .int v4]) (Nat.le_of_ble_eq_true rfl) (fun ls hl => ?_)
  have hl : lv_has ls 6 [(0, .ref (B + a0)), (1, .int v1), (2, .int v2), (3, .int v3), (4, .int v4)] := hl
  unfold f_X1_begin at h
  refine lv_aload_n hx hb dX1_begin_0 rfl (lv_at hl 0 rfl) ?_
  refine lv_iload_n hx hb dX1_begin_1 rfl (lv_at hl 1 rfl) ?_
  refine z_putI hx hb hg zin_1 tyX1 tyX1_ok nmX1 hown hK hM hS ha0 2 rfl (by decide) (hg _ zw_98) (fun _ h9 => h9) (Or.inl rfl) (tyX1_ok 2 (by decide)) rfl rfl dX1_begin_2 (fun H locs hM hS => ?_)
  obtain ⟨S1, e2, h⟩ := zlg h
  rw [← e2] at hM
  have hX3 : zX S0 S1 := by rw [e2]; exact zX_pI
  have h4 := ha0.mo hX3
  have hX5 := hX0.tr hX3
  refine lv_aload_n hx hb dX1_begin_5 rfl (lv_at hl 0 rfl) ?_
  refine lv_iload_n hx hb dX1_begin_6 rfl (lv_at hl 2 rfl) ?_
  refine z_putI hx hb hg zin_1 tyX1 tyX1_ok nmX1 hown hK hM hS h4 3 rfl (by decide) (hg _ zw_102) (fun _ h9 => h9) (Or.inl rfl) (tyX1_ok 3 (by decide)) rfl rfl dX1_begin_7 (fun H locs hM hS => ?_)
  obtain ⟨S6, e7, h⟩ := zlg h
  rw [← e7] at hM
  have hX8 : zX S1 S6 := by rw [e7]; exact zX_pI
  have h9 := h4.mo hX8
  have hX10 := hX5.tr hX8
  refine lv_aload_n hx hb dX1_begin_10 rfl (lv_at hl 0 rfl) ?_
  refine lv_iload_n hx hb dX1_begin_11 rfl (lv_at hl 3 rfl) ?_
  refine z_putI hx hb hg zin_1 tyX1 tyX1_ok nmX1 hown hK hM hS h9 4 rfl (by decide) (hg _ zw_105) (fun _ h9 => h9) (Or.inl rfl) (tyX1_ok 4 (by decide)) rfl rfl dX1_begin_12 (fun H locs hM hS => ?_)
  obtain ⟨S11, e12, h⟩ := zlg h
  rw [← e12] at hM
  have hX13 : zX S6 S11 := by rw [e12]; exact zX_pI
  have h14 := h9.mo hX13
  have hX15 := hX10.tr hX13
  refine lv_aload_n hx hb dX1_begin_15 rfl (lv_at hl 0 rfl) ?_
  refine lv_iload hx hb dX1_begin_16 (lv_at hl 4 rfl) ?_
  refine lv_bipush (v := (10 : Int32)) hx hb dX1_begin_18 (by decide +kernel) ?_
  refine lv_idiv hx hb dX1_begin_20 (by decide +kernel) ?_
  refine lv_bipush (v := (10 : Int32)) hx hb dX1_begin_21 (by decide +kernel) ?_
  refine lv_irem hx hb dX1_begin_23 (by decide +kernel) ?_
  refine z_putI hx hb hg zin_1 tyX1 tyX1_ok nmX1 hown hK hM hS h14 5 rfl (by decide) (hg _ zw_108) (fun _ h9 => h9) (Or.inl rfl) (tyX1_ok 5 (by decide)) rfl rfl dX1_begin_24 (fun H locs hM hS => ?_)
  obtain ⟨S16, e17, h⟩ := zlg h
  rw [← e17] at hM
  have hX18 : zX S11 S16 := by rw [e17]; exact zX_pI
  have h19 := h14.mo hX18
  have hX20 := hX15.tr hX18
  refine lv_aload_n hx hb dX1_begin_27 rfl (lv_at hl 0 rfl) ?_
  refine lv_iload hx hb dX1_begin_28 (lv_at hl 4 rfl) ?_
  refine lv_bipush (v := (100 : Int32)) hx hb dX1_begin_30 (by decide +kernel) ?_
  refine lv_idiv hx hb dX1_begin_32 (by decide +kernel) ?_
  refine z_putI hx hb hg zin_1 tyX1 tyX1_ok nmX1 hown hK hM hS h19 6 rfl (by decide) (hg _ zw_112) (fun _ h9 => h9) (Or.inl rfl) (tyX1_ok 6 (by decide)) rfl rfl dX1_begin_33 (fun H locs hM hS => ?_)
  obtain ⟨S21, e22, h⟩ := zlg h
  rw [← e22] at hM
  have hX23 : zX S16 S21 := by rw [e22]; exact zX_pI
  have h24 := h19.mo hX23
  have hX25 := hX20.tr hX23
  refine lv_iconst (v := (0 : Int32)) hx hb dX1_begin_36 (by decide +kernel) ?_
  refine lv_istore (i := 5) (lv' := [(5, .int (0 : Int32)), (0, .ref (B + a0)), (1, .int v1), (2, .int v2), (3, .int v3), (4, .int v4)]) hx hb dX1_begin_37 hl (by decide) rfl (fun ls hl => ?_)
  obtain ⟨K28, eK28, h⟩ := zlg h
  have hK28 : ∀ (S26 : zM) (H : Heap) (locs : List Loc), zMR D cy B S26 H → zX S0 S26 → va_S (fun q => B < q) s.heap H locs → ∀ ls : Array Slot, lv_has ls 6 [] → K28 S26 = some S' → W p l e (headSpec (zws yX1_begin cX1_begin 6 none) { frames := 2, cells := 0, slots := 0, locals := 44 }).room s m (([.ref (B + a0), .int v1, .int v2, .int v3, .int v4] : List Value).toArray) below meth c H locs 0 0 (MQ below (zQv D cy B S0 S') (([.ref (B + a0), .int v1, .int v2, .int v3, .int v4] : List Value).toArray) s 0 0 (fun q => B < q)) (F0 m 61 ls []) := by
    intro S26 H locs hM hX27 hS ls hl h
    rw [eK28] at h
    exact z_vret hx hb hr hlk hM hX27 hS (zsm h) dX1_begin_61
  have hL39 : ∀ (k : Nat) (x30 : Int32) (S31 : zM) (H : Heap) (locs : List Loc), zMR D cy B S31 H → zX S0 S31 → va_S (fun q => B < q) s.heap H locs → zA S31 a0 1 → ∀ ls : Array Slot, lv_has ls 6 [(0, .ref (B + a0)), (5, .int x30)] → f_X1_begin_L39 a0 K28 k x30 S31 = some S' → W p l e (headSpec (zws yX1_begin cX1_begin 6 none) { frames := 2, cells := 0, slots := 0, locals := 44 }).room s m (([.ref (B + a0), .int v1, .int v2, .int v3, .int v4] : List Value).toArray) below meth c H locs 0 0 (MQ below (zQv D cy B S0 S') (([.ref (B + a0), .int v1, .int v2, .int v3, .int v4] : List Value).toArray) s 0 0 (fun q => B < q)) (F0 m 39 ls []) := by
    intro k
    induction k with
    | zero =>
      intro x30 S31 H locs hM hX32 hS h29 ls hl h
      exact znone h
    | succ k ih39 =>
      intro x30 S31 H locs hM hX32 hS h29 ls hl h
      replace h : f_X1_begin_L39b a0 K28 (f_X1_begin_L39 a0 K28 k) x30 S31 = some S' := h
      generalize f_X1_begin_L39 a0 K28 k = rec39 at ih39 h
      unfold f_X1_begin_L39b at h
      refine lv_iload hx hb dX1_begin_39 (lv_at hl 1 rfl) ?_
      refine lv_bipush (v := (7 : Int32)) hx hb dX1_begin_41 (by decide +kernel) ?_
      refine lv_icmp_ge (tgt := 61) hx hb dX1_begin_43 (by decide) (fun hc33 => ?_) (fun hc33 => ?_)
      · have h := zt h hc33
        exact hK28 S31 _ _ hM hX32 hS _ (lv_sub hl [] rfl) h
      · have h := zf h hc33
        refine lv_aload_n hx hb dX1_begin_46 rfl (lv_at hl 0 rfl) ?_
        refine lv_iload hx hb dX1_begin_47 (lv_at hl 1 rfl) ?_
        refine lv_bipush (v := (-128 : Int32)) hx hb dX1_begin_49 (by decide +kernel) ?_
        refine lv_iconst (v := (-1 : Int32)) hx hb dX1_begin_51 (by decide +kernel) ?_
        obtain ⟨S35, hr34, h⟩ := zb1 h
        refine z_runv (va_runV (As := [.int x30, .int (-128 : Int32), .int (-1 : Int32)]) (rest := []) ⟨hx, hb, hml, hown, hg⟩ (c_X1_tell l D cy B h29 hr34) (z_cwV hg zw_353 zw_354 zw_355 zw_6 zw_356 zh_X1_tell ⟨(Nat.le_of_ble_eq_true rfl), (Nat.le_of_ble_eq_true rfl)⟩) (zPV hC hM h29 (by decide) rfl) rfl rfl hl.1 rfl (lv_room (Nat.le_of_ble_eq_true rfl)) dX1_begin_52 ⟨(Nat.le_of_ble_eq_true rfl), (Nat.le_of_ble_eq_true rfl)⟩) hS (fun H locs hM hX36 hS => ?_)
        have h38 := h29.mo hX36
        have hX39 := hX32.tr hX36
        refine lv_iinc (v := (x30 + (1 : Int32))) (lv' := [(5, .int (x30 + (1 : Int32))), (0, .ref (B + a0))]) hx hb dX1_begin_55 hl (k := 1) rfl rfl (by decide) rfl (fun ls hl => ?_)
        refine lv_goto (tgt := 39) hx hb dX1_begin_58 (by decide) ?_
        exact ih39 (x30 + (1 : Int32)) S35 _ _ hM hX39 hS h38 _ (lv_sub hl [1, 0] rfl) h
  exact hL39 n (0 : Int32) S21 _ _ hM hX25 hS h24 _ (lv_sub hl [1, 0] rfl) h
def f_X1_copyFrom (S0 : zM) (a0 : Nat) (a1 : Nat) : Option (zM) :=
  zLet (zpI S0 a0 2 (zi S0 a1 2)) (fun S1 => zLet (zpI S1 a0 3 (zi S1 a1 3)) (fun S7 => zLet (zpI S7 a0 4 (zi S7 a1 4)) (fun S13 => zLet (zpI S13 a0 5 (zi S13 a1 5)) (fun S19 => zLet (zpI S19 a0 6 (zi S19 a1 6)) (fun S25 => zChk (¬ (zr S25 a1 0) = 0) (zChk (¬ (zr S25 a0 0) = 0) (zChk (¬ (0 : Int32) < 0 ∧ ¬ (0 : Int32) < 0 ∧ ¬ (7 : Int32) < 0 ∧ (Int32.toNatClampNeg (0 : Int32)) + (Int32.toNatClampNeg (7 : Int32)) ≤ zln S25 (zr S25 a1 0) ∧ (Int32.toNatClampNeg (0 : Int32)) + (Int32.toNatClampNeg (7 : Int32)) ≤ zln S25 (zr S25 a0 0)) (zLet (zcp S25 (zr S25 a1 0) (Int32.toNatClampNeg (0 : Int32)) (zr S25 a0 0) (Int32.toNatClampNeg (0 : Int32)) (Int32.toNatClampNeg (7 : Int32))) (fun S36 => zChk (¬ (zr S36 a1 1) = 0) (zChk (¬ (zr S36 a0 1) = 0) (zChk (¬ (0 : Int32) < 0 ∧ ¬ (0 : Int32) < 0 ∧ ¬ (7 : Int32) < 0 ∧ (Int32.toNatClampNeg (0 : Int32)) + (Int32.toNatClampNeg (7 : Int32)) ≤ zln S36 (zr S36 a1 1) ∧ (Int32.toNatClampNeg (0 : Int32)) + (Int32.toNatClampNeg (7 : Int32)) ≤ zln S36 (zr S36 a0 1)) (zLet (zcp S36 (zr S36 a1 1) (Int32.toNatClampNeg (0 : Int32)) (zr S36 a0 1) (Int32.toNatClampNeg (0 : Int32)) (Int32.toNatClampNeg (7 : Int32))) (fun S47 => some S47)))))))))))))
set_option maxHeartbeats 4000000 in
set_option maxRecDepth 100000 in
theorem c_X1_copyFrom (l : Launch) (D : va_G) (cy : Nat → ClassId) (B : Nat) {S0 : zM} {a0 : Nat} {a1 : Nat} {S' : zM} (ha0 : zA S0 a0 1) (ha1 : zA S0 a1 1) (h : f_X1_copyFrom S0 a0 a1 = some S') : Met l yX1_copyFrom (zws yX1_copyFrom cX1_copyFrom 2 none) { frames := 1, cells := 0, slots := 0, locals := 80 } (zPc D cy B S0 [.ref (B + a0), .ref (B + a1)]) (zQv D cy B S0 S') 0 0 (fun q => B < q) := by
  refine Met.ofW (cc := cX1_copyFrom) (maxL := 2) (ret := none) (by decide) rfl ?_
  intro p e s m args below meth c s₁ Bd hml hv
  obtain ⟨rfl, hC, hM⟩ := hv
  obtain ⟨hx, hb, hr, hg, hown, hlk⟩ := z_open Bd
  have hK := hC.1
  have hS : va_S (fun q => B < q) s.heap s.heap [] := va_S.rf
  have hX0 : zX S0 S0 := zX.rf
  refine z_entry (vs := [.ref (B + a0), .ref (B + a1)]) (Nat.le_of_ble_eq_true rfl) (fun ls hl => ?_)
  have hl : lv_has ls 2 [(0, .ref (B + a0)), (1, .ref (B + a1))] := hl
  unfold f_X1_copyFrom at h
  refine lv_aload_n hx hb dX1_copyFrom_0 rfl (lv_at hl 0 rfl) ?_
  refine lv_aload_n hx hb dX1_copyFrom_1 rfl (lv_at hl 1 rfl) ?_
  refine z_getI hx hb hg zin_1 hown hK hM ha1 2 rfl (by decide) (hg _ zw_98) (fun _ h9 => h9) dX1_copyFrom_2 ?_
  refine z_putI hx hb hg zin_1 tyX1 tyX1_ok nmX1 hown hK hM hS ha0 2 rfl (by decide) (hg _ zw_98) (fun _ h9 => h9) (Or.inl rfl) (tyX1_ok 2 (by decide)) rfl rfl dX1_copyFrom_5 (fun H locs hM hS => ?_)
  obtain ⟨S1, e2, h⟩ := zlg h
  rw [← e2] at hM
  have hX3 : zX S0 S1 := by rw [e2]; exact zX_pI
  have h4 := ha0.mo hX3
  have h5 := ha1.mo hX3
  have hX6 := hX0.tr hX3
  refine lv_aload_n hx hb dX1_copyFrom_8 rfl (lv_at hl 0 rfl) ?_
  refine lv_aload_n hx hb dX1_copyFrom_9 rfl (lv_at hl 1 rfl) ?_
  refine z_getI hx hb hg zin_1 hown hK hM h5 3 rfl (by decide) (hg _ zw_102) (fun _ h9 => h9) dX1_copyFrom_10 ?_
  refine z_putI hx hb hg zin_1 tyX1 tyX1_ok nmX1 hown hK hM hS h4 3 rfl (by decide) (hg _ zw_102) (fun _ h9 => h9) (Or.inl rfl) (tyX1_ok 3 (by decide)) rfl rfl dX1_copyFrom_13 (fun H locs hM hS => ?_)
  obtain ⟨S7, e8, h⟩ := zlg h
  rw [← e8] at hM
  have hX9 : zX S1 S7 := by rw [e8]; exact zX_pI
  have h10 := h4.mo hX9
  have h11 := h5.mo hX9
  have hX12 := hX6.tr hX9
  refine lv_aload_n hx hb dX1_copyFrom_16 rfl (lv_at hl 0 rfl) ?_
  refine lv_aload_n hx hb dX1_copyFrom_17 rfl (lv_at hl 1 rfl) ?_
  refine z_getI hx hb hg zin_1 hown hK hM h11 4 rfl (by decide) (hg _ zw_105) (fun _ h9 => h9) dX1_copyFrom_18 ?_
  refine z_putI hx hb hg zin_1 tyX1 tyX1_ok nmX1 hown hK hM hS h10 4 rfl (by decide) (hg _ zw_105) (fun _ h9 => h9) (Or.inl rfl) (tyX1_ok 4 (by decide)) rfl rfl dX1_copyFrom_21 (fun H locs hM hS => ?_)
  obtain ⟨S13, e14, h⟩ := zlg h
  rw [← e14] at hM
  have hX15 : zX S7 S13 := by rw [e14]; exact zX_pI
  have h16 := h10.mo hX15
  have h17 := h11.mo hX15
  have hX18 := hX12.tr hX15
  refine lv_aload_n hx hb dX1_copyFrom_24 rfl (lv_at hl 0 rfl) ?_
  refine lv_aload_n hx hb dX1_copyFrom_25 rfl (lv_at hl 1 rfl) ?_
  refine z_getI hx hb hg zin_1 hown hK hM h17 5 rfl (by decide) (hg _ zw_108) (fun _ h9 => h9) dX1_copyFrom_26 ?_
  refine z_putI hx hb hg zin_1 tyX1 tyX1_ok nmX1 hown hK hM hS h16 5 rfl (by decide) (hg _ zw_108) (fun _ h9 => h9) (Or.inl rfl) (tyX1_ok 5 (by decide)) rfl rfl dX1_copyFrom_29 (fun H locs hM hS => ?_)
  obtain ⟨S19, e20, h⟩ := zlg h
  rw [← e20] at hM
  have hX21 : zX S13 S19 := by rw [e20]; exact zX_pI
  have h22 := h16.mo hX21
  have h23 := h17.mo hX21
  have hX24 := hX18.tr hX21
  refine lv_aload_n hx hb dX1_copyFrom_32 rfl (lv_at hl 0 rfl) ?_
  refine lv_aload_n hx hb dX1_copyFrom_33 rfl (lv_at hl 1 rfl) ?_
  refine z_getI hx hb hg zin_1 hown hK hM h23 6 rfl (by decide) (hg _ zw_112) (fun _ h9 => h9) dX1_copyFrom_34 ?_
  refine z_putI hx hb hg zin_1 tyX1 tyX1_ok nmX1 hown hK hM hS h22 6 rfl (by decide) (hg _ zw_112) (fun _ h9 => h9) (Or.inl rfl) (tyX1_ok 6 (by decide)) rfl rfl dX1_copyFrom_37 (fun H locs hM hS => ?_)
  obtain ⟨S25, e26, h⟩ := zlg h
  rw [← e26] at hM
  have hX27 : zX S19 S25 := by rw [e26]; exact zX_pI
  have h28 := h22.mo hX27
  have h29 := h23.mo hX27
  have hX30 := hX24.tr hX27
  refine lv_aload_n hx hb dX1_copyFrom_40 rfl (lv_at hl 1 rfl) ?_
  obtain ⟨hq32, h⟩ := zk h
  refine z_getN hx hb hg zin_1 hown hK hM h29 0 rfl (by decide) (hg _ zw_90) (fun _ h9 => h9) hq32 dX1_copyFrom_41 (fun h31 => ?_)
  refine lv_iconst (v := (0 : Int32)) hx hb dX1_copyFrom_44 (by decide +kernel) ?_
  refine lv_aload_n hx hb dX1_copyFrom_45 rfl (lv_at hl 0 rfl) ?_
  obtain ⟨hq34, h⟩ := zk h
  refine z_getN hx hb hg zin_1 hown hK hM h28 0 rfl (by decide) (hg _ zw_90) (fun _ h9 => h9) hq34 dX1_copyFrom_46 (fun h33 => ?_)
  refine lv_iconst (v := (0 : Int32)) hx hb dX1_copyFrom_49 (by decide +kernel) ?_
  refine lv_bipush (v := (7 : Int32)) hx hb dX1_copyFrom_50 (by decide +kernel) ?_
  obtain ⟨hq35, h⟩ := zk h
  refine z_copy hx hb (hml.trans hl.1.symm) hown (hg _ zw_628) (hg _ zw_491) (hg _ zw_490) (hg _ zw_16) hK hM hS h31 h33 hq35 (Nat.le_of_ble_eq_true rfl) (Nat.le_of_ble_eq_true rfl) dX1_copyFrom_52 (fun H locs hM hS => ?_)
  obtain ⟨S36, e37, h⟩ := zlg h
  rw [← e37] at hM
  have hX38 : zX S25 S36 := by rw [e37]; exact zX_cp
  have h39 := h28.mo hX38
  have h40 := h29.mo hX38
  have hX41 := hX30.tr hX38
  refine lv_aload_n hx hb dX1_copyFrom_55 rfl (lv_at hl 1 rfl) ?_
  obtain ⟨hq43, h⟩ := zk h
  refine z_getN hx hb hg zin_1 hown hK hM h40 1 rfl (by decide) (hg _ zw_95) (fun _ h9 => h9) hq43 dX1_copyFrom_56 (fun h42 => ?_)
  refine lv_iconst (v := (0 : Int32)) hx hb dX1_copyFrom_59 (by decide +kernel) ?_
  refine lv_aload_n hx hb dX1_copyFrom_60 rfl (lv_at hl 0 rfl) ?_
  obtain ⟨hq45, h⟩ := zk h
  refine z_getN hx hb hg zin_1 hown hK hM h39 1 rfl (by decide) (hg _ zw_95) (fun _ h9 => h9) hq45 dX1_copyFrom_61 (fun h44 => ?_)
  refine lv_iconst (v := (0 : Int32)) hx hb dX1_copyFrom_64 (by decide +kernel) ?_
  refine lv_bipush (v := (7 : Int32)) hx hb dX1_copyFrom_65 (by decide +kernel) ?_
  obtain ⟨hq46, h⟩ := zk h
  refine z_copy hx hb (hml.trans hl.1.symm) hown (hg _ zw_628) (hg _ zw_491) (hg _ zw_490) (hg _ zw_16) hK hM hS h42 h44 hq46 (Nat.le_of_ble_eq_true rfl) (Nat.le_of_ble_eq_true rfl) dX1_copyFrom_67 (fun H locs hM hS => ?_)
  obtain ⟨S47, e48, h⟩ := zlg h
  rw [← e48] at hM
  have hX49 : zX S36 S47 := by rw [e48]; exact zX_cp
  have hX50 := hX41.tr hX49
  exact z_vret hx hb hr hlk hM hX50 hS (zsm h) dX1_copyFrom_70
def f_X1_hasMark (S0 : zM) (a0 : Nat) (v1 : Int32) : Option (Int32) :=
  zLet (f_X11_within v1 (7 : Int32)) (fun r2 => if r2 = 0 then some (0 : Int32) else zChk (¬ (zr S0 a0 0) = 0) (zChk (¬ (v1 < 0 ∨ zln S0 (zr S0 a0 0) ≤ (v1).toNatClampNeg)) (if (zi S0 (zr S0 a0 0) (Int32.toNatClampNeg v1)) = (-128 : Int32) then some (0 : Int32) else some (1 : Int32))))
set_option maxHeartbeats 4000000 in
set_option maxRecDepth 100000 in
theorem c_X1_hasMark (l : Launch) (D : va_G) (cy : Nat → ClassId) (B : Nat) {S0 : zM} {a0 : Nat} {v1 : Int32} {r : Int32} (ha0 : zA S0 a0 1) (h : f_X1_hasMark S0 a0 v1 = some r) : Met l yX1_hasMark (zws yX1_hasMark cX1_hasMark 2 ((some .boolean))) { frames := 1, cells := 0, slots := 0, locals := 21 } (zPc D cy B S0 [.ref (B + a0), .int v1]) (zQi D cy B S0 r S0) 0 0 (fun q => B < q) := by
  refine Met.ofW (cc := cX1_hasMark) (maxL := 2) (ret := ((some .boolean))) (by decide) rfl ?_
  intro p e s m args below meth c s₁ Bd hml hv
  obtain ⟨rfl, hC, hM⟩ := hv
  obtain ⟨hx, hb, hr, hg, hown, hlk⟩ := z_open Bd
  have hK := hC.1
  have hS : va_S (fun q => B < q) s.heap s.heap [] := va_S.rf
  have hX0 : zX S0 S0 := zX.rf
  refine z_entry (vs := [.ref (B + a0), .int v1]) (Nat.le_of_ble_eq_true rfl) (fun ls hl => ?_)
  have hl : lv_has ls 2 [(0, .ref (B + a0)), (1, .int v1)] := hl
  unfold f_X1_hasMark at h
  refine lv_iload_n hx hb dX1_hasMark_0 rfl (lv_at hl 1 rfl) ?_
  refine lv_bipush (v := (7 : Int32)) hx hb dX1_hasMark_1 (by decide +kernel) ?_
  obtain ⟨r2, hr1, h⟩ := zlg h
  have hr1 := hr1.symm
  refine z_runi (va_runSN (As := [.int v1, .int (7 : Int32)]) (rest := []) ⟨hx, hb, hml, hown, hg⟩ (c_X11_within l D cy B hr1) ⟨z_cnB hg hC (List.mem_of_getElem? (i := 10) rfl) zw_2 zw_292 zh_X11_within.2 ⟨(Nat.le_of_ble_eq_true rfl), (Nat.le_of_ble_eq_true rfl)⟩, hg _ zw_291, trivial⟩ (zPS hC hM) rfl rfl hl.1 rfl (lv_room (Nat.le_of_ble_eq_true rfl)) dX1_hasMark_3 ⟨(Nat.le_of_ble_eq_true rfl), (Nat.le_of_ble_eq_true rfl)⟩) hS (fun H locs hM hX3 hS => ?_)
  refine lv_if_eq (tgt := 24) hx hb dX1_hasMark_6 (by decide) (fun hc5 => ?_) (fun hc5 => ?_)
  · have h := zt h hc5
    refine lv_iconst (v := (0 : Int32)) hx hb dX1_hasMark_24 (by decide +kernel) ?_
    exact z_zret (by decide +kernel) hx hb hr hlk hM hX0 hS ⟨zsm h, rfl⟩ dX1_hasMark_25
  · have h := zf h hc5
    refine lv_aload_n hx hb dX1_hasMark_9 rfl (lv_at hl 0 rfl) ?_
    obtain ⟨hq7, h⟩ := zk h
    refine z_getN hx hb hg zin_1 hown hK hM ha0 0 rfl (by decide) (hg _ zw_90) (fun _ h9 => h9) hq7 dX1_hasMark_10 (fun h6 => ?_)
    refine lv_iload_n hx hb dX1_hasMark_13 rfl (lv_at hl 1 rfl) ?_
    obtain ⟨hq8, h⟩ := zk h
    refine z_iald hx hb hK hM h6 hq8 dX1_hasMark_14 ?_
    refine lv_bipush (v := (-128 : Int32)) hx hb dX1_hasMark_15 (by decide +kernel) ?_
    refine lv_icmp_eq (tgt := 24) hx hb dX1_hasMark_17 (by decide) (fun hc9 => ?_) (fun hc9 => ?_)
    · have h := zt h hc9
      refine lv_iconst (v := (0 : Int32)) hx hb dX1_hasMark_24 (by decide +kernel) ?_
      exact z_zret (by decide +kernel) hx hb hr hlk hM hX0 hS ⟨zsm h, rfl⟩ dX1_hasMark_25
    · have h := zf h hc9
      refine lv_iconst (v := (1 : Int32)) hx hb dX1_hasMark_20 (by decide +kernel) ?_
      refine lv_goto (tgt := 25) hx hb dX1_hasMark_21 (by decide) ?_
      exact z_zret (by decide +kernel) hx hb hr hlk hM hX0 hS ⟨zsm h, rfl⟩ dX1_hasMark_25
def f_X1_marksThere_L4b (S0 : zM) (a0 : Nat) (K3 : Int32 → Option (Int32)) (rec4 : Int32 → Int32 → Option (Int32)) (x5 : Int32) (x6 : Int32) : Option (Int32) :=
  if (7 : Int32) ≤ x6 then K3 x5 else zChk (¬ (zr S0 a0 0) = 0) (zChk (¬ (x6 < 0 ∨ zln S0 (zr S0 a0 0) ≤ (x6).toNatClampNeg)) (if (zi S0 (zr S0 a0 0) (Int32.toNatClampNeg x6)) = (-128 : Int32) then rec4 x5 (x6 + (1 : Int32)) else rec4 (x5 + (1 : Int32)) (x6 + (1 : Int32))))
def f_X1_marksThere_L4 (S0 : zM) (a0 : Nat) (K3 : Int32 → Option (Int32)) : Nat → Int32 → Int32 → Option (Int32)
  | 0 => fun _ _ => none
  | k + 1 => fun x5 x6 => f_X1_marksThere_L4b S0 a0 K3 (f_X1_marksThere_L4 S0 a0 K3 k) x5 x6
def f_X1_marksThere (n : Nat) (S0 : zM) (a0 : Nat) : Option (Int32) :=
  zLet (fun (x1 : Int32) => some x1) (fun K3 => f_X1_marksThere_L4 S0 a0 K3 n (0 : Int32) (0 : Int32))
set_option maxHeartbeats 4000000 in
set_option maxRecDepth 100000 in
theorem c_X1_marksThere (l : Launch) (D : va_G) (cy : Nat → ClassId) (B : Nat) {n : Nat} {S0 : zM} {a0 : Nat} {r : Int32} (ha0 : zA S0 a0 1) (h : f_X1_marksThere n S0 a0 = some r) : Met l yX1_marksThere (zws yX1_marksThere cX1_marksThere 3 ((some .int))) { frames := 0, cells := 0, slots := 0, locals := 0 } (zPc D cy B S0 [.ref (B + a0)]) (zQi D cy B S0 r S0) 0 0 (fun q => B < q) := by
  refine Met.ofW (cc := cX1_marksThere) (maxL := 3) (ret := ((some .int))) (by decide) rfl ?_
  intro p e s m args below meth c s₁ Bd hml hv
  obtain ⟨rfl, hC, hM⟩ := hv
  obtain ⟨hx, hb, hr, hg, hown, hlk⟩ := z_open Bd
  have hK := hC.1
  have hS : va_S (fun q => B < q) s.heap s.heap [] := va_S.rf
  have hX0 : zX S0 S0 := zX.rf
  refine z_entry (vs := [.ref (B + a0)]) (Nat.le_of_ble_eq_true rfl) (fun ls hl => ?_)
  have hl : lv_has ls 3 [(0, .ref (B + a0))] := hl
  unfold f_X1_marksThere at h
  refine lv_iconst (v := (0 : Int32)) hx hb dX1_marksThere_0 (by decide +kernel) ?_
  refine lv_istore_n (i := 1) (lv' := [(1, .int (0 : Int32)), (0, .ref (B + a0))]) hx hb dX1_marksThere_1 rfl hl (by decide) rfl (fun ls hl => ?_)
  refine lv_iconst (v := (0 : Int32)) hx hb dX1_marksThere_2 (by decide +kernel) ?_
  refine lv_istore_n (i := 2) (lv' := [(2, .int (0 : Int32)), (1, .int (0 : Int32)), (0, .ref (B + a0))]) hx hb dX1_marksThere_3 rfl hl (by decide) rfl (fun ls hl => ?_)
  obtain ⟨K3, eK3, h⟩ := zlg h
  have hK3 : ∀ (x1 : Int32) (H : Heap) (locs : List Loc), zMR D cy B S0 H → zX S0 S0 → va_S (fun q => B < q) s.heap H locs → ∀ ls : Array Slot, lv_has ls 3 [(1, .int x1)] → K3 x1 = some r → W p l e (headSpec (zws yX1_marksThere cX1_marksThere 3 ((some .int))) { frames := 0, cells := 0, slots := 0, locals := 0 }).room s m (([.ref (B + a0)] : List Value).toArray) below meth c H locs 0 0 (MQ below (zQi D cy B S0 r S0) (([.ref (B + a0)] : List Value).toArray) s 0 0 (fun q => B < q)) (F0 m 30 ls []) := by
    intro x1 H locs hM hX2 hS ls hl h
    rw [eK3] at h
    refine lv_iload_n hx hb dX1_marksThere_30 rfl (lv_at hl 0 rfl) ?_
    exact z_iret hx hb hr hlk hM hX2 hS ⟨zsm h, rfl⟩ dX1_marksThere_31
  have hL4 : ∀ (k : Nat) (x5 : Int32) (x6 : Int32) (H : Heap) (locs : List Loc), zMR D cy B S0 H → zX S0 S0 → va_S (fun q => B < q) s.heap H locs → zA S0 a0 1 → ∀ ls : Array Slot, lv_has ls 3 [(0, .ref (B + a0)), (1, .int x5), (2, .int x6)] → f_X1_marksThere_L4 S0 a0 K3 k x5 x6 = some r → W p l e (headSpec (zws yX1_marksThere cX1_marksThere 3 ((some .int))) { frames := 0, cells := 0, slots := 0, locals := 0 }).room s m (([.ref (B + a0)] : List Value).toArray) below meth c H locs 0 0 (MQ below (zQi D cy B S0 r S0) (([.ref (B + a0)] : List Value).toArray) s 0 0 (fun q => B < q)) (F0 m 4 ls []) := by
    intro k
    induction k with
    | zero =>
      intro x5 x6 H locs hM hX7 hS h4 ls hl h
      exact znone h
    | succ k ih4 =>
      intro x5 x6 H locs hM hX7 hS h4 ls hl h
      replace h : f_X1_marksThere_L4b S0 a0 K3 (f_X1_marksThere_L4 S0 a0 K3 k) x5 x6 = some r := h
      generalize f_X1_marksThere_L4 S0 a0 K3 k = rec4 at ih4 h
      unfold f_X1_marksThere_L4b at h
      refine lv_iload_n hx hb dX1_marksThere_4 rfl (lv_at hl 2 rfl) ?_
      refine lv_bipush (v := (7 : Int32)) hx hb dX1_marksThere_5 (by decide +kernel) ?_
      refine lv_icmp_ge (tgt := 30) hx hb dX1_marksThere_7 (by decide) (fun hc8 => ?_) (fun hc8 => ?_)
      · have h := zt h hc8
        exact hK3 x5 _ _ hM hX7 hS _ (lv_sub hl [1] rfl) h
      · have h := zf h hc8
        refine lv_aload_n hx hb dX1_marksThere_10 rfl (lv_at hl 0 rfl) ?_
        obtain ⟨hq10, h⟩ := zk h
        refine z_getN hx hb hg zin_1 hown hK hM h4 0 rfl (by decide) (hg _ zw_90) (fun _ h9 => h9) hq10 dX1_marksThere_11 (fun h9 => ?_)
        refine lv_iload_n hx hb dX1_marksThere_14 rfl (lv_at hl 2 rfl) ?_
        obtain ⟨hq11, h⟩ := zk h
        refine z_iald hx hb hK hM h9 hq11 dX1_marksThere_15 ?_
        refine lv_bipush (v := (-128 : Int32)) hx hb dX1_marksThere_16 (by decide +kernel) ?_
        refine lv_icmp_eq (tgt := 24) hx hb dX1_marksThere_18 (by decide) (fun hc12 => ?_) (fun hc12 => ?_)
        · have h := zt h hc12
          refine lv_iinc (v := (x6 + (1 : Int32))) (lv' := [(2, .int (x6 + (1 : Int32))), (0, .ref (B + a0)), (1, .int x5)]) hx hb dX1_marksThere_24 hl (k := 2) rfl rfl (by decide) rfl (fun ls hl => ?_)
          refine lv_goto (tgt := 4) hx hb dX1_marksThere_27 (by decide) ?_
          exact ih4 x5 (x6 + (1 : Int32)) _ _ hM hX7 hS h4 _ (lv_sub hl [1, 2, 0] rfl) h
        · have h := zf h hc12
          refine lv_iinc (v := (x5 + (1 : Int32))) (lv' := [(1, .int (x5 + (1 : Int32))), (0, .ref (B + a0)), (2, .int x6)]) hx hb dX1_marksThere_21 hl (k := 1) rfl rfl (by decide) rfl (fun ls hl => ?_)
          refine lv_iinc (v := (x6 + (1 : Int32))) (lv' := [(2, .int (x6 + (1 : Int32))), (1, .int (x5 + (1 : Int32))), (0, .ref (B + a0))]) hx hb dX1_marksThere_24 hl (k := 2) rfl rfl (by decide) rfl (fun ls hl => ?_)
          refine lv_goto (tgt := 4) hx hb dX1_marksThere_27 (by decide) ?_
          exact ih4 (x5 + (1 : Int32)) (x6 + (1 : Int32)) _ _ hM hX7 hS h4 _ (lv_sub hl [2, 1, 0] rfl) h
  exact hL4 n (0 : Int32) (0 : Int32) _ _ hM hX0 hS ha0 _ (lv_sub hl [2, 1, 0] rfl) h
def f_X1_markBy_L2b (S0 : zM) (a0 : Nat) (v1 : Int32) (rec2 : Int32 → Option (Int32)) (x2 : Int32) : Option (Int32) :=
  if (7 : Int32) ≤ x2 then some (-128 : Int32) else zChk (¬ (zr S0 a0 1) = 0) (zChk (¬ (x2 < 0 ∨ zln S0 (zr S0 a0 1) ≤ (x2).toNatClampNeg)) (if (zi S0 (zr S0 a0 1) (Int32.toNatClampNeg x2)) = v1 then zChk (¬ (zr S0 a0 0) = 0) (zChk (¬ (x2 < 0 ∨ zln S0 (zr S0 a0 0) ≤ (x2).toNatClampNeg)) (some (zi S0 (zr S0 a0 0) (Int32.toNatClampNeg x2)))) else rec2 (x2 + (1 : Int32))))
def f_X1_markBy_L2 (S0 : zM) (a0 : Nat) (v1 : Int32) : Nat → Int32 → Option (Int32)
  | 0 => fun _ => none
  | k + 1 => fun x2 => f_X1_markBy_L2b S0 a0 v1 (f_X1_markBy_L2 S0 a0 v1 k) x2
def f_X1_markBy (n : Nat) (S0 : zM) (a0 : Nat) (v1 : Int32) : Option (Int32) :=
  f_X1_markBy_L2 S0 a0 v1 n (0 : Int32)
set_option maxHeartbeats 4000000 in
set_option maxRecDepth 100000 in
theorem c_X1_markBy (l : Launch) (D : va_G) (cy : Nat → ClassId) (B : Nat) {n : Nat} {S0 : zM} {a0 : Nat} {v1 : Int32} {r : Int32} (ha0 : zA S0 a0 1) (h : f_X1_markBy n S0 a0 v1 = some r) : Met l yX1_markBy (zws yX1_markBy cX1_markBy 3 ((some .int))) { frames := 0, cells := 0, slots := 0, locals := 0 } (zPc D cy B S0 [.ref (B + a0), .int v1]) (zQi D cy B S0 r S0) 0 0 (fun q => B < q) := by
  refine Met.ofW (cc := cX1_markBy) (maxL := 3) (ret := ((some .int))) (by decide) rfl ?_
  intro p e s m args below meth c s₁ Bd hml hv
  obtain ⟨rfl, hC, hM⟩ := hv
  obtain ⟨hx, hb, hr, hg, hown, hlk⟩ := z_open Bd
  have hK := hC.1
  have hS : va_S (fun q => B < q) s.heap s.heap [] := va_S.rf
  have hX0 : zX S0 S0 := zX.rf
  refine z_entry (vs := [.ref (B + a0), .int v1]) (Nat.le_of_ble_eq_true rfl) (fun ls hl => ?_)
  have hl : lv_has ls 3 [(0, .ref (B + a0)), (1, .int v1)] := hl
  unfold f_X1_markBy at h
  refine lv_iconst (v := (0 : Int32)) hx hb dX1_markBy_0 (by decide +kernel) ?_
  refine lv_istore_n (i := 2) (lv' := [(2, .int (0 : Int32)), (0, .ref (B + a0)), (1, .int v1)]) hx hb dX1_markBy_1 rfl hl (by decide) rfl (fun ls hl => ?_)
  have hL2 : ∀ (k : Nat) (x2 : Int32) (H : Heap) (locs : List Loc), zMR D cy B S0 H → zX S0 S0 → va_S (fun q => B < q) s.heap H locs → zA S0 a0 1 → ∀ ls : Array Slot, lv_has ls 3 [(0, .ref (B + a0)), (1, .int v1), (2, .int x2)] → f_X1_markBy_L2 S0 a0 v1 k x2 = some r → W p l e (headSpec (zws yX1_markBy cX1_markBy 3 ((some .int))) { frames := 0, cells := 0, slots := 0, locals := 0 }).room s m (([.ref (B + a0), .int v1] : List Value).toArray) below meth c H locs 0 0 (MQ below (zQi D cy B S0 r S0) (([.ref (B + a0), .int v1] : List Value).toArray) s 0 0 (fun q => B < q)) (F0 m 2 ls []) := by
    intro k
    induction k with
    | zero =>
      intro x2 H locs hM hX3 hS h1 ls hl h
      exact znone h
    | succ k ih2 =>
      intro x2 H locs hM hX3 hS h1 ls hl h
      replace h : f_X1_markBy_L2b S0 a0 v1 (f_X1_markBy_L2 S0 a0 v1 k) x2 = some r := h
      generalize f_X1_markBy_L2 S0 a0 v1 k = rec2 at ih2 h
      unfold f_X1_markBy_L2b at h
      refine lv_iload_n hx hb dX1_markBy_2 rfl (lv_at hl 2 rfl) ?_
      refine lv_bipush (v := (7 : Int32)) hx hb dX1_markBy_3 (by decide +kernel) ?_
      refine lv_icmp_ge (tgt := 31) hx hb dX1_markBy_5 (by decide) (fun hc4 => ?_) (fun hc4 => ?_)
      · have h := zt h hc4
        refine lv_bipush (v := (-128 : Int32)) hx hb dX1_markBy_31 (by decide +kernel) ?_
        exact z_iret hx hb hr hlk hM hX3 hS ⟨zsm h, rfl⟩ dX1_markBy_33
      · have h := zf h hc4
        refine lv_aload_n hx hb dX1_markBy_8 rfl (lv_at hl 0 rfl) ?_
        obtain ⟨hq6, h⟩ := zk h
        refine z_getN hx hb hg zin_1 hown hK hM h1 1 rfl (by decide) (hg _ zw_95) (fun _ h9 => h9) hq6 dX1_markBy_9 (fun h5 => ?_)
        refine lv_iload_n hx hb dX1_markBy_12 rfl (lv_at hl 2 rfl) ?_
        obtain ⟨hq7, h⟩ := zk h
        refine z_iald hx hb hK hM h5 hq7 dX1_markBy_13 ?_
        refine lv_iload_n hx hb dX1_markBy_14 rfl (lv_at hl 1 rfl) ?_
        refine lv_icmp_ne (tgt := 25) hx hb dX1_markBy_15 (by decide) (fun hc8 => ?_) (fun hc8 => ?_)
        · have h := zf h hc8
          refine lv_iinc (v := (x2 + (1 : Int32))) (lv' := [(2, .int (x2 + (1 : Int32))), (0, .ref (B + a0)), (1, .int v1)]) hx hb dX1_markBy_25 hl (k := 2) rfl rfl (by decide) rfl (fun ls hl => ?_)
          refine lv_goto (tgt := 2) hx hb dX1_markBy_28 (by decide) ?_
          exact ih2 (x2 + (1 : Int32)) _ _ hM hX3 hS h1 _ (lv_sub hl [1, 2, 0] rfl) h
        · have h := zt h hc8
          refine lv_aload_n hx hb dX1_markBy_18 rfl (lv_at hl 0 rfl) ?_
          obtain ⟨hq10, h⟩ := zk h
          refine z_getN hx hb hg zin_1 hown hK hM h1 0 rfl (by decide) (hg _ zw_90) (fun _ h9 => h9) hq10 dX1_markBy_19 (fun h9 => ?_)
          refine lv_iload_n hx hb dX1_markBy_22 rfl (lv_at hl 2 rfl) ?_
          obtain ⟨hq11, h⟩ := zk h
          refine z_iald hx hb hK hM h9 hq11 dX1_markBy_23 ?_
          exact z_iret hx hb hr hlk hM hX3 hS ⟨zsm h, rfl⟩ dX1_markBy_24
  exact hL2 n (0 : Int32) _ _ hM hX0 hS ha0 _ (lv_sub hl [1, 2, 0] rfl) h
def f_X2_init (S0 : zM) (a0 : Nat) (v1 : Int32) (v2 : Int32) (v3 : Int32) : zM :=
  zLet (zpI S0 a0 0 v1) (fun S1 => zLet (zpI S1 a0 1 v2) (fun S6 => zLet (zpI S6 a0 2 (v3 / (100 : Int32))) (fun S11 => zLet (zpI S11 a0 3 ((v3 / (10 : Int32)) - (v3 / (10 : Int32)) / (10 : Int32) * (10 : Int32))) (fun S16 => zLet (zpI S16 a0 4 (v3 - v3 / (10 : Int32) * (10 : Int32))) (fun S21 => S21)))))
set_option maxHeartbeats 4000000 in
set_option maxRecDepth 100000 in
theorem c_X2_init (l : Launch) (D : va_G) (cy : Nat → ClassId) (B : Nat) {S0 : zM} {a0 : Nat} {v1 : Int32} {v2 : Int32} {v3 : Int32} {S' : zM} (ha0 : zA S0 a0 2) (h : f_X2_init S0 a0 v1 v2 v3 = S') : Met l yX2_init (zws yX2_init cX2_init 4 none) { frames := 1, cells := 0, slots := 0, locals := 20 } (zPc D cy B S0 [.ref (B + a0), .int v1, .int v2, .int v3]) (zQv D cy B S0 S') 0 0 (fun q => B < q) := by
  refine Met.ofW (cc := cX2_init) (maxL := 4) (ret := none) (by decide) rfl ?_
  intro p e s m args below meth c s₁ Bd hml hv
  obtain ⟨rfl, hC, hM⟩ := hv
  obtain ⟨hx, hb, hr, hg, hown, hlk⟩ := z_open Bd
  have hK := hC.1
  have hin : meth.name = "<init>" := (name_of_methodNamed Bd.named Bd.method).1
  have hS : va_S (fun q => B < q) s.heap s.heap [] := va_S.rf
  have hX0 : zX S0 S0 := zX.rf
  refine z_entry (vs := [.ref (B + a0), .int v1, .int v2, .int v3]) (Nat.le_of_ble_eq_true rfl) (fun ls hl => ?_)
  have hl : lv_has ls 4 [(0, .ref (B + a0)), (1, .int v1), (2, .int v2), (3, .int v3)] := hl
  unfold f_X2_init at h
  refine lv_aload_n hx hb dX2_init_0 rfl (lv_at hl 0 rfl) ?_
  refine W.objInit hx hb hown (hg _ zw_310) (hg _ zw_29) (hg _ zw_30) rfl (by rw [hml]; exact hl.1) rfl dX2_init_1 (Nat.le_of_ble_eq_true rfl) (Nat.le_of_ble_eq_true rfl) ?_
  refine W.eq (g2 := F0 m 4 ls []) rfl ?_
  refine lv_aload_n hx hb dX2_init_4 rfl (lv_at hl 0 rfl) ?_
  refine lv_iload_n hx hb dX2_init_5 rfl (lv_at hl 1 rfl) ?_
  refine z_putI hx hb hg zin_2 tyX2 tyX2_ok nmX2 hown hK hM hS ha0 0 rfl (by decide) (hg _ zw_311) (fun _ h9 => h9) (Or.inr ⟨rfl, hin, rfl⟩) (tyX2_ok 0 (by decide)) rfl rfl dX2_init_6 (fun H locs hM hS => ?_)
  obtain ⟨S1, e2, h⟩ := zlg h
  rw [← e2] at hM
  have hX3 : zX S0 S1 := by rw [e2]; exact zX_pI
  have h4 := ha0.mo hX3
  have hX5 := hX0.tr hX3
  refine lv_aload_n hx hb dX2_init_9 rfl (lv_at hl 0 rfl) ?_
  refine lv_iload_n hx hb dX2_init_10 rfl (lv_at hl 2 rfl) ?_
  refine z_putI hx hb hg zin_2 tyX2 tyX2_ok nmX2 hown hK hM hS h4 1 rfl (by decide) (hg _ zw_312) (fun _ h9 => h9) (Or.inr ⟨rfl, hin, rfl⟩) (tyX2_ok 1 (by decide)) rfl rfl dX2_init_11 (fun H locs hM hS => ?_)
  obtain ⟨S6, e7, h⟩ := zlg h
  rw [← e7] at hM
  have hX8 : zX S1 S6 := by rw [e7]; exact zX_pI
  have h9 := h4.mo hX8
  have hX10 := hX5.tr hX8
  refine lv_aload_n hx hb dX2_init_14 rfl (lv_at hl 0 rfl) ?_
  refine lv_iload_n hx hb dX2_init_15 rfl (lv_at hl 3 rfl) ?_
  refine lv_bipush (v := (100 : Int32)) hx hb dX2_init_16 (by decide +kernel) ?_
  refine lv_idiv hx hb dX2_init_18 (by decide +kernel) ?_
  refine z_putI hx hb hg zin_2 tyX2 tyX2_ok nmX2 hown hK hM hS h9 2 rfl (by decide) (hg _ zw_314) (fun _ h9 => h9) (Or.inr ⟨rfl, hin, rfl⟩) (tyX2_ok 2 (by decide)) rfl rfl dX2_init_19 (fun H locs hM hS => ?_)
  obtain ⟨S11, e12, h⟩ := zlg h
  rw [← e12] at hM
  have hX13 : zX S6 S11 := by rw [e12]; exact zX_pI
  have h14 := h9.mo hX13
  have hX15 := hX10.tr hX13
  refine lv_aload_n hx hb dX2_init_22 rfl (lv_at hl 0 rfl) ?_
  refine lv_iload_n hx hb dX2_init_23 rfl (lv_at hl 3 rfl) ?_
  refine lv_bipush (v := (10 : Int32)) hx hb dX2_init_24 (by decide +kernel) ?_
  refine lv_idiv hx hb dX2_init_26 (by decide +kernel) ?_
  refine lv_bipush (v := (10 : Int32)) hx hb dX2_init_27 (by decide +kernel) ?_
  refine lv_irem hx hb dX2_init_29 (by decide +kernel) ?_
  refine z_putI hx hb hg zin_2 tyX2 tyX2_ok nmX2 hown hK hM hS h14 3 rfl (by decide) (hg _ zw_316) (fun _ h9 => h9) (Or.inr ⟨rfl, hin, rfl⟩) (tyX2_ok 3 (by decide)) rfl rfl dX2_init_30 (fun H locs hM hS => ?_)
  obtain ⟨S16, e17, h⟩ := zlg h
  rw [← e17] at hM
  have hX18 : zX S11 S16 := by rw [e17]; exact zX_pI
  have h19 := h14.mo hX18
  have hX20 := hX15.tr hX18
  refine lv_aload_n hx hb dX2_init_33 rfl (lv_at hl 0 rfl) ?_
  refine lv_iload_n hx hb dX2_init_34 rfl (lv_at hl 3 rfl) ?_
  refine lv_bipush (v := (10 : Int32)) hx hb dX2_init_35 (by decide +kernel) ?_
  refine lv_irem hx hb dX2_init_37 (by decide +kernel) ?_
  refine z_putI hx hb hg zin_2 tyX2 tyX2_ok nmX2 hown hK hM hS h19 4 rfl (by decide) (hg _ zw_317) (fun _ h9 => h9) (Or.inr ⟨rfl, hin, rfl⟩) (tyX2_ok 4 (by decide)) rfl rfl dX2_init_38 (fun H locs hM hS => ?_)
  obtain ⟨S21, e22, h⟩ := zlg h
  rw [← e22] at hM
  have hX23 : zX S16 S21 := by rw [e22]; exact zX_pI
  have hX24 := hX20.tr hX23
  exact z_vret hx hb hr hlk hM hX24 hS h dX2_init_41
def f_X2_leanTo (S0 : zM) (a0 : Nat) (v1 : Int32) : Int32 :=
  zLet (fun (x2 : Int32) => zLet (fun (x6 : Int32) => if x2 = 0 then if x6 = 0 then (0 : Int32) else (zi S0 a0 3) else (zi S0 a0 3)) (fun K8 => zLet (K8 (0 : Int32)) (fun K13 => if (zi S0 a0 1) = (3 : Int32) then if v1 = (zi S0 a0 4) then K8 (1 : Int32) else K13 else K13))) (fun K4 => zLet (K4 (0 : Int32)) (fun K18 => zLet (if v1 = (zi S0 a0 2) then K4 (1 : Int32) else K18) (fun K21 => if (zi S0 a0 1) = (2 : Int32) then K21 else if (zi S0 a0 1) = (3 : Int32) then K21 else K18)))
set_option maxHeartbeats 4000000 in
set_option maxRecDepth 100000 in
theorem c_X2_leanTo (l : Launch) (D : va_G) (cy : Nat → ClassId) (B : Nat) {S0 : zM} {a0 : Nat} {v1 : Int32} {r : Int32} (ha0 : zA S0 a0 2) (h : f_X2_leanTo S0 a0 v1 = r) : Met l yX2_leanTo (zws yX2_leanTo cX2_leanTo 4 ((some .int))) { frames := 0, cells := 0, slots := 0, locals := 0 } (zPc D cy B S0 [.ref (B + a0), .int v1]) (zQi D cy B S0 r S0) 0 0 (fun q => B < q) := by
  refine Met.ofW (cc := cX2_leanTo) (maxL := 4) (ret := ((some .int))) (by decide) rfl ?_
  intro p e s m args below meth c s₁ Bd hml hv
  obtain ⟨rfl, hC, hM⟩ := hv
  obtain ⟨hx, hb, hr, hg, hown, hlk⟩ := z_open Bd
  have hK := hC.1
  have hS : va_S (fun q => B < q) s.heap s.heap [] := va_S.rf
  have hX0 : zX S0 S0 := zX.rf
  refine z_entry (vs := [.ref (B + a0), .int v1]) (Nat.le_of_ble_eq_true rfl) (fun ls hl => ?_)
  have hl : lv_has ls 4 [(0, .ref (B + a0)), (1, .int v1)] := hl
  unfold f_X2_leanTo at h
  refine lv_aload_n hx hb dX2_leanTo_0 rfl (lv_at hl 0 rfl) ?_
  refine z_getI hx hb hg zin_2 hown hK hM ha0 1 rfl (by decide) (hg _ zw_312) (fun _ h9 => h9) dX2_leanTo_1 ?_
  refine lv_iconst (v := (2 : Int32)) hx hb dX2_leanTo_4 (by decide +kernel) ?_
  obtain ⟨K4, eK4, h⟩ := zlg h
  have hK4 : ∀ (x2 : Int32) (H : Heap) (locs : List Loc), zMR D cy B S0 H → zX S0 S0 → va_S (fun q => B < q) s.heap H locs → zA S0 a0 2 → ∀ ls : Array Slot, lv_has ls 4 [(0, .ref (B + a0)), (1, .int v1)] → K4 x2 = r → W p l e (headSpec (zws yX2_leanTo cX2_leanTo 4 ((some .int))) { frames := 0, cells := 0, slots := 0, locals := 0 }).room s m (([.ref (B + a0), .int v1] : List Value).toArray) below meth c H locs 0 0 (MQ below (zQi D cy B S0 r S0) (([.ref (B + a0), .int v1] : List Value).toArray) s 0 0 (fun q => B < q)) (F0 m 29 ls [.int x2]) := by
    intro x2 H locs hM hX3 hS h1 ls hl h
    rw [eK4] at h
    refine lv_istore_n (i := 2) (lv' := [(2, .int x2), (0, .ref (B + a0)), (1, .int v1)]) hx hb dX2_leanTo_29 rfl hl (by decide) rfl (fun ls hl => ?_)
    refine lv_aload_n hx hb dX2_leanTo_30 rfl (lv_at hl 1 rfl) ?_
    refine z_getI hx hb hg zin_2 hown hK hM h1 1 rfl (by decide) (hg _ zw_312) (fun _ h9 => h9) dX2_leanTo_31 ?_
    refine lv_iconst (v := (3 : Int32)) hx hb dX2_leanTo_34 (by decide +kernel) ?_
    obtain ⟨K8, eK8, h⟩ := zlg h
    have hK8 : ∀ (x6 : Int32) (H : Heap) (locs : List Loc), zMR D cy B S0 H → zX S0 S0 → va_S (fun q => B < q) s.heap H locs → zA S0 a0 2 → ∀ ls : Array Slot, lv_has ls 4 [(0, .ref (B + a0)), (2, .int x2)] → K8 x6 = r → W p l e (headSpec (zws yX2_leanTo cX2_leanTo 4 ((some .int))) { frames := 0, cells := 0, slots := 0, locals := 0 }).room s m (([.ref (B + a0), .int v1] : List Value).toArray) below meth c H locs 0 0 (MQ below (zQi D cy B S0 r S0) (([.ref (B + a0), .int v1] : List Value).toArray) s 0 0 (fun q => B < q)) (F0 m 51 ls [.int x6]) := by
      intro x6 H locs hM hX7 hS h5 ls hl h
      rw [eK8] at h
      refine lv_istore_n (i := 3) (lv' := [(3, .int x6), (0, .ref (B + a0)), (2, .int x2)]) hx hb dX2_leanTo_51 rfl hl (by decide) rfl (fun ls hl => ?_)
      refine lv_iload_n hx hb dX2_leanTo_52 rfl (lv_at hl 2 rfl) ?_
      refine lv_if_ne (tgt := 60) hx hb dX2_leanTo_53 (by decide) (fun hc9 => ?_) (fun hc9 => ?_)
      · have h := zf h hc9
        refine lv_aload_n hx hb dX2_leanTo_60 rfl (lv_at hl 1 rfl) ?_
        refine z_getI hx hb hg zin_2 hown hK hM h5 3 rfl (by decide) (hg _ zw_316) (fun _ h9 => h9) dX2_leanTo_61 ?_
        refine lv_goto (tgt := 68) hx hb dX2_leanTo_64 (by decide) ?_
        exact z_iret hx hb hr hlk hM hX7 hS ⟨h, rfl⟩ dX2_leanTo_68
      · have h := zt h hc9
        refine lv_iload_n hx hb dX2_leanTo_56 rfl (lv_at hl 0 rfl) ?_
        refine lv_if_eq (tgt := 67) hx hb dX2_leanTo_57 (by decide) (fun hc10 => ?_) (fun hc10 => ?_)
        · have h := zt h hc10
          refine lv_iconst (v := (0 : Int32)) hx hb dX2_leanTo_67 (by decide +kernel) ?_
          exact z_iret hx hb hr hlk hM hX7 hS ⟨h, rfl⟩ dX2_leanTo_68
        · have h := zf h hc10
          refine lv_aload_n hx hb dX2_leanTo_60 rfl (lv_at hl 1 rfl) ?_
          refine z_getI hx hb hg zin_2 hown hK hM h5 3 rfl (by decide) (hg _ zw_316) (fun _ h9 => h9) dX2_leanTo_61 ?_
          refine lv_goto (tgt := 68) hx hb dX2_leanTo_64 (by decide) ?_
          exact z_iret hx hb hr hlk hM hX7 hS ⟨h, rfl⟩ dX2_leanTo_68
    obtain ⟨K13, eK13, h⟩ := zlg h
    have hK13 : ∀ (H : Heap) (locs : List Loc), zMR D cy B S0 H → zX S0 S0 → va_S (fun q => B < q) s.heap H locs → zA S0 a0 2 → ∀ ls : Array Slot, lv_has ls 4 [(0, .ref (B + a0)), (2, .int x2)] → K13 = r → W p l e (headSpec (zws yX2_leanTo cX2_leanTo 4 ((some .int))) { frames := 0, cells := 0, slots := 0, locals := 0 }).room s m (([.ref (B + a0), .int v1] : List Value).toArray) below meth c H locs 0 0 (MQ below (zQi D cy B S0 r S0) (([.ref (B + a0), .int v1] : List Value).toArray) s 0 0 (fun q => B < q)) (F0 m 50 ls []) := by
      intro H locs hM hX12 hS h11 ls hl h
      rw [eK13] at h
      refine lv_iconst (v := (0 : Int32)) hx hb dX2_leanTo_50 (by decide +kernel) ?_
      exact hK8 (0 : Int32) _ _ hM hX12 hS h11 _ (lv_sub hl [0, 1] rfl) h
    refine lv_icmp_ne (tgt := 50) hx hb dX2_leanTo_35 (by decide) (fun hc14 => ?_) (fun hc14 => ?_)
    · have h := zf h hc14
      exact hK13 _ _ hM hX3 hS h1 _ (lv_sub hl [1, 0] rfl) h
    · have h := zt h hc14
      refine lv_iload_n hx hb dX2_leanTo_38 rfl (lv_at hl 2 rfl) ?_
      refine lv_aload_n hx hb dX2_leanTo_39 rfl (lv_at hl 1 rfl) ?_
      refine z_getI hx hb hg zin_2 hown hK hM h1 4 rfl (by decide) (hg _ zw_317) (fun _ h9 => h9) dX2_leanTo_40 ?_
      refine lv_icmp_ne (tgt := 50) hx hb dX2_leanTo_43 (by decide) (fun hc15 => ?_) (fun hc15 => ?_)
      · have h := zf h hc15
        exact hK13 _ _ hM hX3 hS h1 _ (lv_sub hl [1, 0] rfl) h
      · have h := zt h hc15
        refine lv_iconst (v := (1 : Int32)) hx hb dX2_leanTo_46 (by decide +kernel) ?_
        refine lv_goto (tgt := 51) hx hb dX2_leanTo_47 (by decide) ?_
        exact hK8 (1 : Int32) _ _ hM hX3 hS h1 _ (lv_sub hl [1, 0] rfl) h
  obtain ⟨K18, eK18, h⟩ := zlg h
  have hK18 : ∀ (H : Heap) (locs : List Loc), zMR D cy B S0 H → zX S0 S0 → va_S (fun q => B < q) s.heap H locs → zA S0 a0 2 → ∀ ls : Array Slot, lv_has ls 4 [(0, .ref (B + a0)), (1, .int v1)] → K18 = r → W p l e (headSpec (zws yX2_leanTo cX2_leanTo 4 ((some .int))) { frames := 0, cells := 0, slots := 0, locals := 0 }).room s m (([.ref (B + a0), .int v1] : List Value).toArray) below meth c H locs 0 0 (MQ below (zQi D cy B S0 r S0) (([.ref (B + a0), .int v1] : List Value).toArray) s 0 0 (fun q => B < q)) (F0 m 28 ls []) := by
    intro H locs hM hX17 hS h16 ls hl h
    rw [eK18] at h
    refine lv_iconst (v := (0 : Int32)) hx hb dX2_leanTo_28 (by decide +kernel) ?_
    exact hK4 (0 : Int32) _ _ hM hX17 hS h16 _ (lv_sub hl [0, 1] rfl) h
  obtain ⟨K21, eK21, h⟩ := zlg h
  have hK21 : ∀ (H : Heap) (locs : List Loc), zMR D cy B S0 H → zX S0 S0 → va_S (fun q => B < q) s.heap H locs → zA S0 a0 2 → ∀ ls : Array Slot, lv_has ls 4 [(0, .ref (B + a0)), (1, .int v1)] → K21 = r → W p l e (headSpec (zws yX2_leanTo cX2_leanTo 4 ((some .int))) { frames := 0, cells := 0, slots := 0, locals := 0 }).room s m (([.ref (B + a0), .int v1] : List Value).toArray) below meth c H locs 0 0 (MQ below (zQi D cy B S0 r S0) (([.ref (B + a0), .int v1] : List Value).toArray) s 0 0 (fun q => B < q)) (F0 m 16 ls []) := by
    intro H locs hM hX20 hS h19 ls hl h
    rw [eK21] at h
    refine lv_iload_n hx hb dX2_leanTo_16 rfl (lv_at hl 1 rfl) ?_
    refine lv_aload_n hx hb dX2_leanTo_17 rfl (lv_at hl 0 rfl) ?_
    refine z_getI hx hb hg zin_2 hown hK hM h19 2 rfl (by decide) (hg _ zw_314) (fun _ h9 => h9) dX2_leanTo_18 ?_
    refine lv_icmp_ne (tgt := 28) hx hb dX2_leanTo_21 (by decide) (fun hc22 => ?_) (fun hc22 => ?_)
    · have h := zf h hc22
      exact hK18 _ _ hM hX20 hS h19 _ (lv_sub hl [0, 1] rfl) h
    · have h := zt h hc22
      refine lv_iconst (v := (1 : Int32)) hx hb dX2_leanTo_24 (by decide +kernel) ?_
      refine lv_goto (tgt := 29) hx hb dX2_leanTo_25 (by decide) ?_
      exact hK4 (1 : Int32) _ _ hM hX20 hS h19 _ (lv_sub hl [0, 1] rfl) h
  refine lv_icmp_eq (tgt := 16) hx hb dX2_leanTo_5 (by decide) (fun hc23 => ?_) (fun hc23 => ?_)
  · have h := zt h hc23
    exact hK21 _ _ hM hX0 hS ha0 _ (lv_sub hl [0, 1] rfl) h
  · have h := zf h hc23
    refine lv_aload_n hx hb dX2_leanTo_8 rfl (lv_at hl 0 rfl) ?_
    refine z_getI hx hb hg zin_2 hown hK hM ha0 1 rfl (by decide) (hg _ zw_312) (fun _ h9 => h9) dX2_leanTo_9 ?_
    refine lv_iconst (v := (3 : Int32)) hx hb dX2_leanTo_12 (by decide +kernel) ?_
    refine lv_icmp_ne (tgt := 28) hx hb dX2_leanTo_13 (by decide) (fun hc24 => ?_) (fun hc24 => ?_)
    · have h := zf h hc24
      exact hK18 _ _ hM hX0 hS ha0 _ (lv_sub hl [0, 1] rfl) h
    · have h := zt h hc24
      exact hK21 _ _ hM hX0 hS ha0 _ (lv_sub hl [0, 1] rfl) h
def f_X2_held (v0 : Int32) : Int32 :=
  if 0 ≤ v0 then if v0 ≤ (20 : Int32) then v0 else (20 : Int32) else (0 : Int32)
set_option maxHeartbeats 4000000 in
set_option maxRecDepth 100000 in
theorem c_X2_held (l : Launch) (D : va_G) (cy : Nat → ClassId) (B : Nat) {S0 : zM} {v0 : Int32} {r : Int32}  (h : f_X2_held v0 = r) : Met l yX2_held (zws yX2_held cX2_held 1 ((some .int))) { frames := 0, cells := 0, slots := 0, locals := 0 } (zPc D cy B S0 [.int v0]) (zQi D cy B S0 r S0) 0 0 (fun q => B < q) := by
  refine Met.ofW (cc := cX2_held) (maxL := 1) (ret := ((some .int))) (by decide) rfl ?_
  intro p e s m args below meth c s₁ Bd hml hv
  obtain ⟨rfl, hC, hM⟩ := hv
  obtain ⟨hx, hb, hr, hg, hown, hlk⟩ := z_open Bd
  have hK := hC.1
  have hS : va_S (fun q => B < q) s.heap s.heap [] := va_S.rf
  have hX0 : zX S0 S0 := zX.rf
  refine z_entry (vs := [.int v0]) (Nat.le_of_ble_eq_true rfl) (fun ls hl => ?_)
  have hl : lv_has ls 1 [(0, .int v0)] := hl
  unfold f_X2_held at h
  refine lv_iload_n hx hb dX2_held_0 rfl (lv_at hl 0 rfl) ?_
  refine lv_if_ge (tgt := 8) hx hb dX2_held_1 (by decide) (fun hc1 => ?_) (fun hc1 => ?_)
  · have h := zt h hc1
    refine lv_iload_n hx hb dX2_held_8 rfl (lv_at hl 0 rfl) ?_
    refine lv_bipush (v := (20 : Int32)) hx hb dX2_held_9 (by decide +kernel) ?_
    refine lv_icmp_le (tgt := 19) hx hb dX2_held_11 (by decide) (fun hc2 => ?_) (fun hc2 => ?_)
    · have h := zt h hc2
      refine lv_iload_n hx hb dX2_held_19 rfl (lv_at hl 0 rfl) ?_
      exact z_iret hx hb hr hlk hM hX0 hS ⟨h, rfl⟩ dX2_held_20
    · have h := zf h hc2
      refine lv_bipush (v := (20 : Int32)) hx hb dX2_held_14 (by decide +kernel) ?_
      refine lv_goto (tgt := 20) hx hb dX2_held_16 (by decide) ?_
      exact z_iret hx hb hr hlk hM hX0 hS ⟨h, rfl⟩ dX2_held_20
  · have h := zf h hc1
    refine lv_iconst (v := (0 : Int32)) hx hb dX2_held_4 (by decide +kernel) ?_
    refine lv_goto (tgt := 20) hx hb dX2_held_5 (by decide) ?_
    exact z_iret hx hb hr hlk hM hX0 hS ⟨h, rfl⟩ dX2_held_20
def f_X2_markFor (S0 : zM) (a0 : Nat) (v1 : Int32) (v2 : Int32) (v3 : Int32) : Int32 :=
  if (zi S0 a0 1) = (1 : Int32) then zLet (f_X2_held (v1 - (v1 &&& (1 : Int32)))) (fun r3 => r3) else if (zi S0 a0 1) = (2 : Int32) then zLet (f_X2_leanTo S0 a0 v2) (fun r8 => zLet (f_X2_held (v1 + r8)) (fun r12 => r12)) else if (zi S0 a0 1) = (3 : Int32) then zLet (f_X2_leanTo S0 a0 v2) (fun r17 => zLet (f_X2_held (v1 + r17)) (fun r21 => r21)) else if (zi S0 a0 1) = (4 : Int32) then zLet (f_X2_held (v1 + v3)) (fun r26 => r26) else zLet (f_X2_held v1) (fun r30 => r30)
set_option maxHeartbeats 4000000 in
set_option maxRecDepth 100000 in
theorem c_X2_markFor (l : Launch) (D : va_G) (cy : Nat → ClassId) (B : Nat) {S0 : zM} {a0 : Nat} {v1 : Int32} {v2 : Int32} {v3 : Int32} {r : Int32} (ha0 : zA S0 a0 2) (h : f_X2_markFor S0 a0 v1 v2 v3 = r) : Met l yX2_markFor (zws yX2_markFor cX2_markFor 4 ((some .int))) { frames := 1, cells := 0, slots := 0, locals := 23 } (zPc D cy B S0 [.ref (B + a0), .int v1, .int v2, .int v3]) (zQi D cy B S0 r S0) 0 0 (fun q => B < q) := by
  refine Met.ofW (cc := cX2_markFor) (maxL := 4) (ret := ((some .int))) (by decide) rfl ?_
  intro p e s m args below meth c s₁ Bd hml hv
  obtain ⟨rfl, hC, hM⟩ := hv
  obtain ⟨hx, hb, hr, hg, hown, hlk⟩ := z_open Bd
  have hK := hC.1
  have hS : va_S (fun q => B < q) s.heap s.heap [] := va_S.rf
  have hX0 : zX S0 S0 := zX.rf
  refine z_entry (vs := [.ref (B + a0), .int v1, .int v2, .int v3]) (Nat.le_of_ble_eq_true rfl) (fun ls hl => ?_)
  have hl : lv_has ls 4 [(0, .ref (B + a0)), (1, .int v1), (2, .int v2), (3, .int v3)] := hl
  unfold f_X2_markFor at h
  refine lv_aload_n hx hb dX2_markFor_0 rfl (lv_at hl 0 rfl) ?_
  refine z_getI hx hb hg zin_2 hown hK hM ha0 1 rfl (by decide) (hg _ zw_312) (fun _ h9 => h9) dX2_markFor_1 ?_
  by_cases hc1 : (zi S0 a0 1) = (1 : Int32)
  · refine z_tin (off := 32) hx hb hc1 dX2_markFor_4 (by decide +kernel) (tgt := 36) (by decide) ?_
    have h := zt h hc1
    refine lv_iload_n hx hb dX2_markFor_36 rfl (lv_at hl 1 rfl) ?_
    refine lv_iload_n hx hb dX2_markFor_37 rfl (lv_at hl 1 rfl) ?_
    refine lv_iconst (v := (1 : Int32)) hx hb dX2_markFor_38 (by decide +kernel) ?_
    refine lv_iand hx hb dX2_markFor_39 ?_
    refine lv_isub hx hb dX2_markFor_40 ?_
    obtain ⟨r3, hr2, h⟩ := zlg h
    have hr2 := hr2.symm
    refine z_runi (va_runS (As := [.int (v1 - (v1 &&& (1 : Int32)))]) (rest := []) ⟨hx, hb, hml, hown, hg⟩ (c_X2_held l D cy B hr2) (z_cwS hg zw_422 zw_423 zw_14 zw_424 zh_X2_held.2 ⟨(Nat.le_of_ble_eq_true rfl), (Nat.le_of_ble_eq_true rfl)⟩) (zPS hC hM) rfl rfl hl.1 rfl (lv_room (Nat.le_of_ble_eq_true rfl)) dX2_markFor_41 ⟨(Nat.le_of_ble_eq_true rfl), (Nat.le_of_ble_eq_true rfl)⟩) hS (fun H locs hM hX4 hS => ?_)
    exact z_iret hx hb hr hlk hM hX0 hS ⟨h, rfl⟩ dX2_markFor_44
  · have h := zf h hc1
    by_cases hc6 : (zi S0 a0 1) = (2 : Int32)
    · refine z_tin (off := 41) hx hb hc6 dX2_markFor_4 (by decide +kernel) (tgt := 45) (by decide) ?_
      have h := zt h hc6
      refine lv_iload_n hx hb dX2_markFor_45 rfl (lv_at hl 1 rfl) ?_
      refine lv_aload_n hx hb dX2_markFor_46 rfl (lv_at hl 0 rfl) ?_
      refine lv_iload_n hx hb dX2_markFor_47 rfl (lv_at hl 2 rfl) ?_
      obtain ⟨r8, hr7, h⟩ := zlg h
      have hr7 := hr7.symm
      refine z_runi (va_runV (As := [.int v2]) (rest := [.int v1]) ⟨hx, hb, hml, hown, hg⟩ (c_X2_leanTo l D cy B ha0 hr7) (z_cwV hg zw_425 zw_426 zw_427 zw_14 zw_428 zh_X2_leanTo ⟨(Nat.le_of_ble_eq_true rfl), (Nat.le_of_ble_eq_true rfl)⟩) (zPV hC hM ha0 (by decide) rfl) rfl rfl hl.1 rfl (lv_room (Nat.le_of_ble_eq_true rfl)) dX2_markFor_48 ⟨(Nat.le_of_ble_eq_true rfl), (Nat.le_of_ble_eq_true rfl)⟩) hS (fun H locs hM hX9 hS => ?_)
      refine lv_iadd hx hb dX2_markFor_51 ?_
      obtain ⟨r12, hr11, h⟩ := zlg h
      have hr11 := hr11.symm
      refine z_runi (va_runS (As := [.int (v1 + r8)]) (rest := []) ⟨hx, hb, hml, hown, hg⟩ (c_X2_held l D cy B hr11) (z_cwS hg zw_422 zw_423 zw_14 zw_424 zh_X2_held.2 ⟨(Nat.le_of_ble_eq_true rfl), (Nat.le_of_ble_eq_true rfl)⟩) (zPS hC hM) rfl rfl hl.1 rfl (lv_room (Nat.le_of_ble_eq_true rfl)) dX2_markFor_52 ⟨(Nat.le_of_ble_eq_true rfl), (Nat.le_of_ble_eq_true rfl)⟩) hS (fun H locs hM hX13 hS => ?_)
      exact z_iret hx hb hr hlk hM hX0 hS ⟨h, rfl⟩ dX2_markFor_55
    · have h := zf h hc6
      by_cases hc15 : (zi S0 a0 1) = (3 : Int32)
      · refine z_tin (off := 41) hx hb hc15 dX2_markFor_4 (by decide +kernel) (tgt := 45) (by decide) ?_
        have h := zt h hc15
        refine lv_iload_n hx hb dX2_markFor_45 rfl (lv_at hl 1 rfl) ?_
        refine lv_aload_n hx hb dX2_markFor_46 rfl (lv_at hl 0 rfl) ?_
        refine lv_iload_n hx hb dX2_markFor_47 rfl (lv_at hl 2 rfl) ?_
        obtain ⟨r17, hr16, h⟩ := zlg h
        have hr16 := hr16.symm
        refine z_runi (va_runV (As := [.int v2]) (rest := [.int v1]) ⟨hx, hb, hml, hown, hg⟩ (c_X2_leanTo l D cy B ha0 hr16) (z_cwV hg zw_425 zw_426 zw_427 zw_14 zw_428 zh_X2_leanTo ⟨(Nat.le_of_ble_eq_true rfl), (Nat.le_of_ble_eq_true rfl)⟩) (zPV hC hM ha0 (by decide) rfl) rfl rfl hl.1 rfl (lv_room (Nat.le_of_ble_eq_true rfl)) dX2_markFor_48 ⟨(Nat.le_of_ble_eq_true rfl), (Nat.le_of_ble_eq_true rfl)⟩) hS (fun H locs hM hX18 hS => ?_)
        refine lv_iadd hx hb dX2_markFor_51 ?_
        obtain ⟨r21, hr20, h⟩ := zlg h
        have hr20 := hr20.symm
        refine z_runi (va_runS (As := [.int (v1 + r17)]) (rest := []) ⟨hx, hb, hml, hown, hg⟩ (c_X2_held l D cy B hr20) (z_cwS hg zw_422 zw_423 zw_14 zw_424 zh_X2_held.2 ⟨(Nat.le_of_ble_eq_true rfl), (Nat.le_of_ble_eq_true rfl)⟩) (zPS hC hM) rfl rfl hl.1 rfl (lv_room (Nat.le_of_ble_eq_true rfl)) dX2_markFor_52 ⟨(Nat.le_of_ble_eq_true rfl), (Nat.le_of_ble_eq_true rfl)⟩) hS (fun H locs hM hX22 hS => ?_)
        exact z_iret hx hb hr hlk hM hX0 hS ⟨h, rfl⟩ dX2_markFor_55
      · have h := zf h hc15
        by_cases hc24 : (zi S0 a0 1) = (4 : Int32)
        · refine z_tin (off := 52) hx hb hc24 dX2_markFor_4 (by decide +kernel) (tgt := 56) (by decide) ?_
          have h := zt h hc24
          refine lv_iload_n hx hb dX2_markFor_56 rfl (lv_at hl 1 rfl) ?_
          refine lv_iload_n hx hb dX2_markFor_57 rfl (lv_at hl 3 rfl) ?_
          refine lv_iadd hx hb dX2_markFor_58 ?_
          obtain ⟨r26, hr25, h⟩ := zlg h
          have hr25 := hr25.symm
          refine z_runi (va_runS (As := [.int (v1 + v3)]) (rest := []) ⟨hx, hb, hml, hown, hg⟩ (c_X2_held l D cy B hr25) (z_cwS hg zw_422 zw_423 zw_14 zw_424 zh_X2_held.2 ⟨(Nat.le_of_ble_eq_true rfl), (Nat.le_of_ble_eq_true rfl)⟩) (zPS hC hM) rfl rfl hl.1 rfl (lv_room (Nat.le_of_ble_eq_true rfl)) dX2_markFor_59 ⟨(Nat.le_of_ble_eq_true rfl), (Nat.le_of_ble_eq_true rfl)⟩) hS (fun H locs hM hX27 hS => ?_)
          exact z_iret hx hb hr hlk hM hX0 hS ⟨h, rfl⟩ dX2_markFor_62
        · have h := zf h hc24
          refine lv_tableOut hx hb dX2_markFor_4 (by have := lv_neT hc1 (a := 1) (by decide +kernel); have := lv_neT hc6 (a := 2) (by decide +kernel); have := lv_neT hc15 (a := 3) (by decide +kernel); have := lv_neT hc24 (a := 4) (by decide +kernel); omega) (tgt := 63) (by decide) ?_
          refine lv_iload_n hx hb dX2_markFor_63 rfl (lv_at hl 1 rfl) ?_
          obtain ⟨r30, hr29, h⟩ := zlg h
          have hr29 := hr29.symm
          refine z_runi (va_runS (As := [.int v1]) (rest := []) ⟨hx, hb, hml, hown, hg⟩ (c_X2_held l D cy B hr29) (z_cwS hg zw_422 zw_423 zw_14 zw_424 zh_X2_held.2 ⟨(Nat.le_of_ble_eq_true rfl), (Nat.le_of_ble_eq_true rfl)⟩) (zPS hC hM) rfl rfl hl.1 rfl (lv_room (Nat.le_of_ble_eq_true rfl)) dX2_markFor_64 ⟨(Nat.le_of_ble_eq_true rfl), (Nat.le_of_ble_eq_true rfl)⟩) hS (fun H locs hM hX31 hS => ?_)
          exact z_iret hx hb hr hlk hM hX0 hS ⟨h, rfl⟩ dX2_markFor_67
