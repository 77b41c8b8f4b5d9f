def f_X9_addJudge (S0 : zM) (a0 : Nat) (v1 : Int32) (v2 : Int32) : Option (Int32 × zM) :=
  zLet (f_X11_within (zi S0 a0 6) (12 : Int32)) (fun r2 => if r2 = 0 then some (((-2 : Int32), S0)) else zChk (¬ (zr S0 a0 8) = 0) (zLet (znw S0 2 0) (fun S8 => zLet (f_X2_init S8 (zsz S0) (zi S8 a0 6) v1 v2) (fun S16 => zChk (¬ ((zi S0 a0 6) < 0 ∨ zln S16 (zr S0 a0 8) ≤ ((zi S0 a0 6)).toNatClampNeg)) (zLet (zpR S16 (zr S0 a0 8) (Int32.toNatClampNeg (zi S0 a0 6)) (zsz S0)) (fun S24 => zLet (zpI S24 a0 6 ((zi S24 a0 6) + (1 : Int32))) (fun S29 => some ((((zi S29 a0 6) - (1 : Int32)), S29)))))))))
set_option maxHeartbeats 4000000 in
set_option maxRecDepth 100000 in
theorem c_X9_addJudge (l : Launch) (D : va_G) (cy : Nat → ClassId) (B : Nat) {S0 : zM} {a0 : Nat} {v1 : Int32} {v2 : Int32} {r : Int32} {S' : zM} (ha0 : zA S0 a0 9) (h : f_X9_addJudge S0 a0 v1 v2 = some (r, S')) : Met l yX9_addJudge (zws yX9_addJudge cX9_addJudge 3 ((some .int))) { frames := 2, cells := 1, slots := 5, locals := 43 } (zPc D cy B S0 [.ref (B + a0), .int v1, .int v2]) (zQi D cy B S0 r S') 1 5 (fun q => B < q) := by
  refine Met.ofW (cc := cX9_addJudge) (maxL := 3) (ret := ((some .int))) (by decide) rfl ?_
  intro p e s m args below meth c s₁ Bd hml hv
  obtain ⟨rfl, hC, hM⟩ := hv
  obtain ⟨hx, hb, hr, hg, hown, hlk⟩ := z_open Bd
  have hK := hC.1
  have hS : va_S (fun q => B < q) s.heap s.heap [] := va_S.rf
  have hX0 : zX S0 S0 := zX.rf
  refine z_entry (vs := [.ref (B + a0), .int v1, .int v2]) (Nat.le_of_ble_eq_true rfl) (fun ls hl => ?_)
  have hl : lv_has ls 3 [(0, .ref (B + a0)), (1, .int v1), (2, .int v2)] := hl
  unfold f_X9_addJudge at h
  refine lv_aload_n hx hb dX9_addJudge_0 rfl (lv_at hl 0 rfl) ?_
  refine z_getI hx hb hg zin_9 hown hK hM ha0 6 rfl (by decide) (hg _ zw_135) (fun _ h9 => h9) dX9_addJudge_1 ?_
  refine lv_bipush (v := (12 : Int32)) hx hb dX9_addJudge_4 (by decide +kernel) ?_
  obtain ⟨r2, hr1, h⟩ := zlg h
  have hr1 := hr1.symm
  refine z_runi (va_runSN (As := [.int (zi S0 a0 6), .int (12 : Int32)]) (rest := []) ⟨hx, hb, hml, hown, hg⟩ (c_X11_within l D cy B hr1) ⟨z_cnB hg hC (List.mem_of_getElem? (i := 9) rfl) zw_2 zw_292 zh_X11_within.2 ⟨(Nat.le_of_ble_eq_true rfl), (Nat.le_of_ble_eq_true rfl)⟩, hg _ zw_291, trivial⟩ (zPS hC hM) rfl rfl hl.1 rfl (lv_room (Nat.le_of_ble_eq_true rfl)) dX9_addJudge_6 ⟨(Nat.le_of_ble_eq_true rfl), (Nat.le_of_ble_eq_true rfl)⟩) hS (fun H locs hM hX3 hS => ?_)
  refine lv_if_ne (tgt := 15) hx hb dX9_addJudge_9 (by decide) (fun hc5 => ?_) (fun hc5 => ?_)
  · have h := zf h hc5
    refine lv_aload_n hx hb dX9_addJudge_15 rfl (lv_at hl 0 rfl) ?_
    obtain ⟨hq7, h⟩ := zk h
    refine z_getN hx hb hg zin_9 hown hK hM ha0 8 rfl (by decide) (hg _ zw_141) (fun _ h9 => h9) hq7 dX9_addJudge_16 (fun h6 => ?_)
    refine lv_aload_n hx hb dX9_addJudge_19 rfl (lv_at hl 0 rfl) ?_
    refine z_getI hx hb hg zin_9 hown hK hM ha0 6 rfl (by decide) (hg _ zw_135) (fun _ h9 => h9) dX9_addJudge_20 ?_
    refine z_new hx hb hg zin_2 tyX2 tyX2_ok hown (hg _ zw_67) (hg _ zw_306) (hg _ zw_14) hK hM hS 2 rfl (by decide) zdf_2 (Nat.le_of_ble_eq_true rfl) (Nat.le_of_ble_eq_true rfl) dX9_addJudge_23 (fun H hM hA hX hS => ?_)
    obtain ⟨S8, e9, h⟩ := zlg h
    rw [← e9] at hM hA hX
    have hX10 := hX
    have h11 := hA
    have h12 := ha0.mo hX10
    have h13 := h6.mo hX10
    have hX14 := hX0.tr hX10
    refine W.widen (k := 1) (n := 5) (Nat.le_refl _) (Nat.le_refl _) ?_
    refine lv_dup hx hb dX9_addJudge_26 rfl ?_
    refine lv_aload_n hx hb dX9_addJudge_27 rfl (lv_at hl 0 rfl) ?_
    refine z_getI hx hb hg zin_9 hown hK hM h12 6 rfl (by decide) (hg _ zw_135) (fun _ h9 => h9) dX9_addJudge_28 ?_
    refine lv_iload_n hx hb dX9_addJudge_31 rfl (lv_at hl 1 rfl) ?_
    refine lv_iload_n hx hb dX9_addJudge_32 rfl (lv_at hl 2 rfl) ?_
    obtain ⟨S16, hr15, h⟩ := zlg h
    have hr15 := hr15.symm
    refine z_runv (va_runI (As := [.int (zi S8 a0 6), .int v1, .int v2]) (rest := [.ref (B + (zsz S0)), .int (zi S0 a0 6), .ref (B + (zr S0 a0 8))]) ⟨hx, hb, hml, hown, hg⟩ (c_X2_init l D cy B h11 hr15) (z_cwI hg zw_307 zw_308 zw_14 zw_309 rfl zh_X2_init.2 ⟨(Nat.le_of_ble_eq_true rfl), (Nat.le_of_ble_eq_true rfl)⟩) (zPS hC hM) rfl rfl hl.1 rfl (lv_room (Nat.le_of_ble_eq_true rfl)) dX9_addJudge_33 ⟨(Nat.le_of_ble_eq_true rfl), (Nat.le_of_ble_eq_true rfl)⟩) hS (fun H locs hM hX17 hS => ?_)
    have h19 := h12.mo hX17
    have h20 := h13.mo hX17
    have h21 := h11.mo hX17
    have hX22 := hX14.tr hX17
    obtain ⟨hq23, h⟩ := zk h
    refine z_aast (r := (zsz S0)) hx hb hK hM hS h20 (by decide) (q := (RX2, TX2, 5)) rfl (fun _ => rfl) (by decide) rfl (zv_ref h21.1).symm (h21.q) hq23 dX9_addJudge_36 (fun H locs hM hS => ?_)
    obtain ⟨S24, e25, h⟩ := zlg h
    rw [← e25] at hM
    have hX26 : zX S16 S24 := by rw [e25]; exact zX_pR
    have h27 := h19.mo hX26
    have hX28 := hX22.tr hX26
    refine lv_aload_n hx hb dX9_addJudge_37 rfl (lv_at hl 0 rfl) ?_
    refine lv_dup hx hb dX9_addJudge_38 rfl ?_
    refine z_getI hx hb hg zin_9 hown hK hM h27 6 rfl (by decide) (hg _ zw_135) (fun _ h9 => h9) dX9_addJudge_39 ?_
    refine lv_iconst (v := (1 : Int32)) hx hb dX9_addJudge_42 (by decide +kernel) ?_
    refine lv_iadd hx hb dX9_addJudge_43 ?_
    refine z_putI hx hb hg zin_9 tyX9 tyX9_ok nmX9 hown hK hM hS h27 6 rfl (by decide) (hg _ zw_135) (fun _ h9 => h9) (Or.inl rfl) (tyX9_ok 6 (by decide)) rfl rfl dX9_addJudge_44 (fun H locs hM hS => ?_)
    obtain ⟨S29, e30, h⟩ := zlg h
    rw [← e30] at hM
    have hX31 : zX S24 S29 := by rw [e30]; exact zX_pI
    have h32 := h27.mo hX31
    have hX33 := hX28.tr hX31
    refine lv_aload_n hx hb dX9_addJudge_47 rfl (lv_at hl 0 rfl) ?_
    refine z_getI hx hb hg zin_9 hown hK hM h32 6 rfl (by decide) (hg _ zw_135) (fun _ h9 => h9) dX9_addJudge_48 ?_
    refine lv_iconst (v := (1 : Int32)) hx hb dX9_addJudge_51 (by decide +kernel) ?_
    refine lv_isub hx hb dX9_addJudge_52 ?_
    refine W.widen (k := 1) (n := 5) (by omega) (by omega) ?_
    exact z_iret hx hb hr hlk hM hX33 hS (zsp h) dX9_addJudge_53
  · have h := zt h hc5
    refine lv_bipush (v := (-2 : Int32)) hx hb dX9_addJudge_12 (by decide +kernel) ?_
    refine W.widen (k := 1) (n := 5) (by omega) (by omega) ?_
    exact z_iret hx hb hr hlk hM hX0 hS (zsp h) dX9_addJudge_14
def f_X9_addDive (n : Nat) (S0 : zM) (a0 : Nat) (v1 : Int32) (v2 : Int32) (v3 : Int32) (v4 : Int32) : Option (Int32 × zM) :=
  zLet (f_X11_within (zi S0 a0 7) (40 : Int32)) (fun r2 => if r2 = 0 then some (((-2 : Int32), S0)) else zChk (¬ (zr S0 a0 9) = 0) (zChk (¬ ((zi S0 a0 7) < 0 ∨ zln S0 (zr S0 a0 9) ≤ ((zi S0 a0 7)).toNatClampNeg)) (zChk (¬ (zr S0 (zr S0 a0 9) (Int32.toNatClampNeg (zi S0 a0 7))) = 0) (zB1 (f_X1_begin n S0 (zr S0 (zr S0 a0 9) (Int32.toNatClampNeg (zi S0 a0 7))) v1 v2 v3 v4) (fun S13 => zLet (zpI S13 a0 7 ((zi S13 a0 7) + (1 : Int32))) (fun S18 => some ((((zi S18 a0 7) - (1 : Int32)), S18))))))))
set_option maxHeartbeats 4000000 in
set_option maxRecDepth 100000 in
theorem c_X9_addDive (l : Launch) (D : va_G) (cy : Nat → ClassId) (B : Nat) {n : Nat} {S0 : zM} {a0 : Nat} {v1 : Int32} {v2 : Int32} {v3 : Int32} {v4 : Int32} {r : Int32} {S' : zM} (ha0 : zA S0 a0 9) (h : f_X9_addDive n S0 a0 v1 v2 v3 v4 = some (r, S')) : Met l yX9_addDive (zws yX9_addDive cX9_addDive 5 ((some .int))) { frames := 3, cells := 0, slots := 0, locals := 69 } (zPc D cy B S0 [.ref (B + a0), .int v1, .int v2, .int v3, .int v4]) (zQi D cy B S0 r S') 0 0 (fun q => B < q) := by
  refine Met.ofW (cc := cX9_addDive) (maxL := 5) (ret := ((some .int))) (by decide) rfl ?_
  intro p e s m args below meth c s₁ Bd hml hv
  obtain ⟨rfl, hC, hM⟩ := hv
  obtain ⟨hx, hb, hr, hg, hown, hlk⟩ := z_open Bd
  have hK := hC.1
  have hS : va_S (fun q => B < q) s.heap s.heap [] := va_S.rf
  have hX0 : zX S0 S0 := zX.rf
  refine z_entry (vs := [.ref (B + a0), .int v1, .int v2, .int v3, .int v4]) (Nat.le_of_ble_eq_true rfl) (fun ls hl => ?_)
  have hl : lv_has ls 5 [(0, .ref (B + a0)), (1, .int v1), (2, .int v2), (3, .int v3), (4, .int v4)] := hl
  unfold f_X9_addDive at h
  refine lv_aload_n hx hb dX9_addDive_0 rfl (lv_at hl 0 rfl) ?_
  refine z_getI hx hb hg zin_9 hown hK hM ha0 7 rfl (by decide) (hg _ zw_139) (fun _ h9 => h9) dX9_addDive_1 ?_
  refine lv_bipush (v := (40 : Int32)) hx hb dX9_addDive_4 (by decide +kernel) ?_
  obtain ⟨r2, hr1, h⟩ := zlg h
  have hr1 := hr1.symm
  refine z_runi (va_runSN (As := [.int (zi S0 a0 7), .int (40 : Int32)]) (rest := []) ⟨hx, hb, hml, hown, hg⟩ (c_X11_within l D cy B hr1) ⟨z_cnB hg hC (List.mem_of_getElem? (i := 9) rfl) zw_2 zw_292 zh_X11_within.2 ⟨(Nat.le_of_ble_eq_true rfl), (Nat.le_of_ble_eq_true rfl)⟩, hg _ zw_291, trivial⟩ (zPS hC hM) rfl rfl hl.1 rfl (lv_room (Nat.le_of_ble_eq_true rfl)) dX9_addDive_6 ⟨(Nat.le_of_ble_eq_true rfl), (Nat.le_of_ble_eq_true rfl)⟩) hS (fun H locs hM hX3 hS => ?_)
  refine lv_if_ne (tgt := 15) hx hb dX9_addDive_9 (by decide) (fun hc5 => ?_) (fun hc5 => ?_)
  · have h := zf h hc5
    refine lv_aload_n hx hb dX9_addDive_15 rfl (lv_at hl 0 rfl) ?_
    obtain ⟨hq7, h⟩ := zk h
    refine z_getN hx hb hg zin_9 hown hK hM ha0 9 rfl (by decide) (hg _ zw_142) (fun _ h9 => h9) hq7 dX9_addDive_16 (fun h6 => ?_)
    refine lv_aload_n hx hb dX9_addDive_19 rfl (lv_at hl 0 rfl) ?_
    refine z_getI hx hb hg zin_9 hown hK hM ha0 7 rfl (by decide) (hg _ zw_139) (fun _ h9 => h9) dX9_addDive_20 ?_
    obtain ⟨hq8, h⟩ := zk h
    refine z_aald hx hb hK hM h6 (by decide) rfl hq8 dX9_addDive_23 (fun h9 => ?_)
    have h9 : zQ S0 (zr S0 (zr S0 a0 9) (Int32.toNatClampNeg (zi S0 a0 7))) 1 := h9
    obtain ⟨hq10, h⟩ := zk h
    have h11 := h9.nn hq10
    refine z_nn h11.1 ?_
    refine lv_iload_n hx hb dX9_addDive_24 rfl (lv_at hl 1 rfl) ?_
    refine lv_iload_n hx hb dX9_addDive_25 rfl (lv_at hl 2 rfl) ?_
    refine lv_iload_n hx hb dX9_addDive_26 rfl (lv_at hl 3 rfl) ?_
    refine lv_iload hx hb dX9_addDive_27 (lv_at hl 4 rfl) ?_
    obtain ⟨S13, hr12, h⟩ := zb1 h
    refine z_runv (va_runV (As := [.int v1, .int v2, .int v3, .int v4]) (rest := []) ⟨hx, hb, hml, hown, hg⟩ (c_X1_begin l D cy B h11 hr12) (z_cwV hg zw_349 zw_350 zw_351 zw_6 zw_352 zh_X1_begin ⟨(Nat.le_of_ble_eq_true rfl), (Nat.le_of_ble_eq_true rfl)⟩) (zPV hC hM h11 (by decide) rfl) rfl rfl hl.1 rfl (lv_room (Nat.le_of_ble_eq_true rfl)) dX9_addDive_29 ⟨(Nat.le_of_ble_eq_true rfl), (Nat.le_of_ble_eq_true rfl)⟩) hS (fun H locs hM hX14 hS => ?_)
    have h16 := ha0.mo hX14
    have hX17 := hX0.tr hX14
    refine lv_aload_n hx hb dX9_addDive_32 rfl (lv_at hl 0 rfl) ?_
    refine lv_dup hx hb dX9_addDive_33 rfl ?_
    refine z_getI hx hb hg zin_9 hown hK hM h16 7 rfl (by decide) (hg _ zw_139) (fun _ h9 => h9) dX9_addDive_34 ?_
    refine lv_iconst (v := (1 : Int32)) hx hb dX9_addDive_37 (by decide +kernel) ?_
    refine lv_iadd hx hb dX9_addDive_38 ?_
    refine z_putI hx hb hg zin_9 tyX9 tyX9_ok nmX9 hown hK hM hS h16 7 rfl (by decide) (hg _ zw_139) (fun _ h9 => h9) (Or.inl rfl) (tyX9_ok 7 (by decide)) rfl rfl dX9_addDive_39 (fun H locs hM hS => ?_)
    obtain ⟨S18, e19, h⟩ := zlg h
    rw [← e19] at hM
    have hX20 : zX S13 S18 := by rw [e19]; exact zX_pI
    have h21 := h16.mo hX20
    have hX22 := hX17.tr hX20
    refine lv_aload_n hx hb dX9_addDive_42 rfl (lv_at hl 0 rfl) ?_
    refine z_getI hx hb hg zin_9 hown hK hM h21 7 rfl (by decide) (hg _ zw_139) (fun _ h9 => h9) dX9_addDive_43 ?_
    refine lv_iconst (v := (1 : Int32)) hx hb dX9_addDive_46 (by decide +kernel) ?_
    refine lv_isub hx hb dX9_addDive_47 ?_
    exact z_iret hx hb hr hlk hM hX22 hS (zsp h) dX9_addDive_48
  · have h := zt h hc5
    refine lv_bipush (v := (-2 : Int32)) hx hb dX9_addDive_12 (by decide +kernel) ?_
    exact z_iret hx hb hr hlk hM hX0 hS (zsp h) dX9_addDive_14
def f_X9_seatOf (S0 : zM) (a0 : Nat) (v1 : Int32) (v2 : Int32) : Option (Int32) :=
  zLet (f_X11_within v1 (6 : Int32)) (fun r2 => if r2 = 0 then some (-1 : Int32) else zLet (f_X11_within v2 (7 : Int32)) (fun r7 => if r7 = 0 then some (-1 : Int32) else zChk (¬ (zr S0 a0 3) = 0) (zChk (¬ (((v1 * (7 : Int32)) + v2) < 0 ∨ zln S0 (zr S0 a0 3) ≤ (((v1 * (7 : Int32)) + v2)).toNatClampNeg)) (some (zi S0 (zr S0 a0 3) (Int32.toNatClampNeg ((v1 * (7 : Int32)) + v2)))))))
set_option maxHeartbeats 4000000 in
set_option maxRecDepth 100000 in
theorem c_X9_seatOf (l : Launch) (D : va_G) (cy : Nat → ClassId) (B : Nat) {S0 : zM} {a0 : Nat} {v1 : Int32} {v2 : Int32} {r : Int32} (ha0 : zA S0 a0 9) (h : f_X9_seatOf S0 a0 v1 v2 = some r) : Met l yX9_seatOf (zws yX9_seatOf cX9_seatOf 3 ((some .int))) { frames := 1, cells := 0, slots := 0, locals := 21 } (zPc D cy B S0 [.ref (B + a0), .int v1, .int v2]) (zQi D cy B S0 r S0) 0 0 (fun q => B < q) := by
  refine Met.ofW (cc := cX9_seatOf) (maxL := 3) (ret := ((some .int))) (by decide) rfl ?_
  intro p e s m args below meth c s₁ Bd hml hv
  obtain ⟨rfl, hC, hM⟩ := hv
  obtain ⟨hx, hb, hr, hg, hown, hlk⟩ := z_open Bd
  have hK := hC.1
  have hS : va_S (fun q => B < q) s.heap s.heap [] := va_S.rf
  have hX0 : zX S0 S0 := zX.rf
  refine z_entry (vs := [.ref (B + a0), .int v1, .int v2]) (Nat.le_of_ble_eq_true rfl) (fun ls hl => ?_)
  have hl : lv_has ls 3 [(0, .ref (B + a0)), (1, .int v1), (2, .int v2)] := hl
  unfold f_X9_seatOf at h
  refine lv_iload_n hx hb dX9_seatOf_0 rfl (lv_at hl 1 rfl) ?_
  refine lv_bipush (v := (6 : Int32)) hx hb dX9_seatOf_1 (by decide +kernel) ?_
  obtain ⟨r2, hr1, h⟩ := zlg h
  have hr1 := hr1.symm
  refine z_runi (va_runSN (As := [.int v1, .int (6 : Int32)]) (rest := []) ⟨hx, hb, hml, hown, hg⟩ (c_X11_within l D cy B hr1) ⟨z_cnB hg hC (List.mem_of_getElem? (i := 9) rfl) zw_2 zw_292 zh_X11_within.2 ⟨(Nat.le_of_ble_eq_true rfl), (Nat.le_of_ble_eq_true rfl)⟩, hg _ zw_291, trivial⟩ (zPS hC hM) rfl rfl hl.1 rfl (lv_room (Nat.le_of_ble_eq_true rfl)) dX9_seatOf_3 ⟨(Nat.le_of_ble_eq_true rfl), (Nat.le_of_ble_eq_true rfl)⟩) hS (fun H locs hM hX3 hS => ?_)
  refine lv_if_eq (tgt := 32) hx hb dX9_seatOf_6 (by decide) (fun hc5 => ?_) (fun hc5 => ?_)
  · have h := zt h hc5
    refine lv_iconst (v := (-1 : Int32)) hx hb dX9_seatOf_32 (by decide +kernel) ?_
    exact z_iret hx hb hr hlk hM hX0 hS ⟨zsm h, rfl⟩ dX9_seatOf_33
  · have h := zf h hc5
    refine lv_iload_n hx hb dX9_seatOf_9 rfl (lv_at hl 2 rfl) ?_
    refine lv_bipush (v := (7 : Int32)) hx hb dX9_seatOf_10 (by decide +kernel) ?_
    obtain ⟨r7, hr6, h⟩ := zlg h
    have hr6 := hr6.symm
    refine z_runi (va_runSN (As := [.int v2, .int (7 : Int32)]) (rest := []) ⟨hx, hb, hml, hown, hg⟩ (c_X11_within l D cy B hr6) ⟨z_cnB hg hC (List.mem_of_getElem? (i := 9) rfl) zw_2 zw_292 zh_X11_within.2 ⟨(Nat.le_of_ble_eq_true rfl), (Nat.le_of_ble_eq_true rfl)⟩, hg _ zw_291, trivial⟩ (zPS hC hM) rfl rfl hl.1 rfl (lv_room (Nat.le_of_ble_eq_true rfl)) dX9_seatOf_12 ⟨(Nat.le_of_ble_eq_true rfl), (Nat.le_of_ble_eq_true rfl)⟩) hS (fun H locs hM hX8 hS => ?_)
    refine lv_if_eq (tgt := 32) hx hb dX9_seatOf_15 (by decide) (fun hc10 => ?_) (fun hc10 => ?_)
    · have h := zt h hc10
      refine lv_iconst (v := (-1 : Int32)) hx hb dX9_seatOf_32 (by decide +kernel) ?_
      exact z_iret hx hb hr hlk hM hX0 hS ⟨zsm h, rfl⟩ dX9_seatOf_33
    · have h := zf h hc10
      refine lv_aload_n hx hb dX9_seatOf_18 rfl (lv_at hl 0 rfl) ?_
      obtain ⟨hq12, h⟩ := zk h
      refine z_getN hx hb hg zin_9 hown hK hM ha0 3 rfl (by decide) (hg _ zw_128) (fun _ h9 => h9) hq12 dX9_seatOf_19 (fun h11 => ?_)
      refine lv_iload_n hx hb dX9_seatOf_22 rfl (lv_at hl 1 rfl) ?_
      refine lv_bipush (v := (7 : Int32)) hx hb dX9_seatOf_23 (by decide +kernel) ?_
      refine lv_imul hx hb dX9_seatOf_25 ?_
      refine lv_iload_n hx hb dX9_seatOf_26 rfl (lv_at hl 2 rfl) ?_
      refine lv_iadd hx hb dX9_seatOf_27 ?_
      obtain ⟨hq13, h⟩ := zk h
      refine z_iald hx hb hK hM h11 hq13 dX9_seatOf_28 ?_
      refine lv_goto (tgt := 33) hx hb dX9_seatOf_29 (by decide) ?_
      exact z_iret hx hb hr hlk hM hX0 hS ⟨zsm h, rfl⟩ dX9_seatOf_33
def f_X9_isOnOtherChair_L3b (S0 : zM) (a0 : Nat) (v1 : Int32) (v2 : Int32) (v3 : Int32) (rec3 : Int32 → Option (Int32)) (x2 : Int32) : Option (Int32) :=
  if (7 : Int32) ≤ x2 then some (0 : Int32) else if v3 = (-1 : Int32) then rec3 (x2 + (1 : Int32)) else if x2 = v2 then rec3 (x2 + (1 : Int32)) else zB1 (f_X9_seatOf S0 a0 v1 x2) (fun r8 => if r8 = v3 then some (1 : Int32) else rec3 (x2 + (1 : Int32)))
def f_X9_isOnOtherChair_L3 (S0 : zM) (a0 : Nat) (v1 : Int32) (v2 : Int32) (v3 : Int32) : Nat → Int32 → Option (Int32)
  | 0 => fun _ => none
  | k + 1 => fun x2 => f_X9_isOnOtherChair_L3b S0 a0 v1 v2 v3 (f_X9_isOnOtherChair_L3 S0 a0 v1 v2 v3 k) x2
def f_X9_isOnOtherChair (n : Nat) (S0 : zM) (a0 : Nat) (v1 : Int32) (v2 : Int32) (v3 : Int32) : Option (Int32) :=
  f_X9_isOnOtherChair_L3 S0 a0 v1 v2 v3 n (0 : Int32)
set_option maxHeartbeats 4000000 in
set_option maxRecDepth 100000 in
theorem c_X9_isOnOtherChair (l : Launch) (D : va_G) (cy : Nat → ClassId) (B : Nat) {n : Nat} {S0 : zM} {a0 : Nat} {v1 : Int32} {v2 : Int32} {v3 : Int32} {r : Int32} (ha0 : zA S0 a0 9) (h : f_X9_isOnOtherChair n S0 a0 v1 v2 v3 = some r) : Met l yX9_isOnOtherChair (zws yX9_isOnOtherChair cX9_isOnOtherChair 5 ((some .boolean))) { frames := 2, cells := 0, slots := 0, locals := 43 } (zPc D cy B S0 [.ref (B + a0), .int v1, .int v2, .int v3]) (zQi D cy B S0 r S0) 0 0 (fun q => B < q) := by
  refine Met.ofW (cc := cX9_isOnOtherChair) (maxL := 5) (ret := ((some .boolean))) (by decide) rfl ?_
  intro p e s m args below meth c s₁ Bd hml hv
  obtain ⟨rfl, hC, hM⟩ := hv
  obtain ⟨hx, hb, hr, hg, hown, hlk⟩ := z_open Bd
  have hK := hC.1
  have hS : va_S (fun q => B < q) s.heap s.heap [] := va_S.rf
  have hX0 : zX S0 S0 := zX.rf
  refine z_entry (vs := [.ref (B + a0), .int v1, .int v2, .int v3]) (Nat.le_of_ble_eq_true rfl) (fun ls hl => ?_)
  have hl : lv_has ls 5 [(0, .ref (B + a0)), (1, .int v1), (2, .int v2), (3, .int v3)] := hl
  unfold f_X9_isOnOtherChair at h
  refine lv_iconst (v := (0 : Int32)) hx hb dX9_isOnOtherChair_0 (by decide +kernel) ?_
  refine lv_istore (i := 4) (lv' := [(4, .int (0 : Int32)), (0, .ref (B + a0)), (1, .int v1), (2, .int v2), (3, .int v3)]) hx hb dX9_isOnOtherChair_1 hl (by decide) rfl (fun ls hl => ?_)
  have hL3 : ∀ (k : Nat) (x2 : Int32) (H : Heap) (locs : List Loc), zMR D cy B S0 H → zX S0 S0 → va_S (fun q => B < q) s.heap H locs → zA S0 a0 9 → ∀ ls : Array Slot, lv_has ls 5 [(0, .ref (B + a0)), (1, .int v1), (2, .int v2), (3, .int v3), (4, .int x2)] → f_X9_isOnOtherChair_L3 S0 a0 v1 v2 v3 k x2 = some r → W p l e (headSpec (zws yX9_isOnOtherChair cX9_isOnOtherChair 5 ((some .boolean))) { frames := 2, cells := 0, slots := 0, locals := 43 }).room s m (([.ref (B + a0), .int v1, .int v2, .int v3] : List Value).toArray) below meth c H locs 0 0 (MQ below (zQi D cy B S0 r S0) (([.ref (B + a0), .int v1, .int v2, .int v3] : List Value).toArray) s 0 0 (fun q => B < q)) (F0 m 3 ls []) := by
    intro k
    induction k with
    | zero =>
      intro x2 H locs hM hX3 hS h1 ls hl h
      exact znone h
    | succ k ih3 =>
      intro x2 H locs hM hX3 hS h1 ls hl h
      replace h : f_X9_isOnOtherChair_L3b S0 a0 v1 v2 v3 (f_X9_isOnOtherChair_L3 S0 a0 v1 v2 v3 k) x2 = some r := h
      generalize f_X9_isOnOtherChair_L3 S0 a0 v1 v2 v3 k = rec3 at ih3 h
      unfold f_X9_isOnOtherChair_L3b at h
      refine lv_iload hx hb dX9_isOnOtherChair_3 (lv_at hl 4 rfl) ?_
      refine lv_bipush (v := (7 : Int32)) hx hb dX9_isOnOtherChair_5 (by decide +kernel) ?_
      refine lv_icmp_ge (tgt := 40) hx hb dX9_isOnOtherChair_7 (by decide) (fun hc4 => ?_) (fun hc4 => ?_)
      · have h := zt h hc4
        refine lv_iconst (v := (0 : Int32)) hx hb dX9_isOnOtherChair_40 (by decide +kernel) ?_
        exact z_zret (by decide +kernel) hx hb hr hlk hM hX3 hS ⟨zsm h, rfl⟩ dX9_isOnOtherChair_41
      · have h := zf h hc4
        refine lv_iload_n hx hb dX9_isOnOtherChair_10 rfl (lv_at hl 3 rfl) ?_
        refine lv_iconst (v := (-1 : Int32)) hx hb dX9_isOnOtherChair_11 (by decide +kernel) ?_
        refine lv_icmp_eq (tgt := 34) hx hb dX9_isOnOtherChair_12 (by decide) (fun hc5 => ?_) (fun hc5 => ?_)
        · have h := zt h hc5
          refine lv_iinc (v := (x2 + (1 : Int32))) (lv' := [(4, .int (x2 + (1 : Int32))), (0, .ref (B + a0)), (1, .int v1), (2, .int v2), (3, .int v3)]) hx hb dX9_isOnOtherChair_34 hl (k := 4) rfl rfl (by decide) rfl (fun ls hl => ?_)
          refine lv_goto (tgt := 3) hx hb dX9_isOnOtherChair_37 (by decide) ?_
          exact ih3 (x2 + (1 : Int32)) _ _ hM hX3 hS h1 _ (lv_sub hl [1, 2, 3, 4, 0] rfl) h
        · have h := zf h hc5
          refine lv_iload hx hb dX9_isOnOtherChair_15 (lv_at hl 4 rfl) ?_
          refine lv_iload_n hx hb dX9_isOnOtherChair_17 rfl (lv_at hl 2 rfl) ?_
          refine lv_icmp_eq (tgt := 34) hx hb dX9_isOnOtherChair_18 (by decide) (fun hc6 => ?_) (fun hc6 => ?_)
          · have h := zt h hc6
            refine lv_iinc (v := (x2 + (1 : Int32))) (lv' := [(4, .int (x2 + (1 : Int32))), (0, .ref (B + a0)), (1, .int v1), (2, .int v2), (3, .int v3)]) hx hb dX9_isOnOtherChair_34 hl (k := 4) rfl rfl (by decide) rfl (fun ls hl => ?_)
            refine lv_goto (tgt := 3) hx hb dX9_isOnOtherChair_37 (by decide) ?_
            exact ih3 (x2 + (1 : Int32)) _ _ hM hX3 hS h1 _ (lv_sub hl [1, 2, 3, 4, 0] rfl) h
          · have h := zf h hc6
            refine lv_aload_n hx hb dX9_isOnOtherChair_21 rfl (lv_at hl 0 rfl) ?_
            refine lv_iload_n hx hb dX9_isOnOtherChair_22 rfl (lv_at hl 1 rfl) ?_
            refine lv_iload hx hb dX9_isOnOtherChair_23 (lv_at hl 4 rfl) ?_
            obtain ⟨r8, hr7, h⟩ := zb1 h
            refine z_runi (va_runV (As := [.int v1, .int x2]) (rest := []) ⟨hx, hb, hml, hown, hg⟩ (c_X9_seatOf l D cy B h1 hr7) (z_cwV hg zw_336 zw_337 zw_338 zw_3 zw_339 zh_X9_seatOf ⟨(Nat.le_of_ble_eq_true rfl), (Nat.le_of_ble_eq_true rfl)⟩) (zPV hC hM h1 (by decide) rfl) rfl rfl hl.1 rfl (lv_room (Nat.le_of_ble_eq_true rfl)) dX9_isOnOtherChair_25 ⟨(Nat.le_of_ble_eq_true rfl), (Nat.le_of_ble_eq_true rfl)⟩) hS (fun H locs hM hX9 hS => ?_)
            refine lv_iload_n hx hb dX9_isOnOtherChair_28 rfl (lv_at hl 3 rfl) ?_
            refine lv_icmp_ne (tgt := 34) hx hb dX9_isOnOtherChair_29 (by decide) (fun hc11 => ?_) (fun hc11 => ?_)
            · have h := zf h hc11
              refine lv_iinc (v := (x2 + (1 : Int32))) (lv' := [(4, .int (x2 + (1 : Int32))), (0, .ref (B + a0)), (1, .int v1), (2, .int v2), (3, .int v3)]) hx hb dX9_isOnOtherChair_34 hl (k := 4) rfl rfl (by decide) rfl (fun ls hl => ?_)
              refine lv_goto (tgt := 3) hx hb dX9_isOnOtherChair_37 (by decide) ?_
              exact ih3 (x2 + (1 : Int32)) _ _ hM hX3 hS h1 _ (lv_sub hl [1, 2, 3, 4, 0] rfl) h
            · have h := zt h hc11
              refine lv_iconst (v := (1 : Int32)) hx hb dX9_isOnOtherChair_32 (by decide +kernel) ?_
              exact z_zret (by decide +kernel) hx hb hr hlk hM hX3 hS ⟨zsm h, rfl⟩ dX9_isOnOtherChair_33
  exact hL3 n (0 : Int32) _ _ hM hX0 hS ha0 _ (lv_sub hl [1, 2, 3, 4, 0] rfl) h
def f_X9_seatsTaken_L4b (S0 : zM) (a0 : Nat) (K3 : Int32 → Option (Int32)) (rec4 : Int32 → Int32 → Option (Int32)) (x5 : Int32) (x6 : Int32) : Option (Int32) :=
  if (42 : Int32) ≤ x6 then K3 x5 else zChk (¬ (zr S0 a0 3) = 0) (zChk (¬ (x6 < 0 ∨ zln S0 (zr S0 a0 3) ≤ (x6).toNatClampNeg)) (if (zi S0 (zr S0 a0 3) (Int32.toNatClampNeg x6)) = (-1 : Int32) then rec4 x5 (x6 + (1 : Int32)) else rec4 (x5 + (1 : Int32)) (x6 + (1 : Int32))))
def f_X9_seatsTaken_L4 (S0 : zM) (a0 : Nat) (K3 : Int32 → Option (Int32)) : Nat → Int32 → Int32 → Option (Int32)
  | 0 => fun _ _ => none
  | k + 1 => fun x5 x6 => f_X9_seatsTaken_L4b S0 a0 K3 (f_X9_seatsTaken_L4 S0 a0 K3 k) x5 x6
def f_X9_seatsTaken (n : Nat) (S0 : zM) (a0 : Nat) : Option (Int32) :=
  zLet (fun (x1 : Int32) => some x1) (fun K3 => f_X9_seatsTaken_L4 S0 a0 K3 n (0 : Int32) (0 : Int32))
set_option maxHeartbeats 4000000 in
set_option maxRecDepth 100000 in
theorem c_X9_seatsTaken (l : Launch) (D : va_G) (cy : Nat → ClassId) (B : Nat) {n : Nat} {S0 : zM} {a0 : Nat} {r : Int32} (ha0 : zA S0 a0 9) (h : f_X9_seatsTaken n S0 a0 = some r) : Met l yX9_seatsTaken (zws yX9_seatsTaken cX9_seatsTaken 3 ((some .int))) { frames := 0, cells := 0, slots := 0, locals := 0 } (zPc D cy B S0 [.ref (B + a0)]) (zQi D cy B S0 r S0) 0 0 (fun q => B < q) := by
  refine Met.ofW (cc := cX9_seatsTaken) (maxL := 3) (ret := ((some .int))) (by decide) rfl ?_
  intro p e s m args below meth c s₁ Bd hml hv
  obtain ⟨rfl, hC, hM⟩ := hv
  obtain ⟨hx, hb, hr, hg, hown, hlk⟩ := z_open Bd
  have hK := hC.1
  have hS : va_S (fun q => B < q) s.heap s.heap [] := va_S.rf
  have hX0 : zX S0 S0 := zX.rf
  refine z_entry (vs := [.ref (B + a0)]) (Nat.le_of_ble_eq_true rfl) (fun ls hl => ?_)
  have hl : lv_has ls 3 [(0, .ref (B + a0))] := hl
  unfold f_X9_seatsTaken at h
  refine lv_iconst (v := (0 : Int32)) hx hb dX9_seatsTaken_0 (by decide +kernel) ?_
  refine lv_istore_n (i := 1) (lv' := [(1, .int (0 : Int32)), (0, .ref (B + a0))]) hx hb dX9_seatsTaken_1 rfl hl (by decide) rfl (fun ls hl => ?_)
  refine lv_iconst (v := (0 : Int32)) hx hb dX9_seatsTaken_2 (by decide +kernel) ?_
  refine lv_istore_n (i := 2) (lv' := [(2, .int (0 : Int32)), (1, .int (0 : Int32)), (0, .ref (B + a0))]) hx hb dX9_seatsTaken_3 rfl hl (by decide) rfl (fun ls hl => ?_)
  obtain ⟨K3, eK3, h⟩ := zlg h
  have hK3 : ∀ (x1 : Int32) (H : Heap) (locs : List Loc), zMR D cy B S0 H → zX S0 S0 → va_S (fun q => B < q) s.heap H locs → ∀ ls : Array Slot, lv_has ls 3 [(1, .int x1)] → K3 x1 = some r → W p l e (headSpec (zws yX9_seatsTaken cX9_seatsTaken 3 ((some .int))) { frames := 0, cells := 0, slots := 0, locals := 0 }).room s m (([.ref (B + a0)] : List Value).toArray) below meth c H locs 0 0 (MQ below (zQi D cy B S0 r S0) (([.ref (B + a0)] : List Value).toArray) s 0 0 (fun q => B < q)) (F0 m 29 ls []) := by
    intro x1 H locs hM hX2 hS ls hl h
    rw [eK3] at h
    refine lv_iload_n hx hb dX9_seatsTaken_29 rfl (lv_at hl 0 rfl) ?_
    exact z_iret hx hb hr hlk hM hX2 hS ⟨zsm h, rfl⟩ dX9_seatsTaken_30
  have hL4 : ∀ (k : Nat) (x5 : Int32) (x6 : Int32) (H : Heap) (locs : List Loc), zMR D cy B S0 H → zX S0 S0 → va_S (fun q => B < q) s.heap H locs → zA S0 a0 9 → ∀ ls : Array Slot, lv_has ls 3 [(0, .ref (B + a0)), (1, .int x5), (2, .int x6)] → f_X9_seatsTaken_L4 S0 a0 K3 k x5 x6 = some r → W p l e (headSpec (zws yX9_seatsTaken cX9_seatsTaken 3 ((some .int))) { frames := 0, cells := 0, slots := 0, locals := 0 }).room s m (([.ref (B + a0)] : List Value).toArray) below meth c H locs 0 0 (MQ below (zQi D cy B S0 r S0) (([.ref (B + a0)] : List Value).toArray) s 0 0 (fun q => B < q)) (F0 m 4 ls []) := by
    intro k
    induction k with
    | zero =>
      intro x5 x6 H locs hM hX7 hS h4 ls hl h
      exact znone h
    | succ k ih4 =>
      intro x5 x6 H locs hM hX7 hS h4 ls hl h
      replace h : f_X9_seatsTaken_L4b S0 a0 K3 (f_X9_seatsTaken_L4 S0 a0 K3 k) x5 x6 = some r := h
      generalize f_X9_seatsTaken_L4 S0 a0 K3 k = rec4 at ih4 h
      unfold f_X9_seatsTaken_L4b at h
      refine lv_iload_n hx hb dX9_seatsTaken_4 rfl (lv_at hl 2 rfl) ?_
      refine lv_bipush (v := (42 : Int32)) hx hb dX9_seatsTaken_5 (by decide +kernel) ?_
      refine lv_icmp_ge (tgt := 29) hx hb dX9_seatsTaken_7 (by decide) (fun hc8 => ?_) (fun hc8 => ?_)
      · have h := zt h hc8
        exact hK3 x5 _ _ hM hX7 hS _ (lv_sub hl [1] rfl) h
      · have h := zf h hc8
        refine lv_aload_n hx hb dX9_seatsTaken_10 rfl (lv_at hl 0 rfl) ?_
        obtain ⟨hq10, h⟩ := zk h
        refine z_getN hx hb hg zin_9 hown hK hM h4 3 rfl (by decide) (hg _ zw_128) (fun _ h9 => h9) hq10 dX9_seatsTaken_11 (fun h9 => ?_)
        refine lv_iload_n hx hb dX9_seatsTaken_14 rfl (lv_at hl 2 rfl) ?_
        obtain ⟨hq11, h⟩ := zk h
        refine z_iald hx hb hK hM h9 hq11 dX9_seatsTaken_15 ?_
        refine lv_iconst (v := (-1 : Int32)) hx hb dX9_seatsTaken_16 (by decide +kernel) ?_
        refine lv_icmp_eq (tgt := 23) hx hb dX9_seatsTaken_17 (by decide) (fun hc12 => ?_) (fun hc12 => ?_)
        · have h := zt h hc12
          refine lv_iinc (v := (x6 + (1 : Int32))) (lv' := [(2, .int (x6 + (1 : Int32))), (0, .ref (B + a0)), (1, .int x5)]) hx hb dX9_seatsTaken_23 hl (k := 2) rfl rfl (by decide) rfl (fun ls hl => ?_)
          refine lv_goto (tgt := 4) hx hb dX9_seatsTaken_26 (by decide) ?_
          exact ih4 x5 (x6 + (1 : Int32)) _ _ hM hX7 hS h4 _ (lv_sub hl [1, 2, 0] rfl) h
        · have h := zf h hc12
          refine lv_iinc (v := (x5 + (1 : Int32))) (lv' := [(1, .int (x5 + (1 : Int32))), (0, .ref (B + a0)), (2, .int x6)]) hx hb dX9_seatsTaken_20 hl (k := 1) rfl rfl (by decide) rfl (fun ls hl => ?_)
          refine lv_iinc (v := (x6 + (1 : Int32))) (lv' := [(2, .int (x6 + (1 : Int32))), (1, .int (x5 + (1 : Int32))), (0, .ref (B + a0))]) hx hb dX9_seatsTaken_23 hl (k := 2) rfl rfl (by decide) rfl (fun ls hl => ?_)
          refine lv_goto (tgt := 4) hx hb dX9_seatsTaken_26 (by decide) ?_
          exact ih4 (x5 + (1 : Int32)) (x6 + (1 : Int32)) _ _ hM hX7 hS h4 _ (lv_sub hl [2, 1, 0] rfl) h
  exact hL4 n (0 : Int32) (0 : Int32) _ _ hM hX0 hS ha0 _ (lv_sub hl [2, 1, 0] rfl) h
def f_X9_marksThere_L4b (n : Nat) (S0 : zM) (a0 : Nat) (K3 : Int32 → Option (Int32)) (rec4 : Int32 → Int32 → Option (Int32)) (x5 : Int32) (x6 : Int32) : Option (Int32) :=
  if (zi S0 a0 7) ≤ x6 then K3 x5 else zChk (¬ (zr S0 a0 9) = 0) (zChk (¬ (x6 < 0 ∨ zln S0 (zr S0 a0 9) ≤ (x6).toNatClampNeg)) (zChk (¬ (zr S0 (zr S0 a0 9) (Int32.toNatClampNeg x6)) = 0) (zB1 (f_X1_marksThere n S0 (zr S0 (zr S0 a0 9) (Int32.toNatClampNeg x6))) (fun r16 => rec4 (x5 + r16) (x6 + (1 : Int32))))))
def f_X9_marksThere_L4 (n : Nat) (S0 : zM) (a0 : Nat) (K3 : Int32 → Option (Int32)) : Nat → Int32 → Int32 → Option (Int32)
  | 0 => fun _ _ => none
  | k + 1 => fun x5 x6 => f_X9_marksThere_L4b n S0 a0 K3 (f_X9_marksThere_L4 n S0 a0 K3 k) x5 x6
def f_X9_marksThere (n : Nat) (S0 : zM) (a0 : Nat) : Option (Int32) :=
  zLet (fun (x1 : Int32) => some x1) (fun K3 => f_X9_marksThere_L4 n S0 a0 K3 n (0 : Int32) (0 : Int32))
set_option maxHeartbeats 4000000 in
set_option maxRecDepth 100000 in
theorem c_X9_marksThere (l : Launch) (D : va_G) (cy : Nat → ClassId) (B : Nat) {n : Nat} {S0 : zM} {a0 : Nat} {r : Int32} (ha0 : zA S0 a0 9) (h : f_X9_marksThere n S0 a0 = some r) : Met l yX9_marksThere (zws yX9_marksThere cX9_marksThere 3 ((some .int))) { frames := 1, cells := 0, slots := 0, locals := 22 } (zPc D cy B S0 [.ref (B + a0)]) (zQi D cy B S0 r S0) 0 0 (fun q => B < q) := by
  refine Met.ofW (cc := cX9_marksThere) (maxL := 3) (ret := ((some .int))) (by decide) rfl ?_
  intro p e s m args below meth c s₁ Bd hml hv
  obtain ⟨rfl, hC, hM⟩ := hv
  obtain ⟨hx, hb, hr, hg, hown, hlk⟩ := z_open Bd
  have hK := hC.1
  have hS : va_S (fun q => B < q) s.heap s.heap [] := va_S.rf
  have hX0 : zX S0 S0 := zX.rf
  refine z_entry (vs := [.ref (B + a0)]) (Nat.le_of_ble_eq_true rfl) (fun ls hl => ?_)
  have hl : lv_has ls 3 [(0, .ref (B + a0))] := hl
  unfold f_X9_marksThere at h
  refine lv_iconst (v := (0 : Int32)) hx hb dX9_marksThere_0 (by decide +kernel) ?_
  refine lv_istore_n (i := 1) (lv' := [(1, .int (0 : Int32)), (0, .ref (B + a0))]) hx hb dX9_marksThere_1 rfl hl (by decide) rfl (fun ls hl => ?_)
  refine lv_iconst (v := (0 : Int32)) hx hb dX9_marksThere_2 (by decide +kernel) ?_
  refine lv_istore_n (i := 2) (lv' := [(2, .int (0 : Int32)), (1, .int (0 : Int32)), (0, .ref (B + a0))]) hx hb dX9_marksThere_3 rfl hl (by decide) rfl (fun ls hl => ?_)
  obtain ⟨K3, eK3, h⟩ := zlg h
  have hK3 : ∀ (x1 : Int32) (H : Heap) (locs : List Loc), zMR D cy B S0 H → zX S0 S0 → va_S (fun q => B < q) s.heap H locs → ∀ ls : Array Slot, lv_has ls 3 [(1, .int x1)] → K3 x1 = some r → W p l e (headSpec (zws yX9_marksThere cX9_marksThere 3 ((some .int))) { frames := 1, cells := 0, slots := 0, locals := 22 }).room s m (([.ref (B + a0)] : List Value).toArray) below meth c H locs 0 0 (MQ below (zQi D cy B S0 r S0) (([.ref (B + a0)] : List Value).toArray) s 0 0 (fun q => B < q)) (F0 m 30 ls []) := by
    intro x1 H locs hM hX2 hS ls hl h
    rw [eK3] at h
    refine lv_iload_n hx hb dX9_marksThere_30 rfl (lv_at hl 0 rfl) ?_
    exact z_iret hx hb hr hlk hM hX2 hS ⟨zsm h, rfl⟩ dX9_marksThere_31
  have hL4 : ∀ (k : Nat) (x5 : Int32) (x6 : Int32) (H : Heap) (locs : List Loc), zMR D cy B S0 H → zX S0 S0 → va_S (fun q => B < q) s.heap H locs → zA S0 a0 9 → ∀ ls : Array Slot, lv_has ls 3 [(0, .ref (B + a0)), (1, .int x5), (2, .int x6)] → f_X9_marksThere_L4 n S0 a0 K3 k x5 x6 = some r → W p l e (headSpec (zws yX9_marksThere cX9_marksThere 3 ((some .int))) { frames := 1, cells := 0, slots := 0, locals := 22 }).room s m (([.ref (B + a0)] : List Value).toArray) below meth c H locs 0 0 (MQ below (zQi D cy B S0 r S0) (([.ref (B + a0)] : List Value).toArray) s 0 0 (fun q => B < q)) (F0 m 4 ls []) := by
    intro k
    induction k with
    | zero =>
      intro x5 x6 H locs hM hX7 hS h4 ls hl h
      exact znone h
    | succ k ih4 =>
      intro x5 x6 H locs hM hX7 hS h4 ls hl h
      replace h : f_X9_marksThere_L4b n S0 a0 K3 (f_X9_marksThere_L4 n S0 a0 K3 k) x5 x6 = some r := h
      generalize f_X9_marksThere_L4 n S0 a0 K3 k = rec4 at ih4 h
      unfold f_X9_marksThere_L4b at h
      refine lv_iload_n hx hb dX9_marksThere_4 rfl (lv_at hl 2 rfl) ?_
      refine lv_aload_n hx hb dX9_marksThere_5 rfl (lv_at hl 0 rfl) ?_
      refine z_getI hx hb hg zin_9 hown hK hM h4 7 rfl (by decide) (hg _ zw_139) (fun _ h9 => h9) dX9_marksThere_6 ?_
      refine lv_icmp_ge (tgt := 30) hx hb dX9_marksThere_9 (by decide) (fun hc8 => ?_) (fun hc8 => ?_)
      · have h := zt h hc8
        exact hK3 x5 _ _ hM hX7 hS _ (lv_sub hl [1] rfl) h
      · have h := zf h hc8
        refine lv_iload_n hx hb dX9_marksThere_12 rfl (lv_at hl 1 rfl) ?_
        refine lv_aload_n hx hb dX9_marksThere_13 rfl (lv_at hl 0 rfl) ?_
        obtain ⟨hq10, h⟩ := zk h
        refine z_getN hx hb hg zin_9 hown hK hM h4 9 rfl (by decide) (hg _ zw_142) (fun _ h9 => h9) hq10 dX9_marksThere_14 (fun h9 => ?_)
        refine lv_iload_n hx hb dX9_marksThere_17 rfl (lv_at hl 2 rfl) ?_
        obtain ⟨hq11, h⟩ := zk h
        refine z_aald hx hb hK hM h9 (by decide) rfl hq11 dX9_marksThere_18 (fun h12 => ?_)
        have h12 : zQ S0 (zr S0 (zr S0 a0 9) (Int32.toNatClampNeg x6)) 1 := h12
        obtain ⟨hq13, h⟩ := zk h
        have h14 := h12.nn hq13
        refine z_nn h14.1 ?_
        obtain ⟨r16, hr15, h⟩ := zb1 h
        refine z_runi (va_runV (As := []) (rest := [.int x5]) ⟨hx, hb, hml, hown, hg⟩ (c_X1_marksThere l D cy B h14 hr15) (z_cwV hg zw_447 zw_378 zw_379 zw_6 zw_380 zh_X1_marksThere ⟨(Nat.le_of_ble_eq_true rfl), (Nat.le_of_ble_eq_true rfl)⟩) (zPV hC hM h14 (by decide) rfl) rfl rfl hl.1 rfl (lv_room (Nat.le_of_ble_eq_true rfl)) dX9_marksThere_19 ⟨(Nat.le_of_ble_eq_true rfl), (Nat.le_of_ble_eq_true rfl)⟩) hS (fun H locs hM hX17 hS => ?_)
        refine lv_iadd hx hb dX9_marksThere_22 ?_
        refine lv_istore_n (i := 1) (lv' := [(1, .int (x5 + r16)), (0, .ref (B + a0)), (2, .int x6)]) hx hb dX9_marksThere_23 rfl hl (by decide) rfl (fun ls hl => ?_)
        refine lv_iinc (v := (x6 + (1 : Int32))) (lv' := [(2, .int (x6 + (1 : Int32))), (1, .int (x5 + r16)), (0, .ref (B + a0))]) hx hb dX9_marksThere_24 hl (k := 2) rfl rfl (by decide) rfl (fun ls hl => ?_)
        refine lv_goto (tgt := 4) hx hb dX9_marksThere_27 (by decide) ?_
        exact ih4 (x5 + r16) (x6 + (1 : Int32)) _ _ hM hX7 hS h4 _ (lv_sub hl [2, 1, 0] rfl) h
  exact hL4 n (0 : Int32) (0 : Int32) _ _ hM hX0 hS ha0 _ (lv_sub hl [2, 1, 0] rfl) h
def f_X9_sumOfMarks_L4b (n : Nat) (a0 : Nat) (K4 : Int32 → zM → Option (Int32 × zM)) (rec4 : Int32 → Int32 → zM → Option (Int32 × zM)) (x6 : Int32) (x7 : Int32) (S8 : zM) : Option (Int32 × zM) :=
  if (zi S8 a0 7) ≤ x7 then K4 x6 S8 else zChk (¬ (zr S8 a0 11) = 0) (zChk (¬ (zr S8 a0 9) = 0) (zChk (¬ (x7 < 0 ∨ zln S8 (zr S8 a0 9) ≤ (x7).toNatClampNeg)) (zChk (¬ (zr S8 (zr S8 a0 9) (Int32.toNatClampNeg x7)) = 0) (zB1 (f_X5_gather n S8 (zr S8 a0 11) (zr S8 (zr S8 a0 9) (Int32.toNatClampNeg x7))) (fun S20 => zChk (¬ (zr S20 a0 11) = 0) (zB1 (f_X5_sumBetween n S20 (zr S20 a0 11) (0 : Int32) (0 : Int32)) (fun r28 => rec4 (x6 + r28) (x7 + (1 : Int32)) S20)))))))
def f_X9_sumOfMarks_L4 (n : Nat) (a0 : Nat) (K4 : Int32 → zM → Option (Int32 × zM)) : Nat → Int32 → Int32 → zM → Option (Int32 × zM)
  | 0 => fun _ _ _ => none
  | k + 1 => fun x6 x7 S8 => f_X9_sumOfMarks_L4b n a0 K4 (f_X9_sumOfMarks_L4 n a0 K4 k) x6 x7 S8
def f_X9_sumOfMarks (n : Nat) (S0 : zM) (a0 : Nat) : Option (Int32 × zM) :=
  zLet (fun (x1 : Int32) (S2 : zM) => some ((x1, S2))) (fun K4 => f_X9_sumOfMarks_L4 n a0 K4 n (0 : Int32) (0 : Int32) S0)
set_option maxHeartbeats 4000000 in
set_option maxRecDepth 100000 in
theorem c_X9_sumOfMarks (l : Launch) (D : va_G) (cy : Nat → ClassId) (B : Nat) {n : Nat} {S0 : zM} {a0 : Nat} {r : Int32} {S' : zM} (ha0 : zA S0 a0 9) (h : f_X9_sumOfMarks n S0 a0 = some (r, S')) : Met l yX9_sumOfMarks (zws yX9_sumOfMarks cX9_sumOfMarks 3 ((some .int))) { frames := 3, cells := 0, slots := 0, locals := 64 } (zPc D cy B S0 [.ref (B + a0)]) (zQi D cy B S0 r S') 0 0 (fun q => B < q) := by
  refine Met.ofW (cc := cX9_sumOfMarks) (maxL := 3) (ret := ((some .int))) (by decide) rfl ?_
  intro p e s m args below meth c s₁ Bd hml hv
  obtain ⟨rfl, hC, hM⟩ := hv
  obtain ⟨hx, hb, hr, hg, hown, hlk⟩ := z_open Bd
  have hK := hC.1
  have hS : va_S (fun q => B < q) s.heap s.heap [] := va_S.rf
  have hX0 : zX S0 S0 := zX.rf
  refine z_entry (vs := [.ref (B + a0)]) (Nat.le_of_ble_eq_true rfl) (fun ls hl => ?_)
  have hl : lv_has ls 3 [(0, .ref (B + a0))] := hl
  unfold f_X9_sumOfMarks at h
  refine lv_iconst (v := (0 : Int32)) hx hb dX9_sumOfMarks_0 (by decide +kernel) ?_
  refine lv_istore_n (i := 1) (lv' := [(1, .int (0 : Int32)), (0, .ref (B + a0))]) hx hb dX9_sumOfMarks_1 rfl hl (by decide) rfl (fun ls hl => ?_)
  refine lv_iconst (v := (0 : Int32)) hx hb dX9_sumOfMarks_2 (by decide +kernel) ?_
  refine lv_istore_n (i := 2) (lv' := [(2, .int (0 : Int32)), (1, .int (0 : Int32)), (0, .ref (B + a0))]) hx hb dX9_sumOfMarks_3 rfl hl (by decide) rfl (fun ls hl => ?_)
  obtain ⟨K4, eK4, h⟩ := zlg h
  have hK4 : ∀ (x1 : Int32) (S2 : zM) (H : Heap) (locs : List Loc), zMR D cy B S2 H → zX S0 S2 → va_S (fun q => B < q) s.heap H locs → ∀ ls : Array Slot, lv_has ls 3 [(1, .int x1)] → K4 x1 S2 = some (r, S') → W p l e (headSpec (zws yX9_sumOfMarks cX9_sumOfMarks 3 ((some .int))) { frames := 3, cells := 0, slots := 0, locals := 64 }).room s m (([.ref (B + a0)] : List Value).toArray) below meth c H locs 0 0 (MQ below (zQi D cy B S0 r S') (([.ref (B + a0)] : List Value).toArray) s 0 0 (fun q => B < q)) (F0 m 43 ls []) := by
    intro x1 S2 H locs hM hX3 hS ls hl h
    rw [eK4] at h
    refine lv_iload_n hx hb dX9_sumOfMarks_43 rfl (lv_at hl 0 rfl) ?_
    exact z_iret hx hb hr hlk hM hX3 hS (zsp h) dX9_sumOfMarks_44
  have hL4 : ∀ (k : Nat) (x6 : Int32) (x7 : Int32) (S8 : zM) (H : Heap) (locs : List Loc), zMR D cy B S8 H → zX S0 S8 → va_S (fun q => B < q) s.heap H locs → zA S8 a0 9 → ∀ ls : Array Slot, lv_has ls 3 [(0, .ref (B + a0)), (1, .int x6), (2, .int x7)] → f_X9_sumOfMarks_L4 n a0 K4 k x6 x7 S8 = some (r, S') → W p l e (headSpec (zws yX9_sumOfMarks cX9_sumOfMarks 3 ((some .int))) { frames := 3, cells := 0, slots := 0, locals := 64 }).room s m (([.ref (B + a0)] : List Value).toArray) below meth c H locs 0 0 (MQ below (zQi D cy B S0 r S') (([.ref (B + a0)] : List Value).toArray) s 0 0 (fun q => B < q)) (F0 m 4 ls []) := by
    intro k
    induction k with
    | zero =>
      intro x6 x7 S8 H locs hM hX9 hS h5 ls hl h
      exact znone h
    | succ k ih4 =>
      intro x6 x7 S8 H locs hM hX9 hS h5 ls hl h
      replace h : f_X9_sumOfMarks_L4b n a0 K4 (f_X9_sumOfMarks_L4 n a0 K4 k) x6 x7 S8 = some (r, S') := h
      generalize f_X9_sumOfMarks_L4 n a0 K4 k = rec4 at ih4 h
      unfold f_X9_sumOfMarks_L4b at h
      refine lv_iload_n hx hb dX9_sumOfMarks_4 rfl (lv_at hl 2 rfl) ?_
      refine lv_aload_n hx hb dX9_sumOfMarks_5 rfl (lv_at hl 0 rfl) ?_
      refine z_getI hx hb hg zin_9 hown hK hM h5 7 rfl (by decide) (hg _ zw_139) (fun _ h9 => h9) dX9_sumOfMarks_6 ?_
      refine lv_icmp_ge (tgt := 43) hx hb dX9_sumOfMarks_9 (by decide) (fun hc10 => ?_) (fun hc10 => ?_)
      · have h := zt h hc10
        exact hK4 x6 S8 _ _ hM hX9 hS _ (lv_sub hl [1] rfl) h
      · have h := zf h hc10
        refine lv_aload_n hx hb dX9_sumOfMarks_12 rfl (lv_at hl 0 rfl) ?_
        obtain ⟨hq12, h⟩ := zk h
        refine z_getN hx hb hg zin_9 hown hK hM h5 11 rfl (by decide) (hg _ zw_145) (fun _ h9 => h9) hq12 dX9_sumOfMarks_13 (fun h11 => ?_)
        refine lv_aload_n hx hb dX9_sumOfMarks_16 rfl (lv_at hl 0 rfl) ?_
        obtain ⟨hq14, h⟩ := zk h
        refine z_getN hx hb hg zin_9 hown hK hM h5 9 rfl (by decide) (hg _ zw_142) (fun _ h9 => h9) hq14 dX9_sumOfMarks_17 (fun h13 => ?_)
        refine lv_iload_n hx hb dX9_sumOfMarks_20 rfl (lv_at hl 2 rfl) ?_
        obtain ⟨hq15, h⟩ := zk h
        refine z_aald hx hb hK hM h13 (by decide) rfl hq15 dX9_sumOfMarks_21 (fun h16 => ?_)
        have h16 : zQ S8 (zr S8 (zr S8 a0 9) (Int32.toNatClampNeg x7)) 1 := h16
        obtain ⟨hq17, h⟩ := zk h
        have h18 := h16.nn hq17
        refine z_nn h18.1 ?_
        obtain ⟨S20, hr19, h⟩ := zb1 h
        refine z_runv (va_runV (As := [.ref (B + (zr S8 (zr S8 a0 9) (Int32.toNatClampNeg x7)))]) (rest := []) ⟨hx, hb, hml, hown, hg⟩ (c_X5_gather l D cy B h11 h18 hr19) (z_cwV hg zw_545 zw_546 zw_547 zw_5 zw_548 zh_X5_gather ⟨(Nat.le_of_ble_eq_true rfl), (Nat.le_of_ble_eq_true rfl)⟩) (zPV hC hM h11 (by decide) rfl) rfl rfl hl.1 rfl (lv_room (Nat.le_of_ble_eq_true rfl)) dX9_sumOfMarks_22 ⟨(Nat.le_of_ble_eq_true rfl), (Nat.le_of_ble_eq_true rfl)⟩) hS (fun H locs hM hX21 hS => ?_)
        have h23 := h5.mo hX21
        have hX24 := hX9.tr hX21
        refine lv_iload_n hx hb dX9_sumOfMarks_25 rfl (lv_at hl 1 rfl) ?_
        refine lv_aload_n hx hb dX9_sumOfMarks_26 rfl (lv_at hl 0 rfl) ?_
        obtain ⟨hq26, h⟩ := zk h
        refine z_getN hx hb hg zin_9 hown hK hM h23 11 rfl (by decide) (hg _ zw_145) (fun _ h9 => h9) hq26 dX9_sumOfMarks_27 (fun h25 => ?_)
        refine lv_iconst (v := (0 : Int32)) hx hb dX9_sumOfMarks_30 (by decide +kernel) ?_
        refine lv_iconst (v := (0 : Int32)) hx hb dX9_sumOfMarks_31 (by decide +kernel) ?_
        obtain ⟨r28, hr27, h⟩ := zb1 h
        refine z_runi (va_runV (As := [.int (0 : Int32), .int (0 : Int32)]) (rest := [.int x6]) ⟨hx, hb, hml, hown, hg⟩ (c_X5_sumBetween l D cy B h25 hr27) (z_cwV hg zw_831 zw_562 zw_563 zw_5 zw_564 zh_X5_sumBetween ⟨(Nat.le_of_ble_eq_true rfl), (Nat.le_of_ble_eq_true rfl)⟩) (zPV hC hM h25 (by decide) rfl) rfl rfl hl.1 rfl (lv_room (Nat.le_of_ble_eq_true rfl)) dX9_sumOfMarks_32 ⟨(Nat.le_of_ble_eq_true rfl), (Nat.le_of_ble_eq_true rfl)⟩) hS (fun H locs hM hX29 hS => ?_)
        refine lv_iadd hx hb dX9_sumOfMarks_35 ?_
        refine lv_istore_n (i := 1) (lv' := [(1, .int (x6 + r28)), (0, .ref (B + a0)), (2, .int x7)]) hx hb dX9_sumOfMarks_36 rfl hl (by decide) rfl (fun ls hl => ?_)
        refine lv_iinc (v := (x7 + (1 : Int32))) (lv' := [(2, .int (x7 + (1 : Int32))), (1, .int (x6 + r28)), (0, .ref (B + a0))]) hx hb dX9_sumOfMarks_37 hl (k := 2) rfl rfl (by decide) rfl (fun ls hl => ?_)
        refine lv_goto (tgt := 4) hx hb dX9_sumOfMarks_40 (by decide) ?_
        exact ih4 (x6 + r28) (x7 + (1 : Int32)) S20 _ _ hM hX24 hS h23 _ (lv_sub hl [2, 1, 0] rfl) h
  exact hL4 n (0 : Int32) (0 : Int32) S0 _ _ hM hX0 hS ha0 _ (lv_sub hl [2, 1, 0] rfl) h
def f_X9_worthOf (n : Nat) (S0 : zM) (a0 : Nat) (a1 : Nat) : Option (Int32) :=
  zChk (¬ (zr S0 a0 4) = 0) (zB1 (f_X6_offFor n S0 (zr S0 a0 4) (zi S0 a1 4)) (fun r4 => some (zmax (0 : Int32) ((20 : Int32) - r4))))
set_option maxHeartbeats 4000000 in
set_option maxRecDepth 100000 in
theorem c_X9_worthOf (l : Launch) (D : va_G) (cy : Nat → ClassId) (B : Nat) {n : Nat} {S0 : zM} {a0 : Nat} {a1 : Nat} {r : Int32} (ha0 : zA S0 a0 9) (ha1 : zA S0 a1 1) (h : f_X9_worthOf n S0 a0 a1 = some r) : Met l yX9_worthOf (zws yX9_worthOf cX9_worthOf 2 ((some .int))) { frames := 1, cells := 0, slots := 0, locals := 23 } (zPc D cy B S0 [.ref (B + a0), .ref (B + a1)]) (zQi D cy B S0 r S0) 0 0 (fun q => B < q) := by
  refine Met.ofW (cc := cX9_worthOf) (maxL := 2) (ret := ((some .int))) (by decide) rfl ?_
  intro p e s m args below meth c s₁ Bd hml hv
  obtain ⟨rfl, hC, hM⟩ := hv
  obtain ⟨hx, hb, hr, hg, hown, hlk⟩ := z_open Bd
  have hK := hC.1
  have hS : va_S (fun q => B < q) s.heap s.heap [] := va_S.rf
  have hX0 : zX S0 S0 := zX.rf
  refine z_entry (vs := [.ref (B + a0), .ref (B + a1)]) (Nat.le_of_ble_eq_true rfl) (fun ls hl => ?_)
  have hl : lv_has ls 2 [(0, .ref (B + a0)), (1, .ref (B + a1))] := hl
  unfold f_X9_worthOf at h
  refine lv_iconst (v := (0 : Int32)) hx hb dX9_worthOf_0 (by decide +kernel) ?_
  refine lv_bipush (v := (20 : Int32)) hx hb dX9_worthOf_1 (by decide +kernel) ?_
  refine lv_aload_n hx hb dX9_worthOf_3 rfl (lv_at hl 0 rfl) ?_
  obtain ⟨hq2, h⟩ := zk h
  refine z_getN hx hb hg zin_9 hown hK hM ha0 4 rfl (by decide) (hg _ zw_130) (fun _ h9 => h9) hq2 dX9_worthOf_4 (fun h1 => ?_)
  refine lv_aload_n hx hb dX9_worthOf_7 rfl (lv_at hl 1 rfl) ?_
  refine z_getI hx hb hg zin_1 hown hK hM ha1 4 rfl (by decide) (hg _ zw_107) (fun _ h9 => h9) dX9_worthOf_8 ?_
  obtain ⟨r4, hr3, h⟩ := zb1 h
  refine z_runi (va_runV (As := [.int (zi S0 a1 4)]) (rest := [.int (20 : Int32), .int (0 : Int32)]) ⟨hx, hb, hml, hown, hg⟩ (c_X6_offFor l D cy B h1 hr3) (z_cwV hg zw_370 zw_371 zw_372 zw_4 zw_373 zh_X6_offFor ⟨(Nat.le_of_ble_eq_true rfl), (Nat.le_of_ble_eq_true rfl)⟩) (zPV hC hM h1 (by decide) rfl) rfl rfl hl.1 rfl (lv_room (Nat.le_of_ble_eq_true rfl)) dX9_worthOf_11 ⟨(Nat.le_of_ble_eq_true rfl), (Nat.le_of_ble_eq_true rfl)⟩) hS (fun H locs hM hX5 hS => ?_)
  refine lv_isub hx hb dX9_worthOf_14 ?_
  refine va_mmax hx hb (hml.trans hl.1.symm) hown (hg _ zw_374) (hg _ zw_375) (hg _ zw_15) (hg _ zw_376) (Nat.le_of_ble_eq_true rfl) (Nat.le_trans (Nat.add_le_add_right (z_room (Nat.le_of_ble_eq_true rfl)) 13) (Nat.le_of_ble_eq_true rfl)) (by omega) (by omega) dX9_worthOf_15 ?_
  refine W.eq (g2 := F0 m 18 ls [.int (zmax (0 : Int32) ((20 : Int32) - r4))]) rfl ?_
  exact z_iret hx hb hr hlk hM hX0 hS ⟨zsm h, rfl⟩ dX9_worthOf_18
def f_X11_partsSeen_L4b (v0 : Int32) (v1 : Int32) (K3 : Int32 → Option (Int32)) (rec4 : Int32 → Int32 → Option (Int32)) (x4 : Int32) (x5 : Int32) : Option (Int32) :=
  if (6 : Int32) ≤ x5 then K3 x4 else zLet (fun (x8 : Int32) => if ((x5 + v0) - (x5 + v0) / (3 : Int32) * (3 : Int32)) = 0 then rec4 x4 (x5 + (1 : Int32)) else if x8 = 0 then rec4 (x4 ||| ((1 : Int32) <<< (x5 &&& 31))) (x5 + (1 : Int32)) else rec4 x4 (x5 + (1 : Int32))) (fun K10 => zLet (K10 (0 : Int32)) (fun K14 => if x5 = (5 : Int32) then if v1 < (5 : Int32) then K14 else K10 (1 : Int32) else K14))
def f_X11_partsSeen_L4 (v0 : Int32) (v1 : Int32) (K3 : Int32 → Option (Int32)) : Nat → Int32 → Int32 → Option (Int32)
  | 0 => fun _ _ => none
  | k + 1 => fun x4 x5 => f_X11_partsSeen_L4b v0 v1 K3 (f_X11_partsSeen_L4 v0 v1 K3 k) x4 x5
def f_X11_partsSeen (n : Nat) (v0 : Int32) (v1 : Int32) : Option (Int32) :=
  zLet (fun (x1 : Int32) => some x1) (fun K3 => f_X11_partsSeen_L4 v0 v1 K3 n (0 : Int32) (0 : Int32))
set_option maxHeartbeats 4000000 in
set_option maxRecDepth 100000 in
theorem c_X11_partsSeen (l : Launch) (D : va_G) (cy : Nat → ClassId) (B : Nat) {n : Nat} {S0 : zM} {v0 : Int32} {v1 : Int32} {r : Int32}  (h : f_X11_partsSeen n v0 v1 = some r) : Met l yX11_partsSeen (zws yX11_partsSeen cX11_partsSeen 5 ((some .int))) { frames := 0, cells := 0, slots := 0, locals := 0 } (zPc D cy B S0 [.int v0, .int v1]) (zQi D cy B S0 r S0) 0 0 (fun q => B < q) := by
  refine Met.ofW (cc := cX11_partsSeen) (maxL := 5) (ret := ((some .int))) (by decide) rfl ?_
  intro p e s m args below meth c s₁ Bd hml hv
  obtain ⟨rfl, hC, hM⟩ := hv
  obtain ⟨hx, hb, hr, hg, hown, hlk⟩ := z_open Bd
  have hK := hC.1
  have hS : va_S (fun q => B < q) s.heap s.heap [] := va_S.rf
  have hX0 : zX S0 S0 := zX.rf
  refine z_entry (vs := [.int v0, .int v1]) (Nat.le_of_ble_eq_true rfl) (fun ls hl => ?_)
  have hl : lv_has ls 5 [(0, .int v0), (1, .int v1)] := hl
  unfold f_X11_partsSeen at h
  refine lv_iconst (v := (0 : Int32)) hx hb dX11_partsSeen_0 (by decide +kernel) ?_
  refine lv_istore_n (i := 2) (lv' := [(2, .int (0 : Int32)), (0, .int v0), (1, .int v1)]) hx hb dX11_partsSeen_1 rfl hl (by decide) rfl (fun ls hl => ?_)
  refine lv_iconst (v := (0 : Int32)) hx hb dX11_partsSeen_2 (by decide +kernel) ?_
  refine lv_istore_n (i := 3) (lv' := [(3, .int (0 : Int32)), (2, .int (0 : Int32)), (0, .int v0), (1, .int v1)]) hx hb dX11_partsSeen_3 rfl hl (by decide) rfl (fun ls hl => ?_)
  obtain ⟨K3, eK3, h⟩ := zlg h
  have hK3 : ∀ (x1 : Int32) (H : Heap) (locs : List Loc), zMR D cy B S0 H → zX S0 S0 → va_S (fun q => B < q) s.heap H locs → ∀ ls : Array Slot, lv_has ls 5 [(2, .int x1)] → K3 x1 = some r → W p l e (headSpec (zws yX11_partsSeen cX11_partsSeen 5 ((some .int))) { frames := 0, cells := 0, slots := 0, locals := 0 }).room s m (([.int v0, .int v1] : List Value).toArray) below meth c H locs 0 0 (MQ below (zQi D cy B S0 r S0) (([.int v0, .int v1] : List Value).toArray) s 0 0 (fun q => B < q)) (F0 m 52 ls []) := by
    intro x1 H locs hM hX2 hS ls hl h
    rw [eK3] at h
    refine lv_iload_n hx hb dX11_partsSeen_52 rfl (lv_at hl 0 rfl) ?_
    exact z_iret hx hb hr hlk hM hX2 hS ⟨zsm h, rfl⟩ dX11_partsSeen_53
  have hL4 : ∀ (k : Nat) (x4 : Int32) (x5 : Int32) (H : Heap) (locs : List Loc), zMR D cy B S0 H → zX S0 S0 → va_S (fun q => B < q) s.heap H locs → ∀ ls : Array Slot, lv_has ls 5 [(0, .int v0), (1, .int v1), (2, .int x4), (3, .int x5)] → f_X11_partsSeen_L4 v0 v1 K3 k x4 x5 = some r → W p l e (headSpec (zws yX11_partsSeen cX11_partsSeen 5 ((some .int))) { frames := 0, cells := 0, slots := 0, locals := 0 }).room s m (([.int v0, .int v1] : List Value).toArray) below meth c H locs 0 0 (MQ below (zQi D cy B S0 r S0) (([.int v0, .int v1] : List Value).toArray) s 0 0 (fun q => B < q)) (F0 m 4 ls []) := by
    intro k
    induction k with
    | zero =>
      intro x4 x5 H locs hM hX6 hS ls hl h
      exact znone h
    | succ k ih4 =>
      intro x4 x5 H locs hM hX6 hS ls hl h
      replace h : f_X11_partsSeen_L4b v0 v1 K3 (f_X11_partsSeen_L4 v0 v1 K3 k) x4 x5 = some r := h
      generalize f_X11_partsSeen_L4 v0 v1 K3 k = rec4 at ih4 h
      unfold f_X11_partsSeen_L4b at h
      refine lv_iload_n hx hb dX11_partsSeen_4 rfl (lv_at hl 3 rfl) ?_
      refine lv_bipush (v := (6 : Int32)) hx hb dX11_partsSeen_5 (by decide +kernel) ?_
      refine lv_icmp_ge (tgt := 52) hx hb dX11_partsSeen_7 (by decide) (fun hc7 => ?_) (fun hc7 => ?_)
      · have h := zt h hc7
        exact hK3 x4 _ _ hM hX6 hS _ (lv_sub hl [2] rfl) h
      · have h := zf h hc7
        refine lv_iload_n hx hb dX11_partsSeen_10 rfl (lv_at hl 3 rfl) ?_
        refine lv_iconst (v := (5 : Int32)) hx hb dX11_partsSeen_11 (by decide +kernel) ?_
        obtain ⟨K10, eK10, h⟩ := zlg h
        have hK10 : ∀ (x8 : Int32) (H : Heap) (locs : List Loc), zMR D cy B S0 H → zX S0 S0 → va_S (fun q => B < q) s.heap H locs → ∀ ls : Array Slot, lv_has ls 5 [(0, .int v0), (1, .int v1), (2, .int x4), (3, .int x5)] → K10 x8 = some r → W p l e (headSpec (zws yX11_partsSeen cX11_partsSeen 5 ((some .int))) { frames := 0, cells := 0, slots := 0, locals := 0 }).room s m (([.int v0, .int v1] : List Value).toArray) below meth c H locs 0 0 (MQ below (zQi D cy B S0 r S0) (([.int v0, .int v1] : List Value).toArray) s 0 0 (fun q => B < q)) (F0 m 25 ls [.int x8]) := by
          intro x8 H locs hM hX9 hS ls hl h
          rw [eK10] at h
          refine lv_istore (i := 4) (lv' := [(4, .int x8), (0, .int v0), (1, .int v1), (2, .int x4), (3, .int x5)]) hx hb dX11_partsSeen_25 hl (by decide) rfl (fun ls hl => ?_)
          refine lv_iload_n hx hb dX11_partsSeen_27 rfl (lv_at hl 4 rfl) ?_
          refine lv_iload_n hx hb dX11_partsSeen_28 rfl (lv_at hl 1 rfl) ?_
          refine lv_iadd hx hb dX11_partsSeen_29 ?_
          refine lv_iconst (v := (3 : Int32)) hx hb dX11_partsSeen_30 (by decide +kernel) ?_
          refine lv_irem hx hb dX11_partsSeen_31 (by decide +kernel) ?_
          refine lv_if_eq (tgt := 46) hx hb dX11_partsSeen_32 (by decide) (fun hc11 => ?_) (fun hc11 => ?_)
          · have h := zt h hc11
            refine lv_iinc (v := (x5 + (1 : Int32))) (lv' := [(3, .int (x5 + (1 : Int32))), (4, .int x8), (0, .int v0), (1, .int v1), (2, .int x4)]) hx hb dX11_partsSeen_46 hl (k := 4) rfl rfl (by decide) rfl (fun ls hl => ?_)
            refine lv_goto (tgt := 4) hx hb dX11_partsSeen_49 (by decide) ?_
            exact ih4 x4 (x5 + (1 : Int32)) _ _ hM hX9 hS _ (lv_sub hl [2, 3, 4, 0] rfl) h
          · have h := zf h hc11
            refine lv_iload hx hb dX11_partsSeen_35 (lv_at hl 0 rfl) ?_
            refine lv_if_ne (tgt := 46) hx hb dX11_partsSeen_37 (by decide) (fun hc12 => ?_) (fun hc12 => ?_)
            · have h := zf h hc12
              refine lv_iinc (v := (x5 + (1 : Int32))) (lv' := [(3, .int (x5 + (1 : Int32))), (4, .int x8), (0, .int v0), (1, .int v1), (2, .int x4)]) hx hb dX11_partsSeen_46 hl (k := 4) rfl rfl (by decide) rfl (fun ls hl => ?_)
              refine lv_goto (tgt := 4) hx hb dX11_partsSeen_49 (by decide) ?_
              exact ih4 x4 (x5 + (1 : Int32)) _ _ hM hX9 hS _ (lv_sub hl [2, 3, 4, 0] rfl) h
            · have h := zt h hc12
              refine lv_iload_n hx hb dX11_partsSeen_40 rfl (lv_at hl 3 rfl) ?_
              refine lv_iconst (v := (1 : Int32)) hx hb dX11_partsSeen_41 (by decide +kernel) ?_
              refine lv_iload_n hx hb dX11_partsSeen_42 rfl (lv_at hl 4 rfl) ?_
              refine lv_ishl hx hb dX11_partsSeen_43 ?_
              refine lv_ior hx hb dX11_partsSeen_44 ?_
              refine lv_istore_n (i := 2) (lv' := [(2, .int (x4 ||| ((1 : Int32) <<< (x5 &&& 31)))), (4, .int x8), (0, .int v0), (1, .int v1), (3, .int x5)]) hx hb dX11_partsSeen_45 rfl hl (by decide) rfl (fun ls hl => ?_)
              refine lv_iinc (v := (x5 + (1 : Int32))) (lv' := [(3, .int (x5 + (1 : Int32))), (2, .int (x4 ||| ((1 : Int32) <<< (x5 &&& 31)))), (4, .int x8), (0, .int v0), (1, .int v1)]) hx hb dX11_partsSeen_46 hl (k := 4) rfl rfl (by decide) rfl (fun ls hl => ?_)
              refine lv_goto (tgt := 4) hx hb dX11_partsSeen_49 (by decide) ?_
              exact ih4 (x4 ||| ((1 : Int32) <<< (x5 &&& 31))) (x5 + (1 : Int32)) _ _ hM hX9 hS _ (lv_sub hl [3, 4, 1, 0] rfl) h
        obtain ⟨K14, eK14, h⟩ := zlg h
        have hK14 : ∀ (H : Heap) (locs : List Loc), zMR D cy B S0 H → zX S0 S0 → va_S (fun q => B < q) s.heap H locs → ∀ ls : Array Slot, lv_has ls 5 [(0, .int v0), (1, .int v1), (2, .int x4), (3, .int x5)] → K14 = some r → W p l e (headSpec (zws yX11_partsSeen cX11_partsSeen 5 ((some .int))) { frames := 0, cells := 0, slots := 0, locals := 0 }).room s m (([.int v0, .int v1] : List Value).toArray) below meth c H locs 0 0 (MQ below (zQi D cy B S0 r S0) (([.int v0, .int v1] : List Value).toArray) s 0 0 (fun q => B < q)) (F0 m 24 ls []) := by
          intro H locs hM hX13 hS ls hl h
          rw [eK14] at h
          refine lv_iconst (v := (0 : Int32)) hx hb dX11_partsSeen_24 (by decide +kernel) ?_
          exact hK10 (0 : Int32) _ _ hM hX13 hS _ (lv_sub hl [0, 1, 2, 3] rfl) h
        refine lv_icmp_ne (tgt := 24) hx hb dX11_partsSeen_12 (by decide) (fun hc15 => ?_) (fun hc15 => ?_)
        · have h := zf h hc15
          exact hK14 _ _ hM hX6 hS _ (lv_sub hl [0, 1, 2, 3] rfl) h
        · have h := zt h hc15
          refine lv_iload_n hx hb dX11_partsSeen_15 rfl (lv_at hl 1 rfl) ?_
          refine lv_iconst (v := (5 : Int32)) hx hb dX11_partsSeen_16 (by decide +kernel) ?_
          refine lv_icmp_lt (tgt := 24) hx hb dX11_partsSeen_17 (by decide) (fun hc16 => ?_) (fun hc16 => ?_)
          · have h := zt h hc16
            exact hK14 _ _ hM hX6 hS _ (lv_sub hl [0, 1, 2, 3] rfl) h
          · have h := zf h hc16
            refine lv_iconst (v := (1 : Int32)) hx hb dX11_partsSeen_20 (by decide +kernel) ?_
            refine lv_goto (tgt := 25) hx hb dX11_partsSeen_21 (by decide) ?_
            exact hK10 (1 : Int32) _ _ hM hX6 hS _ (lv_sub hl [0, 1, 2, 3] rfl) h
  exact hL4 n (0 : Int32) (0 : Int32) _ _ hM hX0 hS _ (lv_sub hl [2, 3, 1, 0] rfl) h
def f_X9_drawnBy_L42b (S0 : zM) (a0 : Nat) (a2 : Nat) (x7 : Int32) (K13 : Int32 → Option (Int32)) (rec42 : Int32 → Option (Int32)) (x33 : Int32) : Option (Int32) :=
  if x33 < 0 then some x7 else zChk (¬ (zr S0 a0 9) = 0) (zChk (¬ (x33 < 0 ∨ zln S0 (zr S0 a0 9) ≤ (x33).toNatClampNeg)) (zChk (¬ (zr S0 (zr S0 a0 9) (Int32.toNatClampNeg x33)) = 0) (if (zi S0 (zr S0 (zr S0 a0 9) (Int32.toNatClampNeg x33)) 2) = (zi S0 a2 2) then K13 x33 else rec42 (x33 + (-1 : Int32)))))
def f_X9_drawnBy_L42 (S0 : zM) (a0 : Nat) (a2 : Nat) (x7 : Int32) (K13 : Int32 → Option (Int32)) : Nat → Int32 → Option (Int32)
  | 0 => fun _ => none
  | k + 1 => fun x33 => f_X9_drawnBy_L42b S0 a0 a2 x7 K13 (f_X9_drawnBy_L42 S0 a0 a2 x7 K13 k) x33
def f_X9_drawnBy (n : Nat) (S0 : zM) (a0 : Nat) (v1 : Int32) (a2 : Nat) : Option (Int32) :=
  zLet (f_X11_within (zi S0 a2 3) (zi S0 a0 5)) (fun r2 => zLet (fun (x7 : Int32) => zLet (fun (x11 : Int32) => zChk (¬ (zr S0 a0 4) = 0) (zChk (¬ (zr S0 a0 9) = 0) (zChk (¬ (x11 < 0 ∨ zln S0 (zr S0 a0 9) ≤ (x11).toNatClampNeg)) (zChk (¬ (zr S0 (zr S0 a0 9) (Int32.toNatClampNeg x11)) = 0) (zB1 (f_X6_offFor n S0 (zr S0 a0 4) (zi S0 (zr S0 (zr S0 a0 9) (Int32.toNatClampNeg x11)) 4)) (fun r23 => zLet (fun (x26 : Int32) => if x26 = 0 then some x7 else some (x7 + (1 : Int32))) (fun K28 => if (5 : Int32) < r23 then K28 (0 : Int32) else K28 (1 : Int32)))))))) (fun K13 => f_X9_drawnBy_L42 S0 a0 a2 x7 K13 n ((zmin v1 (zi S0 a0 7)) - (1 : Int32)))) (fun K9 => if r2 = 0 then K9 (0 : Int32) else zChk (¬ (zr S0 a0 1) = 0) (zChk (¬ ((zi S0 a2 3) < 0 ∨ zln S0 (zr S0 a0 1) ≤ ((zi S0 a2 3)).toNatClampNeg)) (K9 ((zi S0 (zr S0 a0 1) (Int32.toNatClampNeg (zi S0 a2 3))) / (2 : Int32))))))
set_option maxHeartbeats 4000000 in
set_option maxRecDepth 100000 in
theorem c_X9_drawnBy (l : Launch) (D : va_G) (cy : Nat → ClassId) (B : Nat) {n : Nat} {S0 : zM} {a0 : Nat} {v1 : Int32} {a2 : Nat} {r : Int32} (ha0 : zA S0 a0 9) (ha2 : zA S0 a2 1) (h : f_X9_drawnBy n S0 a0 v1 a2 = some r) : Met l yX9_drawnBy (zws yX9_drawnBy cX9_drawnBy 6 ((some .int))) { frames := 1, cells := 0, slots := 0, locals := 23 } (zPc D cy B S0 [.ref (B + a0), .int v1, .ref (B + a2)]) (zQi D cy B S0 r S0) 0 0 (fun q => B < q) := by
  refine Met.ofW (cc := cX9_drawnBy) (maxL := 6) (ret := ((some .int))) (by decide) rfl ?_
  intro p e s m args below meth c s₁ Bd hml hv
  obtain ⟨rfl, hC, hM⟩ := hv
  obtain ⟨hx, hb, hr, hg, hown, hlk⟩ := z_open Bd
  have hK := hC.1
  have hS : va_S (fun q => B < q) s.heap s.heap [] := va_S.rf
  have hX0 : zX S0 S0 := zX.rf
  refine z_entry (vs := [.ref (B + a0), .int v1, .ref (B + a2)]) (Nat.le_of_ble_eq_true rfl) (fun ls hl => ?_)
  have hl : lv_has ls 6 [(0, .ref (B + a0)), (1, .int v1), (2, .ref (B + a2))] := hl
  unfold f_X9_drawnBy at h
  refine lv_aload_n hx hb dX9_drawnBy_0 rfl (lv_at hl 2 rfl) ?_
  refine z_getI hx hb hg zin_1 hown hK hM ha2 3 rfl (by decide) (hg _ zw_104) (fun _ h9 => h9) dX9_drawnBy_1 ?_
  refine lv_aload_n hx hb dX9_drawnBy_4 rfl (lv_at hl 0 rfl) ?_
  refine z_getI hx hb hg zin_9 hown hK hM ha0 5 rfl (by decide) (hg _ zw_132) (fun _ h9 => h9) dX9_drawnBy_5 ?_
  obtain ⟨r2, hr1, h⟩ := zlg h
  have hr1 := hr1.symm
  refine z_runi (va_runSN (As := [.int (zi S0 a2 3), .int (zi S0 a0 5)]) (rest := []) ⟨hx, hb, hml, hown, hg⟩ (c_X11_within l D cy B hr1) ⟨z_cnB hg hC (List.mem_of_getElem? (i := 9) rfl) zw_2 zw_292 zh_X11_within.2 ⟨(Nat.le_of_ble_eq_true rfl), (Nat.le_of_ble_eq_true rfl)⟩, hg _ zw_291, trivial⟩ (zPS hC hM) rfl rfl hl.1 rfl (lv_room (Nat.le_of_ble_eq_true rfl)) dX9_drawnBy_8 ⟨(Nat.le_of_ble_eq_true rfl), (Nat.le_of_ble_eq_true rfl)⟩) hS (fun H locs hM hX3 hS => ?_)
  obtain ⟨K9, eK9, h⟩ := zlg h
  have hK9 : ∀ (x7 : Int32) (H : Heap) (locs : List Loc), zMR D cy B S0 H → zX S0 S0 → va_S (fun q => B < q) s.heap H locs → zA S0 a0 9 → zA S0 a2 1 → ∀ ls : Array Slot, lv_has ls 6 [(0, .ref (B + a0)), (1, .int v1), (2, .ref (B + a2))] → K9 x7 = some r → W p l e (headSpec (zws yX9_drawnBy cX9_drawnBy 6 ((some .int))) { frames := 1, cells := 0, slots := 0, locals := 23 }).room s m (([.ref (B + a0), .int v1, .ref (B + a2)] : List Value).toArray) below meth c H locs 0 0 (MQ below (zQi D cy B S0 r S0) (([.ref (B + a0), .int v1, .ref (B + a2)] : List Value).toArray) s 0 0 (fun q => B < q)) (F0 m 29 ls [.int x7]) := by
    intro x7 H locs hM hX8 hS h5 h6 ls hl h
    rw [eK9] at h
    refine lv_istore_n (i := 3) (lv' := [(3, .int x7), (0, .ref (B + a0)), (1, .int v1), (2, .ref (B + a2))]) hx hb dX9_drawnBy_29 rfl hl (by decide) rfl (fun ls hl => ?_)
    refine lv_iload_n hx hb dX9_drawnBy_30 rfl (lv_at hl 2 rfl) ?_
    refine lv_aload_n hx hb dX9_drawnBy_31 rfl (lv_at hl 1 rfl) ?_
    refine z_getI hx hb hg zin_9 hown hK hM h5 7 rfl (by decide) (hg _ zw_139) (fun _ h9 => h9) dX9_drawnBy_32 ?_
    refine va_mmin hx hb (hml.trans hl.1.symm) hown (hg _ zw_411) (hg _ zw_412) (hg _ zw_15) (hg _ zw_413) (Nat.le_of_ble_eq_true rfl) (Nat.le_trans (Nat.add_le_add_right (z_room (Nat.le_of_ble_eq_true rfl)) 13) (Nat.le_of_ble_eq_true rfl)) (by omega) (by omega) dX9_drawnBy_35 ?_
    refine W.eq (g2 := F0 m 38 ls [.int (zmin v1 (zi S0 a0 7))]) rfl ?_
    refine lv_iconst (v := (1 : Int32)) hx hb dX9_drawnBy_38 (by decide +kernel) ?_
    refine lv_isub hx hb dX9_drawnBy_39 ?_
    refine lv_istore (i := 4) (lv' := [(4, .int ((zmin v1 (zi S0 a0 7)) - (1 : Int32))), (3, .int x7), (0, .ref (B + a0)), (1, .int v1), (2, .ref (B + a2))]) hx hb dX9_drawnBy_40 hl (by decide) rfl (fun ls hl => ?_)
    obtain ⟨K13, eK13, h⟩ := zlg h
    have hK13 : ∀ (x11 : Int32) (H : Heap) (locs : List Loc), zMR D cy B S0 H → zX S0 S0 → va_S (fun q => B < q) s.heap H locs → zA S0 a0 9 → ∀ ls : Array Slot, lv_has ls 6 [(0, .ref (B + a0)), (3, .int x7), (4, .int x11)] → K13 x11 = some r → W p l e (headSpec (zws yX9_drawnBy cX9_drawnBy 6 ((some .int))) { frames := 1, cells := 0, slots := 0, locals := 23 }).room s m (([.ref (B + a0), .int v1, .ref (B + a2)] : List Value).toArray) below meth c H locs 0 0 (MQ below (zQi D cy B S0 r S0) (([.ref (B + a0), .int v1, .ref (B + a2)] : List Value).toArray) s 0 0 (fun q => B < q)) (F0 m 64 ls []) := by
      intro x11 H locs hM hX12 hS h10 ls hl h
      rw [eK13] at h
      refine lv_aload_n hx hb dX9_drawnBy_64 rfl (lv_at hl 0 rfl) ?_
      obtain ⟨hq15, h⟩ := zk h
      refine z_getN hx hb hg zin_9 hown hK hM h10 4 rfl (by decide) (hg _ zw_130) (fun _ h9 => h9) hq15 dX9_drawnBy_65 (fun h14 => ?_)
      refine lv_aload_n hx hb dX9_drawnBy_68 rfl (lv_at hl 0 rfl) ?_
      obtain ⟨hq17, h⟩ := zk h
      refine z_getN hx hb hg zin_9 hown hK hM h10 9 rfl (by decide) (hg _ zw_142) (fun _ h9 => h9) hq17 dX9_drawnBy_69 (fun h16 => ?_)
      refine lv_iload hx hb dX9_drawnBy_72 (lv_at hl 2 rfl) ?_
      obtain ⟨hq18, h⟩ := zk h
      refine z_aald hx hb hK hM h16 (by decide) rfl hq18 dX9_drawnBy_74 (fun h19 => ?_)
      have h19 : zQ S0 (zr S0 (zr S0 a0 9) (Int32.toNatClampNeg x11)) 1 := h19
      obtain ⟨hq20, h⟩ := zk h
      have h21 := h19.nn hq20
      refine z_nn h21.1 ?_
      refine z_getI hx hb hg zin_1 hown hK hM h21 4 rfl (by decide) (hg _ zw_107) (fun _ h9 => h9) dX9_drawnBy_75 ?_
      obtain ⟨r23, hr22, h⟩ := zb1 h
      refine z_runi (va_runV (As := [.int (zi S0 (zr S0 (zr S0 a0 9) (Int32.toNatClampNeg x11)) 4)]) (rest := []) ⟨hx, hb, hml, hown, hg⟩ (c_X6_offFor l D cy B h14 hr22) (z_cwV hg zw_370 zw_371 zw_372 zw_4 zw_373 zh_X6_offFor ⟨(Nat.le_of_ble_eq_true rfl), (Nat.le_of_ble_eq_true rfl)⟩) (zPV hC hM h14 (by decide) rfl) rfl rfl hl.1 rfl (lv_room (Nat.le_of_ble_eq_true rfl)) dX9_drawnBy_78 ⟨(Nat.le_of_ble_eq_true rfl), (Nat.le_of_ble_eq_true rfl)⟩) hS (fun H locs hM hX24 hS => ?_)
      refine lv_iconst (v := (5 : Int32)) hx hb dX9_drawnBy_81 (by decide +kernel) ?_
      obtain ⟨K28, eK28, h⟩ := zlg h
      have hK28 : ∀ (x26 : Int32) (H : Heap) (locs : List Loc), zMR D cy B S0 H → zX S0 S0 → va_S (fun q => B < q) s.heap H locs → ∀ ls : Array Slot, lv_has ls 6 [(3, .int x7)] → K28 x26 = some r → W p l e (headSpec (zws yX9_drawnBy cX9_drawnBy 6 ((some .int))) { frames := 1, cells := 0, slots := 0, locals := 23 }).room s m (([.ref (B + a0), .int v1, .ref (B + a2)] : List Value).toArray) below meth c H locs 0 0 (MQ below (zQi D cy B S0 r S0) (([.ref (B + a0), .int v1, .ref (B + a2)] : List Value).toArray) s 0 0 (fun q => B < q)) (F0 m 90 ls [.int x26]) := by
        intro x26 H locs hM hX27 hS ls hl h
        rw [eK28] at h
        refine lv_istore (i := 5) (lv' := [(5, .int x26), (3, .int x7)]) hx hb dX9_drawnBy_90 hl (by decide) rfl (fun ls hl => ?_)
        refine lv_iload hx hb dX9_drawnBy_92 (lv_at hl 0 rfl) ?_
        refine lv_if_eq (tgt := 103) hx hb dX9_drawnBy_94 (by decide) (fun hc29 => ?_) (fun hc29 => ?_)
        · have h := zt h hc29
          refine lv_iload_n hx hb dX9_drawnBy_103 rfl (lv_at hl 1 rfl) ?_
          exact z_iret hx hb hr hlk hM hX27 hS ⟨zsm h, rfl⟩ dX9_drawnBy_104
        · have h := zf h hc29
          refine lv_iload_n hx hb dX9_drawnBy_97 rfl (lv_at hl 1 rfl) ?_
          refine lv_iconst (v := (1 : Int32)) hx hb dX9_drawnBy_98 (by decide +kernel) ?_
          refine lv_iadd hx hb dX9_drawnBy_99 ?_
          refine lv_goto (tgt := 104) hx hb dX9_drawnBy_100 (by decide) ?_
          exact z_iret hx hb hr hlk hM hX27 hS ⟨zsm h, rfl⟩ dX9_drawnBy_104
      refine lv_icmp_gt (tgt := 89) hx hb dX9_drawnBy_82 (by decide) (fun hc30 => ?_) (fun hc30 => ?_)
      · have h := zt h hc30
        refine lv_iconst (v := (0 : Int32)) hx hb dX9_drawnBy_89 (by decide +kernel) ?_
        exact hK28 (0 : Int32) _ _ hM hX12 hS _ (lv_sub hl [1] rfl) h
      · have h := zf h hc30
        refine lv_iconst (v := (1 : Int32)) hx hb dX9_drawnBy_85 (by decide +kernel) ?_
        refine lv_goto (tgt := 90) hx hb dX9_drawnBy_86 (by decide) ?_
        exact hK28 (1 : Int32) _ _ hM hX12 hS _ (lv_sub hl [1] rfl) h
    have hL42 : ∀ (k : Nat) (x33 : Int32) (H : Heap) (locs : List Loc), zMR D cy B S0 H → zX S0 S0 → va_S (fun q => B < q) s.heap H locs → zA S0 a0 9 → zA S0 a2 1 → ∀ ls : Array Slot, lv_has ls 6 [(0, .ref (B + a0)), (2, .ref (B + a2)), (3, .int x7), (4, .int x33)] → f_X9_drawnBy_L42 S0 a0 a2 x7 K13 k x33 = some r → W p l e (headSpec (zws yX9_drawnBy cX9_drawnBy 6 ((some .int))) { frames := 1, cells := 0, slots := 0, locals := 23 }).room s m (([.ref (B + a0), .int v1, .ref (B + a2)] : List Value).toArray) below meth c H locs 0 0 (MQ below (zQi D cy B S0 r S0) (([.ref (B + a0), .int v1, .ref (B + a2)] : List Value).toArray) s 0 0 (fun q => B < q)) (F0 m 42 ls []) := by
      intro k
      induction k with
      | zero =>
        intro x33 H locs hM hX34 hS h31 h32 ls hl h
        exact znone h
      | succ k ih42 =>
        intro x33 H locs hM hX34 hS h31 h32 ls hl h
        replace h : f_X9_drawnBy_L42b S0 a0 a2 x7 K13 (f_X9_drawnBy_L42 S0 a0 a2 x7 K13 k) x33 = some r := h
        generalize f_X9_drawnBy_L42 S0 a0 a2 x7 K13 k = rec42 at ih42 h
        unfold f_X9_drawnBy_L42b at h
        refine lv_iload hx hb dX9_drawnBy_42 (lv_at hl 3 rfl) ?_
        refine lv_if_lt (tgt := 111) hx hb dX9_drawnBy_44 (by decide) (fun hc35 => ?_) (fun hc35 => ?_)
        · have h := zt h hc35
          refine lv_iload_n hx hb dX9_drawnBy_111 rfl (lv_at hl 2 rfl) ?_
          exact z_iret hx hb hr hlk hM hX34 hS ⟨zsm h, rfl⟩ dX9_drawnBy_112
        · have h := zf h hc35
          refine lv_aload_n hx hb dX9_drawnBy_47 rfl (lv_at hl 0 rfl) ?_
          obtain ⟨hq37, h⟩ := zk h
          refine z_getN hx hb hg zin_9 hown hK hM h31 9 rfl (by decide) (hg _ zw_142) (fun _ h9 => h9) hq37 dX9_drawnBy_48 (fun h36 => ?_)
          refine lv_iload hx hb dX9_drawnBy_51 (lv_at hl 3 rfl) ?_
          obtain ⟨hq38, h⟩ := zk h
          refine z_aald hx hb hK hM h36 (by decide) rfl hq38 dX9_drawnBy_53 (fun h39 => ?_)
          have h39 : zQ S0 (zr S0 (zr S0 a0 9) (Int32.toNatClampNeg x33)) 1 := h39
          obtain ⟨hq40, h⟩ := zk h
          have h41 := h39.nn hq40
          refine z_nn h41.1 ?_
          refine z_getI hx hb hg zin_1 hown hK hM h41 2 rfl (by decide) (hg _ zw_101) (fun _ h9 => h9) dX9_drawnBy_54 ?_
          refine lv_aload_n hx hb dX9_drawnBy_57 rfl (lv_at hl 1 rfl) ?_
          refine z_getI hx hb hg zin_1 hown hK hM h32 2 rfl (by decide) (hg _ zw_101) (fun _ h9 => h9) dX9_drawnBy_58 ?_
          refine lv_icmp_ne (tgt := 105) hx hb dX9_drawnBy_61 (by decide) (fun hc42 => ?_) (fun hc42 => ?_)
          · have h := zf h hc42
            refine lv_iinc (v := (x33 + (-1 : Int32))) (lv' := [(4, .int (x33 + (-1 : Int32))), (0, .ref (B + a0)), (2, .ref (B + a2)), (3, .int x7)]) hx hb dX9_drawnBy_105 hl (k := 3) rfl rfl (by decide) rfl (fun ls hl => ?_)
            refine lv_goto (tgt := 42) hx hb dX9_drawnBy_108 (by decide) ?_
            exact ih42 (x33 + (-1 : Int32)) _ _ hM hX34 hS h31 h32 _ (lv_sub hl [1, 2, 3, 0] rfl) h
          · have h := zt h hc42
            exact hK13 x33 _ _ hM hX34 hS h31 _ (lv_sub hl [0, 2, 3] rfl) h
    exact hL42 n ((zmin v1 (zi S0 a0 7)) - (1 : Int32)) _ _ hM hX8 hS h5 h6 _ (lv_sub hl [2, 4, 1, 0] rfl) h
  refine lv_if_eq (tgt := 28) hx hb dX9_drawnBy_11 (by decide) (fun hc43 => ?_) (fun hc43 => ?_)
  · have h := zt h hc43
    refine lv_iconst (v := (0 : Int32)) hx hb dX9_drawnBy_28 (by decide +kernel) ?_
    exact hK9 (0 : Int32) _ _ hM hX0 hS ha0 ha2 _ (lv_sub hl [0, 1, 2] rfl) h
  · have h := zf h hc43
    refine lv_aload_n hx hb dX9_drawnBy_14 rfl (lv_at hl 0 rfl) ?_
    obtain ⟨hq45, h⟩ := zk h
    refine z_getN hx hb hg zin_9 hown hK hM ha0 1 rfl (by decide) (hg _ zw_125) (fun _ h9 => h9) hq45 dX9_drawnBy_15 (fun h44 => ?_)
    refine lv_aload_n hx hb dX9_drawnBy_18 rfl (lv_at hl 2 rfl) ?_
    refine z_getI hx hb hg zin_1 hown hK hM ha2 3 rfl (by decide) (hg _ zw_104) (fun _ h9 => h9) dX9_drawnBy_19 ?_
    obtain ⟨hq46, h⟩ := zk h
    refine z_iald hx hb hK hM h44 hq46 dX9_drawnBy_22 ?_
    refine lv_iconst (v := (2 : Int32)) hx hb dX9_drawnBy_23 (by decide +kernel) ?_
    refine lv_idiv hx hb dX9_drawnBy_24 (by decide +kernel) ?_
    refine lv_goto (tgt := 29) hx hb dX9_drawnBy_25 (by decide) ?_
    exact hK9 ((zi S0 (zr S0 a0 1) (Int32.toNatClampNeg (zi S0 a2 3))) / (2 : Int32)) _ _ hM hX0 hS ha0 ha2 _ (lv_sub hl [0, 1, 2] rfl) h
def f_X9_markOf (n : Nat) (S0 : zM) (a0 : Nat) (a1 : Nat) (v2 : Int32) (a3 : Nat) (v4 : Int32) : Option (Int32) :=
  zLet (fun (x4 : Int32) => zChk (¬ (zr S0 a0 4) = 0) (zB1 (f_X6_offFor n S0 (zr S0 a0 4) ((zi S0 a3 4) &&& x4)) (fun r10 => zLet (fun (x16 : Int32) => zB1 (f_X9_landOf S0 a0 a3) (fun r20 => zLet (f_X2_markFor S0 a1 ((20 : Int32) - r10) r20 x16) (fun r24 => some r24))) (fun K18 => if (zi S0 a1 1) = (4 : Int32) then zB1 (f_X9_drawnBy n S0 a0 v2 a3) (fun r29 => K18 r29) else K18 (0 : Int32))))) (fun K6 => if (zi S0 a1 1) = (7 : Int32) then K6 (7 : Int32) else zB1 (f_X11_partsSeen n v4 (zi S0 a3 5)) (fun r34 => K6 r34))
set_option maxHeartbeats 4000000 in
set_option maxRecDepth 100000 in
theorem c_X9_markOf (l : Launch) (D : va_G) (cy : Nat → ClassId) (B : Nat) {n : Nat} {S0 : zM} {a0 : Nat} {a1 : Nat} {v2 : Int32} {a3 : Nat} {v4 : Int32} {r : Int32} (ha0 : zA S0 a0 9) (ha1 : zA S0 a1 2) (ha3 : zA S0 a3 1) (h : f_X9_markOf n S0 a0 a1 v2 a3 v4 = some r) : Met l yX9_markOf (zws yX9_markOf cX9_markOf 8 ((some .int))) { frames := 2, cells := 0, slots := 0, locals := 48 } (zPc D cy B S0 [.ref (B + a0), .ref (B + a1), .int v2, .ref (B + a3), .int v4]) (zQi D cy B S0 r S0) 0 0 (fun q => B < q) := by
  refine Met.ofW (cc := cX9_markOf) (maxL := 8) (ret := ((some .int))) (by decide) rfl ?_
  intro p e s m args below meth c s₁ Bd hml hv
  obtain ⟨rfl, hC, hM⟩ := hv
  obtain ⟨hx, hb, hr, hg, hown, hlk⟩ := z_open Bd
  have hK := hC.1
  have hS : va_S (fun q => B < q) s.heap s.heap [] := va_S.rf
  have hX0 : zX S0 S0 := zX.rf
  refine z_entry (vs := [.ref (B + a0), .ref (B + a1), .int v2, .ref (B + a3), .int v4]) (Nat.le_of_ble_eq_true rfl) (fun ls hl => ?_)
  have hl : lv_has ls 8 [(0, .ref (B + a0)), (1, .ref (B + a1)), (2, .int v2), (3, .ref (B + a3)), (4, .int v4)] := hl
  unfold f_X9_markOf at h
  refine lv_aload_n hx hb dX9_markOf_0 rfl (lv_at hl 1 rfl) ?_
  refine z_getI hx hb hg zin_2 hown hK hM ha1 1 rfl (by decide) (hg _ zw_313) (fun _ h9 => h9) dX9_markOf_1 ?_
  refine lv_bipush (v := (7 : Int32)) hx hb dX9_markOf_4 (by decide +kernel) ?_
  obtain ⟨K6, eK6, h⟩ := zlg h
  have hK6 : ∀ (x4 : Int32) (H : Heap) (locs : List Loc), zMR D cy B S0 H → zX S0 S0 → va_S (fun q => B < q) s.heap H locs → zA S0 a0 9 → zA S0 a1 2 → zA S0 a3 1 → ∀ ls : Array Slot, lv_has ls 8 [(0, .ref (B + a0)), (1, .ref (B + a1)), (2, .int v2), (3, .ref (B + a3))] → K6 x4 = some r → W p l e (headSpec (zws yX9_markOf cX9_markOf 8 ((some .int))) { frames := 2, cells := 0, slots := 0, locals := 48 }).room s m (([.ref (B + a0), .ref (B + a1), .int v2, .ref (B + a3), .int v4] : List Value).toArray) below meth c H locs 0 0 (MQ below (zQi D cy B S0 r S0) (([.ref (B + a0), .ref (B + a1), .int v2, .ref (B + a3), .int v4] : List Value).toArray) s 0 0 (fun q => B < q)) (F0 m 23 ls [.int x4]) := by
    intro x4 H locs hM hX5 hS h1 h2 h3 ls hl h
    rw [eK6] at h
    refine lv_istore (i := 5) (lv' := [(5, .int x4), (0, .ref (B + a0)), (1, .ref (B + a1)), (2, .int v2), (3, .ref (B + a3))]) hx hb dX9_markOf_23 hl (by decide) rfl (fun ls hl => ?_)
    refine lv_bipush (v := (20 : Int32)) hx hb dX9_markOf_25 (by decide +kernel) ?_
    refine lv_aload_n hx hb dX9_markOf_27 rfl (lv_at hl 1 rfl) ?_
    obtain ⟨hq8, h⟩ := zk h
    refine z_getN hx hb hg zin_9 hown hK hM h1 4 rfl (by decide) (hg _ zw_130) (fun _ h9 => h9) hq8 dX9_markOf_28 (fun h7 => ?_)
    refine lv_aload_n hx hb dX9_markOf_31 rfl (lv_at hl 4 rfl) ?_
    refine z_getI hx hb hg zin_1 hown hK hM h3 4 rfl (by decide) (hg _ zw_107) (fun _ h9 => h9) dX9_markOf_32 ?_
    refine lv_iload hx hb dX9_markOf_35 (lv_at hl 0 rfl) ?_
    refine lv_iand hx hb dX9_markOf_37 ?_
    obtain ⟨r10, hr9, h⟩ := zb1 h
    refine z_runi (va_runV (As := [.int ((zi S0 a3 4) &&& x4)]) (rest := [.int (20 : Int32)]) ⟨hx, hb, hml, hown, hg⟩ (c_X6_offFor l D cy B h7 hr9) (z_cwV hg zw_370 zw_371 zw_372 zw_4 zw_373 zh_X6_offFor ⟨(Nat.le_of_ble_eq_true rfl), (Nat.le_of_ble_eq_true rfl)⟩) (zPV hC hM h7 (by decide) rfl) rfl rfl hl.1 rfl (lv_room (Nat.le_of_ble_eq_true rfl)) dX9_markOf_38 ⟨(Nat.le_of_ble_eq_true rfl), (Nat.le_of_ble_eq_true rfl)⟩) hS (fun H locs hM hX11 hS => ?_)
    refine lv_isub hx hb dX9_markOf_41 ?_
    refine lv_istore (i := 6) (lv' := [(6, .int ((20 : Int32) - r10)), (5, .int x4), (0, .ref (B + a0)), (1, .ref (B + a1)), (2, .int v2), (3, .ref (B + a3))]) hx hb dX9_markOf_42 hl (by decide) rfl (fun ls hl => ?_)
    refine lv_aload_n hx hb dX9_markOf_44 rfl (lv_at hl 3 rfl) ?_
    refine z_getI hx hb hg zin_2 hown hK hM h2 1 rfl (by decide) (hg _ zw_313) (fun _ h9 => h9) dX9_markOf_45 ?_
    refine lv_iconst (v := (4 : Int32)) hx hb dX9_markOf_48 (by decide +kernel) ?_
    obtain ⟨K18, eK18, h⟩ := zlg h
    have hK18 : ∀ (x16 : Int32) (H : Heap) (locs : List Loc), zMR D cy B S0 H → zX S0 S0 → va_S (fun q => B < q) s.heap H locs → zA S0 a0 9 → zA S0 a1 2 → zA S0 a3 1 → ∀ ls : Array Slot, lv_has ls 8 [(0, .ref (B + a0)), (1, .ref (B + a1)), (3, .ref (B + a3)), (6, .int ((20 : Int32) - r10))] → K18 x16 = some r → W p l e (headSpec (zws yX9_markOf cX9_markOf 8 ((some .int))) { frames := 2, cells := 0, slots := 0, locals := 48 }).room s m (([.ref (B + a0), .ref (B + a1), .int v2, .ref (B + a3), .int v4] : List Value).toArray) below meth c H locs 0 0 (MQ below (zQi D cy B S0 r S0) (([.ref (B + a0), .ref (B + a1), .int v2, .ref (B + a3), .int v4] : List Value).toArray) s 0 0 (fun q => B < q)) (F0 m 62 ls [.int x16]) := by
      intro x16 H locs hM hX17 hS h13 h14 h15 ls hl h
      rw [eK18] at h
      refine lv_istore (i := 7) (lv' := [(7, .int x16), (0, .ref (B + a0)), (1, .ref (B + a1)), (3, .ref (B + a3)), (6, .int ((20 : Int32) - r10))]) hx hb dX9_markOf_62 hl (by decide) rfl (fun ls hl => ?_)
      refine lv_aload_n hx hb dX9_markOf_64 rfl (lv_at hl 2 rfl) ?_
      refine lv_iload hx hb dX9_markOf_65 (lv_at hl 4 rfl) ?_
      refine lv_aload_n hx hb dX9_markOf_67 rfl (lv_at hl 1 rfl) ?_
      refine lv_aload_n hx hb dX9_markOf_68 rfl (lv_at hl 3 rfl) ?_
      obtain ⟨r20, hr19, h⟩ := zb1 h
      refine z_runi (va_runV (As := [.ref (B + a3)]) (rest := [.int ((20 : Int32) - r10), .ref (B + a1)]) ⟨hx, hb, hml, hown, hg⟩ (c_X9_landOf l D cy B h13 h15 hr19) (z_cwV hg zw_414 zw_415 zw_416 zw_3 zw_417 zh_X9_landOf ⟨(Nat.le_of_ble_eq_true rfl), (Nat.le_of_ble_eq_true rfl)⟩) (zPV hC hM h13 (by decide) rfl) rfl rfl hl.1 rfl (lv_room (Nat.le_of_ble_eq_true rfl)) dX9_markOf_69 ⟨(Nat.le_of_ble_eq_true rfl), (Nat.le_of_ble_eq_true rfl)⟩) hS (fun H locs hM hX21 hS => ?_)
      refine lv_iload hx hb dX9_markOf_72 (lv_at hl 0 rfl) ?_
      obtain ⟨r24, hr23, h⟩ := zlg h
      have hr23 := hr23.symm
      refine z_runi (va_runV (As := [.int ((20 : Int32) - r10), .int r20, .int x16]) (rest := []) ⟨hx, hb, hml, hown, hg⟩ (c_X2_markFor l D cy B h14 hr23) (z_cwV hg zw_418 zw_419 zw_420 zw_14 zw_421 zh_X2_markFor ⟨(Nat.le_of_ble_eq_true rfl), (Nat.le_of_ble_eq_true rfl)⟩) (zPV hC hM h14 (by decide) rfl) rfl rfl hl.1 rfl (lv_room (Nat.le_of_ble_eq_true rfl)) dX9_markOf_74 ⟨(Nat.le_of_ble_eq_true rfl), (Nat.le_of_ble_eq_true rfl)⟩) hS (fun H locs hM hX25 hS => ?_)
      exact z_iret hx hb hr hlk hM hX17 hS ⟨zsm h, rfl⟩ dX9_markOf_77
    refine lv_icmp_ne (tgt := 61) hx hb dX9_markOf_49 (by decide) (fun hc27 => ?_) (fun hc27 => ?_)
    · have h := zf h hc27
      refine lv_iconst (v := (0 : Int32)) hx hb dX9_markOf_61 (by decide +kernel) ?_
      exact hK18 (0 : Int32) _ _ hM hX5 hS h1 h2 h3 _ (lv_sub hl [2, 3, 5, 0] rfl) h
    · have h := zt h hc27
      refine lv_aload_n hx hb dX9_markOf_52 rfl (lv_at hl 2 rfl) ?_
      refine lv_iload_n hx hb dX9_markOf_53 rfl (lv_at hl 4 rfl) ?_
      refine lv_aload_n hx hb dX9_markOf_54 rfl (lv_at hl 5 rfl) ?_
      obtain ⟨r29, hr28, h⟩ := zb1 h
      refine z_runi (va_runV (As := [.int v2, .ref (B + a3)]) (rest := []) ⟨hx, hb, hml, hown, hg⟩ (c_X9_drawnBy l D cy B h1 h3 hr28) (z_cwV hg zw_408 zw_409 zw_1463 zw_3 zw_410 zh_X9_drawnBy ⟨(Nat.le_of_ble_eq_true rfl), (Nat.le_of_ble_eq_true rfl)⟩) (zPV hC hM h1 (by decide) rfl) rfl rfl hl.1 rfl (lv_room (Nat.le_of_ble_eq_true rfl)) dX9_markOf_55 ⟨(Nat.le_of_ble_eq_true rfl), (Nat.le_of_ble_eq_true rfl)⟩) hS (fun H locs hM hX30 hS => ?_)
      refine lv_goto (tgt := 62) hx hb dX9_markOf_58 (by decide) ?_
      exact hK18 r29 _ _ hM hX5 hS h1 h2 h3 _ (lv_sub hl [2, 3, 5, 0] rfl) h
  refine lv_icmp_ne (tgt := 14) hx hb dX9_markOf_6 (by decide) (fun hc32 => ?_) (fun hc32 => ?_)
  · have h := zf h hc32
    refine lv_iload hx hb dX9_markOf_14 (lv_at hl 4 rfl) ?_
    refine lv_aload_n hx hb dX9_markOf_16 rfl (lv_at hl 3 rfl) ?_
    refine z_getI hx hb hg zin_1 hown hK hM ha3 5 rfl (by decide) (hg _ zw_111) (fun _ h9 => h9) dX9_markOf_17 ?_
    obtain ⟨r34, hr33, h⟩ := zb1 h
    refine z_runi (va_runSN (As := [.int v4, .int (zi S0 a3 5)]) (rest := []) ⟨hx, hb, hml, hown, hg⟩ (c_X11_partsSeen l D cy B hr33) ⟨z_cnB hg hC (List.mem_of_getElem? (i := 11) rfl) zw_2 zw_387 zh_X11_partsSeen.2 ⟨(Nat.le_of_ble_eq_true rfl), (Nat.le_of_ble_eq_true rfl)⟩, hg _ zw_386, trivial⟩ (zPS hC hM) rfl rfl hl.1 rfl (lv_room (Nat.le_of_ble_eq_true rfl)) dX9_markOf_20 ⟨(Nat.le_of_ble_eq_true rfl), (Nat.le_of_ble_eq_true rfl)⟩) hS (fun H locs hM hX35 hS => ?_)
    exact hK6 r34 _ _ hM hX0 hS ha0 ha1 ha3 _ (lv_sub hl [0, 1, 2, 3] rfl) h
  · have h := zt h hc32
    refine lv_bipush (v := (7 : Int32)) hx hb dX9_markOf_9 (by decide +kernel) ?_
    refine lv_goto (tgt := 23) hx hb dX9_markOf_11 (by decide) ?_
    exact hK6 (7 : Int32) _ _ hM hX0 hS ha0 ha1 ha3 _ (lv_sub hl [0, 1, 2, 3] rfl) h
def f_X9_gatherOthers_L10b (n : Nat) (a0 : Nat) (v1 : Int32) (a2 : Nat) (K11 : zM → Option (zM)) (rec10 : Int32 → zM → Option (zM)) (x14 : Int32) (S15 : zM) : Option (zM) :=
  if (7 : Int32) ≤ x14 then K11 S15 else zB1 (f_X9_seatOf S15 a0 (zi S15 a2 2) x14) (fun r19 => zB1 (f_X9_judgeAt S15 a0 r19) (fun r23 => if r23 = 0 then rec10 (x14 + (1 : Int32)) S15 else if (zi S15 r23 1) = (5 : Int32) then rec10 (x14 + (1 : Int32)) S15 else zChk (¬ (zr S15 a0 11) = 0) (zB1 (f_X9_markOf n S15 a0 r23 v1 a2 x14) (fun r32 => zB1 (f_X5_add n S15 (zr S15 a0 11) r32) (fun S36 => rec10 (x14 + (1 : Int32)) S36)))))
def f_X9_gatherOthers_L10 (n : Nat) (a0 : Nat) (v1 : Int32) (a2 : Nat) (K11 : zM → Option (zM)) : Nat → Int32 → zM → Option (zM)
  | 0 => fun _ _ => none
  | k + 1 => fun x14 S15 => f_X9_gatherOthers_L10b n a0 v1 a2 K11 (f_X9_gatherOthers_L10 n a0 v1 a2 K11 k) x14 S15
def f_X9_gatherOthers (n : Nat) (S0 : zM) (a0 : Nat) (v1 : Int32) (a2 : Nat) : Option (zM) :=
  zChk (¬ (zr S0 a0 11) = 0) (zLet (zpI S0 (zr S0 a0 11) 1 (0 : Int32)) (fun S3 => zLet (fun (S9 : zM) => some S9) (fun K11 => f_X9_gatherOthers_L10 n a0 v1 a2 K11 n (0 : Int32) S3)))
set_option maxHeartbeats 4000000 in
set_option maxRecDepth 100000 in
theorem c_X9_gatherOthers (l : Launch) (D : va_G) (cy : Nat → ClassId) (B : Nat) {n : Nat} {S0 : zM} {a0 : Nat} {v1 : Int32} {a2 : Nat} {S' : zM} (ha0 : zA S0 a0 9) (ha2 : zA S0 a2 1) (h : f_X9_gatherOthers n S0 a0 v1 a2 = some S') : Met l yX9_gatherOthers (zws yX9_gatherOthers cX9_gatherOthers 5 none) { frames := 3, cells := 0, slots := 0, locals := 75 } (zPc D cy B S0 [.ref (B + a0), .int v1, .ref (B + a2)]) (zQv D cy B S0 S') 0 0 (fun q => B < q) := by
  refine Met.ofW (cc := cX9_gatherOthers) (maxL := 5) (ret := none) (by decide) rfl ?_
  intro p e s m args below meth c s₁ Bd hml hv
  obtain ⟨rfl, hC, hM⟩ := hv
  obtain ⟨hx, hb, hr, hg, hown, hlk⟩ := z_open Bd
  have hK := hC.1
  have hS : va_S (fun q => B < q) s.heap s.heap [] := va_S.rf
  have hX0 : zX S0 S0 := zX.rf
  refine z_entry (vs := [.ref (B + a0), .int v1, .ref (B + a2)]) (Nat.le_of_ble_eq_true rfl) (fun ls hl => ?_)
  have hl : lv_has ls 5 [(0, .ref (B + a0)), (1, .int v1), (2, .ref (B + a2))] := hl
  unfold f_X9_gatherOthers at h
  refine lv_aload_n hx hb dX9_gatherOthers_0 rfl (lv_at hl 0 rfl) ?_
  obtain ⟨hq2, h⟩ := zk h
  refine z_getN hx hb hg zin_9 hown hK hM ha0 11 rfl (by decide) (hg _ zw_145) (fun _ h9 => h9) hq2 dX9_gatherOthers_1 (fun h1 => ?_)
  refine lv_iconst (v := (0 : Int32)) hx hb dX9_gatherOthers_4 (by decide +kernel) ?_
  refine z_putI hx hb hg zin_5 tyX5 tyX5_ok nmX5 hown hK hM hS h1 1 rfl (by decide) (hg _ zw_80) (fun _ h9 => h9) (Or.inl rfl) (tyX5_ok 1 (by decide)) rfl rfl dX9_gatherOthers_5 (fun H locs hM hS => ?_)
  obtain ⟨S3, e4, h⟩ := zlg h
  rw [← e4] at hM
  have hX5 : zX S0 S3 := by rw [e4]; exact zX_pI
  have h6 := ha0.mo hX5
  have h7 := ha2.mo hX5
  have hX8 := hX0.tr hX5
  refine lv_iconst (v := (0 : Int32)) hx hb dX9_gatherOthers_8 (by decide +kernel) ?_
  refine lv_istore_n (i := 3) (lv' := [(3, .int (0 : Int32)), (0, .ref (B + a0)), (1, .int v1), (2, .ref (B + a2))]) hx hb dX9_gatherOthers_9 rfl hl (by decide) rfl (fun ls hl => ?_)
  obtain ⟨K11, eK11, h⟩ := zlg h
  have hK11 : ∀ (S9 : zM) (H : Heap) (locs : List Loc), zMR D cy B S9 H → zX S0 S9 → va_S (fun q => B < q) s.heap H locs → ∀ ls : Array Slot, lv_has ls 5 [] → K11 S9 = some S' → W p l e (headSpec (zws yX9_gatherOthers cX9_gatherOthers 5 none) { frames := 3, cells := 0, slots := 0, locals := 75 }).room s m (([.ref (B + a0), .int v1, .ref (B + a2)] : List Value).toArray) below meth c H locs 0 0 (MQ below (zQv D cy B S0 S') (([.ref (B + a0), .int v1, .ref (B + a2)] : List Value).toArray) s 0 0 (fun q => B < q)) (F0 m 67 ls []) := by
    intro S9 H locs hM hX10 hS ls hl h
    rw [eK11] at h
    exact z_vret hx hb hr hlk hM hX10 hS (zsm h) dX9_gatherOthers_67
  have hL10 : ∀ (k : Nat) (x14 : Int32) (S15 : zM) (H : Heap) (locs : List Loc), zMR D cy B S15 H → zX S0 S15 → va_S (fun q => B < q) s.heap H locs → zA S15 a0 9 → zA S15 a2 1 → ∀ ls : Array Slot, lv_has ls 5 [(0, .ref (B + a0)), (1, .int v1), (2, .ref (B + a2)), (3, .int x14)] → f_X9_gatherOthers_L10 n a0 v1 a2 K11 k x14 S15 = some S' → W p l e (headSpec (zws yX9_gatherOthers cX9_gatherOthers 5 none) { frames := 3, cells := 0, slots := 0, locals := 75 }).room s m (([.ref (B + a0), .int v1, .ref (B + a2)] : List Value).toArray) below meth c H locs 0 0 (MQ below (zQv D cy B S0 S') (([.ref (B + a0), .int v1, .ref (B + a2)] : List Value).toArray) s 0 0 (fun q => B < q)) (F0 m 10 ls []) := by
    intro k
    induction k with
    | zero =>
      intro x14 S15 H locs hM hX16 hS h12 h13 ls hl h
      exact znone h
    | succ k ih10 =>
      intro x14 S15 H locs hM hX16 hS h12 h13 ls hl h
      replace h : f_X9_gatherOthers_L10b n a0 v1 a2 K11 (f_X9_gatherOthers_L10 n a0 v1 a2 K11 k) x14 S15 = some S' := h
      generalize f_X9_gatherOthers_L10 n a0 v1 a2 K11 k = rec10 at ih10 h
      unfold f_X9_gatherOthers_L10b at h
      refine lv_iload_n hx hb dX9_gatherOthers_10 rfl (lv_at hl 3 rfl) ?_
      refine lv_bipush (v := (7 : Int32)) hx hb dX9_gatherOthers_11 (by decide +kernel) ?_
      refine lv_icmp_ge (tgt := 67) hx hb dX9_gatherOthers_13 (by decide) (fun hc17 => ?_) (fun hc17 => ?_)
      · have h := zt h hc17
        exact hK11 S15 _ _ hM hX16 hS _ (lv_sub hl [] rfl) h
      · have h := zf h hc17
        refine lv_aload_n hx hb dX9_gatherOthers_16 rfl (lv_at hl 0 rfl) ?_
        refine lv_aload_n hx hb dX9_gatherOthers_17 rfl (lv_at hl 0 rfl) ?_
        refine lv_aload_n hx hb dX9_gatherOthers_18 rfl (lv_at hl 2 rfl) ?_
        refine z_getI hx hb hg zin_1 hown hK hM h13 2 rfl (by decide) (hg _ zw_101) (fun _ h9 => h9) dX9_gatherOthers_19 ?_
        refine lv_iload_n hx hb dX9_gatherOthers_22 rfl (lv_at hl 3 rfl) ?_
        obtain ⟨r19, hr18, h⟩ := zb1 h
        refine z_runi (va_runV (As := [.int (zi S15 a2 2), .int x14]) (rest := [.ref (B + a0)]) ⟨hx, hb, hml, hown, hg⟩ (c_X9_seatOf l D cy B h12 hr18) (z_cwV hg zw_336 zw_337 zw_338 zw_3 zw_339 zh_X9_seatOf ⟨(Nat.le_of_ble_eq_true rfl), (Nat.le_of_ble_eq_true rfl)⟩) (zPV hC hM h12 (by decide) rfl) rfl rfl hl.1 rfl (lv_room (Nat.le_of_ble_eq_true rfl)) dX9_gatherOthers_23 ⟨(Nat.le_of_ble_eq_true rfl), (Nat.le_of_ble_eq_true rfl)⟩) hS (fun H locs hM hX20 hS => ?_)
        obtain ⟨r23, hr22, h⟩ := zb1 h
        refine z_runr (va_runV (As := [.int r19]) (rest := []) ⟨hx, hb, hml, hown, hg⟩ (c_X9_judgeAt l D cy B h12 hr22) (z_cwV hg zw_397 zw_398 zw_399 zw_3 zw_400 zh_X9_judgeAt ⟨(Nat.le_of_ble_eq_true rfl), (Nat.le_of_ble_eq_true rfl)⟩) (zPV hC hM h12 (by decide) rfl) rfl rfl hl.1 rfl (lv_room (Nat.le_of_ble_eq_true rfl)) dX9_gatherOthers_26 ⟨(Nat.le_of_ble_eq_true rfl), (Nat.le_of_ble_eq_true rfl)⟩) hS (fun H locs hM hX24 h25 hS => ?_)
        refine z_astore (i := 4) (lv' := [(4, zv B r23), (0, .ref (B + a0)), (1, .int v1), (2, .ref (B + a2)), (3, .int x14)]) hx hb dX9_gatherOthers_29 hl (by decide) rfl (fun ls hl => ?_)
        refine z_aload hx hb dX9_gatherOthers_31 (lv_at hl 0 rfl) ?_
        refine z_ifnull (tgt := 61) hx hb dX9_gatherOthers_33 (by decide) (fun hc26 => ?_) (fun hc26 => ?_)
        · have h := zt h hc26
          refine lv_iinc (v := (x14 + (1 : Int32))) (lv' := [(3, .int (x14 + (1 : Int32))), (4, zv B r23), (0, .ref (B + a0)), (1, .int v1), (2, .ref (B + a2))]) hx hb dX9_gatherOthers_61 hl (k := 4) rfl rfl (by decide) rfl (fun ls hl => ?_)
          refine lv_goto (tgt := 10) hx hb dX9_gatherOthers_64 (by decide) ?_
          exact ih10 (x14 + (1 : Int32)) S15 _ _ hM hX16 hS h12 h13 _ (lv_sub hl [2, 3, 4, 0] rfl) h
        · have h27 := h25.nn hc26
          have h := zf h hc26
          refine z_aloadR hx hb dX9_gatherOthers_36 (lv_at hl 0 rfl) h27.1 ?_
          refine z_getI hx hb hg zin_2 hown hK hM h27 1 rfl (by decide) (hg _ zw_313) (fun _ h9 => h9) dX9_gatherOthers_38 ?_
          refine lv_iconst (v := (5 : Int32)) hx hb dX9_gatherOthers_41 (by decide +kernel) ?_
          refine lv_icmp_eq (tgt := 61) hx hb dX9_gatherOthers_42 (by decide) (fun hc28 => ?_) (fun hc28 => ?_)
          · have h := zt h hc28
            refine lv_iinc (v := (x14 + (1 : Int32))) (lv' := [(3, .int (x14 + (1 : Int32))), (4, zv B r23), (0, .ref (B + a0)), (1, .int v1), (2, .ref (B + a2))]) hx hb dX9_gatherOthers_61 hl (k := 4) rfl rfl (by decide) rfl (fun ls hl => ?_)
            refine lv_goto (tgt := 10) hx hb dX9_gatherOthers_64 (by decide) ?_
            exact ih10 (x14 + (1 : Int32)) S15 _ _ hM hX16 hS h12 h13 _ (lv_sub hl [2, 3, 4, 0] rfl) h
          · have h := zf h hc28
            refine lv_aload_n hx hb dX9_gatherOthers_45 rfl (lv_at hl 1 rfl) ?_
            obtain ⟨hq30, h⟩ := zk h
            refine z_getN hx hb hg zin_9 hown hK hM h12 11 rfl (by decide) (hg _ zw_145) (fun _ h9 => h9) hq30 dX9_gatherOthers_46 (fun h29 => ?_)
            refine lv_aload_n hx hb dX9_gatherOthers_49 rfl (lv_at hl 1 rfl) ?_
            refine z_aloadR hx hb dX9_gatherOthers_50 (lv_at hl 0 rfl) h27.1 ?_
            refine lv_iload_n hx hb dX9_gatherOthers_52 rfl (lv_at hl 2 rfl) ?_
            refine lv_aload_n hx hb dX9_gatherOthers_53 rfl (lv_at hl 3 rfl) ?_
            refine lv_iload_n hx hb dX9_gatherOthers_54 rfl (lv_at hl 4 rfl) ?_
            obtain ⟨r32, hr31, h⟩ := zb1 h
            refine z_runi (va_runV (As := [.ref (B + r23), .int v1, .ref (B + a2), .int x14]) (rest := [.ref (B + (zr S15 a0 11))]) ⟨hx, hb, hml, hown, hg⟩ (c_X9_markOf l D cy B h12 h27 h13 hr31) (z_cwV hg zw_404 zw_405 zw_1462 zw_3 zw_406 zh_X9_markOf ⟨(Nat.le_of_ble_eq_true rfl), (Nat.le_of_ble_eq_true rfl)⟩) (zPV hC hM h12 (by decide) rfl) rfl rfl hl.1 rfl (lv_room (Nat.le_of_ble_eq_true rfl)) dX9_gatherOthers_55 ⟨(Nat.le_of_ble_eq_true rfl), (Nat.le_of_ble_eq_true rfl)⟩) hS (fun H locs hM hX33 hS => ?_)
            obtain ⟨S36, hr35, h⟩ := zb1 h
            refine z_runv (va_runV (As := [.int r32]) (rest := []) ⟨hx, hb, hml, hown, hg⟩ (c_X5_add l D cy B h29 hr35) (z_cwV hg zw_429 zw_430 zw_431 zw_5 zw_432 zh_X5_add ⟨(Nat.le_of_ble_eq_true rfl), (Nat.le_of_ble_eq_true rfl)⟩) (zPV hC hM h29 (by decide) rfl) rfl rfl hl.1 rfl (lv_room (Nat.le_of_ble_eq_true rfl)) dX9_gatherOthers_58 ⟨(Nat.le_of_ble_eq_true rfl), (Nat.le_of_ble_eq_true rfl)⟩) hS (fun H locs hM hX37 hS => ?_)
            have h39 := h12.mo hX37
            have h40 := h13.mo hX37
            have hX41 := hX16.tr hX37
            refine lv_iinc (v := (x14 + (1 : Int32))) (lv' := [(3, .int (x14 + (1 : Int32))), (4, zv B r23), (0, .ref (B + a0)), (1, .int v1), (2, .ref (B + a2))]) hx hb dX9_gatherOthers_61 hl (k := 4) rfl rfl (by decide) rfl (fun ls hl => ?_)
            refine lv_goto (tgt := 10) hx hb dX9_gatherOthers_64 (by decide) ?_
            exact ih10 (x14 + (1 : Int32)) S36 _ _ hM hX41 hS h39 h40 _ (lv_sub hl [2, 3, 4, 0] rfl) h
  exact hL10 n (0 : Int32) S3 _ _ hM hX8 hS h6 h7 _ (lv_sub hl [1, 2, 3, 0] rfl) h
def f_X9_wouldMark (n : Nat) (S0 : zM) (a0 : Nat) (v1 : Int32) (v2 : Int32) : Option (Int32 × zM) :=
  zB1 (f_X9_diveAt S0 a0 v1) (fun r2 => if r2 = 0 then some (((-4 : Int32), S0)) else zB1 (f_X9_seatOf S0 a0 (zi S0 r2 2) v2) (fun r8 => zB1 (f_X9_judgeAt S0 a0 r8) (fun r12 => if r12 = 0 then some (((-4 : Int32), S0)) else zLet (fun (S20 : zM) => zB1 (f_X9_markOf n S20 a0 r12 v1 r2 v2) (fun r24 => some ((r24, S20)))) (fun K22 => if (zi S0 r12 1) = (5 : Int32) then zB1 (f_X9_gatherOthers n S0 a0 v1 r2) (fun S29 => zChk (¬ (zr S29 a0 11) = 0) (if (zi S29 (zr S29 a0 11) 1) ≤ 0 then K22 S29 else zB1 (f_X5_middle S29 (zr S29 a0 11)) (fun r41 => some ((r41, S29))))) else K22 S0))))
set_option maxHeartbeats 4000000 in
set_option maxRecDepth 100000 in
theorem c_X9_wouldMark (l : Launch) (D : va_G) (cy : Nat → ClassId) (B : Nat) {n : Nat} {S0 : zM} {a0 : Nat} {v1 : Int32} {v2 : Int32} {r : Int32} {S' : zM} (ha0 : zA S0 a0 9) (h : f_X9_wouldMark n S0 a0 v1 v2 = some (r, S')) : Met l yX9_wouldMark (zws yX9_wouldMark cX9_wouldMark 5 ((some .int))) { frames := 4, cells := 0, slots := 0, locals := 99 } (zPc D cy B S0 [.ref (B + a0), .int v1, .int v2]) (zQi D cy B S0 r S') 0 0 (fun q => B < q) := by
  refine Met.ofW (cc := cX9_wouldMark) (maxL := 5) (ret := ((some .int))) (by decide) rfl ?_
  intro p e s m args below meth c s₁ Bd hml hv
  obtain ⟨rfl, hC, hM⟩ := hv
  obtain ⟨hx, hb, hr, hg, hown, hlk⟩ := z_open Bd
  have hK := hC.1
  have hS : va_S (fun q => B < q) s.heap s.heap [] := va_S.rf
  have hX0 : zX S0 S0 := zX.rf
  refine z_entry (vs := [.ref (B + a0), .int v1, .int v2]) (Nat.le_of_ble_eq_true rfl) (fun ls hl => ?_)
  have hl : lv_has ls 5 [(0, .ref (B + a0)), (1, .int v1), (2, .int v2)] := hl
  unfold f_X9_wouldMark at h
  refine lv_aload_n hx hb dX9_wouldMark_0 rfl (lv_at hl 0 rfl) ?_
  refine lv_iload_n hx hb dX9_wouldMark_1 rfl (lv_at hl 1 rfl) ?_
  obtain ⟨r2, hr1, h⟩ := zb1 h
  refine z_runr (va_runV (As := [.int v1]) (rest := []) ⟨hx, hb, hml, hown, hg⟩ (c_X9_diveAt l D cy B ha0 hr1) (z_cwV hg zw_396 zw_363 zw_364 zw_3 zw_365 zh_X9_diveAt ⟨(Nat.le_of_ble_eq_true rfl), (Nat.le_of_ble_eq_true rfl)⟩) (zPV hC hM ha0 (by decide) rfl) rfl rfl hl.1 rfl (lv_room (Nat.le_of_ble_eq_true rfl)) dX9_wouldMark_2 ⟨(Nat.le_of_ble_eq_true rfl), (Nat.le_of_ble_eq_true rfl)⟩) hS (fun H locs hM hX3 h4 hS => ?_)
  refine z_astore_n (i := 3) (lv' := [(3, zv B r2), (0, .ref (B + a0)), (1, .int v1), (2, .int v2)]) hx hb dX9_wouldMark_5 rfl hl (by decide) rfl (fun ls hl => ?_)
  refine z_aload_n hx hb dX9_wouldMark_6 rfl (lv_at hl 0 rfl) ?_
  refine z_ifnonnull (tgt := 13) hx hb dX9_wouldMark_7 (by decide) (fun hc5 => ?_) (fun hc5 => ?_)
  · have h6 := h4.nn hc5
    have h := zf h hc5
    refine lv_aload_n hx hb dX9_wouldMark_13 rfl (lv_at hl 1 rfl) ?_
    refine lv_aload_n hx hb dX9_wouldMark_14 rfl (lv_at hl 1 rfl) ?_
    refine z_aloadR_n hx hb dX9_wouldMark_15 rfl (lv_at hl 0 rfl) h6.1 ?_
    refine z_getI hx hb hg zin_1 hown hK hM h6 2 rfl (by decide) (hg _ zw_101) (fun _ h9 => h9) dX9_wouldMark_16 ?_
    refine lv_iload_n hx hb dX9_wouldMark_19 rfl (lv_at hl 3 rfl) ?_
    obtain ⟨r8, hr7, h⟩ := zb1 h
    refine z_runi (va_runV (As := [.int (zi S0 r2 2), .int v2]) (rest := [.ref (B + a0)]) ⟨hx, hb, hml, hown, hg⟩ (c_X9_seatOf l D cy B ha0 hr7) (z_cwV hg zw_336 zw_337 zw_338 zw_3 zw_339 zh_X9_seatOf ⟨(Nat.le_of_ble_eq_true rfl), (Nat.le_of_ble_eq_true rfl)⟩) (zPV hC hM ha0 (by decide) rfl) rfl rfl hl.1 rfl (lv_room (Nat.le_of_ble_eq_true rfl)) dX9_wouldMark_20 ⟨(Nat.le_of_ble_eq_true rfl), (Nat.le_of_ble_eq_true rfl)⟩) hS (fun H locs hM hX9 hS => ?_)
    obtain ⟨r12, hr11, h⟩ := zb1 h
    refine z_runr (va_runV (As := [.int r8]) (rest := []) ⟨hx, hb, hml, hown, hg⟩ (c_X9_judgeAt l D cy B ha0 hr11) (z_cwV hg zw_397 zw_398 zw_399 zw_3 zw_400 zh_X9_judgeAt ⟨(Nat.le_of_ble_eq_true rfl), (Nat.le_of_ble_eq_true rfl)⟩) (zPV hC hM ha0 (by decide) rfl) rfl rfl hl.1 rfl (lv_room (Nat.le_of_ble_eq_true rfl)) dX9_wouldMark_23 ⟨(Nat.le_of_ble_eq_true rfl), (Nat.le_of_ble_eq_true rfl)⟩) hS (fun H locs hM hX13 h14 hS => ?_)
    refine z_astore (i := 4) (lv' := [(4, zv B r12), (3, zv B r2), (0, .ref (B + a0)), (1, .int v1), (2, .int v2)]) hx hb dX9_wouldMark_26 hl (by decide) (by simp [zv_cat]) (fun ls hl => ?_)
    refine z_aload hx hb dX9_wouldMark_28 (lv_at hl 0 rfl) ?_
    refine z_ifnonnull (tgt := 36) hx hb dX9_wouldMark_30 (by decide) (fun hc15 => ?_) (fun hc15 => ?_)
    · have h16 := h14.nn hc15
      have h := zf h hc15
      refine z_aloadR hx hb dX9_wouldMark_36 (lv_at hl 0 rfl) h16.1 ?_
      refine z_getI hx hb hg zin_2 hown hK hM h16 1 rfl (by decide) (hg _ zw_313) (fun _ h9 => h9) dX9_wouldMark_38 ?_
      refine lv_iconst (v := (5 : Int32)) hx hb dX9_wouldMark_41 (by decide +kernel) ?_
      obtain ⟨K22, eK22, h⟩ := zlg h
      have hK22 : ∀ (S20 : zM) (H : Heap) (locs : List Loc), zMR D cy B S20 H → zX S0 S20 → va_S (fun q => B < q) s.heap H locs → zA S20 a0 9 → zA S20 r2 1 → zA S20 r12 2 → ∀ ls : Array Slot, lv_has ls 5 [(0, .ref (B + a0)), (1, .int v1), (2, .int v2), (3, zv B r2), (4, zv B r12)] → K22 S20 = some (r, S') → W p l e (headSpec (zws yX9_wouldMark cX9_wouldMark 5 ((some .int))) { frames := 4, cells := 0, slots := 0, locals := 99 }).room s m (([.ref (B + a0), .int v1, .int v2] : List Value).toArray) below meth c H locs 0 0 (MQ below (zQi D cy B S0 r S') (([.ref (B + a0), .int v1, .int v2] : List Value).toArray) s 0 0 (fun q => B < q)) (F0 m 69 ls []) := by
        intro S20 H locs hM hX21 hS h17 h18 h19 ls hl h
        rw [eK22] at h
        refine lv_aload_n hx hb dX9_wouldMark_69 rfl (lv_at hl 0 rfl) ?_
        refine z_aloadR hx hb dX9_wouldMark_70 (lv_at hl 4 rfl) h19.1 ?_
        refine lv_iload_n hx hb dX9_wouldMark_72 rfl (lv_at hl 1 rfl) ?_
        refine z_aloadR_n hx hb dX9_wouldMark_73 rfl (lv_at hl 3 rfl) h18.1 ?_
        refine lv_iload_n hx hb dX9_wouldMark_74 rfl (lv_at hl 2 rfl) ?_
        obtain ⟨r24, hr23, h⟩ := zb1 h
        refine z_runi (va_runV (As := [.ref (B + r12), .int v1, .ref (B + r2), .int v2]) (rest := []) ⟨hx, hb, hml, hown, hg⟩ (c_X9_markOf l D cy B h17 h19 h18 hr23) (z_cwV hg zw_404 zw_405 zw_1462 zw_3 zw_406 zh_X9_markOf ⟨(Nat.le_of_ble_eq_true rfl), (Nat.le_of_ble_eq_true rfl)⟩) (zPV hC hM h17 (by decide) rfl) rfl rfl hl.1 rfl (lv_room (Nat.le_of_ble_eq_true rfl)) dX9_wouldMark_75 ⟨(Nat.le_of_ble_eq_true rfl), (Nat.le_of_ble_eq_true rfl)⟩) hS (fun H locs hM hX25 hS => ?_)
        exact z_iret hx hb hr hlk hM hX21 hS (zsp h) dX9_wouldMark_78
      refine lv_icmp_ne (tgt := 69) hx hb dX9_wouldMark_42 (by decide) (fun hc27 => ?_) (fun hc27 => ?_)
      · have h := zf h hc27
        exact hK22 S0 _ _ hM hX0 hS ha0 h6 h16 _ (lv_sub hl [2, 3, 4, 1, 0] rfl) h
      · have h := zt h hc27
        refine lv_aload_n hx hb dX9_wouldMark_45 rfl (lv_at hl 2 rfl) ?_
        refine lv_iload_n hx hb dX9_wouldMark_46 rfl (lv_at hl 3 rfl) ?_
        refine z_aloadR_n hx hb dX9_wouldMark_47 rfl (lv_at hl 1 rfl) h6.1 ?_
        obtain ⟨S29, hr28, h⟩ := zb1 h
        refine z_runv (va_runV (As := [.int v1, .ref (B + r2)]) (rest := []) ⟨hx, hb, hml, hown, hg⟩ (c_X9_gatherOthers l D cy B ha0 h6 hr28) (z_cwV hg zw_401 zw_402 zw_1461 zw_3 zw_403 zh_X9_gatherOthers ⟨(Nat.le_of_ble_eq_true rfl), (Nat.le_of_ble_eq_true rfl)⟩) (zPV hC hM ha0 (by decide) rfl) rfl rfl hl.1 rfl (lv_room (Nat.le_of_ble_eq_true rfl)) dX9_wouldMark_48 ⟨(Nat.le_of_ble_eq_true rfl), (Nat.le_of_ble_eq_true rfl)⟩) hS (fun H locs hM hX30 hS => ?_)
        have h32 := ha0.mo hX30
        have h33 := h6.mo hX30
        have h34 := h16.mo hX30
        have hX35 := hX0.tr hX30
        refine lv_aload_n hx hb dX9_wouldMark_51 rfl (lv_at hl 2 rfl) ?_
        obtain ⟨hq37, h⟩ := zk h
        refine z_getN hx hb hg zin_9 hown hK hM h32 11 rfl (by decide) (hg _ zw_145) (fun _ h9 => h9) hq37 dX9_wouldMark_52 (fun h36 => ?_)
        refine z_getI hx hb hg zin_5 hown hK hM h36 1 rfl (by decide) (hg _ zw_80) (fun _ h9 => h9) dX9_wouldMark_55 ?_
        refine lv_if_le (tgt := 69) hx hb dX9_wouldMark_58 (by decide) (fun hc38 => ?_) (fun hc38 => ?_)
        · have h := zt h hc38
          exact hK22 S29 _ _ hM hX35 hS h32 h33 h34 _ (lv_sub hl [2, 3, 4, 1, 0] rfl) h
        · have h := zf h hc38
          refine lv_aload_n hx hb dX9_wouldMark_61 rfl (lv_at hl 2 rfl) ?_
          refine z_getN hx hb hg zin_9 hown hK hM h32 11 rfl (by decide) (hg _ zw_145) (fun _ h9 => h9) h36.ne dX9_wouldMark_62 (fun h39 => ?_)
          obtain ⟨r41, hr40, h⟩ := zb1 h
          refine z_runi (va_runV (As := []) (rest := []) ⟨hx, hb, hml, hown, hg⟩ (c_X5_middle l D cy B h39 hr40) (z_cwV hg zw_433 zw_434 zw_435 zw_5 zw_436 zh_X5_middle ⟨(Nat.le_of_ble_eq_true rfl), (Nat.le_of_ble_eq_true rfl)⟩) (zPV hC hM h39 (by decide) rfl) rfl rfl hl.1 rfl (lv_room (Nat.le_of_ble_eq_true rfl)) dX9_wouldMark_65 ⟨(Nat.le_of_ble_eq_true rfl), (Nat.le_of_ble_eq_true rfl)⟩) hS (fun H locs hM hX42 hS => ?_)
          exact z_iret hx hb hr hlk hM hX35 hS (zsp h) dX9_wouldMark_68
    · have h := zt h hc15
      refine lv_bipush (v := (-4 : Int32)) hx hb dX9_wouldMark_33 (by decide +kernel) ?_
      exact z_iret hx hb hr hlk hM hX0 hS (zsp h) dX9_wouldMark_35
  · have h := zt h hc5
    refine lv_bipush (v := (-4 : Int32)) hx hb dX9_wouldMark_10 (by decide +kernel) ?_
    exact z_iret hx hb hr hlk hM hX0 hS (zsp h) dX9_wouldMark_12
def f_X9_markDive_L14b (n : Nat) (a0 : Nat) (v1 : Int32) (r2 : Nat) (K10 : zM → Option (Int32 × zM)) (rec14 : Int32 → zM → Option (Int32 × zM)) (x17 : Int32) (S18 : zM) : Option (Int32 × zM) :=
  if (7 : Int32) ≤ x17 then K10 S18 else zB2 (f_X9_wouldMark n S18 a0 v1 x17) (fun r22 S23 => zLet (fun (x31 : Int32) => zB1 (f_X9_seatOf S23 a0 (zi S23 r2 2) x17) (fun r35 => zB1 (f_X1_tell S23 r2 x17 x31 r35) (fun S39 => rec14 (x17 + (1 : Int32)) S39))) (fun K33 => if r22 = (-4 : Int32) then K33 (-128 : Int32) else K33 r22))
def f_X9_markDive_L14 (n : Nat) (a0 : Nat) (v1 : Int32) (r2 : Nat) (K10 : zM → Option (Int32 × zM)) : Nat → Int32 → zM → Option (Int32 × zM)
  | 0 => fun _ _ => none
  | k + 1 => fun x17 S18 => f_X9_markDive_L14b n a0 v1 r2 K10 (f_X9_markDive_L14 n a0 v1 r2 K10 k) x17 S18
def f_X9_markDive (n : Nat) (S0 : zM) (a0 : Nat) (v1 : Int32) : Option (Int32 × zM) :=
  zB1 (f_X9_diveAt S0 a0 v1) (fun r2 => if r2 = 0 then some (((0 : Int32), S0)) else zLet (fun (S8 : zM) => zB1 (f_X1_marksThere n S8 r2) (fun r12 => some ((r12, S8)))) (fun K10 => f_X9_markDive_L14 n a0 v1 r2 K10 n (0 : Int32) S0))
set_option maxHeartbeats 4000000 in
set_option maxRecDepth 100000 in
theorem c_X9_markDive (l : Launch) (D : va_G) (cy : Nat → ClassId) (B : Nat) {n : Nat} {S0 : zM} {a0 : Nat} {v1 : Int32} {r : Int32} {S' : zM} (ha0 : zA S0 a0 9) (h : f_X9_markDive n S0 a0 v1 = some (r, S')) : Met l yX9_markDive (zws yX9_markDive cX9_markDive 5 ((some .int))) { frames := 5, cells := 0, slots := 0, locals := 123 } (zPc D cy B S0 [.ref (B + a0), .int v1]) (zQi D cy B S0 r S') 0 0 (fun q => B < q) := by
  refine Met.ofW (cc := cX9_markDive) (maxL := 5) (ret := ((some .int))) (by decide) rfl ?_
  intro p e s m args below meth c s₁ Bd hml hv
  obtain ⟨rfl, hC, hM⟩ := hv
  obtain ⟨hx, hb, hr, hg, hown, hlk⟩ := z_open Bd
  have hK := hC.1
  have hS : va_S (fun q => B < q) s.heap s.heap [] := va_S.rf
  have hX0 : zX S0 S0 := zX.rf
  refine z_entry (vs := [.ref (B + a0), .int v1]) (Nat.le_of_ble_eq_true rfl) (fun ls hl => ?_)
  have hl : lv_has ls 5 [(0, .ref (B + a0)), (1, .int v1)] := hl
  unfold f_X9_markDive at h
  refine lv_aload_n hx hb dX9_markDive_0 rfl (lv_at hl 0 rfl) ?_
  refine lv_iload_n hx hb dX9_markDive_1 rfl (lv_at hl 1 rfl) ?_
  obtain ⟨r2, hr1, h⟩ := zb1 h
  refine z_runr (va_runV (As := [.int v1]) (rest := []) ⟨hx, hb, hml, hown, hg⟩ (c_X9_diveAt l D cy B ha0 hr1) (z_cwV hg zw_396 zw_363 zw_364 zw_3 zw_365 zh_X9_diveAt ⟨(Nat.le_of_ble_eq_true rfl), (Nat.le_of_ble_eq_true rfl)⟩) (zPV hC hM ha0 (by decide) rfl) rfl rfl hl.1 rfl (lv_room (Nat.le_of_ble_eq_true rfl)) dX9_markDive_2 ⟨(Nat.le_of_ble_eq_true rfl), (Nat.le_of_ble_eq_true rfl)⟩) hS (fun H locs hM hX3 h4 hS => ?_)
  refine z_astore_n (i := 2) (lv' := [(2, zv B r2), (0, .ref (B + a0)), (1, .int v1)]) hx hb dX9_markDive_5 rfl hl (by decide) rfl (fun ls hl => ?_)
  refine z_aload_n hx hb dX9_markDive_6 rfl (lv_at hl 0 rfl) ?_
  refine z_ifnonnull (tgt := 12) hx hb dX9_markDive_7 (by decide) (fun hc5 => ?_) (fun hc5 => ?_)
  · have h6 := h4.nn hc5
    have h := zf h hc5
    refine lv_iconst (v := (0 : Int32)) hx hb dX9_markDive_12 (by decide +kernel) ?_
    refine lv_istore_n (i := 3) (lv' := [(3, .int (0 : Int32)), (2, zv B r2), (0, .ref (B + a0)), (1, .int v1)]) hx hb dX9_markDive_13 rfl hl (by decide) (by simp [zv_cat]) (fun ls hl => ?_)
    obtain ⟨K10, eK10, h⟩ := zlg h
    have hK10 : ∀ (S8 : zM) (H : Heap) (locs : List Loc), zMR D cy B S8 H → zX S0 S8 → va_S (fun q => B < q) s.heap H locs → zA S8 r2 1 → ∀ ls : Array Slot, lv_has ls 5 [(2, zv B r2)] → K10 S8 = some (r, S') → W p l e (headSpec (zws yX9_markDive cX9_markDive 5 ((some .int))) { frames := 5, cells := 0, slots := 0, locals := 123 }).room s m (([.ref (B + a0), .int v1] : List Value).toArray) below meth c H locs 0 0 (MQ below (zQi D cy B S0 r S') (([.ref (B + a0), .int v1] : List Value).toArray) s 0 0 (fun q => B < q)) (F0 m 62 ls []) := by
      intro S8 H locs hM hX9 hS h7 ls hl h
      rw [eK10] at h
      refine z_aloadR_n hx hb dX9_markDive_62 rfl (lv_at hl 0 rfl) h7.1 ?_
      obtain ⟨r12, hr11, h⟩ := zb1 h
      refine z_runi (va_runV (As := []) (rest := []) ⟨hx, hb, hml, hown, hg⟩ (c_X1_marksThere l D cy B h7 hr11) (z_cwV hg zw_447 zw_378 zw_379 zw_6 zw_380 zh_X1_marksThere ⟨(Nat.le_of_ble_eq_true rfl), (Nat.le_of_ble_eq_true rfl)⟩) (zPV hC hM h7 (by decide) rfl) rfl rfl hl.1 rfl (lv_room (Nat.le_of_ble_eq_true rfl)) dX9_markDive_63 ⟨(Nat.le_of_ble_eq_true rfl), (Nat.le_of_ble_eq_true rfl)⟩) hS (fun H locs hM hX13 hS => ?_)
      exact z_iret hx hb hr hlk hM hX9 hS (zsp h) dX9_markDive_66
    have hL14 : ∀ (k : Nat) (x17 : Int32) (S18 : zM) (H : Heap) (locs : List Loc), zMR D cy B S18 H → zX S0 S18 → va_S (fun q => B < q) s.heap H locs → zA S18 a0 9 → zA S18 r2 1 → ∀ ls : Array Slot, lv_has ls 5 [(0, .ref (B + a0)), (1, .int v1), (2, zv B r2), (3, .int x17)] → f_X9_markDive_L14 n a0 v1 r2 K10 k x17 S18 = some (r, S') → W p l e (headSpec (zws yX9_markDive cX9_markDive 5 ((some .int))) { frames := 5, cells := 0, slots := 0, locals := 123 }).room s m (([.ref (B + a0), .int v1] : List Value).toArray) below meth c H locs 0 0 (MQ below (zQi D cy B S0 r S') (([.ref (B + a0), .int v1] : List Value).toArray) s 0 0 (fun q => B < q)) (F0 m 14 ls []) := by
      intro k
      induction k with
      | zero =>
        intro x17 S18 H locs hM hX19 hS h15 h16 ls hl h
        exact znone h
      | succ k ih14 =>
        intro x17 S18 H locs hM hX19 hS h15 h16 ls hl h
        replace h : f_X9_markDive_L14b n a0 v1 r2 K10 (f_X9_markDive_L14 n a0 v1 r2 K10 k) x17 S18 = some (r, S') := h
        generalize f_X9_markDive_L14 n a0 v1 r2 K10 k = rec14 at ih14 h
        unfold f_X9_markDive_L14b at h
        refine lv_iload_n hx hb dX9_markDive_14 rfl (lv_at hl 3 rfl) ?_
        refine lv_bipush (v := (7 : Int32)) hx hb dX9_markDive_15 (by decide +kernel) ?_
        refine lv_icmp_ge (tgt := 62) hx hb dX9_markDive_17 (by decide) (fun hc20 => ?_) (fun hc20 => ?_)
        · have h := zt h hc20
          exact hK10 S18 _ _ hM hX19 hS h16 _ (lv_sub hl [2] rfl) h
        · have h := zf h hc20
          refine lv_aload_n hx hb dX9_markDive_20 rfl (lv_at hl 0 rfl) ?_
          refine lv_iload_n hx hb dX9_markDive_21 rfl (lv_at hl 1 rfl) ?_
          refine lv_iload_n hx hb dX9_markDive_22 rfl (lv_at hl 3 rfl) ?_
          obtain ⟨r22, S23, hr21, h⟩ := zb2 h
          refine z_runi (va_runV (As := [.int v1, .int x17]) (rest := []) ⟨hx, hb, hml, hown, hg⟩ (c_X9_wouldMark l D cy B h15 hr21) (z_cwV hg zw_445 zw_393 zw_394 zw_3 zw_395 zh_X9_wouldMark ⟨(Nat.le_of_ble_eq_true rfl), (Nat.le_of_ble_eq_true rfl)⟩) (zPV hC hM h15 (by decide) rfl) rfl rfl hl.1 rfl (lv_room (Nat.le_of_ble_eq_true rfl)) dX9_markDive_23 ⟨(Nat.le_of_ble_eq_true rfl), (Nat.le_of_ble_eq_true rfl)⟩) hS (fun H locs hM hX24 hS => ?_)
          have h26 := h15.mo hX24
          have h27 := h16.mo hX24
          have hX28 := hX19.tr hX24
          refine lv_istore (i := 4) (lv' := [(4, .int r22), (0, .ref (B + a0)), (1, .int v1), (2, zv B r2), (3, .int x17)]) hx hb dX9_markDive_26 hl (by decide) rfl (fun ls hl => ?_)
          refine z_aloadR_n hx hb dX9_markDive_28 rfl (lv_at hl 3 rfl) h27.1 ?_
          refine lv_iload_n hx hb dX9_markDive_29 rfl (lv_at hl 4 rfl) ?_
          refine lv_iload hx hb dX9_markDive_30 (lv_at hl 0 rfl) ?_
          refine lv_bipush (v := (-4 : Int32)) hx hb dX9_markDive_32 (by decide +kernel) ?_
          obtain ⟨K33, eK33, h⟩ := zlg h
          have hK33 : ∀ (x31 : Int32) (H : Heap) (locs : List Loc), zMR D cy B S23 H → zX S0 S23 → va_S (fun q => B < q) s.heap H locs → zA S23 a0 9 → zA S23 r2 1 → ∀ ls : Array Slot, lv_has ls 5 [(0, .ref (B + a0)), (1, .int v1), (2, zv B r2), (3, .int x17)] → K33 x31 = some (r, S') → W p l e (headSpec (zws yX9_markDive cX9_markDive 5 ((some .int))) { frames := 5, cells := 0, slots := 0, locals := 123 }).room s m (([.ref (B + a0), .int v1] : List Value).toArray) below meth c H locs 0 0 (MQ below (zQi D cy B S0 r S') (([.ref (B + a0), .int v1] : List Value).toArray) s 0 0 (fun q => B < q)) (F0 m 44 ls [.int x31, .int x17, .ref (B + r2)]) := by
            intro x31 H locs hM hX32 hS h29 h30 ls hl h
            rw [eK33] at h
            refine lv_aload_n hx hb dX9_markDive_44 rfl (lv_at hl 0 rfl) ?_
            refine z_aloadR_n hx hb dX9_markDive_45 rfl (lv_at hl 2 rfl) h30.1 ?_
            refine z_getI hx hb hg zin_1 hown hK hM h30 2 rfl (by decide) (hg _ zw_101) (fun _ h9 => h9) dX9_markDive_46 ?_
            refine lv_iload_n hx hb dX9_markDive_49 rfl (lv_at hl 3 rfl) ?_
            obtain ⟨r35, hr34, h⟩ := zb1 h
            refine z_runi (va_runV (As := [.int (zi S23 r2 2), .int x17]) (rest := [.int x31, .int x17, .ref (B + r2)]) ⟨hx, hb, hml, hown, hg⟩ (c_X9_seatOf l D cy B h29 hr34) (z_cwV hg zw_336 zw_337 zw_338 zw_3 zw_339 zh_X9_seatOf ⟨(Nat.le_of_ble_eq_true rfl), (Nat.le_of_ble_eq_true rfl)⟩) (zPV hC hM h29 (by decide) rfl) rfl rfl hl.1 rfl (lv_room (Nat.le_of_ble_eq_true rfl)) dX9_markDive_50 ⟨(Nat.le_of_ble_eq_true rfl), (Nat.le_of_ble_eq_true rfl)⟩) hS (fun H locs hM hX36 hS => ?_)
            obtain ⟨S39, hr38, h⟩ := zb1 h
            refine z_runv (va_runV (As := [.int x17, .int x31, .int r35]) (rest := []) ⟨hx, hb, hml, hown, hg⟩ (c_X1_tell l D cy B h30 hr38) (z_cwV hg zw_446 zw_354 zw_355 zw_6 zw_356 zh_X1_tell ⟨(Nat.le_of_ble_eq_true rfl), (Nat.le_of_ble_eq_true rfl)⟩) (zPV hC hM h30 (by decide) rfl) rfl rfl hl.1 rfl (lv_room (Nat.le_of_ble_eq_true rfl)) dX9_markDive_53 ⟨(Nat.le_of_ble_eq_true rfl), (Nat.le_of_ble_eq_true rfl)⟩) hS (fun H locs hM hX40 hS => ?_)
            have h42 := h29.mo hX40
            have h43 := h30.mo hX40
            have hX44 := hX32.tr hX40
            refine lv_iinc (v := (x17 + (1 : Int32))) (lv' := [(3, .int (x17 + (1 : Int32))), (0, .ref (B + a0)), (1, .int v1), (2, zv B r2)]) hx hb dX9_markDive_56 hl (k := 3) rfl rfl (by decide) (by simp [zv_cat]) (fun ls hl => ?_)
            refine lv_goto (tgt := 14) hx hb dX9_markDive_59 (by decide) ?_
            exact ih14 (x17 + (1 : Int32)) S39 _ _ hM hX44 hS h42 h43 _ (lv_sub hl [1, 2, 3, 0] rfl) h
          refine lv_icmp_ne (tgt := 42) hx hb dX9_markDive_34 (by decide) (fun hc45 => ?_) (fun hc45 => ?_)
          · have h := zf h hc45
            refine lv_iload hx hb dX9_markDive_42 (lv_at hl 0 rfl) ?_
            exact hK33 r22 _ _ hM hX28 hS h26 h27 _ (lv_sub hl [1, 2, 3, 4] rfl) h
          · have h := zt h hc45
            refine lv_bipush (v := (-128 : Int32)) hx hb dX9_markDive_37 (by decide +kernel) ?_
            refine lv_goto (tgt := 44) hx hb dX9_markDive_39 (by decide) ?_
            exact hK33 (-128 : Int32) _ _ hM hX28 hS h26 h27 _ (lv_sub hl [1, 2, 3, 4] rfl) h
    exact hL14 n (0 : Int32) S0 _ _ hM hX0 hS ha0 h6 _ (lv_sub hl [2, 3, 1, 0] rfl) h
  · have h := zt h hc5
    refine lv_iconst (v := (0 : Int32)) hx hb dX9_markDive_10 (by decide +kernel) ?_
    exact z_iret hx hb hr hlk hM hX0 hS (zsp h) dX9_markDive_11
def f_X9_addUp_L26b (n : Nat) (a0 : Nat) (v1 : Int32) (v2 : Int32) (K8 : Int32 → zM → Option (Int32 × zM)) (rec26 : Int32 → Int32 → zM → Option (Int32 × zM)) (x10 : Int32) (x11 : Int32) (S12 : zM) : Option (Int32 × zM) :=
  if (zi S12 a0 7) ≤ x11 then K8 x10 S12 else zChk (¬ (zr S12 a0 9) = 0) (zChk (¬ (x11 < 0 ∨ zln S12 (zr S12 a0 9) ≤ (x11).toNatClampNeg)) (zChk (¬ (zr S12 (zr S12 a0 9) (Int32.toNatClampNeg x11)) = 0) (if (zi S12 (zr S12 (zr S12 a0 9) (Int32.toNatClampNeg x11)) 2) = v1 then zLet (f_X11_within (zi S12 (zr S12 (zr S12 a0 9) (Int32.toNatClampNeg x11)) 3) (8 : Int32)) (fun r23 => if r23 = 0 then rec26 x10 (x11 + (1 : Int32)) S12 else zChk (¬ (zr S12 a0 10) = 0) (zChk (¬ ((zi S12 (zr S12 (zr S12 a0 9) (Int32.toNatClampNeg x11)) 3) < 0 ∨ zln S12 (zr S12 a0 10) ≤ ((zi S12 (zr S12 (zr S12 a0 9) (Int32.toNatClampNeg x11)) 3)).toNatClampNeg)) (zLet (fun (y33 : Int64) (S34 : zM) => zChk (¬ ((zi S12 (zr S12 (zr S12 a0 9) (Int32.toNatClampNeg x11)) 3) < 0 ∨ zln S34 (zr S12 a0 10) ≤ ((zi S12 (zr S12 (zr S12 a0 9) (Int32.toNatClampNeg x11)) 3)).toNatClampNeg)) (zLet (zpL S34 (zr S12 a0 10) (Int32.toNatClampNeg (zi S12 (zr S12 (zr S12 a0 9) (Int32.toNatClampNeg x11)) 3)) ((zl S12 (zr S12 a0 10) (Int32.toNatClampNeg (zi S12 (zr S12 (zr S12 a0 9) (Int32.toNatClampNeg x11)) 3))) + y33)) (fun S38 => rec26 (x10 ||| ((1 : Int32) <<< ((zi S38 (zr S12 (zr S12 a0 9) (Int32.toNatClampNeg x11)) 3) &&& 31))) (x11 + (1 : Int32)) S38))) (fun K36 => if v2 = 0 then zB2 (f_X9_countOf n S12 a0 (zr S12 (zr S12 a0 9) (Int32.toNatClampNeg x11))) (fun r46 S47 => K36 (Int32.toInt64 r46) S47) else zB1 (f_X9_worthOf n S12 a0 (zr S12 (zr S12 a0 9) (Int32.toNatClampNeg x11))) (fun r55 => K36 (Int32.toInt64 (r55 * (zi S12 (zr S12 (zr S12 a0 9) (Int32.toNatClampNeg x11)) 6))) S12))))) else rec26 x10 (x11 + (1 : Int32)) S12)))
def f_X9_addUp_L26 (n : Nat) (a0 : Nat) (v1 : Int32) (v2 : Int32) (K8 : Int32 → zM → Option (Int32 × zM)) : Nat → Int32 → Int32 → zM → Option (Int32 × zM)
  | 0 => fun _ _ _ => none
  | k + 1 => fun x10 x11 S12 => f_X9_addUp_L26b n a0 v1 v2 K8 (f_X9_addUp_L26 n a0 v1 v2 K8 k) x10 x11 S12
def f_X9_addUp_L2b (a0 : Nat) (K4 : zM → Option (Int32 × zM)) (rec2 : Int32 → zM → Option (Int32 × zM)) (x59 : Int32) (S60 : zM) : Option (Int32 × zM) :=
  if (8 : Int32) ≤ x59 then K4 S60 else zChk (¬ (zr S60 a0 10) = 0) (zChk (¬ (x59 < 0 ∨ zln S60 (zr S60 a0 10) ≤ (x59).toNatClampNeg)) (zLet (zpL S60 (zr S60 a0 10) (Int32.toNatClampNeg x59) (0 : Int64)) (fun S66 => rec2 (x59 + (1 : Int32)) S66)))
def f_X9_addUp_L2 (a0 : Nat) (K4 : zM → Option (Int32 × zM)) : Nat → Int32 → zM → Option (Int32 × zM)
  | 0 => fun _ _ => none
  | k + 1 => fun x59 S60 => f_X9_addUp_L2b a0 K4 (f_X9_addUp_L2 a0 K4 k) x59 S60
def f_X9_addUp (n : Nat) (S0 : zM) (a0 : Nat) (v1 : Int32) (v2 : Int32) : Option (Int32 × zM) :=
  zLet (fun (S2 : zM) => zLet (fun (x5 : Int32) (S6 : zM) => some ((x5, S6))) (fun K8 => f_X9_addUp_L26 n a0 v1 v2 K8 n (0 : Int32) (0 : Int32) S2)) (fun K4 => f_X9_addUp_L2 a0 K4 n (0 : Int32) S0)
set_option maxHeartbeats 4000000 in
set_option maxRecDepth 100000 in
theorem c_X9_addUp (l : Launch) (D : va_G) (cy : Nat → ClassId) (B : Nat) {n : Nat} {S0 : zM} {a0 : Nat} {v1 : Int32} {v2 : Int32} {r : Int32} {S' : zM} (ha0 : zA S0 a0 9) (h : f_X9_addUp n S0 a0 v1 v2 = some (r, S')) : Met l yX9_addUp (zws yX9_addUp cX9_addUp 6 ((some .int))) { frames := 4, cells := 0, slots := 0, locals := 93 } (zPc D cy B S0 [.ref (B + a0), .int v1, .int v2]) (zQi D cy B S0 r S') 0 0 (fun q => B < q) := by
  refine Met.ofW (cc := cX9_addUp) (maxL := 6) (ret := ((some .int))) (by decide) rfl ?_
  intro p e s m args below meth c s₁ Bd hml hv
  obtain ⟨rfl, hC, hM⟩ := hv
  obtain ⟨hx, hb, hr, hg, hown, hlk⟩ := z_open Bd
  have hK := hC.1
  have hS : va_S (fun q => B < q) s.heap s.heap [] := va_S.rf
  have hX0 : zX S0 S0 := zX.rf
  refine z_entry (vs := [.ref (B + a0), .int v1, .int v2]) (Nat.le_of_ble_eq_true rfl) (fun ls hl => ?_)
  have hl : lv_has ls 6 [(0, .ref (B + a0)), (1, .int v1), (2, .int v2)] := hl
  unfold f_X9_addUp at h
  refine lv_iconst (v := (0 : Int32)) hx hb dX9_addUp_0 (by decide +kernel) ?_
  refine lv_istore_n (i := 3) (lv' := [(3, .int (0 : Int32)), (0, .ref (B + a0)), (1, .int v1), (2, .int v2)]) hx hb dX9_addUp_1 rfl hl (by decide) rfl (fun ls hl => ?_)
  obtain ⟨K4, eK4, h⟩ := zlg h
  have hK4 : ∀ (S2 : zM) (H : Heap) (locs : List Loc), zMR D cy B S2 H → zX S0 S2 → va_S (fun q => B < q) s.heap H locs → zA S2 a0 9 → ∀ ls : Array Slot, lv_has ls 6 [(0, .ref (B + a0)), (1, .int v1), (2, .int v2)] → K4 S2 = some (r, S') → W p l e (headSpec (zws yX9_addUp cX9_addUp 6 ((some .int))) { frames := 4, cells := 0, slots := 0, locals := 93 }).room s m (([.ref (B + a0), .int v1, .int v2] : List Value).toArray) below meth c H locs 0 0 (MQ below (zQi D cy B S0 r S') (([.ref (B + a0), .int v1, .int v2] : List Value).toArray) s 0 0 (fun q => B < q)) (F0 m 21 ls []) := by
    intro S2 H locs hM hX3 hS h1 ls hl h
    rw [eK4] at h
    refine lv_iconst (v := (0 : Int32)) hx hb dX9_addUp_21 (by decide +kernel) ?_
    refine lv_istore_n (i := 3) (lv' := [(3, .int (0 : Int32)), (0, .ref (B + a0)), (1, .int v1), (2, .int v2)]) hx hb dX9_addUp_22 rfl hl (by decide) rfl (fun ls hl => ?_)
    refine lv_iconst (v := (0 : Int32)) hx hb dX9_addUp_23 (by decide +kernel) ?_
    refine lv_istore (i := 4) (lv' := [(4, .int (0 : Int32)), (3, .int (0 : Int32)), (0, .ref (B + a0)), (1, .int v1), (2, .int v2)]) hx hb dX9_addUp_24 hl (by decide) rfl (fun ls hl => ?_)
    obtain ⟨K8, eK8, h⟩ := zlg h
    have hK8 : ∀ (x5 : Int32) (S6 : zM) (H : Heap) (locs : List Loc), zMR D cy B S6 H → zX S0 S6 → va_S (fun q => B < q) s.heap H locs → ∀ ls : Array Slot, lv_has ls 6 [(3, .int x5)] → K8 x5 S6 = some (r, S') → W p l e (headSpec (zws yX9_addUp cX9_addUp 6 ((some .int))) { frames := 4, cells := 0, slots := 0, locals := 93 }).room s m (([.ref (B + a0), .int v1, .int v2] : List Value).toArray) below meth c H locs 0 0 (MQ below (zQi D cy B S0 r S') (([.ref (B + a0), .int v1, .int v2] : List Value).toArray) s 0 0 (fun q => B < q)) (F0 m 122 ls []) := by
      intro x5 S6 H locs hM hX7 hS ls hl h
      rw [eK8] at h
      refine lv_iload_n hx hb dX9_addUp_122 rfl (lv_at hl 0 rfl) ?_
      exact z_iret hx hb hr hlk hM hX7 hS (zsp h) dX9_addUp_123
    have hL26 : ∀ (k : Nat) (x10 : Int32) (x11 : Int32) (S12 : zM) (H : Heap) (locs : List Loc), zMR D cy B S12 H → zX S0 S12 → va_S (fun q => B < q) s.heap H locs → zA S12 a0 9 → ∀ ls : Array Slot, lv_has ls 6 [(0, .ref (B + a0)), (1, .int v1), (2, .int v2), (3, .int x10), (4, .int x11)] → f_X9_addUp_L26 n a0 v1 v2 K8 k x10 x11 S12 = some (r, S') → W p l e (headSpec (zws yX9_addUp cX9_addUp 6 ((some .int))) { frames := 4, cells := 0, slots := 0, locals := 93 }).room s m (([.ref (B + a0), .int v1, .int v2] : List Value).toArray) below meth c H locs 0 0 (MQ below (zQi D cy B S0 r S') (([.ref (B + a0), .int v1, .int v2] : List Value).toArray) s 0 0 (fun q => B < q)) (F0 m 26 ls []) := by
      intro k
      induction k with
      | zero =>
        intro x10 x11 S12 H locs hM hX13 hS h9 ls hl h
        exact znone h
      | succ k ih26 =>
        intro x10 x11 S12 H locs hM hX13 hS h9 ls hl h
        replace h : f_X9_addUp_L26b n a0 v1 v2 K8 (f_X9_addUp_L26 n a0 v1 v2 K8 k) x10 x11 S12 = some (r, S') := h
        generalize f_X9_addUp_L26 n a0 v1 v2 K8 k = rec26 at ih26 h
        unfold f_X9_addUp_L26b at h
        refine lv_iload hx hb dX9_addUp_26 (lv_at hl 4 rfl) ?_
        refine lv_aload_n hx hb dX9_addUp_28 rfl (lv_at hl 0 rfl) ?_
        refine z_getI hx hb hg zin_9 hown hK hM h9 7 rfl (by decide) (hg _ zw_139) (fun _ h9 => h9) dX9_addUp_29 ?_
        refine lv_icmp_ge (tgt := 122) hx hb dX9_addUp_32 (by decide) (fun hc14 => ?_) (fun hc14 => ?_)
        · have h := zt h hc14
          exact hK8 x10 S12 _ _ hM hX13 hS _ (lv_sub hl [3] rfl) h
        · have h := zf h hc14
          refine lv_aload_n hx hb dX9_addUp_35 rfl (lv_at hl 0 rfl) ?_
          obtain ⟨hq16, h⟩ := zk h
          refine z_getN hx hb hg zin_9 hown hK hM h9 9 rfl (by decide) (hg _ zw_142) (fun _ h9 => h9) hq16 dX9_addUp_36 (fun h15 => ?_)
          refine lv_iload hx hb dX9_addUp_39 (lv_at hl 4 rfl) ?_
          obtain ⟨hq17, h⟩ := zk h
          refine z_aald hx hb hK hM h15 (by decide) rfl hq17 dX9_addUp_41 (fun h18 => ?_)
          have h18 : zQ S12 (zr S12 (zr S12 a0 9) (Int32.toNatClampNeg x11)) 1 := h18
          refine z_astore (i := 5) (lv' := [(5, zv B (zr S12 (zr S12 a0 9) (Int32.toNatClampNeg x11))), (0, .ref (B + a0)), (1, .int v1), (2, .int v2), (3, .int x10), (4, .int x11)]) hx hb dX9_addUp_42 hl (by decide) rfl (fun ls hl => ?_)
          obtain ⟨hq19, h⟩ := zk h
          have h20 := h18.nn hq19
          refine z_aloadR hx hb dX9_addUp_44 (lv_at hl 0 rfl) h20.1 ?_
          refine z_getI hx hb hg zin_1 hown hK hM h20 2 rfl (by decide) (hg _ zw_101) (fun _ h9 => h9) dX9_addUp_46 ?_
          refine lv_iload_n hx hb dX9_addUp_49 rfl (lv_at hl 2 rfl) ?_
          refine lv_icmp_ne (tgt := 116) hx hb dX9_addUp_50 (by decide) (fun hc21 => ?_) (fun hc21 => ?_)
          · have h := zf h hc21
            refine lv_iinc (v := (x11 + (1 : Int32))) (lv' := [(4, .int (x11 + (1 : Int32))), (5, zv B (zr S12 (zr S12 a0 9) (Int32.toNatClampNeg x11))), (0, .ref (B + a0)), (1, .int v1), (2, .int v2), (3, .int x10)]) hx hb dX9_addUp_116 hl (k := 5) rfl rfl (by decide) rfl (fun ls hl => ?_)
            refine lv_goto (tgt := 26) hx hb dX9_addUp_119 (by decide) ?_
            exact ih26 x10 (x11 + (1 : Int32)) S12 _ _ hM hX13 hS h9 _ (lv_sub hl [2, 3, 4, 5, 0] rfl) h
          · have h := zt h hc21
            refine z_aloadR hx hb dX9_addUp_53 (lv_at hl 0 rfl) h20.1 ?_
            refine z_getI hx hb hg zin_1 hown hK hM h20 3 rfl (by decide) (hg _ zw_104) (fun _ h9 => h9) dX9_addUp_55 ?_
            refine lv_bipush (v := (8 : Int32)) hx hb dX9_addUp_58 (by decide +kernel) ?_
            obtain ⟨r23, hr22, h⟩ := zlg h
            have hr22 := hr22.symm
            refine z_runi (va_runSN (As := [.int (zi S12 (zr S12 (zr S12 a0 9) (Int32.toNatClampNeg x11)) 3), .int (8 : Int32)]) (rest := []) ⟨hx, hb, hml, hown, hg⟩ (c_X11_within l D cy B hr22) ⟨z_cnB hg hC (List.mem_of_getElem? (i := 9) rfl) zw_2 zw_292 zh_X11_within.2 ⟨(Nat.le_of_ble_eq_true rfl), (Nat.le_of_ble_eq_true rfl)⟩, hg _ zw_291, trivial⟩ (zPS hC hM) rfl rfl hl.1 rfl (lv_room (Nat.le_of_ble_eq_true rfl)) dX9_addUp_60 ⟨(Nat.le_of_ble_eq_true rfl), (Nat.le_of_ble_eq_true rfl)⟩) hS (fun H locs hM hX24 hS => ?_)
            refine lv_if_eq (tgt := 116) hx hb dX9_addUp_63 (by decide) (fun hc26 => ?_) (fun hc26 => ?_)
            · have h := zt h hc26
              refine lv_iinc (v := (x11 + (1 : Int32))) (lv' := [(4, .int (x11 + (1 : Int32))), (5, zv B (zr S12 (zr S12 a0 9) (Int32.toNatClampNeg x11))), (0, .ref (B + a0)), (1, .int v1), (2, .int v2), (3, .int x10)]) hx hb dX9_addUp_116 hl (k := 5) rfl rfl (by decide) rfl (fun ls hl => ?_)
              refine lv_goto (tgt := 26) hx hb dX9_addUp_119 (by decide) ?_
              exact ih26 x10 (x11 + (1 : Int32)) S12 _ _ hM hX13 hS h9 _ (lv_sub hl [2, 3, 4, 5, 0] rfl) h
            · have h := zf h hc26
              refine lv_aload_n hx hb dX9_addUp_66 rfl (lv_at hl 1 rfl) ?_
              obtain ⟨hq28, h⟩ := zk h
              refine z_getN hx hb hg zin_9 hown hK hM h9 10 rfl (by decide) (hg _ zw_143) (fun _ h9 => h9) hq28 dX9_addUp_67 (fun h27 => ?_)
              refine z_aloadR hx hb dX9_addUp_70 (lv_at hl 0 rfl) h20.1 ?_
              refine z_getI hx hb hg zin_1 hown hK hM h20 3 rfl (by decide) (hg _ zw_104) (fun _ h9 => h9) dX9_addUp_72 ?_
              refine lv_dup2_11 hx hb dX9_addUp_75 rfl rfl ?_
              obtain ⟨hq29, h⟩ := zk h
              refine z_lald hx hb hK hM h27 hq29 dX9_addUp_76 ?_
              refine lv_iload_n hx hb dX9_addUp_77 rfl (lv_at hl 3 rfl) ?_
              obtain ⟨K36, eK36, h⟩ := zlg h
              have hK36 : ∀ (y33 : Int64) (S34 : zM) (H : Heap) (locs : List Loc), zMR D cy B S34 H → zX S0 S34 → va_S (fun q => B < q) s.heap H locs → zA S34 a0 9 → zA S34 (zr S12 (zr S12 a0 9) (Int32.toNatClampNeg x11)) 1 → zA S34 (zr S12 a0 10) 21 → ∀ ls : Array Slot, lv_has ls 6 [(0, .ref (B + a0)), (1, .int v1), (2, .int v2), (3, .int x10), (4, .int x11), (5, zv B (zr S12 (zr S12 a0 9) (Int32.toNatClampNeg x11)))] → K36 y33 S34 = some (r, S') → W p l e (headSpec (zws yX9_addUp cX9_addUp 6 ((some .int))) { frames := 4, cells := 0, slots := 0, locals := 93 }).room s m (([.ref (B + a0), .int v1, .int v2] : List Value).toArray) below meth c H locs 0 0 (MQ below (zQi D cy B S0 r S') (([.ref (B + a0), .int v1, .int v2] : List Value).toArray) s 0 0 (fun q => B < q)) (F0 m 104 ls [.long y33, .long (zl S12 (zr S12 a0 10) (Int32.toNatClampNeg (zi S12 (zr S12 (zr S12 a0 9) (Int32.toNatClampNeg x11)) 3))), .int (zi S12 (zr S12 (zr S12 a0 9) (Int32.toNatClampNeg x11)) 3), .ref (B + (zr S12 a0 10))]) := by
                intro y33 S34 H locs hM hX35 hS h30 h31 h32 ls hl h
                rw [eK36] at h
                refine lv_ladd hx hb dX9_addUp_104 ?_
                obtain ⟨hq37, h⟩ := zk h
                refine z_last hx hb hK hM hS h32 hq37 dX9_addUp_105 (fun H locs hM hS => ?_)
                obtain ⟨S38, e39, h⟩ := zlg h
                rw [← e39] at hM
                have hX40 : zX S34 S38 := by rw [e39]; exact zX_pL
                have h41 := h30.mo hX40
                have h42 := h31.mo hX40
                have hX43 := hX35.tr hX40
                refine lv_iload_n hx hb dX9_addUp_106 rfl (lv_at hl 3 rfl) ?_
                refine lv_iconst (v := (1 : Int32)) hx hb dX9_addUp_107 (by decide +kernel) ?_
                refine z_aloadR hx hb dX9_addUp_108 (lv_at hl 5 rfl) h42.1 ?_
                refine z_getI hx hb hg zin_1 hown hK hM h42 3 rfl (by decide) (hg _ zw_104) (fun _ h9 => h9) dX9_addUp_110 ?_
                refine lv_ishl hx hb dX9_addUp_113 ?_
                refine lv_ior hx hb dX9_addUp_114 ?_
                refine lv_istore_n (i := 3) (lv' := [(3, .int (x10 ||| ((1 : Int32) <<< ((zi S38 (zr S12 (zr S12 a0 9) (Int32.toNatClampNeg x11)) 3) &&& 31)))), (0, .ref (B + a0)), (1, .int v1), (2, .int v2), (4, .int x11), (5, zv B (zr S12 (zr S12 a0 9) (Int32.toNatClampNeg x11)))]) hx hb dX9_addUp_115 rfl hl (by decide) rfl (fun ls hl => ?_)
                refine lv_iinc (v := (x11 + (1 : Int32))) (lv' := [(4, .int (x11 + (1 : Int32))), (3, .int (x10 ||| ((1 : Int32) <<< ((zi S38 (zr S12 (zr S12 a0 9) (Int32.toNatClampNeg x11)) 3) &&& 31)))), (0, .ref (B + a0)), (1, .int v1), (2, .int v2), (5, zv B (zr S12 (zr S12 a0 9) (Int32.toNatClampNeg x11)))]) hx hb dX9_addUp_116 hl (k := 4) rfl rfl (by decide) rfl (fun ls hl => ?_)
                refine lv_goto (tgt := 26) hx hb dX9_addUp_119 (by decide) ?_
                exact ih26 (x10 ||| ((1 : Int32) <<< ((zi S38 (zr S12 (zr S12 a0 9) (Int32.toNatClampNeg x11)) 3) &&& 31))) (x11 + (1 : Int32)) S38 _ _ hM hX43 hS h41 _ (lv_sub hl [2, 3, 4, 1, 0] rfl) h
              refine lv_if_eq (tgt := 97) hx hb dX9_addUp_78 (by decide) (fun hc44 => ?_) (fun hc44 => ?_)
              · have h := zt h hc44
                refine lv_aload_n hx hb dX9_addUp_97 rfl (lv_at hl 1 rfl) ?_
                refine z_aloadR hx hb dX9_addUp_98 (lv_at hl 0 rfl) h20.1 ?_
                obtain ⟨r46, S47, hr45, h⟩ := zb2 h
                refine z_runi (va_runV (As := [.ref (B + (zr S12 (zr S12 a0 9) (Int32.toNatClampNeg x11)))]) (rest := [.long (zl S12 (zr S12 a0 10) (Int32.toNatClampNeg (zi S12 (zr S12 (zr S12 a0 9) (Int32.toNatClampNeg x11)) 3))), .int (zi S12 (zr S12 (zr S12 a0 9) (Int32.toNatClampNeg x11)) 3), .ref (B + (zr S12 a0 10))]) ⟨hx, hb, hml, hown, hg⟩ (c_X9_countOf l D cy B h9 h20 hr45) (z_cwV hg zw_589 zw_542 zw_543 zw_3 zw_544 zh_X9_countOf ⟨(Nat.le_of_ble_eq_true rfl), (Nat.le_of_ble_eq_true rfl)⟩) (zPV hC hM h9 (by decide) rfl) rfl rfl hl.1 rfl (lv_room (Nat.le_of_ble_eq_true rfl)) dX9_addUp_100 ⟨(Nat.le_of_ble_eq_true rfl), (Nat.le_of_ble_eq_true rfl)⟩) hS (fun H locs hM hX48 hS => ?_)
                have h50 := h9.mo hX48
                have h51 := h20.mo hX48
                have h52 := h27.mo hX48
                have hX53 := hX13.tr hX48
                refine lv_i2l hx hb dX9_addUp_103 rfl ?_
                exact hK36 (Int32.toInt64 r46) S47 _ _ hM hX53 hS h50 h51 h52 _ (lv_sub hl [1, 2, 3, 4, 5, 0] rfl) h
              · have h := zf h hc44
                refine lv_aload_n hx hb dX9_addUp_81 rfl (lv_at hl 1 rfl) ?_
                refine z_aloadR hx hb dX9_addUp_82 (lv_at hl 0 rfl) h20.1 ?_
                obtain ⟨r55, hr54, h⟩ := zb1 h
                refine z_runi (va_runV (As := [.ref (B + (zr S12 (zr S12 a0 9) (Int32.toNatClampNeg x11)))]) (rest := [.long (zl S12 (zr S12 a0 10) (Int32.toNatClampNeg (zi S12 (zr S12 (zr S12 a0 9) (Int32.toNatClampNeg x11)) 3))), .int (zi S12 (zr S12 (zr S12 a0 9) (Int32.toNatClampNeg x11)) 3), .ref (B + (zr S12 a0 10))]) ⟨hx, hb, hml, hown, hg⟩ (c_X9_worthOf l D cy B h9 h20 hr54) (z_cwV hg zw_588 zw_367 zw_368 zw_3 zw_369 zh_X9_worthOf ⟨(Nat.le_of_ble_eq_true rfl), (Nat.le_of_ble_eq_true rfl)⟩) (zPV hC hM h9 (by decide) rfl) rfl rfl hl.1 rfl (lv_room (Nat.le_of_ble_eq_true rfl)) dX9_addUp_84 ⟨(Nat.le_of_ble_eq_true rfl), (Nat.le_of_ble_eq_true rfl)⟩) hS (fun H locs hM hX56 hS => ?_)
                refine z_aloadR hx hb dX9_addUp_87 (lv_at hl 0 rfl) h20.1 ?_
                refine z_getI hx hb hg zin_1 hown hK hM h20 6 rfl (by decide) (hg _ zw_115) (fun _ h9 => h9) dX9_addUp_89 ?_
                refine lv_imul hx hb dX9_addUp_92 ?_
                refine lv_i2l hx hb dX9_addUp_93 rfl ?_
                refine lv_goto (tgt := 104) hx hb dX9_addUp_94 (by decide) ?_
                exact hK36 (Int32.toInt64 (r55 * (zi S12 (zr S12 (zr S12 a0 9) (Int32.toNatClampNeg x11)) 6))) S12 _ _ hM hX13 hS h9 h20 h27 _ (lv_sub hl [1, 2, 3, 4, 5, 0] rfl) h
    exact hL26 n (0 : Int32) (0 : Int32) S2 _ _ hM hX3 hS h1 _ (lv_sub hl [2, 3, 4, 1, 0] rfl) h
  have hL2 : ∀ (k : Nat) (x59 : Int32) (S60 : zM) (H : Heap) (locs : List Loc), zMR D cy B S60 H → zX S0 S60 → va_S (fun q => B < q) s.heap H locs → zA S60 a0 9 → ∀ ls : Array Slot, lv_has ls 6 [(0, .ref (B + a0)), (1, .int v1), (2, .int v2), (3, .int x59)] → f_X9_addUp_L2 a0 K4 k x59 S60 = some (r, S') → W p l e (headSpec (zws yX9_addUp cX9_addUp 6 ((some .int))) { frames := 4, cells := 0, slots := 0, locals := 93 }).room s m (([.ref (B + a0), .int v1, .int v2] : List Value).toArray) below meth c H locs 0 0 (MQ below (zQi D cy B S0 r S') (([.ref (B + a0), .int v1, .int v2] : List Value).toArray) s 0 0 (fun q => B < q)) (F0 m 2 ls []) := by
    intro k
    induction k with
    | zero =>
      intro x59 S60 H locs hM hX61 hS h58 ls hl h
      exact znone h
    | succ k ih2 =>
      intro x59 S60 H locs hM hX61 hS h58 ls hl h
      replace h : f_X9_addUp_L2b a0 K4 (f_X9_addUp_L2 a0 K4 k) x59 S60 = some (r, S') := h
      generalize f_X9_addUp_L2 a0 K4 k = rec2 at ih2 h
      unfold f_X9_addUp_L2b at h
      refine lv_iload_n hx hb dX9_addUp_2 rfl (lv_at hl 3 rfl) ?_
      refine lv_bipush (v := (8 : Int32)) hx hb dX9_addUp_3 (by decide +kernel) ?_
      refine lv_icmp_ge (tgt := 21) hx hb dX9_addUp_5 (by decide) (fun hc62 => ?_) (fun hc62 => ?_)
      · have h := zt h hc62
        exact hK4 S60 _ _ hM hX61 hS h58 _ (lv_sub hl [0, 1, 2] rfl) h
      · have h := zf h hc62
        refine lv_aload_n hx hb dX9_addUp_8 rfl (lv_at hl 0 rfl) ?_
        obtain ⟨hq64, h⟩ := zk h
        refine z_getN hx hb hg zin_9 hown hK hM h58 10 rfl (by decide) (hg _ zw_143) (fun _ h9 => h9) hq64 dX9_addUp_9 (fun h63 => ?_)
        refine lv_iload_n hx hb dX9_addUp_12 rfl (lv_at hl 3 rfl) ?_
        refine lv_lconst (v := (0 : Int64)) hx hb dX9_addUp_13 (by decide +kernel) ?_
        obtain ⟨hq65, h⟩ := zk h
        refine z_last hx hb hK hM hS h63 hq65 dX9_addUp_14 (fun H locs hM hS => ?_)
        obtain ⟨S66, e67, h⟩ := zlg h
        rw [← e67] at hM
        have hX68 : zX S60 S66 := by rw [e67]; exact zX_pL
        have h69 := h58.mo hX68
        have hX70 := hX61.tr hX68
        refine lv_iinc (v := (x59 + (1 : Int32))) (lv' := [(3, .int (x59 + (1 : Int32))), (0, .ref (B + a0)), (1, .int v1), (2, .int v2)]) hx hb dX9_addUp_15 hl (k := 3) rfl rfl (by decide) rfl (fun ls hl => ?_)
        refine lv_goto (tgt := 2) hx hb dX9_addUp_18 (by decide) ?_
        exact ih2 (x59 + (1 : Int32)) S66 _ _ hM hX70 hS h69 _ (lv_sub hl [1, 2, 3, 0] rfl) h
  exact hL2 n (0 : Int32) S0 _ _ hM hX0 hS ha0 _ (lv_sub hl [1, 2, 3, 0] rfl) h
def f_X9_placeOf_L35b (a0 : Nat) (v2 : Int32) (r2 : Int32) (S3 : zM) (K20 : Int32 → Option (Int32 × zM)) (rec35 : Int32 → Int32 → Option (Int32 × zM)) (x22 : Int32) (x23 : Int32) : Option (Int32 × zM) :=
  if (8 : Int32) ≤ x23 then K20 x22 else zLet (f_X11_holds r2 x23) (fun r27 => if r27 = 0 then rec35 x22 (x23 + (1 : Int32)) else zChk (¬ (zr S3 a0 10) = 0) (zChk (¬ (x23 < 0 ∨ zln S3 (zr S3 a0 10) ≤ (x23).toNatClampNeg)) (zChk (¬ (v2 < 0 ∨ zln S3 (zr S3 a0 10) ≤ (v2).toNatClampNeg)) (if (lg_cmp (zl S3 (zr S3 a0 10) (Int32.toNatClampNeg x23)) (zl S3 (zr S3 a0 10) (Int32.toNatClampNeg v2))) ≤ 0 then rec35 x22 (x23 + (1 : Int32)) else rec35 (x22 + (1 : Int32)) (x23 + (1 : Int32))))))
def f_X9_placeOf_L35 (a0 : Nat) (v2 : Int32) (r2 : Int32) (S3 : zM) (K20 : Int32 → Option (Int32 × zM)) : Nat → Int32 → Int32 → Option (Int32 × zM)
  | 0 => fun _ _ => none
  | k + 1 => fun x22 x23 => f_X9_placeOf_L35b a0 v2 r2 S3 K20 (f_X9_placeOf_L35 a0 v2 r2 S3 K20 k) x22 x23
def f_X9_placeOf (n : Nat) (S0 : zM) (a0 : Nat) (v1 : Int32) (v2 : Int32) (v3 : Int32) : Option (Int32 × zM) :=
  zB2 (f_X9_addUp n S0 a0 v1 v3) (fun r2 S3 => zLet (f_X11_within v2 (8 : Int32)) (fun r9 => if r9 = 0 then some (((-4 : Int32), S3)) else zLet (f_X11_holds r2 v2) (fun r14 => if r14 = 0 then some (((-4 : Int32), S3)) else zLet (fun (x18 : Int32) => some ((x18, S3))) (fun K20 => f_X9_placeOf_L35 a0 v2 r2 S3 K20 n (1 : Int32) (0 : Int32)))))
set_option maxHeartbeats 4000000 in
set_option maxRecDepth 100000 in
theorem c_X9_placeOf (l : Launch) (D : va_G) (cy : Nat → ClassId) (B : Nat) {n : Nat} {S0 : zM} {a0 : Nat} {v1 : Int32} {v2 : Int32} {v3 : Int32} {r : Int32} {S' : zM} (ha0 : zA S0 a0 9) (h : f_X9_placeOf n S0 a0 v1 v2 v3 = some (r, S')) : Met l yX9_placeOf (zws yX9_placeOf cX9_placeOf 7 ((some .int))) { frames := 5, cells := 0, slots := 0, locals := 118 } (zPc D cy B S0 [.ref (B + a0), .int v1, .int v2, .int v3]) (zQi D cy B S0 r S') 0 0 (fun q => B < q) := by
  refine Met.ofW (cc := cX9_placeOf) (maxL := 7) (ret := ((some .int))) (by decide) rfl ?_
  intro p e s m args below meth c s₁ Bd hml hv
  obtain ⟨rfl, hC, hM⟩ := hv
  obtain ⟨hx, hb, hr, hg, hown, hlk⟩ := z_open Bd
  have hK := hC.1
  have hS : va_S (fun q => B < q) s.heap s.heap [] := va_S.rf
  have hX0 : zX S0 S0 := zX.rf
  refine z_entry (vs := [.ref (B + a0), .int v1, .int v2, .int v3]) (Nat.le_of_ble_eq_true rfl) (fun ls hl => ?_)
  have hl : lv_has ls 7 [(0, .ref (B + a0)), (1, .int v1), (2, .int v2), (3, .int v3)] := hl
  unfold f_X9_placeOf at h
  refine lv_aload_n hx hb dX9_placeOf_0 rfl (lv_at hl 0 rfl) ?_
  refine lv_iload_n hx hb dX9_placeOf_1 rfl (lv_at hl 1 rfl) ?_
  refine lv_iload_n hx hb dX9_placeOf_2 rfl (lv_at hl 3 rfl) ?_
  obtain ⟨r2, S3, hr1, h⟩ := zb2 h
  refine z_runi (va_runV (As := [.int v1, .int v3]) (rest := []) ⟨hx, hb, hml, hown, hg⟩ (c_X9_addUp l D cy B ha0 hr1) (z_cwV hg zw_601 zw_585 zw_586 zw_3 zw_587 zh_X9_addUp ⟨(Nat.le_of_ble_eq_true rfl), (Nat.le_of_ble_eq_true rfl)⟩) (zPV hC hM ha0 (by decide) rfl) rfl rfl hl.1 rfl (lv_room (Nat.le_of_ble_eq_true rfl)) dX9_placeOf_3 ⟨(Nat.le_of_ble_eq_true rfl), (Nat.le_of_ble_eq_true rfl)⟩) hS (fun H locs hM hX4 hS => ?_)
  have h6 := ha0.mo hX4
  have hX7 := hX0.tr hX4
  refine lv_istore (i := 4) (lv' := [(4, .int r2), (0, .ref (B + a0)), (1, .int v1), (2, .int v2), (3, .int v3)]) hx hb dX9_placeOf_6 hl (by decide) rfl (fun ls hl => ?_)
  refine lv_iload_n hx hb dX9_placeOf_8 rfl (lv_at hl 3 rfl) ?_
  refine lv_bipush (v := (8 : Int32)) hx hb dX9_placeOf_9 (by decide +kernel) ?_
  obtain ⟨r9, hr8, h⟩ := zlg h
  have hr8 := hr8.symm
  refine z_runi (va_runSN (As := [.int v2, .int (8 : Int32)]) (rest := []) ⟨hx, hb, hml, hown, hg⟩ (c_X11_within l D cy B hr8) ⟨z_cnB hg hC (List.mem_of_getElem? (i := 9) rfl) zw_2 zw_292 zh_X11_within.2 ⟨(Nat.le_of_ble_eq_true rfl), (Nat.le_of_ble_eq_true rfl)⟩, hg _ zw_291, trivial⟩ (zPS hC hM) rfl rfl hl.1 rfl (lv_room (Nat.le_of_ble_eq_true rfl)) dX9_placeOf_11 ⟨(Nat.le_of_ble_eq_true rfl), (Nat.le_of_ble_eq_true rfl)⟩) hS (fun H locs hM hX10 hS => ?_)
  refine lv_if_eq (tgt := 26) hx hb dX9_placeOf_14 (by decide) (fun hc12 => ?_) (fun hc12 => ?_)
  · have h := zt h hc12
    refine lv_bipush (v := (-4 : Int32)) hx hb dX9_placeOf_26 (by decide +kernel) ?_
    exact z_iret hx hb hr hlk hM hX7 hS (zsp h) dX9_placeOf_28
  · have h := zf h hc12
    refine lv_iload hx hb dX9_placeOf_17 (lv_at hl 0 rfl) ?_
    refine lv_iload_n hx hb dX9_placeOf_19 rfl (lv_at hl 3 rfl) ?_
    obtain ⟨r14, hr13, h⟩ := zlg h
    have hr13 := hr13.symm
    refine z_runi (va_runSN (As := [.int r2, .int v2]) (rest := []) ⟨hx, hb, hml, hown, hg⟩ (c_X11_holds l D cy B hr13) ⟨z_cnB hg hC (List.mem_of_getElem? (i := 14) rfl) zw_2 zw_592 zh_X11_holds.2 ⟨(Nat.le_of_ble_eq_true rfl), (Nat.le_of_ble_eq_true rfl)⟩, hg _ zw_591, trivial⟩ (zPS hC hM) rfl rfl hl.1 rfl (lv_room (Nat.le_of_ble_eq_true rfl)) dX9_placeOf_20 ⟨(Nat.le_of_ble_eq_true rfl), (Nat.le_of_ble_eq_true rfl)⟩) hS (fun H locs hM hX15 hS => ?_)
    refine lv_if_ne (tgt := 29) hx hb dX9_placeOf_23 (by decide) (fun hc17 => ?_) (fun hc17 => ?_)
    · have h := zf h hc17
      refine lv_iconst (v := (1 : Int32)) hx hb dX9_placeOf_29 (by decide +kernel) ?_
      refine lv_istore (i := 5) (lv' := [(5, .int (1 : Int32)), (4, .int r2), (0, .ref (B + a0)), (1, .int v1), (2, .int v2), (3, .int v3)]) hx hb dX9_placeOf_30 hl (by decide) rfl (fun ls hl => ?_)
      refine lv_iconst (v := (0 : Int32)) hx hb dX9_placeOf_32 (by decide +kernel) ?_
      refine lv_istore (i := 6) (lv' := [(6, .int (0 : Int32)), (5, .int (1 : Int32)), (4, .int r2), (0, .ref (B + a0)), (1, .int v1), (2, .int v2), (3, .int v3)]) hx hb dX9_placeOf_33 hl (by decide) rfl (fun ls hl => ?_)
      obtain ⟨K20, eK20, h⟩ := zlg h
      have hK20 : ∀ (x18 : Int32) (H : Heap) (locs : List Loc), zMR D cy B S3 H → zX S0 S3 → va_S (fun q => B < q) s.heap H locs → ∀ ls : Array Slot, lv_has ls 7 [(5, .int x18)] → K20 x18 = some (r, S') → W p l e (headSpec (zws yX9_placeOf cX9_placeOf 7 ((some .int))) { frames := 5, cells := 0, slots := 0, locals := 118 }).room s m (([.ref (B + a0), .int v1, .int v2, .int v3] : List Value).toArray) below meth c H locs 0 0 (MQ below (zQi D cy B S0 r S') (([.ref (B + a0), .int v1, .int v2, .int v3] : List Value).toArray) s 0 0 (fun q => B < q)) (F0 m 78 ls []) := by
        intro x18 H locs hM hX19 hS ls hl h
        rw [eK20] at h
        refine lv_iload hx hb dX9_placeOf_78 (lv_at hl 0 rfl) ?_
        exact z_iret hx hb hr hlk hM hX19 hS (zsp h) dX9_placeOf_80
      have hL35 : ∀ (k : Nat) (x22 : Int32) (x23 : Int32) (H : Heap) (locs : List Loc), zMR D cy B S3 H → zX S0 S3 → va_S (fun q => B < q) s.heap H locs → zA S3 a0 9 → ∀ ls : Array Slot, lv_has ls 7 [(0, .ref (B + a0)), (2, .int v2), (4, .int r2), (5, .int x22), (6, .int x23)] → f_X9_placeOf_L35 a0 v2 r2 S3 K20 k x22 x23 = some (r, S') → W p l e (headSpec (zws yX9_placeOf cX9_placeOf 7 ((some .int))) { frames := 5, cells := 0, slots := 0, locals := 118 }).room s m (([.ref (B + a0), .int v1, .int v2, .int v3] : List Value).toArray) below meth c H locs 0 0 (MQ below (zQi D cy B S0 r S') (([.ref (B + a0), .int v1, .int v2, .int v3] : List Value).toArray) s 0 0 (fun q => B < q)) (F0 m 35 ls []) := by
        intro k
        induction k with
        | zero =>
          intro x22 x23 H locs hM hX24 hS h21 ls hl h
          exact znone h
        | succ k ih35 =>
          intro x22 x23 H locs hM hX24 hS h21 ls hl h
          replace h : f_X9_placeOf_L35b a0 v2 r2 S3 K20 (f_X9_placeOf_L35 a0 v2 r2 S3 K20 k) x22 x23 = some (r, S') := h
          generalize f_X9_placeOf_L35 a0 v2 r2 S3 K20 k = rec35 at ih35 h
          unfold f_X9_placeOf_L35b at h
          refine lv_iload hx hb dX9_placeOf_35 (lv_at hl 4 rfl) ?_
          refine lv_bipush (v := (8 : Int32)) hx hb dX9_placeOf_37 (by decide +kernel) ?_
          refine lv_icmp_ge (tgt := 78) hx hb dX9_placeOf_39 (by decide) (fun hc25 => ?_) (fun hc25 => ?_)
          · have h := zt h hc25
            exact hK20 x22 _ _ hM hX24 hS _ (lv_sub hl [3] rfl) h
          · have h := zf h hc25
            refine lv_iload hx hb dX9_placeOf_42 (lv_at hl 2 rfl) ?_
            refine lv_iload hx hb dX9_placeOf_44 (lv_at hl 4 rfl) ?_
            obtain ⟨r27, hr26, h⟩ := zlg h
            have hr26 := hr26.symm
            refine z_runi (va_runSN (As := [.int r2, .int x23]) (rest := []) ⟨hx, hb, hml, hown, hg⟩ (c_X11_holds l D cy B hr26) ⟨z_cnB hg hC (List.mem_of_getElem? (i := 14) rfl) zw_2 zw_592 zh_X11_holds.2 ⟨(Nat.le_of_ble_eq_true rfl), (Nat.le_of_ble_eq_true rfl)⟩, hg _ zw_591, trivial⟩ (zPS hC hM) rfl rfl hl.1 rfl (lv_room (Nat.le_of_ble_eq_true rfl)) dX9_placeOf_46 ⟨(Nat.le_of_ble_eq_true rfl), (Nat.le_of_ble_eq_true rfl)⟩) hS (fun H locs hM hX28 hS => ?_)
            refine lv_if_eq (tgt := 72) hx hb dX9_placeOf_49 (by decide) (fun hc30 => ?_) (fun hc30 => ?_)
            · have h := zt h hc30
              refine lv_iinc (v := (x23 + (1 : Int32))) (lv' := [(6, .int (x23 + (1 : Int32))), (0, .ref (B + a0)), (2, .int v2), (4, .int r2), (5, .int x22)]) hx hb dX9_placeOf_72 hl (k := 4) rfl rfl (by decide) rfl (fun ls hl => ?_)
              refine lv_goto (tgt := 35) hx hb dX9_placeOf_75 (by decide) ?_
              exact ih35 x22 (x23 + (1 : Int32)) _ _ hM hX24 hS h21 _ (lv_sub hl [1, 2, 3, 4, 0] rfl) h
            · have h := zf h hc30
              refine lv_aload_n hx hb dX9_placeOf_52 rfl (lv_at hl 0 rfl) ?_
              obtain ⟨hq32, h⟩ := zk h
              refine z_getN hx hb hg zin_9 hown hK hM h21 10 rfl (by decide) (hg _ zw_143) (fun _ h9 => h9) hq32 dX9_placeOf_53 (fun h31 => ?_)
              refine lv_iload hx hb dX9_placeOf_56 (lv_at hl 4 rfl) ?_
              obtain ⟨hq33, h⟩ := zk h
              refine z_lald hx hb hK hM h31 hq33 dX9_placeOf_58 ?_
              refine lv_aload_n hx hb dX9_placeOf_59 rfl (lv_at hl 0 rfl) ?_
              refine z_getN hx hb hg zin_9 hown hK hM h21 10 rfl (by decide) (hg _ zw_143) (fun _ h9 => h9) h31.ne dX9_placeOf_60 (fun h34 => ?_)
              refine lv_iload_n hx hb dX9_placeOf_63 rfl (lv_at hl 1 rfl) ?_
              obtain ⟨hq35, h⟩ := zk h
              refine z_lald hx hb hK hM h34 hq35 dX9_placeOf_64 ?_
              refine W.lcmp hx hb dX9_placeOf_65 ?_
              refine lv_if_le (tgt := 72) hx hb dX9_placeOf_66 (by decide) (fun hc36 => ?_) (fun hc36 => ?_)
              · have h := zt h hc36
                refine lv_iinc (v := (x23 + (1 : Int32))) (lv' := [(6, .int (x23 + (1 : Int32))), (0, .ref (B + a0)), (2, .int v2), (4, .int r2), (5, .int x22)]) hx hb dX9_placeOf_72 hl (k := 4) rfl rfl (by decide) rfl (fun ls hl => ?_)
                refine lv_goto (tgt := 35) hx hb dX9_placeOf_75 (by decide) ?_
                exact ih35 x22 (x23 + (1 : Int32)) _ _ hM hX24 hS h21 _ (lv_sub hl [1, 2, 3, 4, 0] rfl) h
              · have h := zf h hc36
                refine lv_iinc (v := (x22 + (1 : Int32))) (lv' := [(5, .int (x22 + (1 : Int32))), (0, .ref (B + a0)), (2, .int v2), (4, .int r2), (6, .int x23)]) hx hb dX9_placeOf_69 hl (k := 3) rfl rfl (by decide) rfl (fun ls hl => ?_)
                refine lv_iinc (v := (x23 + (1 : Int32))) (lv' := [(6, .int (x23 + (1 : Int32))), (5, .int (x22 + (1 : Int32))), (0, .ref (B + a0)), (2, .int v2), (4, .int r2)]) hx hb dX9_placeOf_72 hl (k := 4) rfl rfl (by decide) rfl (fun ls hl => ?_)
                refine lv_goto (tgt := 35) hx hb dX9_placeOf_75 (by decide) ?_
                exact ih35 (x22 + (1 : Int32)) (x23 + (1 : Int32)) _ _ hM hX24 hS h21 _ (lv_sub hl [2, 3, 4, 1, 0] rfl) h
      exact hL35 n (1 : Int32) (0 : Int32) _ _ hM hX7 hS h6 _ (lv_sub hl [3, 5, 2, 1, 0] rfl) h
    · have h := zt h hc17
      refine lv_bipush (v := (-4 : Int32)) hx hb dX9_placeOf_26 (by decide +kernel) ?_
      exact z_iret hx hb hr hlk hM hX7 hS (zsp h) dX9_placeOf_28
def f_X9_winner_L13b (a0 : Nat) (r2 : Int32) (S3 : zM) (K10 : Int32 → Option (Int32 × zM)) (rec13 : Int32 → Int32 → Option (Int32 × zM)) (x12 : Int32) (x13 : Int32) : Option (Int32 × zM) :=
  if (8 : Int32) ≤ x13 then K10 x12 else zLet (f_X11_holds r2 x13) (fun r17 => if r17 = 0 then rec13 x12 (x13 + (1 : Int32)) else zLet (rec13 x13 (x13 + (1 : Int32))) (fun K23 => if x12 < 0 then K23 else zChk (¬ (zr S3 a0 10) = 0) (zChk (¬ (x13 < 0 ∨ zln S3 (zr S3 a0 10) ≤ (x13).toNatClampNeg)) (zChk (¬ (x12 < 0 ∨ zln S3 (zr S3 a0 10) ≤ (x12).toNatClampNeg)) (if (lg_cmp (zl S3 (zr S3 a0 10) (Int32.toNatClampNeg x13)) (zl S3 (zr S3 a0 10) (Int32.toNatClampNeg x12))) ≤ 0 then rec13 x12 (x13 + (1 : Int32)) else K23)))))
def f_X9_winner_L13 (a0 : Nat) (r2 : Int32) (S3 : zM) (K10 : Int32 → Option (Int32 × zM)) : Nat → Int32 → Int32 → Option (Int32 × zM)
  | 0 => fun _ _ => none
  | k + 1 => fun x12 x13 => f_X9_winner_L13b a0 r2 S3 K10 (f_X9_winner_L13 a0 r2 S3 K10 k) x12 x13
def f_X9_winner (n : Nat) (S0 : zM) (a0 : Nat) (v1 : Int32) : Option (Int32 × zM) :=
  zB2 (f_X9_addUp n S0 a0 v1 (0 : Int32)) (fun r2 S3 => zLet (fun (x8 : Int32) => some ((x8, S3))) (fun K10 => f_X9_winner_L13 a0 r2 S3 K10 n (-4 : Int32) (0 : Int32)))
set_option maxHeartbeats 4000000 in
set_option maxRecDepth 100000 in
theorem c_X9_winner (l : Launch) (D : va_G) (cy : Nat → ClassId) (B : Nat) {n : Nat} {S0 : zM} {a0 : Nat} {v1 : Int32} {r : Int32} {S' : zM} (ha0 : zA S0 a0 9) (h : f_X9_winner n S0 a0 v1 = some (r, S')) : Met l yX9_winner (zws yX9_winner cX9_winner 5 ((some .int))) { frames := 5, cells := 0, slots := 0, locals := 118 } (zPc D cy B S0 [.ref (B + a0), .int v1]) (zQi D cy B S0 r S') 0 0 (fun q => B < q) := by
  refine Met.ofW (cc := cX9_winner) (maxL := 5) (ret := ((some .int))) (by decide) rfl ?_
  intro p e s m args below meth c s₁ Bd hml hv
  obtain ⟨rfl, hC, hM⟩ := hv
  obtain ⟨hx, hb, hr, hg, hown, hlk⟩ := z_open Bd
  have hK := hC.1
  have hS : va_S (fun q => B < q) s.heap s.heap [] := va_S.rf
  have hX0 : zX S0 S0 := zX.rf
  refine z_entry (vs := [.ref (B + a0), .int v1]) (Nat.le_of_ble_eq_true rfl) (fun ls hl => ?_)
  have hl : lv_has ls 5 [(0, .ref (B + a0)), (1, .int v1)] := hl
  unfold f_X9_winner at h
  refine lv_aload_n hx hb dX9_winner_0 rfl (lv_at hl 0 rfl) ?_
  refine lv_iload_n hx hb dX9_winner_1 rfl (lv_at hl 1 rfl) ?_
  refine lv_iconst (v := (0 : Int32)) hx hb dX9_winner_2 (by decide +kernel) ?_
  obtain ⟨r2, S3, hr1, h⟩ := zb2 h
  refine z_runi (va_runV (As := [.int v1, .int (0 : Int32)]) (rest := []) ⟨hx, hb, hml, hown, hg⟩ (c_X9_addUp l D cy B ha0 hr1) (z_cwV hg zw_601 zw_585 zw_586 zw_3 zw_587 zh_X9_addUp ⟨(Nat.le_of_ble_eq_true rfl), (Nat.le_of_ble_eq_true rfl)⟩) (zPV hC hM ha0 (by decide) rfl) rfl rfl hl.1 rfl (lv_room (Nat.le_of_ble_eq_true rfl)) dX9_winner_3 ⟨(Nat.le_of_ble_eq_true rfl), (Nat.le_of_ble_eq_true rfl)⟩) hS (fun H locs hM hX4 hS => ?_)
  have h6 := ha0.mo hX4
  have hX7 := hX0.tr hX4
  refine lv_istore_n (i := 2) (lv' := [(2, .int r2), (0, .ref (B + a0)), (1, .int v1)]) hx hb dX9_winner_6 rfl hl (by decide) rfl (fun ls hl => ?_)
  refine lv_bipush (v := (-4 : Int32)) hx hb dX9_winner_7 (by decide +kernel) ?_
  refine lv_istore_n (i := 3) (lv' := [(3, .int (-4 : Int32)), (2, .int r2), (0, .ref (B + a0)), (1, .int v1)]) hx hb dX9_winner_9 rfl hl (by decide) rfl (fun ls hl => ?_)
  refine lv_iconst (v := (0 : Int32)) hx hb dX9_winner_10 (by decide +kernel) ?_
  refine lv_istore (i := 4) (lv' := [(4, .int (0 : Int32)), (3, .int (-4 : Int32)), (2, .int r2), (0, .ref (B + a0)), (1, .int v1)]) hx hb dX9_winner_11 hl (by decide) rfl (fun ls hl => ?_)
  obtain ⟨K10, eK10, h⟩ := zlg h
  have hK10 : ∀ (x8 : Int32) (H : Heap) (locs : List Loc), zMR D cy B S3 H → zX S0 S3 → va_S (fun q => B < q) s.heap H locs → ∀ ls : Array Slot, lv_has ls 5 [(3, .int x8)] → K10 x8 = some (r, S') → W p l e (headSpec (zws yX9_winner cX9_winner 5 ((some .int))) { frames := 5, cells := 0, slots := 0, locals := 118 }).room s m (([.ref (B + a0), .int v1] : List Value).toArray) below meth c H locs 0 0 (MQ below (zQi D cy B S0 r S') (([.ref (B + a0), .int v1] : List Value).toArray) s 0 0 (fun q => B < q)) (F0 m 59 ls []) := by
    intro x8 H locs hM hX9 hS ls hl h
    rw [eK10] at h
    refine lv_iload_n hx hb dX9_winner_59 rfl (lv_at hl 0 rfl) ?_
    exact z_iret hx hb hr hlk hM hX9 hS (zsp h) dX9_winner_60
  have hL13 : ∀ (k : Nat) (x12 : Int32) (x13 : Int32) (H : Heap) (locs : List Loc), zMR D cy B S3 H → zX S0 S3 → va_S (fun q => B < q) s.heap H locs → zA S3 a0 9 → ∀ ls : Array Slot, lv_has ls 5 [(0, .ref (B + a0)), (2, .int r2), (3, .int x12), (4, .int x13)] → f_X9_winner_L13 a0 r2 S3 K10 k x12 x13 = some (r, S') → W p l e (headSpec (zws yX9_winner cX9_winner 5 ((some .int))) { frames := 5, cells := 0, slots := 0, locals := 118 }).room s m (([.ref (B + a0), .int v1] : List Value).toArray) below meth c H locs 0 0 (MQ below (zQi D cy B S0 r S') (([.ref (B + a0), .int v1] : List Value).toArray) s 0 0 (fun q => B < q)) (F0 m 13 ls []) := by
    intro k
    induction k with
    | zero =>
      intro x12 x13 H locs hM hX14 hS h11 ls hl h
      exact znone h
    | succ k ih13 =>
      intro x12 x13 H locs hM hX14 hS h11 ls hl h
      replace h : f_X9_winner_L13b a0 r2 S3 K10 (f_X9_winner_L13 a0 r2 S3 K10 k) x12 x13 = some (r, S') := h
      generalize f_X9_winner_L13 a0 r2 S3 K10 k = rec13 at ih13 h
      unfold f_X9_winner_L13b at h
      refine lv_iload hx hb dX9_winner_13 (lv_at hl 3 rfl) ?_
      refine lv_bipush (v := (8 : Int32)) hx hb dX9_winner_15 (by decide +kernel) ?_
      refine lv_icmp_ge (tgt := 59) hx hb dX9_winner_17 (by decide) (fun hc15 => ?_) (fun hc15 => ?_)
      · have h := zt h hc15
        exact hK10 x12 _ _ hM hX14 hS _ (lv_sub hl [2] rfl) h
      · have h := zf h hc15
        refine lv_iload_n hx hb dX9_winner_20 rfl (lv_at hl 1 rfl) ?_
        refine lv_iload hx hb dX9_winner_21 (lv_at hl 3 rfl) ?_
        obtain ⟨r17, hr16, h⟩ := zlg h
        have hr16 := hr16.symm
        refine z_runi (va_runSN (As := [.int r2, .int x13]) (rest := []) ⟨hx, hb, hml, hown, hg⟩ (c_X11_holds l D cy B hr16) ⟨z_cnB hg hC (List.mem_of_getElem? (i := 14) rfl) zw_2 zw_592 zh_X11_holds.2 ⟨(Nat.le_of_ble_eq_true rfl), (Nat.le_of_ble_eq_true rfl)⟩, hg _ zw_591, trivial⟩ (zPS hC hM) rfl rfl hl.1 rfl (lv_room (Nat.le_of_ble_eq_true rfl)) dX9_winner_23 ⟨(Nat.le_of_ble_eq_true rfl), (Nat.le_of_ble_eq_true rfl)⟩) hS (fun H locs hM hX18 hS => ?_)
        refine lv_if_eq (tgt := 53) hx hb dX9_winner_26 (by decide) (fun hc20 => ?_) (fun hc20 => ?_)
        · have h := zt h hc20
          refine lv_iinc (v := (x13 + (1 : Int32))) (lv' := [(4, .int (x13 + (1 : Int32))), (0, .ref (B + a0)), (2, .int r2), (3, .int x12)]) hx hb dX9_winner_53 hl (k := 3) rfl rfl (by decide) rfl (fun ls hl => ?_)
          refine lv_goto (tgt := 13) hx hb dX9_winner_56 (by decide) ?_
          exact ih13 x12 (x13 + (1 : Int32)) _ _ hM hX14 hS h11 _ (lv_sub hl [1, 2, 3, 0] rfl) h
        · have h := zf h hc20
          refine lv_iload_n hx hb dX9_winner_29 rfl (lv_at hl 2 rfl) ?_
          obtain ⟨K23, eK23, h⟩ := zlg h
          have hK23 : ∀ (H : Heap) (locs : List Loc), zMR D cy B S3 H → zX S0 S3 → va_S (fun q => B < q) s.heap H locs → zA S3 a0 9 → ∀ ls : Array Slot, lv_has ls 5 [(0, .ref (B + a0)), (2, .int r2), (4, .int x13)] → K23 = some (r, S') → W p l e (headSpec (zws yX9_winner cX9_winner 5 ((some .int))) { frames := 5, cells := 0, slots := 0, locals := 118 }).room s m (([.ref (B + a0), .int v1] : List Value).toArray) below meth c H locs 0 0 (MQ below (zQi D cy B S0 r S') (([.ref (B + a0), .int v1] : List Value).toArray) s 0 0 (fun q => B < q)) (F0 m 50 ls []) := by
            intro H locs hM hX22 hS h21 ls hl h
            rw [eK23] at h
            refine lv_iload hx hb dX9_winner_50 (lv_at hl 2 rfl) ?_
            refine lv_istore_n (i := 3) (lv' := [(3, .int x13), (0, .ref (B + a0)), (2, .int r2), (4, .int x13)]) hx hb dX9_winner_52 rfl hl (by decide) rfl (fun ls hl => ?_)
            refine lv_iinc (v := (x13 + (1 : Int32))) (lv' := [(4, .int (x13 + (1 : Int32))), (3, .int x13), (0, .ref (B + a0)), (2, .int r2)]) hx hb dX9_winner_53 hl (k := 3) rfl rfl (by decide) rfl (fun ls hl => ?_)
            refine lv_goto (tgt := 13) hx hb dX9_winner_56 (by decide) ?_
            exact ih13 x13 (x13 + (1 : Int32)) _ _ hM hX22 hS h21 _ (lv_sub hl [2, 3, 1, 0] rfl) h
          refine lv_if_lt (tgt := 50) hx hb dX9_winner_30 (by decide) (fun hc24 => ?_) (fun hc24 => ?_)
          · have h := zt h hc24
            exact hK23 _ _ hM hX14 hS h11 _ (lv_sub hl [0, 1, 3] rfl) h
          · have h := zf h hc24
            refine lv_aload_n hx hb dX9_winner_33 rfl (lv_at hl 0 rfl) ?_
            obtain ⟨hq26, h⟩ := zk h
            refine z_getN hx hb hg zin_9 hown hK hM h11 10 rfl (by decide) (hg _ zw_143) (fun _ h9 => h9) hq26 dX9_winner_34 (fun h25 => ?_)
            refine lv_iload hx hb dX9_winner_37 (lv_at hl 3 rfl) ?_
            obtain ⟨hq27, h⟩ := zk h
            refine z_lald hx hb hK hM h25 hq27 dX9_winner_39 ?_
            refine lv_aload_n hx hb dX9_winner_40 rfl (lv_at hl 0 rfl) ?_
            refine z_getN hx hb hg zin_9 hown hK hM h11 10 rfl (by decide) (hg _ zw_143) (fun _ h9 => h9) h25.ne dX9_winner_41 (fun h28 => ?_)
            refine lv_iload_n hx hb dX9_winner_44 rfl (lv_at hl 2 rfl) ?_
            obtain ⟨hq29, h⟩ := zk h
            refine z_lald hx hb hK hM h28 hq29 dX9_winner_45 ?_
            refine W.lcmp hx hb dX9_winner_46 ?_
            refine lv_if_le (tgt := 53) hx hb dX9_winner_47 (by decide) (fun hc30 => ?_) (fun hc30 => ?_)
            · have h := zt h hc30
              refine lv_iinc (v := (x13 + (1 : Int32))) (lv' := [(4, .int (x13 + (1 : Int32))), (0, .ref (B + a0)), (2, .int r2), (3, .int x12)]) hx hb dX9_winner_53 hl (k := 3) rfl rfl (by decide) rfl (fun ls hl => ?_)
              refine lv_goto (tgt := 13) hx hb dX9_winner_56 (by decide) ?_
              exact ih13 x12 (x13 + (1 : Int32)) _ _ hM hX14 hS h11 _ (lv_sub hl [1, 2, 3, 0] rfl) h
            · have h := zf h hc30
              exact hK23 _ _ hM hX14 hS h11 _ (lv_sub hl [0, 1, 3] rfl) h
  exact hL13 n (-4 : Int32) (0 : Int32) _ _ hM hX7 hS h6 _ (lv_sub hl [3, 2, 1, 0] rfl) h
def f_X9_takeChairOff_L2b (a0 : Nat) (v1 : Int32) (K3 : zM → Option (zM)) (rec2 : Int32 → zM → Option (zM)) (x5 : Int32) (S6 : zM) : Option (zM) :=
  if (zi S6 a0 7) ≤ x5 then K3 S6 else zChk (¬ (zr S6 a0 9) = 0) (zChk (¬ (x5 < 0 ∨ zln S6 (zr S6 a0 9) ≤ (x5).toNatClampNeg)) (zChk (¬ (zr S6 (zr S6 a0 9) (Int32.toNatClampNeg x5)) = 0) (zB1 (f_X1_tell S6 (zr S6 (zr S6 a0 9) (Int32.toNatClampNeg x5)) v1 (-128 : Int32) (-1 : Int32)) (fun S16 => rec2 (x5 + (1 : Int32)) S16))))
def f_X9_takeChairOff_L2 (a0 : Nat) (v1 : Int32) (K3 : zM → Option (zM)) : Nat → Int32 → zM → Option (zM)
  | 0 => fun _ _ => none
  | k + 1 => fun x5 S6 => f_X9_takeChairOff_L2b a0 v1 K3 (f_X9_takeChairOff_L2 a0 v1 K3 k) x5 S6
def f_X9_takeChairOff (n : Nat) (S0 : zM) (a0 : Nat) (v1 : Int32) : Option (zM) :=
  zLet (fun (S1 : zM) => some S1) (fun K3 => f_X9_takeChairOff_L2 a0 v1 K3 n (0 : Int32) S0)
set_option maxHeartbeats 4000000 in
set_option maxRecDepth 100000 in
theorem c_X9_takeChairOff (l : Launch) (D : va_G) (cy : Nat → ClassId) (B : Nat) {n : Nat} {S0 : zM} {a0 : Nat} {v1 : Int32} {S' : zM} (ha0 : zA S0 a0 9) (h : f_X9_takeChairOff n S0 a0 v1 = some S') : Met l yX9_takeChairOff (zws yX9_takeChairOff cX9_takeChairOff 3 none) { frames := 2, cells := 0, slots := 0, locals := 44 } (zPc D cy B S0 [.ref (B + a0), .int v1]) (zQv D cy B S0 S') 0 0 (fun q => B < q) := by
  refine Met.ofW (cc := cX9_takeChairOff) (maxL := 3) (ret := none) (by decide) rfl ?_
  intro p e s m args below meth c s₁ Bd hml hv
  obtain ⟨rfl, hC, hM⟩ := hv
  obtain ⟨hx, hb, hr, hg, hown, hlk⟩ := z_open Bd
  have hK := hC.1
  have hS : va_S (fun q => B < q) s.heap s.heap [] := va_S.rf
  have hX0 : zX S0 S0 := zX.rf
  refine z_entry (vs := [.ref (B + a0), .int v1]) (Nat.le_of_ble_eq_true rfl) (fun ls hl => ?_)
  have hl : lv_has ls 3 [(0, .ref (B + a0)), (1, .int v1)] := hl
  unfold f_X9_takeChairOff at h
  refine lv_iconst (v := (0 : Int32)) hx hb dX9_takeChairOff_0 (by decide +kernel) ?_
  refine lv_istore_n (i := 2) (lv' := [(2, .int (0 : Int32)), (0, .ref (B + a0)), (1, .int v1)]) hx hb dX9_takeChairOff_1 rfl hl (by decide) rfl (fun ls hl => ?_)
  obtain ⟨K3, eK3, h⟩ := zlg h
  have hK3 : ∀ (S1 : zM) (H : Heap) (locs : List Loc), zMR D cy B S1 H → zX S0 S1 → va_S (fun q => B < q) s.heap H locs → ∀ ls : Array Slot, lv_has ls 3 [] → K3 S1 = some S' → W p l e (headSpec (zws yX9_takeChairOff cX9_takeChairOff 3 none) { frames := 2, cells := 0, slots := 0, locals := 44 }).room s m (([.ref (B + a0), .int v1] : List Value).toArray) below meth c H locs 0 0 (MQ below (zQv D cy B S0 S') (([.ref (B + a0), .int v1] : List Value).toArray) s 0 0 (fun q => B < q)) (F0 m 29 ls []) := by
    intro S1 H locs hM hX2 hS ls hl h
    rw [eK3] at h
    exact z_vret hx hb hr hlk hM hX2 hS (zsm h) dX9_takeChairOff_29
  have hL2 : ∀ (k : Nat) (x5 : Int32) (S6 : zM) (H : Heap) (locs : List Loc), zMR D cy B S6 H → zX S0 S6 → va_S (fun q => B < q) s.heap H locs → zA S6 a0 9 → ∀ ls : Array Slot, lv_has ls 3 [(0, .ref (B + a0)), (1, .int v1), (2, .int x5)] → f_X9_takeChairOff_L2 a0 v1 K3 k x5 S6 = some S' → W p l e (headSpec (zws yX9_takeChairOff cX9_takeChairOff 3 none) { frames := 2, cells := 0, slots := 0, locals := 44 }).room s m (([.ref (B + a0), .int v1] : List Value).toArray) below meth c H locs 0 0 (MQ below (zQv D cy B S0 S') (([.ref (B + a0), .int v1] : List Value).toArray) s 0 0 (fun q => B < q)) (F0 m 2 ls []) := by
    intro k
    induction k with
    | zero =>
      intro x5 S6 H locs hM hX7 hS h4 ls hl h
      exact znone h
    | succ k ih2 =>
      intro x5 S6 H locs hM hX7 hS h4 ls hl h
      replace h : f_X9_takeChairOff_L2b a0 v1 K3 (f_X9_takeChairOff_L2 a0 v1 K3 k) x5 S6 = some S' := h
      generalize f_X9_takeChairOff_L2 a0 v1 K3 k = rec2 at ih2 h
      unfold f_X9_takeChairOff_L2b at h
      refine lv_iload_n hx hb dX9_takeChairOff_2 rfl (lv_at hl 2 rfl) ?_
      refine lv_aload_n hx hb dX9_takeChairOff_3 rfl (lv_at hl 0 rfl) ?_
      refine z_getI hx hb hg zin_9 hown hK hM h4 7 rfl (by decide) (hg _ zw_139) (fun _ h9 => h9) dX9_takeChairOff_4 ?_
      refine lv_icmp_ge (tgt := 29) hx hb dX9_takeChairOff_7 (by decide) (fun hc8 => ?_) (fun hc8 => ?_)
      · have h := zt h hc8
        exact hK3 S6 _ _ hM hX7 hS _ (lv_sub hl [] rfl) h
      · have h := zf h hc8
        refine lv_aload_n hx hb dX9_takeChairOff_10 rfl (lv_at hl 0 rfl) ?_
        obtain ⟨hq10, h⟩ := zk h
        refine z_getN hx hb hg zin_9 hown hK hM h4 9 rfl (by decide) (hg _ zw_142) (fun _ h9 => h9) hq10 dX9_takeChairOff_11 (fun h9 => ?_)
        refine lv_iload_n hx hb dX9_takeChairOff_14 rfl (lv_at hl 2 rfl) ?_
        obtain ⟨hq11, h⟩ := zk h
        refine z_aald hx hb hK hM h9 (by decide) rfl hq11 dX9_takeChairOff_15 (fun h12 => ?_)
        have h12 : zQ S6 (zr S6 (zr S6 a0 9) (Int32.toNatClampNeg x5)) 1 := h12
        obtain ⟨hq13, h⟩ := zk h
        have h14 := h12.nn hq13
        refine z_nn h14.1 ?_
        refine lv_iload_n hx hb dX9_takeChairOff_16 rfl (lv_at hl 1 rfl) ?_
        refine lv_bipush (v := (-128 : Int32)) hx hb dX9_takeChairOff_17 (by decide +kernel) ?_
        refine lv_iconst (v := (-1 : Int32)) hx hb dX9_takeChairOff_19 (by decide +kernel) ?_
        obtain ⟨S16, hr15, h⟩ := zb1 h
        refine z_runv (va_runV (As := [.int v1, .int (-128 : Int32), .int (-1 : Int32)]) (rest := []) ⟨hx, hb, hml, hown, hg⟩ (c_X1_tell l D cy B h14 hr15) (z_cwV hg zw_446 zw_354 zw_355 zw_6 zw_356 zh_X1_tell ⟨(Nat.le_of_ble_eq_true rfl), (Nat.le_of_ble_eq_true rfl)⟩) (zPV hC hM h14 (by decide) rfl) rfl rfl hl.1 rfl (lv_room (Nat.le_of_ble_eq_true rfl)) dX9_takeChairOff_20 ⟨(Nat.le_of_ble_eq_true rfl), (Nat.le_of_ble_eq_true rfl)⟩) hS (fun H locs hM hX17 hS => ?_)
        have h19 := h4.mo hX17
        have hX20 := hX7.tr hX17
        refine lv_iinc (v := (x5 + (1 : Int32))) (lv' := [(2, .int (x5 + (1 : Int32))), (0, .ref (B + a0)), (1, .int v1)]) hx hb dX9_takeChairOff_23 hl (k := 2) rfl rfl (by decide) rfl (fun ls hl => ?_)
        refine lv_goto (tgt := 2) hx hb dX9_takeChairOff_26 (by decide) ?_
        exact ih2 (x5 + (1 : Int32)) S16 _ _ hM hX20 hS h19 _ (lv_sub hl [1, 2, 0] rfl) h
  exact hL2 n (0 : Int32) S0 _ _ hM hX0 hS ha0 _ (lv_sub hl [1, 2, 0] rfl) h
def f_X9_takeLeansOff_L19b (a0 : Nat) (x5 : Int32) (S6 : zM) (K16 : zM → Option (zM)) (rec19 : Int32 → zM → Option (zM)) (x19 : Int32) (S20 : zM) : Option (zM) :=
  if (7 : Int32) ≤ x19 then K16 S20 else zChk (¬ (zr S6 (zr S6 a0 9) (Int32.toNatClampNeg x5)) = 0) (zChk (¬ (zr S20 (zr S6 (zr S6 a0 9) (Int32.toNatClampNeg x5)) 1) = 0) (zChk (¬ (x19 < 0 ∨ zln S20 (zr S20 (zr S6 (zr S6 a0 9) (Int32.toNatClampNeg x5)) 1) ≤ (x19).toNatClampNeg)) (zB1 (f_X9_judgeAt S20 a0 (zi S20 (zr S20 (zr S6 (zr S6 a0 9) (Int32.toNatClampNeg x5)) 1) (Int32.toNatClampNeg x19))) (fun r29 => if r29 = 0 then rec19 (x19 + (1 : Int32)) S20 else zB1 (f_X1_hasMark S20 (zr S6 (zr S6 a0 9) (Int32.toNatClampNeg x5)) x19) (fun r35 => if r35 = 0 then rec19 (x19 + (1 : Int32)) S20 else zChk (¬ (zr S20 (zr S6 (zr S6 a0 9) (Int32.toNatClampNeg x5)) 0) = 0) (zChk (¬ (x19 < 0 ∨ zln S20 (zr S20 (zr S6 (zr S6 a0 9) (Int32.toNatClampNeg x5)) 0) ≤ (x19).toNatClampNeg)) (zB1 (f_X9_landOf S20 a0 (zr S6 (zr S6 a0 9) (Int32.toNatClampNeg x5))) (fun r44 => zLet (f_X2_leanTo S20 r29 r44) (fun r48 => zChk (¬ (x19 < 0 ∨ zln S20 (zr S20 (zr S6 (zr S6 a0 9) (Int32.toNatClampNeg x5)) 0) ≤ (x19).toNatClampNeg)) (zLet (zpI S20 (zr S20 (zr S6 (zr S6 a0 9) (Int32.toNatClampNeg x5)) 0) (Int32.toNatClampNeg x19) (zmax (0 : Int32) ((zi S20 (zr S20 (zr S6 (zr S6 a0 9) (Int32.toNatClampNeg x5)) 0) (Int32.toNatClampNeg x19)) - r48))) (fun S52 => rec19 (x19 + (1 : Int32)) S52)))))))))))
def f_X9_takeLeansOff_L19 (a0 : Nat) (x5 : Int32) (S6 : zM) (K16 : zM → Option (zM)) : Nat → Int32 → zM → Option (zM)
  | 0 => fun _ _ => none
  | k + 1 => fun x19 S20 => f_X9_takeLeansOff_L19b a0 x5 S6 K16 (f_X9_takeLeansOff_L19 a0 x5 S6 K16 k) x19 S20
def f_X9_takeLeansOff_L2b (n : Nat) (a0 : Nat) (K3 : zM → Option (zM)) (rec2 : Int32 → zM → Option (zM)) (x5 : Int32) (S6 : zM) : Option (zM) :=
  if (zi S6 a0 7) ≤ x5 then K3 S6 else zChk (¬ (zr S6 a0 9) = 0) (zChk (¬ (x5 < 0 ∨ zln S6 (zr S6 a0 9) ≤ (x5).toNatClampNeg)) (zLet (fun (S14 : zM) => rec2 (x5 + (1 : Int32)) S14) (fun K16 => f_X9_takeLeansOff_L19 a0 x5 S6 K16 n (0 : Int32) S6)))
def f_X9_takeLeansOff_L2 (n : Nat) (a0 : Nat) (K3 : zM → Option (zM)) : Nat → Int32 → zM → Option (zM)
  | 0 => fun _ _ => none
  | k + 1 => fun x5 S6 => f_X9_takeLeansOff_L2b n a0 K3 (f_X9_takeLeansOff_L2 n a0 K3 k) x5 S6
def f_X9_takeLeansOff (n : Nat) (S0 : zM) (a0 : Nat) : Option (zM) :=
  zLet (fun (S1 : zM) => some S1) (fun K3 => f_X9_takeLeansOff_L2 n a0 K3 n (0 : Int32) S0)
set_option maxHeartbeats 4000000 in
set_option maxRecDepth 100000 in
theorem c_X9_takeLeansOff (l : Launch) (D : va_G) (cy : Nat → ClassId) (B : Nat) {n : Nat} {S0 : zM} {a0 : Nat} {S' : zM} (ha0 : zA S0 a0 9) (h : f_X9_takeLeansOff n S0 a0 = some S') : Met l yX9_takeLeansOff (zws yX9_takeLeansOff cX9_takeLeansOff 5 none) { frames := 2, cells := 0, slots := 0, locals := 42 } (zPc D cy B S0 [.ref (B + a0)]) (zQv D cy B S0 S') 0 0 (fun q => B < q) := by
  refine Met.ofW (cc := cX9_takeLeansOff) (maxL := 5) (ret := none) (by decide) rfl ?_
  intro p e s m args below meth c s₁ Bd hml hv
  obtain ⟨rfl, hC, hM⟩ := hv
  obtain ⟨hx, hb, hr, hg, hown, hlk⟩ := z_open Bd
  have hK := hC.1
  have hS : va_S (fun q => B < q) s.heap s.heap [] := va_S.rf
  have hX0 : zX S0 S0 := zX.rf
  refine z_entry (vs := [.ref (B + a0)]) (Nat.le_of_ble_eq_true rfl) (fun ls hl => ?_)
  have hl : lv_has ls 5 [(0, .ref (B + a0))] := hl
  unfold f_X9_takeLeansOff at h
  refine lv_iconst (v := (0 : Int32)) hx hb dX9_takeLeansOff_0 (by decide +kernel) ?_
  refine lv_istore_n (i := 1) (lv' := [(1, .int (0 : Int32)), (0, .ref (B + a0))]) hx hb dX9_takeLeansOff_1 rfl hl (by decide) rfl (fun ls hl => ?_)
  obtain ⟨K3, eK3, h⟩ := zlg h
  have hK3 : ∀ (S1 : zM) (H : Heap) (locs : List Loc), zMR D cy B S1 H → zX S0 S1 → va_S (fun q => B < q) s.heap H locs → ∀ ls : Array Slot, lv_has ls 5 [] → K3 S1 = some S' → W p l e (headSpec (zws yX9_takeLeansOff cX9_takeLeansOff 5 none) { frames := 2, cells := 0, slots := 0, locals := 42 }).room s m (([.ref (B + a0)] : List Value).toArray) below meth c H locs 0 0 (MQ below (zQv D cy B S0 S') (([.ref (B + a0)] : List Value).toArray) s 0 0 (fun q => B < q)) (F0 m 89 ls []) := by
    intro S1 H locs hM hX2 hS ls hl h
    rw [eK3] at h
    exact z_vret hx hb hr hlk hM hX2 hS (zsm h) dX9_takeLeansOff_89
  have hL2 : ∀ (k : Nat) (x5 : Int32) (S6 : zM) (H : Heap) (locs : List Loc), zMR D cy B S6 H → zX S0 S6 → va_S (fun q => B < q) s.heap H locs → zA S6 a0 9 → ∀ ls : Array Slot, lv_has ls 5 [(0, .ref (B + a0)), (1, .int x5)] → f_X9_takeLeansOff_L2 n a0 K3 k x5 S6 = some S' → W p l e (headSpec (zws yX9_takeLeansOff cX9_takeLeansOff 5 none) { frames := 2, cells := 0, slots := 0, locals := 42 }).room s m (([.ref (B + a0)] : List Value).toArray) below meth c H locs 0 0 (MQ below (zQv D cy B S0 S') (([.ref (B + a0)] : List Value).toArray) s 0 0 (fun q => B < q)) (F0 m 2 ls []) := by
    intro k
    induction k with
    | zero =>
      intro x5 S6 H locs hM hX7 hS h4 ls hl h
      exact znone h
    | succ k ih2 =>
      intro x5 S6 H locs hM hX7 hS h4 ls hl h
      replace h : f_X9_takeLeansOff_L2b n a0 K3 (f_X9_takeLeansOff_L2 n a0 K3 k) x5 S6 = some S' := h
      generalize f_X9_takeLeansOff_L2 n a0 K3 k = rec2 at ih2 h
      unfold f_X9_takeLeansOff_L2b at h
      refine lv_iload_n hx hb dX9_takeLeansOff_2 rfl (lv_at hl 1 rfl) ?_
      refine lv_aload_n hx hb dX9_takeLeansOff_3 rfl (lv_at hl 0 rfl) ?_
      refine z_getI hx hb hg zin_9 hown hK hM h4 7 rfl (by decide) (hg _ zw_139) (fun _ h9 => h9) dX9_takeLeansOff_4 ?_
      refine lv_icmp_ge (tgt := 89) hx hb dX9_takeLeansOff_7 (by decide) (fun hc8 => ?_) (fun hc8 => ?_)
      · have h := zt h hc8
        exact hK3 S6 _ _ hM hX7 hS _ (lv_sub hl [] rfl) h
      · have h := zf h hc8
        refine lv_aload_n hx hb dX9_takeLeansOff_10 rfl (lv_at hl 0 rfl) ?_
        obtain ⟨hq10, h⟩ := zk h
        refine z_getN hx hb hg zin_9 hown hK hM h4 9 rfl (by decide) (hg _ zw_142) (fun _ h9 => h9) hq10 dX9_takeLeansOff_11 (fun h9 => ?_)
        refine lv_iload_n hx hb dX9_takeLeansOff_14 rfl (lv_at hl 1 rfl) ?_
        obtain ⟨hq11, h⟩ := zk h
        refine z_aald hx hb hK hM h9 (by decide) rfl hq11 dX9_takeLeansOff_15 (fun h12 => ?_)
        have h12 : zQ S6 (zr S6 (zr S6 a0 9) (Int32.toNatClampNeg x5)) 1 := h12
        refine z_astore_n (i := 2) (lv' := [(2, zv B (zr S6 (zr S6 a0 9) (Int32.toNatClampNeg x5))), (0, .ref (B + a0)), (1, .int x5)]) hx hb dX9_takeLeansOff_16 rfl hl (by decide) rfl (fun ls hl => ?_)
        refine lv_iconst (v := (0 : Int32)) hx hb dX9_takeLeansOff_17 (by decide +kernel) ?_
        refine lv_istore_n (i := 3) (lv' := [(3, .int (0 : Int32)), (2, zv B (zr S6 (zr S6 a0 9) (Int32.toNatClampNeg x5))), (0, .ref (B + a0)), (1, .int x5)]) hx hb dX9_takeLeansOff_18 rfl hl (by decide) (by simp [zv_cat]) (fun ls hl => ?_)
        obtain ⟨K16, eK16, h⟩ := zlg h
        have hK16 : ∀ (S14 : zM) (H : Heap) (locs : List Loc), zMR D cy B S14 H → zX S0 S14 → va_S (fun q => B < q) s.heap H locs → zA S14 a0 9 → ∀ ls : Array Slot, lv_has ls 5 [(0, .ref (B + a0)), (1, .int x5)] → K16 S14 = some S' → W p l e (headSpec (zws yX9_takeLeansOff cX9_takeLeansOff 5 none) { frames := 2, cells := 0, slots := 0, locals := 42 }).room s m (([.ref (B + a0)] : List Value).toArray) below meth c H locs 0 0 (MQ below (zQv D cy B S0 S') (([.ref (B + a0)] : List Value).toArray) s 0 0 (fun q => B < q)) (F0 m 83 ls []) := by
          intro S14 H locs hM hX15 hS h13 ls hl h
          rw [eK16] at h
          refine lv_iinc (v := (x5 + (1 : Int32))) (lv' := [(1, .int (x5 + (1 : Int32))), (0, .ref (B + a0))]) hx hb dX9_takeLeansOff_83 hl (k := 1) rfl rfl (by decide) rfl (fun ls hl => ?_)
          refine lv_goto (tgt := 2) hx hb dX9_takeLeansOff_86 (by decide) ?_
          exact ih2 (x5 + (1 : Int32)) S14 _ _ hM hX15 hS h13 _ (lv_sub hl [1, 0] rfl) h
        have hL19 : ∀ (k : Nat) (x19 : Int32) (S20 : zM) (H : Heap) (locs : List Loc), zMR D cy B S20 H → zX S0 S20 → va_S (fun q => B < q) s.heap H locs → zA S20 a0 9 → zQ S20 (zr S6 (zr S6 a0 9) (Int32.toNatClampNeg x5)) 1 → ∀ ls : Array Slot, lv_has ls 5 [(0, .ref (B + a0)), (1, .int x5), (2, zv B (zr S6 (zr S6 a0 9) (Int32.toNatClampNeg x5))), (3, .int x19)] → f_X9_takeLeansOff_L19 a0 x5 S6 K16 k x19 S20 = some S' → W p l e (headSpec (zws yX9_takeLeansOff cX9_takeLeansOff 5 none) { frames := 2, cells := 0, slots := 0, locals := 42 }).room s m (([.ref (B + a0)] : List Value).toArray) below meth c H locs 0 0 (MQ below (zQv D cy B S0 S') (([.ref (B + a0)] : List Value).toArray) s 0 0 (fun q => B < q)) (F0 m 19 ls []) := by
          intro k
          induction k with
          | zero =>
            intro x19 S20 H locs hM hX21 hS h17 h18 ls hl h
            exact znone h
          | succ k ih19 =>
            intro x19 S20 H locs hM hX21 hS h17 h18 ls hl h
            replace h : f_X9_takeLeansOff_L19b a0 x5 S6 K16 (f_X9_takeLeansOff_L19 a0 x5 S6 K16 k) x19 S20 = some S' := h
            generalize f_X9_takeLeansOff_L19 a0 x5 S6 K16 k = rec19 at ih19 h
            unfold f_X9_takeLeansOff_L19b at h
            refine lv_iload_n hx hb dX9_takeLeansOff_19 rfl (lv_at hl 3 rfl) ?_
            refine lv_bipush (v := (7 : Int32)) hx hb dX9_takeLeansOff_20 (by decide +kernel) ?_
            refine lv_icmp_ge (tgt := 83) hx hb dX9_takeLeansOff_22 (by decide) (fun hc22 => ?_) (fun hc22 => ?_)
            · have h := zt h hc22
              exact hK16 S20 _ _ hM hX21 hS h17 _ (lv_sub hl [0, 1] rfl) h
            · have h := zf h hc22
              refine lv_aload_n hx hb dX9_takeLeansOff_25 rfl (lv_at hl 0 rfl) ?_
              obtain ⟨hq23, h⟩ := zk h
              have h24 := h18.nn hq23
              refine z_aloadR_n hx hb dX9_takeLeansOff_26 rfl (lv_at hl 2 rfl) h24.1 ?_
              obtain ⟨hq26, h⟩ := zk h
              refine z_getN hx hb hg zin_1 hown hK hM h24 1 rfl (by decide) (hg _ zw_97) (fun _ h9 => h9) hq26 dX9_takeLeansOff_27 (fun h25 => ?_)
              refine lv_iload_n hx hb dX9_takeLeansOff_30 rfl (lv_at hl 3 rfl) ?_
              obtain ⟨hq27, h⟩ := zk h
              refine z_iald hx hb hK hM h25 hq27 dX9_takeLeansOff_31 ?_
              obtain ⟨r29, hr28, h⟩ := zb1 h
              refine z_runr (va_runV (As := [.int (zi S20 (zr S20 (zr S6 (zr S6 a0 9) (Int32.toNatClampNeg x5)) 1) (Int32.toNatClampNeg x19))]) (rest := []) ⟨hx, hb, hml, hown, hg⟩ (c_X9_judgeAt l D cy B h17 hr28) (z_cwV hg zw_397 zw_398 zw_399 zw_3 zw_400 zh_X9_judgeAt ⟨(Nat.le_of_ble_eq_true rfl), (Nat.le_of_ble_eq_true rfl)⟩) (zPV hC hM h17 (by decide) rfl) rfl rfl hl.1 rfl (lv_room (Nat.le_of_ble_eq_true rfl)) dX9_takeLeansOff_32 ⟨(Nat.le_of_ble_eq_true rfl), (Nat.le_of_ble_eq_true rfl)⟩) hS (fun H locs hM hX30 h31 hS => ?_)
              refine z_astore (i := 4) (lv' := [(4, zv B r29), (0, .ref (B + a0)), (1, .int x5), (2, zv B (zr S6 (zr S6 a0 9) (Int32.toNatClampNeg x5))), (3, .int x19)]) hx hb dX9_takeLeansOff_35 hl (by decide) rfl (fun ls hl => ?_)
              refine z_aload hx hb dX9_takeLeansOff_37 (lv_at hl 0 rfl) ?_
              refine z_ifnull (tgt := 77) hx hb dX9_takeLeansOff_39 (by decide) (fun hc32 => ?_) (fun hc32 => ?_)
              · have h := zt h hc32
                refine lv_iinc (v := (x19 + (1 : Int32))) (lv' := [(3, .int (x19 + (1 : Int32))), (4, zv B r29), (0, .ref (B + a0)), (1, .int x5), (2, zv B (zr S6 (zr S6 a0 9) (Int32.toNatClampNeg x5)))]) hx hb dX9_takeLeansOff_77 hl (k := 4) rfl rfl (by decide) (by simp [zv_cat]) (fun ls hl => ?_)
                refine lv_goto (tgt := 19) hx hb dX9_takeLeansOff_80 (by decide) ?_
                exact ih19 (x19 + (1 : Int32)) S20 _ _ hM hX21 hS h17 (h24.q) _ (lv_sub hl [2, 3, 4, 0] rfl) h
              · have h33 := h31.nn hc32
                have h := zf h hc32
                refine z_aloadR_n hx hb dX9_takeLeansOff_42 rfl (lv_at hl 3 rfl) h24.1 ?_
                refine lv_iload_n hx hb dX9_takeLeansOff_43 rfl (lv_at hl 4 rfl) ?_
                obtain ⟨r35, hr34, h⟩ := zb1 h
                refine z_runi (va_runV (As := [.int x19]) (rest := []) ⟨hx, hb, hml, hown, hg⟩ (c_X1_hasMark l D cy B h24 hr34) (z_cwV hg zw_637 zw_474 zw_475 zw_6 zw_476 zh_X1_hasMark ⟨(Nat.le_of_ble_eq_true rfl), (Nat.le_of_ble_eq_true rfl)⟩) (zPV hC hM h24 (by decide) rfl) rfl rfl hl.1 rfl (lv_room (Nat.le_of_ble_eq_true rfl)) dX9_takeLeansOff_44 ⟨(Nat.le_of_ble_eq_true rfl), (Nat.le_of_ble_eq_true rfl)⟩) hS (fun H locs hM hX36 hS => ?_)
                refine lv_if_eq (tgt := 77) hx hb dX9_takeLeansOff_47 (by decide) (fun hc38 => ?_) (fun hc38 => ?_)
                · have h := zt h hc38
                  refine lv_iinc (v := (x19 + (1 : Int32))) (lv' := [(3, .int (x19 + (1 : Int32))), (4, zv B r29), (0, .ref (B + a0)), (1, .int x5), (2, zv B (zr S6 (zr S6 a0 9) (Int32.toNatClampNeg x5)))]) hx hb dX9_takeLeansOff_77 hl (k := 4) rfl rfl (by decide) (by simp [zv_cat]) (fun ls hl => ?_)
                  refine lv_goto (tgt := 19) hx hb dX9_takeLeansOff_80 (by decide) ?_
                  exact ih19 (x19 + (1 : Int32)) S20 _ _ hM hX21 hS h17 (h24.q) _ (lv_sub hl [2, 3, 4, 0] rfl) h
                · have h := zf h hc38
                  refine z_aloadR_n hx hb dX9_takeLeansOff_50 rfl (lv_at hl 3 rfl) h24.1 ?_
                  obtain ⟨hq40, h⟩ := zk h
                  refine z_getN hx hb hg zin_1 hown hK hM h24 0 rfl (by decide) (hg _ zw_94) (fun _ h9 => h9) hq40 dX9_takeLeansOff_51 (fun h39 => ?_)
                  refine lv_iload_n hx hb dX9_takeLeansOff_54 rfl (lv_at hl 4 rfl) ?_
                  refine lv_iconst (v := (0 : Int32)) hx hb dX9_takeLeansOff_55 (by decide +kernel) ?_
                  refine z_aloadR_n hx hb dX9_takeLeansOff_56 rfl (lv_at hl 3 rfl) h24.1 ?_
                  refine z_getN hx hb hg zin_1 hown hK hM h24 0 rfl (by decide) (hg _ zw_94) (fun _ h9 => h9) h39.ne dX9_takeLeansOff_57 (fun h41 => ?_)
                  refine lv_iload_n hx hb dX9_takeLeansOff_60 rfl (lv_at hl 4 rfl) ?_
                  obtain ⟨hq42, h⟩ := zk h
                  refine z_iald hx hb hK hM h41 hq42 dX9_takeLeansOff_61 ?_
                  refine z_aloadR hx hb dX9_takeLeansOff_62 (lv_at hl 0 rfl) h33.1 ?_
                  refine lv_aload_n hx hb dX9_takeLeansOff_64 rfl (lv_at hl 1 rfl) ?_
                  refine z_aloadR_n hx hb dX9_takeLeansOff_65 rfl (lv_at hl 3 rfl) h24.1 ?_
                  obtain ⟨r44, hr43, h⟩ := zb1 h
                  refine z_runi (va_runV (As := [.ref (B + (zr S6 (zr S6 a0 9) (Int32.toNatClampNeg x5)))]) (rest := [.ref (B + r29), .int (zi S20 (zr S20 (zr S6 (zr S6 a0 9) (Int32.toNatClampNeg x5)) 0) (Int32.toNatClampNeg x19)), .int (0 : Int32), .int x19, .ref (B + (zr S20 (zr S6 (zr S6 a0 9) (Int32.toNatClampNeg x5)) 0))]) ⟨hx, hb, hml, hown, hg⟩ (c_X9_landOf l D cy B h17 h24 hr43) (z_cwV hg zw_414 zw_415 zw_416 zw_3 zw_417 zh_X9_landOf ⟨(Nat.le_of_ble_eq_true rfl), (Nat.le_of_ble_eq_true rfl)⟩) (zPV hC hM h17 (by decide) rfl) rfl rfl hl.1 rfl (lv_room (Nat.le_of_ble_eq_true rfl)) dX9_takeLeansOff_66 ⟨(Nat.le_of_ble_eq_true rfl), (Nat.le_of_ble_eq_true rfl)⟩) hS (fun H locs hM hX45 hS => ?_)
                  obtain ⟨r48, hr47, h⟩ := zlg h
                  have hr47 := hr47.symm
                  refine z_runi (va_runV (As := [.int r44]) (rest := [.int (zi S20 (zr S20 (zr S6 (zr S6 a0 9) (Int32.toNatClampNeg x5)) 0) (Int32.toNatClampNeg x19)), .int (0 : Int32), .int x19, .ref (B + (zr S20 (zr S6 (zr S6 a0 9) (Int32.toNatClampNeg x5)) 0))]) ⟨hx, hb, hml, hown, hg⟩ (c_X2_leanTo l D cy B h33 hr47) (z_cwV hg zw_638 zw_426 zw_427 zw_14 zw_428 zh_X2_leanTo ⟨(Nat.le_of_ble_eq_true rfl), (Nat.le_of_ble_eq_true rfl)⟩) (zPV hC hM h33 (by decide) rfl) rfl rfl hl.1 rfl (lv_room (Nat.le_of_ble_eq_true rfl)) dX9_takeLeansOff_69 ⟨(Nat.le_of_ble_eq_true rfl), (Nat.le_of_ble_eq_true rfl)⟩) hS (fun H locs hM hX49 hS => ?_)
                  refine lv_isub hx hb dX9_takeLeansOff_72 ?_
                  refine va_mmax hx hb (hml.trans hl.1.symm) hown (hg _ zw_374) (hg _ zw_375) (hg _ zw_15) (hg _ zw_376) (Nat.le_of_ble_eq_true rfl) (Nat.le_trans (Nat.add_le_add_right (z_room (Nat.le_of_ble_eq_true rfl)) 13) (Nat.le_of_ble_eq_true rfl)) (by omega) (by omega) dX9_takeLeansOff_73 ?_
                  refine W.eq (g2 := F0 m 76 ls [.int (zmax (0 : Int32) ((zi S20 (zr S20 (zr S6 (zr S6 a0 9) (Int32.toNatClampNeg x5)) 0) (Int32.toNatClampNeg x19)) - r48)), .int x19, .ref (B + (zr S20 (zr S6 (zr S6 a0 9) (Int32.toNatClampNeg x5)) 0))]) rfl ?_
                  obtain ⟨hq51, h⟩ := zk h
                  refine z_iast hx hb hK hM hS h41 hq51 dX9_takeLeansOff_76 (fun H locs hM hS => ?_)
                  obtain ⟨S52, e53, h⟩ := zlg h
                  rw [← e53] at hM
                  have hX54 : zX S20 S52 := by rw [e53]; exact zX_pI
                  have h55 := h17.mo hX54
                  have h56 := h24.mo hX54
                  have hX57 := hX21.tr hX54
                  refine lv_iinc (v := (x19 + (1 : Int32))) (lv' := [(3, .int (x19 + (1 : Int32))), (4, zv B r29), (0, .ref (B + a0)), (1, .int x5), (2, zv B (zr S6 (zr S6 a0 9) (Int32.toNatClampNeg x5)))]) hx hb dX9_takeLeansOff_77 hl (k := 4) rfl rfl (by decide) (by simp [zv_cat]) (fun ls hl => ?_)
                  refine lv_goto (tgt := 19) hx hb dX9_takeLeansOff_80 (by decide) ?_
                  exact ih19 (x19 + (1 : Int32)) S52 _ _ hM hX57 hS h55 (h56.q) _ (lv_sub hl [2, 3, 4, 0] rfl) h
        exact hL19 n (0 : Int32) S6 _ _ hM hX7 hS h4 h12 _ (lv_sub hl [2, 3, 1, 0] rfl) h
  exact hL2 n (0 : Int32) S0 _ _ hM hX0 hS ha0 _ (lv_sub hl [1, 0] rfl) h
def f_X9_moveUp_L24b (a0 : Nat) (v1 : Int32) (v2 : Int32) (v3 : Int32) (x5 : Int32) (S6 : zM) (K16 : zM → Option (zM)) (rec24 : Int32 → zM → Option (zM)) (x19 : Int32) (S20 : zM) : Option (zM) :=
  if (7 : Int32) ≤ x19 then K16 S20 else zChk (¬ (zr S6 (zr S6 a0 9) (Int32.toNatClampNeg x5)) = 0) (if (zi S20 (zr S6 (zr S6 a0 9) (Int32.toNatClampNeg x5)) 2) = v1 then zLet (f_X11_holds v3 x19) (fun r27 => if r27 = 0 then rec24 (x19 + (1 : Int32)) S20 else zB1 (f_X1_hasMark S20 (zr S6 (zr S6 a0 9) (Int32.toNatClampNeg x5)) x19) (fun r32 => if r32 = 0 then rec24 (x19 + (1 : Int32)) S20 else zChk (¬ (zr S20 (zr S6 (zr S6 a0 9) (Int32.toNatClampNeg x5)) 0) = 0) (if (zi S20 (zr S6 (zr S6 a0 9) (Int32.toNatClampNeg x5)) 3) = v2 then zChk (¬ (x19 < 0 ∨ zln S20 (zr S20 (zr S6 (zr S6 a0 9) (Int32.toNatClampNeg x5)) 0) ≤ (x19).toNatClampNeg)) (zLet (zpI S20 (zr S20 (zr S6 (zr S6 a0 9) (Int32.toNatClampNeg x5)) 0) (Int32.toNatClampNeg x19) (20 : Int32)) (fun S47 => rec24 (x19 + (1 : Int32)) S47)) else zChk (¬ (x19 < 0 ∨ zln S20 (zr S20 (zr S6 (zr S6 a0 9) (Int32.toNatClampNeg x5)) 0) ≤ (x19).toNatClampNeg)) (zLet (zpI S20 (zr S20 (zr S6 (zr S6 a0 9) (Int32.toNatClampNeg x5)) 0) (Int32.toNatClampNeg x19) (0 : Int32)) (fun S40 => rec24 (x19 + (1 : Int32)) S40))))) else rec24 (x19 + (1 : Int32)) S20)
def f_X9_moveUp_L24 (a0 : Nat) (v1 : Int32) (v2 : Int32) (v3 : Int32) (x5 : Int32) (S6 : zM) (K16 : zM → Option (zM)) : Nat → Int32 → zM → Option (zM)
  | 0 => fun _ _ => none
  | k + 1 => fun x19 S20 => f_X9_moveUp_L24b a0 v1 v2 v3 x5 S6 K16 (f_X9_moveUp_L24 a0 v1 v2 v3 x5 S6 K16 k) x19 S20
def f_X9_moveUp_L3b (n : Nat) (a0 : Nat) (v1 : Int32) (v2 : Int32) (v3 : Int32) (K3 : zM → Option (zM)) (rec3 : Int32 → zM → Option (zM)) (x5 : Int32) (S6 : zM) : Option (zM) :=
  if (zi S6 a0 7) ≤ x5 then K3 S6 else zChk (¬ (zr S6 a0 9) = 0) (zChk (¬ (x5 < 0 ∨ zln S6 (zr S6 a0 9) ≤ (x5).toNatClampNeg)) (zLet (fun (S14 : zM) => rec3 (x5 + (1 : Int32)) S14) (fun K16 => f_X9_moveUp_L24 a0 v1 v2 v3 x5 S6 K16 n (0 : Int32) S6)))
def f_X9_moveUp_L3 (n : Nat) (a0 : Nat) (v1 : Int32) (v2 : Int32) (v3 : Int32) (K3 : zM → Option (zM)) : Nat → Int32 → zM → Option (zM)
  | 0 => fun _ _ => none
  | k + 1 => fun x5 S6 => f_X9_moveUp_L3b n a0 v1 v2 v3 K3 (f_X9_moveUp_L3 n a0 v1 v2 v3 K3 k) x5 S6
def f_X9_moveUp (n : Nat) (S0 : zM) (a0 : Nat) (v1 : Int32) (v2 : Int32) (v3 : Int32) : Option (zM) :=
  zLet (fun (S1 : zM) => some S1) (fun K3 => f_X9_moveUp_L3 n a0 v1 v2 v3 K3 n (0 : Int32) S0)
set_option maxHeartbeats 4000000 in
set_option maxRecDepth 100000 in
theorem c_X9_moveUp (l : Launch) (D : va_G) (cy : Nat → ClassId) (B : Nat) {n : Nat} {S0 : zM} {a0 : Nat} {v1 : Int32} {v2 : Int32} {v3 : Int32} {S' : zM} (ha0 : zA S0 a0 9) (h : f_X9_moveUp n S0 a0 v1 v2 v3 = some S') : Met l yX9_moveUp (zws yX9_moveUp cX9_moveUp 7 none) { frames := 2, cells := 0, slots := 0, locals := 42 } (zPc D cy B S0 [.ref (B + a0), .int v1, .int v2, .int v3]) (zQv D cy B S0 S') 0 0 (fun q => B < q) := by
  refine Met.ofW (cc := cX9_moveUp) (maxL := 7) (ret := none) (by decide) rfl ?_
  intro p e s m args below meth c s₁ Bd hml hv
  obtain ⟨rfl, hC, hM⟩ := hv
  obtain ⟨hx, hb, hr, hg, hown, hlk⟩ := z_open Bd
  have hK := hC.1
  have hS : va_S (fun q => B < q) s.heap s.heap [] := va_S.rf
  have hX0 : zX S0 S0 := zX.rf
  refine z_entry (vs := [.ref (B + a0), .int v1, .int v2, .int v3]) (Nat.le_of_ble_eq_true rfl) (fun ls hl => ?_)
  have hl : lv_has ls 7 [(0, .ref (B + a0)), (1, .int v1), (2, .int v2), (3, .int v3)] := hl
  unfold f_X9_moveUp at h
  refine lv_iconst (v := (0 : Int32)) hx hb dX9_moveUp_0 (by decide +kernel) ?_
  refine lv_istore (i := 4) (lv' := [(4, .int (0 : Int32)), (0, .ref (B + a0)), (1, .int v1), (2, .int v2), (3, .int v3)]) hx hb dX9_moveUp_1 hl (by decide) rfl (fun ls hl => ?_)
  obtain ⟨K3, eK3, h⟩ := zlg h
  have hK3 : ∀ (S1 : zM) (H : Heap) (locs : List Loc), zMR D cy B S1 H → zX S0 S1 → va_S (fun q => B < q) s.heap H locs → ∀ ls : Array Slot, lv_has ls 7 [] → K3 S1 = some S' → W p l e (headSpec (zws yX9_moveUp cX9_moveUp 7 none) { frames := 2, cells := 0, slots := 0, locals := 42 }).room s m (([.ref (B + a0), .int v1, .int v2, .int v3] : List Value).toArray) below meth c H locs 0 0 (MQ below (zQv D cy B S0 S') (([.ref (B + a0), .int v1, .int v2, .int v3] : List Value).toArray) s 0 0 (fun q => B < q)) (F0 m 94 ls []) := by
    intro S1 H locs hM hX2 hS ls hl h
    rw [eK3] at h
    exact z_vret hx hb hr hlk hM hX2 hS (zsm h) dX9_moveUp_94
  have hL3 : ∀ (k : Nat) (x5 : Int32) (S6 : zM) (H : Heap) (locs : List Loc), zMR D cy B S6 H → zX S0 S6 → va_S (fun q => B < q) s.heap H locs → zA S6 a0 9 → ∀ ls : Array Slot, lv_has ls 7 [(0, .ref (B + a0)), (1, .int v1), (2, .int v2), (3, .int v3), (4, .int x5)] → f_X9_moveUp_L3 n a0 v1 v2 v3 K3 k x5 S6 = some S' → W p l e (headSpec (zws yX9_moveUp cX9_moveUp 7 none) { frames := 2, cells := 0, slots := 0, locals := 42 }).room s m (([.ref (B + a0), .int v1, .int v2, .int v3] : List Value).toArray) below meth c H locs 0 0 (MQ below (zQv D cy B S0 S') (([.ref (B + a0), .int v1, .int v2, .int v3] : List Value).toArray) s 0 0 (fun q => B < q)) (F0 m 3 ls []) := by
    intro k
    induction k with
    | zero =>
      intro x5 S6 H locs hM hX7 hS h4 ls hl h
      exact znone h
    | succ k ih3 =>
      intro x5 S6 H locs hM hX7 hS h4 ls hl h
      replace h : f_X9_moveUp_L3b n a0 v1 v2 v3 K3 (f_X9_moveUp_L3 n a0 v1 v2 v3 K3 k) x5 S6 = some S' := h
      generalize f_X9_moveUp_L3 n a0 v1 v2 v3 K3 k = rec3 at ih3 h
      unfold f_X9_moveUp_L3b at h
      refine lv_iload hx hb dX9_moveUp_3 (lv_at hl 4 rfl) ?_
      refine lv_aload_n hx hb dX9_moveUp_5 rfl (lv_at hl 0 rfl) ?_
      refine z_getI hx hb hg zin_9 hown hK hM h4 7 rfl (by decide) (hg _ zw_139) (fun _ h9 => h9) dX9_moveUp_6 ?_
      refine lv_icmp_ge (tgt := 94) hx hb dX9_moveUp_9 (by decide) (fun hc8 => ?_) (fun hc8 => ?_)
      · have h := zt h hc8
        exact hK3 S6 _ _ hM hX7 hS _ (lv_sub hl [] rfl) h
      · have h := zf h hc8
        refine lv_aload_n hx hb dX9_moveUp_12 rfl (lv_at hl 0 rfl) ?_
        obtain ⟨hq10, h⟩ := zk h
        refine z_getN hx hb hg zin_9 hown hK hM h4 9 rfl (by decide) (hg _ zw_142) (fun _ h9 => h9) hq10 dX9_moveUp_13 (fun h9 => ?_)
        refine lv_iload hx hb dX9_moveUp_16 (lv_at hl 4 rfl) ?_
        obtain ⟨hq11, h⟩ := zk h
        refine z_aald hx hb hK hM h9 (by decide) rfl hq11 dX9_moveUp_18 (fun h12 => ?_)
        have h12 : zQ S6 (zr S6 (zr S6 a0 9) (Int32.toNatClampNeg x5)) 1 := h12
        refine z_astore (i := 5) (lv' := [(5, zv B (zr S6 (zr S6 a0 9) (Int32.toNatClampNeg x5))), (0, .ref (B + a0)), (1, .int v1), (2, .int v2), (3, .int v3), (4, .int x5)]) hx hb dX9_moveUp_19 hl (by decide) rfl (fun ls hl => ?_)
        refine lv_iconst (v := (0 : Int32)) hx hb dX9_moveUp_21 (by decide +kernel) ?_
        refine lv_istore (i := 6) (lv' := [(6, .int (0 : Int32)), (5, zv B (zr S6 (zr S6 a0 9) (Int32.toNatClampNeg x5))), (0, .ref (B + a0)), (1, .int v1), (2, .int v2), (3, .int v3), (4, .int x5)]) hx hb dX9_moveUp_22 hl (by decide) (by simp [zv_cat]) (fun ls hl => ?_)
        obtain ⟨K16, eK16, h⟩ := zlg h
        have hK16 : ∀ (S14 : zM) (H : Heap) (locs : List Loc), zMR D cy B S14 H → zX S0 S14 → va_S (fun q => B < q) s.heap H locs → zA S14 a0 9 → ∀ ls : Array Slot, lv_has ls 7 [(0, .ref (B + a0)), (1, .int v1), (2, .int v2), (3, .int v3), (4, .int x5)] → K16 S14 = some S' → W p l e (headSpec (zws yX9_moveUp cX9_moveUp 7 none) { frames := 2, cells := 0, slots := 0, locals := 42 }).room s m (([.ref (B + a0), .int v1, .int v2, .int v3] : List Value).toArray) below meth c H locs 0 0 (MQ below (zQv D cy B S0 S') (([.ref (B + a0), .int v1, .int v2, .int v3] : List Value).toArray) s 0 0 (fun q => B < q)) (F0 m 88 ls []) := by
          intro S14 H locs hM hX15 hS h13 ls hl h
          rw [eK16] at h
          refine lv_iinc (v := (x5 + (1 : Int32))) (lv' := [(4, .int (x5 + (1 : Int32))), (0, .ref (B + a0)), (1, .int v1), (2, .int v2), (3, .int v3)]) hx hb dX9_moveUp_88 hl (k := 4) rfl rfl (by decide) rfl (fun ls hl => ?_)
          refine lv_goto (tgt := 3) hx hb dX9_moveUp_91 (by decide) ?_
          exact ih3 (x5 + (1 : Int32)) S14 _ _ hM hX15 hS h13 _ (lv_sub hl [1, 2, 3, 4, 0] rfl) h
        have hL24 : ∀ (k : Nat) (x19 : Int32) (S20 : zM) (H : Heap) (locs : List Loc), zMR D cy B S20 H → zX S0 S20 → va_S (fun q => B < q) s.heap H locs → zA S20 a0 9 → zQ S20 (zr S6 (zr S6 a0 9) (Int32.toNatClampNeg x5)) 1 → ∀ ls : Array Slot, lv_has ls 7 [(0, .ref (B + a0)), (1, .int v1), (2, .int v2), (3, .int v3), (4, .int x5), (5, zv B (zr S6 (zr S6 a0 9) (Int32.toNatClampNeg x5))), (6, .int x19)] → f_X9_moveUp_L24 a0 v1 v2 v3 x5 S6 K16 k x19 S20 = some S' → W p l e (headSpec (zws yX9_moveUp cX9_moveUp 7 none) { frames := 2, cells := 0, slots := 0, locals := 42 }).room s m (([.ref (B + a0), .int v1, .int v2, .int v3] : List Value).toArray) below meth c H locs 0 0 (MQ below (zQv D cy B S0 S') (([.ref (B + a0), .int v1, .int v2, .int v3] : List Value).toArray) s 0 0 (fun q => B < q)) (F0 m 24 ls []) := by
          intro k
          induction k with
          | zero =>
            intro x19 S20 H locs hM hX21 hS h17 h18 ls hl h
            exact znone h
          | succ k ih24 =>
            intro x19 S20 H locs hM hX21 hS h17 h18 ls hl h
            replace h : f_X9_moveUp_L24b a0 v1 v2 v3 x5 S6 K16 (f_X9_moveUp_L24 a0 v1 v2 v3 x5 S6 K16 k) x19 S20 = some S' := h
            generalize f_X9_moveUp_L24 a0 v1 v2 v3 x5 S6 K16 k = rec24 at ih24 h
            unfold f_X9_moveUp_L24b at h
            refine lv_iload hx hb dX9_moveUp_24 (lv_at hl 6 rfl) ?_
            refine lv_bipush (v := (7 : Int32)) hx hb dX9_moveUp_26 (by decide +kernel) ?_
            refine lv_icmp_ge (tgt := 88) hx hb dX9_moveUp_28 (by decide) (fun hc22 => ?_) (fun hc22 => ?_)
            · have h := zt h hc22
              exact hK16 S20 _ _ hM hX21 hS h17 _ (lv_sub hl [0, 1, 2, 3, 4] rfl) h
            · have h := zf h hc22
              obtain ⟨hq23, h⟩ := zk h
              have h24 := h18.nn hq23
              refine z_aloadR hx hb dX9_moveUp_31 (lv_at hl 5 rfl) h24.1 ?_
              refine z_getI hx hb hg zin_1 hown hK hM h24 2 rfl (by decide) (hg _ zw_101) (fun _ h9 => h9) dX9_moveUp_33 ?_
              refine lv_iload_n hx hb dX9_moveUp_36 rfl (lv_at hl 1 rfl) ?_
              refine lv_icmp_ne (tgt := 82) hx hb dX9_moveUp_37 (by decide) (fun hc25 => ?_) (fun hc25 => ?_)
              · have h := zf h hc25
                refine lv_iinc (v := (x19 + (1 : Int32))) (lv' := [(6, .int (x19 + (1 : Int32))), (0, .ref (B + a0)), (1, .int v1), (2, .int v2), (3, .int v3), (4, .int x5), (5, zv B (zr S6 (zr S6 a0 9) (Int32.toNatClampNeg x5)))]) hx hb dX9_moveUp_82 hl (k := 6) rfl rfl (by decide) (by simp [zv_cat]) (fun ls hl => ?_)
                refine lv_goto (tgt := 24) hx hb dX9_moveUp_85 (by decide) ?_
                exact ih24 (x19 + (1 : Int32)) S20 _ _ hM hX21 hS h17 (h24.q) _ (lv_sub hl [1, 2, 3, 4, 5, 6, 0] rfl) h
              · have h := zt h hc25
                refine lv_iload_n hx hb dX9_moveUp_40 rfl (lv_at hl 3 rfl) ?_
                refine lv_iload hx hb dX9_moveUp_41 (lv_at hl 6 rfl) ?_
                obtain ⟨r27, hr26, h⟩ := zlg h
                have hr26 := hr26.symm
                refine z_runi (va_runSN (As := [.int v3, .int x19]) (rest := []) ⟨hx, hb, hml, hown, hg⟩ (c_X11_holds l D cy B hr26) ⟨z_cnB hg hC (List.mem_of_getElem? (i := 14) rfl) zw_2 zw_592 zh_X11_holds.2 ⟨(Nat.le_of_ble_eq_true rfl), (Nat.le_of_ble_eq_true rfl)⟩, hg _ zw_591, trivial⟩ (zPS hC hM) rfl rfl hl.1 rfl (lv_room (Nat.le_of_ble_eq_true rfl)) dX9_moveUp_43 ⟨(Nat.le_of_ble_eq_true rfl), (Nat.le_of_ble_eq_true rfl)⟩) hS (fun H locs hM hX28 hS => ?_)
                refine lv_if_eq (tgt := 82) hx hb dX9_moveUp_46 (by decide) (fun hc30 => ?_) (fun hc30 => ?_)
                · have h := zt h hc30
                  refine lv_iinc (v := (x19 + (1 : Int32))) (lv' := [(6, .int (x19 + (1 : Int32))), (0, .ref (B + a0)), (1, .int v1), (2, .int v2), (3, .int v3), (4, .int x5), (5, zv B (zr S6 (zr S6 a0 9) (Int32.toNatClampNeg x5)))]) hx hb dX9_moveUp_82 hl (k := 6) rfl rfl (by decide) (by simp [zv_cat]) (fun ls hl => ?_)
                  refine lv_goto (tgt := 24) hx hb dX9_moveUp_85 (by decide) ?_
                  exact ih24 (x19 + (1 : Int32)) S20 _ _ hM hX21 hS h17 (h24.q) _ (lv_sub hl [1, 2, 3, 4, 5, 6, 0] rfl) h
                · have h := zf h hc30
                  refine z_aloadR hx hb dX9_moveUp_49 (lv_at hl 5 rfl) h24.1 ?_
                  refine lv_iload hx hb dX9_moveUp_51 (lv_at hl 6 rfl) ?_
                  obtain ⟨r32, hr31, h⟩ := zb1 h
                  refine z_runi (va_runV (As := [.int x19]) (rest := []) ⟨hx, hb, hml, hown, hg⟩ (c_X1_hasMark l D cy B h24 hr31) (z_cwV hg zw_637 zw_474 zw_475 zw_6 zw_476 zh_X1_hasMark ⟨(Nat.le_of_ble_eq_true rfl), (Nat.le_of_ble_eq_true rfl)⟩) (zPV hC hM h24 (by decide) rfl) rfl rfl hl.1 rfl (lv_room (Nat.le_of_ble_eq_true rfl)) dX9_moveUp_53 ⟨(Nat.le_of_ble_eq_true rfl), (Nat.le_of_ble_eq_true rfl)⟩) hS (fun H locs hM hX33 hS => ?_)
                  refine lv_if_eq (tgt := 82) hx hb dX9_moveUp_56 (by decide) (fun hc35 => ?_) (fun hc35 => ?_)
                  · have h := zt h hc35
                    refine lv_iinc (v := (x19 + (1 : Int32))) (lv' := [(6, .int (x19 + (1 : Int32))), (0, .ref (B + a0)), (1, .int v1), (2, .int v2), (3, .int v3), (4, .int x5), (5, zv B (zr S6 (zr S6 a0 9) (Int32.toNatClampNeg x5)))]) hx hb dX9_moveUp_82 hl (k := 6) rfl rfl (by decide) (by simp [zv_cat]) (fun ls hl => ?_)
                    refine lv_goto (tgt := 24) hx hb dX9_moveUp_85 (by decide) ?_
                    exact ih24 (x19 + (1 : Int32)) S20 _ _ hM hX21 hS h17 (h24.q) _ (lv_sub hl [1, 2, 3, 4, 5, 6, 0] rfl) h
                  · have h := zf h hc35
                    refine z_aloadR hx hb dX9_moveUp_59 (lv_at hl 5 rfl) h24.1 ?_
                    obtain ⟨hq37, h⟩ := zk h
                    refine z_getN hx hb hg zin_1 hown hK hM h24 0 rfl (by decide) (hg _ zw_94) (fun _ h9 => h9) hq37 dX9_moveUp_61 (fun h36 => ?_)
                    refine lv_iload hx hb dX9_moveUp_64 (lv_at hl 6 rfl) ?_
                    refine z_aloadR hx hb dX9_moveUp_66 (lv_at hl 5 rfl) h24.1 ?_
                    refine z_getI hx hb hg zin_1 hown hK hM h24 3 rfl (by decide) (hg _ zw_104) (fun _ h9 => h9) dX9_moveUp_68 ?_
                    refine lv_iload_n hx hb dX9_moveUp_71 rfl (lv_at hl 2 rfl) ?_
                    refine lv_icmp_ne (tgt := 80) hx hb dX9_moveUp_72 (by decide) (fun hc38 => ?_) (fun hc38 => ?_)
                    · have h := zf h hc38
                      refine lv_iconst (v := (0 : Int32)) hx hb dX9_moveUp_80 (by decide +kernel) ?_
                      obtain ⟨hq39, h⟩ := zk h
                      refine z_iast hx hb hK hM hS h36 hq39 dX9_moveUp_81 (fun H locs hM hS => ?_)
                      obtain ⟨S40, e41, h⟩ := zlg h
                      rw [← e41] at hM
                      have hX42 : zX S20 S40 := by rw [e41]; exact zX_pI
                      have h43 := h17.mo hX42
                      have h44 := h24.mo hX42
                      have hX45 := hX21.tr hX42
                      refine lv_iinc (v := (x19 + (1 : Int32))) (lv' := [(6, .int (x19 + (1 : Int32))), (0, .ref (B + a0)), (1, .int v1), (2, .int v2), (3, .int v3), (4, .int x5), (5, zv B (zr S6 (zr S6 a0 9) (Int32.toNatClampNeg x5)))]) hx hb dX9_moveUp_82 hl (k := 6) rfl rfl (by decide) (by simp [zv_cat]) (fun ls hl => ?_)
                      refine lv_goto (tgt := 24) hx hb dX9_moveUp_85 (by decide) ?_
                      exact ih24 (x19 + (1 : Int32)) S40 _ _ hM hX45 hS h43 (h44.q) _ (lv_sub hl [1, 2, 3, 4, 5, 6, 0] rfl) h
                    · have h := zt h hc38
                      refine lv_bipush (v := (20 : Int32)) hx hb dX9_moveUp_75 (by decide +kernel) ?_
                      refine lv_goto (tgt := 81) hx hb dX9_moveUp_77 (by decide) ?_
                      obtain ⟨hq46, h⟩ := zk h
                      refine z_iast hx hb hK hM hS h36 hq46 dX9_moveUp_81 (fun H locs hM hS => ?_)
                      obtain ⟨S47, e48, h⟩ := zlg h
                      rw [← e48] at hM
                      have hX49 : zX S20 S47 := by rw [e48]; exact zX_pI
                      have h50 := h17.mo hX49
                      have h51 := h24.mo hX49
                      have hX52 := hX21.tr hX49
                      refine lv_iinc (v := (x19 + (1 : Int32))) (lv' := [(6, .int (x19 + (1 : Int32))), (0, .ref (B + a0)), (1, .int v1), (2, .int v2), (3, .int v3), (4, .int x5), (5, zv B (zr S6 (zr S6 a0 9) (Int32.toNatClampNeg x5)))]) hx hb dX9_moveUp_82 hl (k := 6) rfl rfl (by decide) (by simp [zv_cat]) (fun ls hl => ?_)
                      refine lv_goto (tgt := 24) hx hb dX9_moveUp_85 (by decide) ?_
                      exact ih24 (x19 + (1 : Int32)) S47 _ _ hM hX52 hS h50 (h51.q) _ (lv_sub hl [1, 2, 3, 4, 5, 6, 0] rfl) h
        exact hL24 n (0 : Int32) S6 _ _ hM hX7 hS h4 h12 _ (lv_sub hl [2, 3, 4, 5, 6, 1, 0] rfl) h
  exact hL3 n (0 : Int32) S0 _ _ hM hX0 hS ha0 _ (lv_sub hl [1, 2, 3, 4, 0] rfl) h
def f_X10_start (S0 : zM) (a0 : Nat) : zM :=
  zLet (zpI S0 a0 0 (0 : Int32)) (fun S1 => zLet (zpI S1 a0 1 (0 : Int32)) (fun S6 => zLet (zpI S6 a0 2 (0 : Int32)) (fun S11 => zLet (zpI S11 a0 3 (0 : Int32)) (fun S16 => zLet (zpI S16 a0 4 (0 : Int32)) (fun S21 => S21)))))
set_option maxHeartbeats 4000000 in
set_option maxRecDepth 100000 in
theorem c_X10_start (l : Launch) (D : va_G) (cy : Nat → ClassId) (B : Nat) {S0 : zM} {a0 : Nat} {S' : zM} (ha0 : zA S0 a0 10) (h : f_X10_start S0 a0 = S') : Met l yX10_start (zws yX10_start cX10_start 1 none) { frames := 0, cells := 0, slots := 0, locals := 0 } (zPc D cy B S0 [.ref (B + a0)]) (zQv D cy B S0 S') 0 0 (fun q => B < q) := by
  refine Met.ofW (cc := cX10_start) (maxL := 1) (ret := none) (by decide) rfl ?_
  intro p e s m args below meth c s₁ Bd hml hv
  obtain ⟨rfl, hC, hM⟩ := hv
  obtain ⟨hx, hb, hr, hg, hown, hlk⟩ := z_open Bd
  have hK := hC.1
  have hS : va_S (fun q => B < q) s.heap s.heap [] := va_S.rf
  have hX0 : zX S0 S0 := zX.rf
  refine z_entry (vs := [.ref (B + a0)]) (Nat.le_of_ble_eq_true rfl) (fun ls hl => ?_)
  have hl : lv_has ls 1 [(0, .ref (B + a0))] := hl
  unfold f_X10_start at h
  refine lv_aload_n hx hb dX10_start_0 rfl (lv_at hl 0 rfl) ?_
  refine lv_iconst (v := (0 : Int32)) hx hb dX10_start_1 (by decide +kernel) ?_
  refine z_putI hx hb hg zin_10 tyX10 tyX10_ok nmX10 hown hK hM hS ha0 0 rfl (by decide) (hg _ zw_229) (fun _ h9 => h9) (Or.inl rfl) (tyX10_ok 0 (by decide)) rfl rfl dX10_start_2 (fun H locs hM hS => ?_)
  obtain ⟨S1, e2, h⟩ := zlg h
  rw [← e2] at hM
  have hX3 : zX S0 S1 := by rw [e2]; exact zX_pI
  have h4 := ha0.mo hX3
  have hX5 := hX0.tr hX3
  refine lv_aload_n hx hb dX10_start_5 rfl (lv_at hl 0 rfl) ?_
  refine lv_iconst (v := (0 : Int32)) hx hb dX10_start_6 (by decide +kernel) ?_
  refine z_putI hx hb hg zin_10 tyX10 tyX10_ok nmX10 hown hK hM hS h4 1 rfl (by decide) (hg _ zw_231) (fun _ h9 => h9) (Or.inl rfl) (tyX10_ok 1 (by decide)) rfl rfl dX10_start_7 (fun H locs hM hS => ?_)
  obtain ⟨S6, e7, h⟩ := zlg h
  rw [← e7] at hM
  have hX8 : zX S1 S6 := by rw [e7]; exact zX_pI
  have h9 := h4.mo hX8
  have hX10 := hX5.tr hX8
  refine lv_aload_n hx hb dX10_start_10 rfl (lv_at hl 0 rfl) ?_
  refine lv_iconst (v := (0 : Int32)) hx hb dX10_start_11 (by decide +kernel) ?_
  refine z_putI hx hb hg zin_10 tyX10 tyX10_ok nmX10 hown hK hM hS h9 2 rfl (by decide) (hg _ zw_233) (fun _ h9 => h9) (Or.inl rfl) (tyX10_ok 2 (by decide)) rfl rfl dX10_start_12 (fun H locs hM hS => ?_)
  obtain ⟨S11, e12, h⟩ := zlg h
  rw [← e12] at hM
  have hX13 : zX S6 S11 := by rw [e12]; exact zX_pI
  have h14 := h9.mo hX13
  have hX15 := hX10.tr hX13
  refine lv_aload_n hx hb dX10_start_15 rfl (lv_at hl 0 rfl) ?_
  refine lv_iconst (v := (0 : Int32)) hx hb dX10_start_16 (by decide +kernel) ?_
  refine z_putI hx hb hg zin_10 tyX10 tyX10_ok nmX10 hown hK hM hS h14 3 rfl (by decide) (hg _ zw_235) (fun _ h9 => h9) (Or.inl rfl) (tyX10_ok 3 (by decide)) rfl rfl dX10_start_17 (fun H locs hM hS => ?_)
  obtain ⟨S16, e17, h⟩ := zlg h
  rw [← e17] at hM
  have hX18 : zX S11 S16 := by rw [e17]; exact zX_pI
  have h19 := h14.mo hX18
  have hX20 := hX15.tr hX18
  refine lv_aload_n hx hb dX10_start_20 rfl (lv_at hl 0 rfl) ?_
  refine lv_iconst (v := (0 : Int32)) hx hb dX10_start_21 (by decide +kernel) ?_
  refine z_putI hx hb hg zin_10 tyX10 tyX10_ok nmX10 hown hK hM hS h19 4 rfl (by decide) (hg _ zw_237) (fun _ h9 => h9) (Or.inl rfl) (tyX10_ok 4 (by decide)) rfl rfl dX10_start_22 (fun H locs hM hS => ?_)
  obtain ⟨S21, e22, h⟩ := zlg h
  rw [← e22] at hM
  have hX23 : zX S16 S21 := by rw [e22]; exact zX_pI
  have hX24 := hX20.tr hX23
  exact z_vret hx hb hr hlk hM hX24 hS h dX10_start_25
def f_X10_take (S0 : zM) (a0 : Nat) (v1 : Int32) : zM :=
  zLet (fun (x2 : Int32) => zLet (zpI S0 a0 2 x2) (fun S5 => zLet (fun (x11 : Int32) => zLet (zpI S5 a0 3 x11) (fun S14 => zLet (zpI S14 a0 0 ((zi S14 a0 0) + v1)) (fun S19 => zLet (zpI S19 a0 4 ((zi S19 a0 4) + (zabs v1))) (fun S24 => zLet (zpI S24 a0 1 ((zi S24 a0 1) + (1 : Int32))) (fun S29 => S29))))) (fun K13 => if (zi S5 a0 1) = 0 then K13 v1 else K13 (zmax (zi S5 a0 3) v1)))) (fun K4 => if (zi S0 a0 1) = 0 then K4 v1 else K4 (zmin (zi S0 a0 2) v1))
set_option maxHeartbeats 4000000 in
set_option maxRecDepth 100000 in
theorem c_X10_take (l : Launch) (D : va_G) (cy : Nat → ClassId) (B : Nat) {S0 : zM} {a0 : Nat} {v1 : Int32} {S' : zM} (ha0 : zA S0 a0 10) (h : f_X10_take S0 a0 v1 = S') : Met l yX10_take (zws yX10_take cX10_take 2 none) { frames := 1, cells := 0, slots := 0, locals := 21 } (zPc D cy B S0 [.ref (B + a0), .int v1]) (zQv D cy B S0 S') 0 0 (fun q => B < q) := by
  refine Met.ofW (cc := cX10_take) (maxL := 2) (ret := none) (by decide) rfl ?_
  intro p e s m args below meth c s₁ Bd hml hv
  obtain ⟨rfl, hC, hM⟩ := hv
  obtain ⟨hx, hb, hr, hg, hown, hlk⟩ := z_open Bd
  have hK := hC.1
  have hS : va_S (fun q => B < q) s.heap s.heap [] := va_S.rf
  have hX0 : zX S0 S0 := zX.rf
  refine z_entry (vs := [.ref (B + a0), .int v1]) (Nat.le_of_ble_eq_true rfl) (fun ls hl => ?_)
  have hl : lv_has ls 2 [(0, .ref (B + a0)), (1, .int v1)] := hl
  unfold f_X10_take at h
  refine lv_aload_n hx hb dX10_take_0 rfl (lv_at hl 0 rfl) ?_
  refine lv_aload_n hx hb dX10_take_1 rfl (lv_at hl 0 rfl) ?_
  refine z_getI hx hb hg zin_10 hown hK hM ha0 1 rfl (by decide) (hg _ zw_231) (fun _ h9 => h9) dX10_take_2 ?_
  obtain ⟨K4, eK4, h⟩ := zlg h
  have hK4 : ∀ (x2 : Int32) (H : Heap) (locs : List Loc), zMR D cy B S0 H → zX S0 S0 → va_S (fun q => B < q) s.heap H locs → zA S0 a0 10 → ∀ ls : Array Slot, lv_has ls 2 [(0, .ref (B + a0)), (1, .int v1)] → K4 x2 = S' → W p l e (headSpec (zws yX10_take cX10_take 2 none) { frames := 1, cells := 0, slots := 0, locals := 21 }).room s m (([.ref (B + a0), .int v1] : List Value).toArray) below meth c H locs 0 0 (MQ below (zQv D cy B S0 S') (([.ref (B + a0), .int v1] : List Value).toArray) s 0 0 (fun q => B < q)) (F0 m 20 ls [.int x2, .ref (B + a0)]) := by
    intro x2 H locs hM hX3 hS h1 ls hl h
    rw [eK4] at h
    refine z_putI hx hb hg zin_10 tyX10 tyX10_ok nmX10 hown hK hM hS h1 2 rfl (by decide) (hg _ zw_233) (fun _ h9 => h9) (Or.inl rfl) (tyX10_ok 2 (by decide)) rfl rfl dX10_take_20 (fun H locs hM hS => ?_)
    obtain ⟨S5, e6, h⟩ := zlg h
    rw [← e6] at hM
    have hX7 : zX S0 S5 := by rw [e6]; exact zX_pI
    have h8 := h1.mo hX7
    have hX9 := hX3.tr hX7
    refine lv_aload_n hx hb dX10_take_23 rfl (lv_at hl 0 rfl) ?_
    refine lv_aload_n hx hb dX10_take_24 rfl (lv_at hl 0 rfl) ?_
    refine z_getI hx hb hg zin_10 hown hK hM h8 1 rfl (by decide) (hg _ zw_231) (fun _ h9 => h9) dX10_take_25 ?_
    obtain ⟨K13, eK13, h⟩ := zlg h
    have hK13 : ∀ (x11 : Int32) (H : Heap) (locs : List Loc), zMR D cy B S5 H → zX S0 S5 → va_S (fun q => B < q) s.heap H locs → zA S5 a0 10 → ∀ ls : Array Slot, lv_has ls 2 [(0, .ref (B + a0)), (1, .int v1)] → K13 x11 = S' → W p l e (headSpec (zws yX10_take cX10_take 2 none) { frames := 1, cells := 0, slots := 0, locals := 21 }).room s m (([.ref (B + a0), .int v1] : List Value).toArray) below meth c H locs 0 0 (MQ below (zQv D cy B S0 S') (([.ref (B + a0), .int v1] : List Value).toArray) s 0 0 (fun q => B < q)) (F0 m 43 ls [.int x11, .ref (B + a0)]) := by
      intro x11 H locs hM hX12 hS h10 ls hl h
      rw [eK13] at h
      refine z_putI hx hb hg zin_10 tyX10 tyX10_ok nmX10 hown hK hM hS h10 3 rfl (by decide) (hg _ zw_235) (fun _ h9 => h9) (Or.inl rfl) (tyX10_ok 3 (by decide)) rfl rfl dX10_take_43 (fun H locs hM hS => ?_)
      obtain ⟨S14, e15, h⟩ := zlg h
      rw [← e15] at hM
      have hX16 : zX S5 S14 := by rw [e15]; exact zX_pI
      have h17 := h10.mo hX16
      have hX18 := hX12.tr hX16
      refine lv_aload_n hx hb dX10_take_46 rfl (lv_at hl 0 rfl) ?_
      refine lv_dup hx hb dX10_take_47 rfl ?_
      refine z_getI hx hb hg zin_10 hown hK hM h17 0 rfl (by decide) (hg _ zw_229) (fun _ h9 => h9) dX10_take_48 ?_
      refine lv_iload_n hx hb dX10_take_51 rfl (lv_at hl 1 rfl) ?_
      refine lv_iadd hx hb dX10_take_52 ?_
      refine z_putI hx hb hg zin_10 tyX10 tyX10_ok nmX10 hown hK hM hS h17 0 rfl (by decide) (hg _ zw_229) (fun _ h9 => h9) (Or.inl rfl) (tyX10_ok 0 (by decide)) rfl rfl dX10_take_53 (fun H locs hM hS => ?_)
      obtain ⟨S19, e20, h⟩ := zlg h
      rw [← e20] at hM
      have hX21 : zX S14 S19 := by rw [e20]; exact zX_pI
      have h22 := h17.mo hX21
      have hX23 := hX18.tr hX21
      refine lv_aload_n hx hb dX10_take_56 rfl (lv_at hl 0 rfl) ?_
      refine lv_dup hx hb dX10_take_57 rfl ?_
      refine z_getI hx hb hg zin_10 hown hK hM h22 4 rfl (by decide) (hg _ zw_237) (fun _ h9 => h9) dX10_take_58 ?_
      refine lv_iload_n hx hb dX10_take_61 rfl (lv_at hl 1 rfl) ?_
      refine va_mabs hx hb (hml.trans hl.1.symm) hown (hg _ zw_678) (hg _ zw_679) (hg _ zw_15) (hg _ zw_680) (Nat.le_of_ble_eq_true rfl) (Nat.le_trans (Nat.add_le_add_right (z_room (Nat.le_of_ble_eq_true rfl)) 13) (Nat.le_of_ble_eq_true rfl)) (by omega) (by omega) dX10_take_62 ?_
      refine W.eq (g2 := F0 m 65 ls [.int (zabs v1), .int (zi S19 a0 4), .ref (B + a0)]) rfl ?_
      refine lv_iadd hx hb dX10_take_65 ?_
      refine z_putI hx hb hg zin_10 tyX10 tyX10_ok nmX10 hown hK hM hS h22 4 rfl (by decide) (hg _ zw_237) (fun _ h9 => h9) (Or.inl rfl) (tyX10_ok 4 (by decide)) rfl rfl dX10_take_66 (fun H locs hM hS => ?_)
      obtain ⟨S24, e25, h⟩ := zlg h
      rw [← e25] at hM
      have hX26 : zX S19 S24 := by rw [e25]; exact zX_pI
      have h27 := h22.mo hX26
      have hX28 := hX23.tr hX26
      refine lv_aload_n hx hb dX10_take_69 rfl (lv_at hl 0 rfl) ?_
      refine lv_dup hx hb dX10_take_70 rfl ?_
      refine z_getI hx hb hg zin_10 hown hK hM h27 1 rfl (by decide) (hg _ zw_231) (fun _ h9 => h9) dX10_take_71 ?_
      refine lv_iconst (v := (1 : Int32)) hx hb dX10_take_74 (by decide +kernel) ?_
      refine lv_iadd hx hb dX10_take_75 ?_
      refine z_putI hx hb hg zin_10 tyX10 tyX10_ok nmX10 hown hK hM hS h27 1 rfl (by decide) (hg _ zw_231) (fun _ h9 => h9) (Or.inl rfl) (tyX10_ok 1 (by decide)) rfl rfl dX10_take_76 (fun H locs hM hS => ?_)
      obtain ⟨S29, e30, h⟩ := zlg h
      rw [← e30] at hM
      have hX31 : zX S24 S29 := by rw [e30]; exact zX_pI
      have hX32 := hX28.tr hX31
      exact z_vret hx hb hr hlk hM hX32 hS h dX10_take_79
    refine lv_if_ne (tgt := 35) hx hb dX10_take_28 (by decide) (fun hc33 => ?_) (fun hc33 => ?_)
    · have h := zf h hc33
      refine lv_aload_n hx hb dX10_take_35 rfl (lv_at hl 0 rfl) ?_
      refine z_getI hx hb hg zin_10 hown hK hM h8 3 rfl (by decide) (hg _ zw_235) (fun _ h9 => h9) dX10_take_36 ?_
      refine lv_iload_n hx hb dX10_take_39 rfl (lv_at hl 1 rfl) ?_
      refine va_mmax hx hb (hml.trans hl.1.symm) hown (hg _ zw_677) (hg _ zw_375) (hg _ zw_15) (hg _ zw_376) (Nat.le_of_ble_eq_true rfl) (Nat.le_trans (Nat.add_le_add_right (z_room (Nat.le_of_ble_eq_true rfl)) 13) (Nat.le_of_ble_eq_true rfl)) (by omega) (by omega) dX10_take_40 ?_
      refine W.eq (g2 := F0 m 43 ls [.int (zmax (zi S5 a0 3) v1), .ref (B + a0)]) rfl ?_
      exact hK13 (zmax (zi S5 a0 3) v1) _ _ hM hX9 hS h8 _ (lv_sub hl [0, 1] rfl) h
    · have h := zt h hc33
      refine lv_iload_n hx hb dX10_take_31 rfl (lv_at hl 1 rfl) ?_
      refine lv_goto (tgt := 43) hx hb dX10_take_32 (by decide) ?_
      exact hK13 v1 _ _ hM hX9 hS h8 _ (lv_sub hl [0, 1] rfl) h
  refine lv_if_ne (tgt := 12) hx hb dX10_take_5 (by decide) (fun hc34 => ?_) (fun hc34 => ?_)
  · have h := zf h hc34
    refine lv_aload_n hx hb dX10_take_12 rfl (lv_at hl 0 rfl) ?_
    refine z_getI hx hb hg zin_10 hown hK hM ha0 2 rfl (by decide) (hg _ zw_233) (fun _ h9 => h9) dX10_take_13 ?_
    refine lv_iload_n hx hb dX10_take_16 rfl (lv_at hl 1 rfl) ?_
    refine va_mmin hx hb (hml.trans hl.1.symm) hown (hg _ zw_676) (hg _ zw_412) (hg _ zw_15) (hg _ zw_413) (Nat.le_of_ble_eq_true rfl) (Nat.le_trans (Nat.add_le_add_right (z_room (Nat.le_of_ble_eq_true rfl)) 13) (Nat.le_of_ble_eq_true rfl)) (by omega) (by omega) dX10_take_17 ?_
    refine W.eq (g2 := F0 m 20 ls [.int (zmin (zi S0 a0 2) v1), .ref (B + a0)]) rfl ?_
    exact hK4 (zmin (zi S0 a0 2) v1) _ _ hM hX0 hS ha0 _ (lv_sub hl [0, 1] rfl) h
  · have h := zt h hc34
    refine lv_iload_n hx hb dX10_take_8 rfl (lv_at hl 1 rfl) ?_
    refine lv_goto (tgt := 20) hx hb dX10_take_9 (by decide) ?_
    exact hK4 v1 _ _ hM hX0 hS ha0 _ (lv_sub hl [0, 1] rfl) h
def f_X9_tallyUp_L7b (n : Nat) (a0 : Nat) (a1 : Nat) (v2 : Int32) (v3 : Int32) (K10 : zM → Option (zM)) (rec7 : Int32 → zM → Option (zM)) (x13 : Int32) (S14 : zM) : Option (zM) :=
  if (zi S14 a0 7) ≤ x13 then K10 S14 else zChk (¬ (zr S14 a0 9) = 0) (zChk (¬ (x13 < 0 ∨ zln S14 (zr S14 a0 9) ≤ (x13).toNatClampNeg)) (zChk (¬ (zr S14 (zr S14 a0 9) (Int32.toNatClampNeg x13)) = 0) (zB1 (f_X1_markBy n S14 (zr S14 (zr S14 a0 9) (Int32.toNatClampNeg x13)) v2) (fun r24 => if r24 = (-128 : Int32) then rec7 (x13 + (1 : Int32)) S14 else zLet (zChk (¬ (zr S14 a0 11) = 0) (zB1 (f_X5_gather n S14 (zr S14 a0 11) (zr S14 (zr S14 a0 9) (Int32.toNatClampNeg x13))) (fun S36 => zChk (¬ (zr S36 a0 11) = 0) (zB1 (f_X5_middle S36 (zr S36 a0 11)) (fun r45 => zLet (f_X10_take S36 a1 (r24 - r45)) (fun S49 => rec7 (x13 + (1 : Int32)) S49)))))) (fun K32 => if v3 = (-1 : Int32) then K32 else zB1 (f_X9_landOf S14 a0 (zr S14 (zr S14 a0 9) (Int32.toNatClampNeg x13))) (fun r57 => if r57 = v3 then K32 else rec7 (x13 + (1 : Int32)) S14))))))
def f_X9_tallyUp_L7 (n : Nat) (a0 : Nat) (a1 : Nat) (v2 : Int32) (v3 : Int32) (K10 : zM → Option (zM)) : Nat → Int32 → zM → Option (zM)
  | 0 => fun _ _ => none
  | k + 1 => fun x13 S14 => f_X9_tallyUp_L7b n a0 a1 v2 v3 K10 (f_X9_tallyUp_L7 n a0 a1 v2 v3 K10 k) x13 S14
def f_X9_tallyUp (n : Nat) (S0 : zM) (a0 : Nat) (a1 : Nat) (v2 : Int32) (v3 : Int32) : Option (zM) :=
  zLet (f_X10_start S0 a1) (fun S2 => zLet (fun (S8 : zM) => some S8) (fun K10 => f_X9_tallyUp_L7 n a0 a1 v2 v3 K10 n (0 : Int32) S2))
set_option maxHeartbeats 4000000 in
set_option maxRecDepth 100000 in
theorem c_X9_tallyUp (l : Launch) (D : va_G) (cy : Nat → ClassId) (B : Nat) {n : Nat} {S0 : zM} {a0 : Nat} {a1 : Nat} {v2 : Int32} {v3 : Int32} {S' : zM} (ha0 : zA S0 a0 9) (ha1 : zA S0 a1 10) (h : f_X9_tallyUp n S0 a0 a1 v2 v3 = some S') : Met l yX9_tallyUp (zws yX9_tallyUp cX9_tallyUp 7 none) { frames := 3, cells := 0, slots := 0, locals := 64 } (zPc D cy B S0 [.ref (B + a0), .ref (B + a1), .int v2, .int v3]) (zQv D cy B S0 S') 0 0 (fun q => B < q) := by
  refine Met.ofW (cc := cX9_tallyUp) (maxL := 7) (ret := none) (by decide) rfl ?_
  intro p e s m args below meth c s₁ Bd hml hv
  obtain ⟨rfl, hC, hM⟩ := hv
  obtain ⟨hx, hb, hr, hg, hown, hlk⟩ := z_open Bd
  have hK := hC.1
  have hS : va_S (fun q => B < q) s.heap s.heap [] := va_S.rf
  have hX0 : zX S0 S0 := zX.rf
  refine z_entry (vs := [.ref (B + a0), .ref (B + a1), .int v2, .int v3]) (Nat.le_of_ble_eq_true rfl) (fun ls hl => ?_)
  have hl : lv_has ls 7 [(0, .ref (B + a0)), (1, .ref (B + a1)), (2, .int v2), (3, .int v3)] := hl
  unfold f_X9_tallyUp at h
  refine lv_aload_n hx hb dX9_tallyUp_0 rfl (lv_at hl 1 rfl) ?_
  obtain ⟨S2, hr1, h⟩ := zlg h
  have hr1 := hr1.symm
  refine z_runv (va_runV (As := []) (rest := []) ⟨hx, hb, hml, hown, hg⟩ (c_X10_start l D cy B ha1 hr1) (z_cwV hg zw_664 zw_665 zw_666 zw_11 zw_667 zh_X10_start ⟨(Nat.le_of_ble_eq_true rfl), (Nat.le_of_ble_eq_true rfl)⟩) (zPV hC hM ha1 (by decide) rfl) rfl rfl hl.1 rfl (lv_room (Nat.le_of_ble_eq_true rfl)) dX9_tallyUp_1 ⟨(Nat.le_of_ble_eq_true rfl), (Nat.le_of_ble_eq_true rfl)⟩) hS (fun H locs hM hX3 hS => ?_)
  have h5 := ha0.mo hX3
  have h6 := ha1.mo hX3
  have hX7 := hX0.tr hX3
  refine lv_iconst (v := (0 : Int32)) hx hb dX9_tallyUp_4 (by decide +kernel) ?_
  refine lv_istore (i := 4) (lv' := [(4, .int (0 : Int32)), (0, .ref (B + a0)), (1, .ref (B + a1)), (2, .int v2), (3, .int v3)]) hx hb dX9_tallyUp_5 hl (by decide) rfl (fun ls hl => ?_)
  obtain ⟨K10, eK10, h⟩ := zlg h
  have hK10 : ∀ (S8 : zM) (H : Heap) (locs : List Loc), zMR D cy B S8 H → zX S0 S8 → va_S (fun q => B < q) s.heap H locs → ∀ ls : Array Slot, lv_has ls 7 [] → K10 S8 = some S' → W p l e (headSpec (zws yX9_tallyUp cX9_tallyUp 7 none) { frames := 3, cells := 0, slots := 0, locals := 64 }).room s m (([.ref (B + a0), .ref (B + a1), .int v2, .int v3] : List Value).toArray) below meth c H locs 0 0 (MQ below (zQv D cy B S0 S') (([.ref (B + a0), .ref (B + a1), .int v2, .int v3] : List Value).toArray) s 0 0 (fun q => B < q)) (F0 m 84 ls []) := by
    intro S8 H locs hM hX9 hS ls hl h
    rw [eK10] at h
    exact z_vret hx hb hr hlk hM hX9 hS (zsm h) dX9_tallyUp_84
  have hL7 : ∀ (k : Nat) (x13 : Int32) (S14 : zM) (H : Heap) (locs : List Loc), zMR D cy B S14 H → zX S0 S14 → va_S (fun q => B < q) s.heap H locs → zA S14 a0 9 → zA S14 a1 10 → ∀ ls : Array Slot, lv_has ls 7 [(0, .ref (B + a0)), (1, .ref (B + a1)), (2, .int v2), (3, .int v3), (4, .int x13)] → f_X9_tallyUp_L7 n a0 a1 v2 v3 K10 k x13 S14 = some S' → W p l e (headSpec (zws yX9_tallyUp cX9_tallyUp 7 none) { frames := 3, cells := 0, slots := 0, locals := 64 }).room s m (([.ref (B + a0), .ref (B + a1), .int v2, .int v3] : List Value).toArray) below meth c H locs 0 0 (MQ below (zQv D cy B S0 S') (([.ref (B + a0), .ref (B + a1), .int v2, .int v3] : List Value).toArray) s 0 0 (fun q => B < q)) (F0 m 7 ls []) := by
    intro k
    induction k with
    | zero =>
      intro x13 S14 H locs hM hX15 hS h11 h12 ls hl h
      exact znone h
    | succ k ih7 =>
      intro x13 S14 H locs hM hX15 hS h11 h12 ls hl h
      replace h : f_X9_tallyUp_L7b n a0 a1 v2 v3 K10 (f_X9_tallyUp_L7 n a0 a1 v2 v3 K10 k) x13 S14 = some S' := h
      generalize f_X9_tallyUp_L7 n a0 a1 v2 v3 K10 k = rec7 at ih7 h
      unfold f_X9_tallyUp_L7b at h
      refine lv_iload hx hb dX9_tallyUp_7 (lv_at hl 4 rfl) ?_
      refine lv_aload_n hx hb dX9_tallyUp_9 rfl (lv_at hl 0 rfl) ?_
      refine z_getI hx hb hg zin_9 hown hK hM h11 7 rfl (by decide) (hg _ zw_139) (fun _ h9 => h9) dX9_tallyUp_10 ?_
      refine lv_icmp_ge (tgt := 84) hx hb dX9_tallyUp_13 (by decide) (fun hc16 => ?_) (fun hc16 => ?_)
      · have h := zt h hc16
        exact hK10 S14 _ _ hM hX15 hS _ (lv_sub hl [] rfl) h
      · have h := zf h hc16
        refine lv_aload_n hx hb dX9_tallyUp_16 rfl (lv_at hl 0 rfl) ?_
        obtain ⟨hq18, h⟩ := zk h
        refine z_getN hx hb hg zin_9 hown hK hM h11 9 rfl (by decide) (hg _ zw_142) (fun _ h9 => h9) hq18 dX9_tallyUp_17 (fun h17 => ?_)
        refine lv_iload hx hb dX9_tallyUp_20 (lv_at hl 4 rfl) ?_
        obtain ⟨hq19, h⟩ := zk h
        refine z_aald hx hb hK hM h17 (by decide) rfl hq19 dX9_tallyUp_22 (fun h20 => ?_)
        have h20 : zQ S14 (zr S14 (zr S14 a0 9) (Int32.toNatClampNeg x13)) 1 := h20
        refine z_astore (i := 5) (lv' := [(5, zv B (zr S14 (zr S14 a0 9) (Int32.toNatClampNeg x13))), (0, .ref (B + a0)), (1, .ref (B + a1)), (2, .int v2), (3, .int v3), (4, .int x13)]) hx hb dX9_tallyUp_23 hl (by decide) rfl (fun ls hl => ?_)
        obtain ⟨hq21, h⟩ := zk h
        have h22 := h20.nn hq21
        refine z_aloadR hx hb dX9_tallyUp_25 (lv_at hl 0 rfl) h22.1 ?_
        refine lv_iload_n hx hb dX9_tallyUp_27 rfl (lv_at hl 3 rfl) ?_
        obtain ⟨r24, hr23, h⟩ := zb1 h
        refine z_runi (va_runV (As := [.int v2]) (rest := []) ⟨hx, hb, hml, hown, hg⟩ (c_X1_markBy l D cy B h22 hr23) (z_cwV hg zw_668 zw_669 zw_670 zw_6 zw_671 zh_X1_markBy ⟨(Nat.le_of_ble_eq_true rfl), (Nat.le_of_ble_eq_true rfl)⟩) (zPV hC hM h22 (by decide) rfl) rfl rfl hl.1 rfl (lv_room (Nat.le_of_ble_eq_true rfl)) dX9_tallyUp_28 ⟨(Nat.le_of_ble_eq_true rfl), (Nat.le_of_ble_eq_true rfl)⟩) hS (fun H locs hM hX25 hS => ?_)
        refine lv_istore (i := 6) (lv' := [(6, .int r24), (5, zv B (zr S14 (zr S14 a0 9) (Int32.toNatClampNeg x13))), (0, .ref (B + a0)), (1, .ref (B + a1)), (2, .int v2), (3, .int v3), (4, .int x13)]) hx hb dX9_tallyUp_31 hl (by decide) (by simp [zv_cat]) (fun ls hl => ?_)
        refine lv_iload hx hb dX9_tallyUp_33 (lv_at hl 0 rfl) ?_
        refine lv_bipush (v := (-128 : Int32)) hx hb dX9_tallyUp_35 (by decide +kernel) ?_
        refine lv_icmp_eq (tgt := 78) hx hb dX9_tallyUp_37 (by decide) (fun hc27 => ?_) (fun hc27 => ?_)
        · have h := zt h hc27
          refine lv_iinc (v := (x13 + (1 : Int32))) (lv' := [(4, .int (x13 + (1 : Int32))), (6, .int r24), (5, zv B (zr S14 (zr S14 a0 9) (Int32.toNatClampNeg x13))), (0, .ref (B + a0)), (1, .ref (B + a1)), (2, .int v2), (3, .int v3)]) hx hb dX9_tallyUp_78 hl (k := 6) rfl rfl (by decide) rfl (fun ls hl => ?_)
          refine lv_goto (tgt := 7) hx hb dX9_tallyUp_81 (by decide) ?_
          exact ih7 (x13 + (1 : Int32)) S14 _ _ hM hX15 hS h11 h12 _ (lv_sub hl [3, 4, 5, 6, 0] rfl) h
        · have h := zf h hc27
          refine lv_iload_n hx hb dX9_tallyUp_40 rfl (lv_at hl 5 rfl) ?_
          refine lv_iconst (v := (-1 : Int32)) hx hb dX9_tallyUp_41 (by decide +kernel) ?_
          obtain ⟨K32, eK32, h⟩ := zlg h
          have hK32 : ∀ (H : Heap) (locs : List Loc), zMR D cy B S14 H → zX S0 S14 → va_S (fun q => B < q) s.heap H locs → zA S14 a0 9 → zA S14 a1 10 → zA S14 (zr S14 (zr S14 a0 9) (Int32.toNatClampNeg x13)) 1 → ∀ ls : Array Slot, lv_has ls 7 [(0, .ref (B + a0)), (1, .ref (B + a1)), (2, .int v2), (3, .int v3), (4, .int x13), (5, zv B (zr S14 (zr S14 a0 9) (Int32.toNatClampNeg x13))), (6, .int r24)] → K32 = some S' → W p l e (headSpec (zws yX9_tallyUp cX9_tallyUp 7 none) { frames := 3, cells := 0, slots := 0, locals := 64 }).room s m (([.ref (B + a0), .ref (B + a1), .int v2, .int v3] : List Value).toArray) below meth c H locs 0 0 (MQ below (zQv D cy B S0 S') (([.ref (B + a0), .ref (B + a1), .int v2, .int v3] : List Value).toArray) s 0 0 (fun q => B < q)) (F0 m 55 ls []) := by
            intro H locs hM hX31 hS h28 h29 h30 ls hl h
            rw [eK32] at h
            refine lv_aload_n hx hb dX9_tallyUp_55 rfl (lv_at hl 0 rfl) ?_
            obtain ⟨hq34, h⟩ := zk h
            refine z_getN hx hb hg zin_9 hown hK hM h28 11 rfl (by decide) (hg _ zw_145) (fun _ h9 => h9) hq34 dX9_tallyUp_56 (fun h33 => ?_)
            refine z_aloadR hx hb dX9_tallyUp_59 (lv_at hl 5 rfl) h30.1 ?_
            obtain ⟨S36, hr35, h⟩ := zb1 h
            refine z_runv (va_runV (As := [.ref (B + (zr S14 (zr S14 a0 9) (Int32.toNatClampNeg x13)))]) (rest := []) ⟨hx, hb, hml, hown, hg⟩ (c_X5_gather l D cy B h33 h30 hr35) (z_cwV hg zw_545 zw_546 zw_547 zw_5 zw_548 zh_X5_gather ⟨(Nat.le_of_ble_eq_true rfl), (Nat.le_of_ble_eq_true rfl)⟩) (zPV hC hM h33 (by decide) rfl) rfl rfl hl.1 rfl (lv_room (Nat.le_of_ble_eq_true rfl)) dX9_tallyUp_61 ⟨(Nat.le_of_ble_eq_true rfl), (Nat.le_of_ble_eq_true rfl)⟩) hS (fun H locs hM hX37 hS => ?_)
            have h39 := h28.mo hX37
            have h40 := h29.mo hX37
            have hX41 := hX31.tr hX37
            refine lv_aload_n hx hb dX9_tallyUp_64 rfl (lv_at hl 1 rfl) ?_
            refine lv_iload hx hb dX9_tallyUp_65 (lv_at hl 6 rfl) ?_
            refine lv_aload_n hx hb dX9_tallyUp_67 rfl (lv_at hl 0 rfl) ?_
            obtain ⟨hq43, h⟩ := zk h
            refine z_getN hx hb hg zin_9 hown hK hM h39 11 rfl (by decide) (hg _ zw_145) (fun _ h9 => h9) hq43 dX9_tallyUp_68 (fun h42 => ?_)
            obtain ⟨r45, hr44, h⟩ := zb1 h
            refine z_runi (va_runV (As := []) (rest := [.int r24, .ref (B + a1)]) ⟨hx, hb, hml, hown, hg⟩ (c_X5_middle l D cy B h42 hr44) (z_cwV hg zw_433 zw_434 zw_435 zw_5 zw_436 zh_X5_middle ⟨(Nat.le_of_ble_eq_true rfl), (Nat.le_of_ble_eq_true rfl)⟩) (zPV hC hM h42 (by decide) rfl) rfl rfl hl.1 rfl (lv_room (Nat.le_of_ble_eq_true rfl)) dX9_tallyUp_71 ⟨(Nat.le_of_ble_eq_true rfl), (Nat.le_of_ble_eq_true rfl)⟩) hS (fun H locs hM hX46 hS => ?_)
            refine lv_isub hx hb dX9_tallyUp_74 ?_
            obtain ⟨S49, hr48, h⟩ := zlg h
            have hr48 := hr48.symm
            refine z_runv (va_runV (As := [.int (r24 - r45)]) (rest := []) ⟨hx, hb, hml, hown, hg⟩ (c_X10_take l D cy B h40 hr48) (z_cwV hg zw_672 zw_673 zw_674 zw_11 zw_675 zh_X10_take ⟨(Nat.le_of_ble_eq_true rfl), (Nat.le_of_ble_eq_true rfl)⟩) (zPV hC hM h40 (by decide) rfl) rfl rfl hl.1 rfl (lv_room (Nat.le_of_ble_eq_true rfl)) dX9_tallyUp_75 ⟨(Nat.le_of_ble_eq_true rfl), (Nat.le_of_ble_eq_true rfl)⟩) hS (fun H locs hM hX50 hS => ?_)
            have h52 := h39.mo hX50
            have h53 := h40.mo hX50
            have hX54 := hX41.tr hX50
            refine lv_iinc (v := (x13 + (1 : Int32))) (lv' := [(4, .int (x13 + (1 : Int32))), (0, .ref (B + a0)), (1, .ref (B + a1)), (2, .int v2), (3, .int v3), (5, zv B (zr S14 (zr S14 a0 9) (Int32.toNatClampNeg x13))), (6, .int r24)]) hx hb dX9_tallyUp_78 hl (k := 4) rfl rfl (by decide) rfl (fun ls hl => ?_)
            refine lv_goto (tgt := 7) hx hb dX9_tallyUp_81 (by decide) ?_
            exact ih7 (x13 + (1 : Int32)) S49 _ _ hM hX54 hS h52 h53 _ (lv_sub hl [1, 2, 3, 4, 0] rfl) h
          refine lv_icmp_eq (tgt := 55) hx hb dX9_tallyUp_42 (by decide) (fun hc55 => ?_) (fun hc55 => ?_)
          · have h := zt h hc55
            exact hK32 _ _ hM hX15 hS h11 h12 h22 _ (lv_sub hl [2, 3, 4, 5, 6, 1, 0] rfl) h
          · have h := zf h hc55
            refine lv_aload_n hx hb dX9_tallyUp_45 rfl (lv_at hl 2 rfl) ?_
            refine z_aloadR hx hb dX9_tallyUp_46 (lv_at hl 1 rfl) h22.1 ?_
            obtain ⟨r57, hr56, h⟩ := zb1 h
            refine z_runi (va_runV (As := [.ref (B + (zr S14 (zr S14 a0 9) (Int32.toNatClampNeg x13)))]) (rest := []) ⟨hx, hb, hml, hown, hg⟩ (c_X9_landOf l D cy B h11 h22 hr56) (z_cwV hg zw_414 zw_415 zw_416 zw_3 zw_417 zh_X9_landOf ⟨(Nat.le_of_ble_eq_true rfl), (Nat.le_of_ble_eq_true rfl)⟩) (zPV hC hM h11 (by decide) rfl) rfl rfl hl.1 rfl (lv_room (Nat.le_of_ble_eq_true rfl)) dX9_tallyUp_48 ⟨(Nat.le_of_ble_eq_true rfl), (Nat.le_of_ble_eq_true rfl)⟩) hS (fun H locs hM hX58 hS => ?_)
            refine lv_iload_n hx hb dX9_tallyUp_51 rfl (lv_at hl 5 rfl) ?_
            refine lv_icmp_ne (tgt := 78) hx hb dX9_tallyUp_52 (by decide) (fun hc60 => ?_) (fun hc60 => ?_)
            · have h := zf h hc60
              refine lv_iinc (v := (x13 + (1 : Int32))) (lv' := [(4, .int (x13 + (1 : Int32))), (6, .int r24), (5, zv B (zr S14 (zr S14 a0 9) (Int32.toNatClampNeg x13))), (0, .ref (B + a0)), (1, .ref (B + a1)), (2, .int v2), (3, .int v3)]) hx hb dX9_tallyUp_78 hl (k := 6) rfl rfl (by decide) rfl (fun ls hl => ?_)
              refine lv_goto (tgt := 7) hx hb dX9_tallyUp_81 (by decide) ?_
              exact ih7 (x13 + (1 : Int32)) S14 _ _ hM hX15 hS h11 h12 _ (lv_sub hl [3, 4, 5, 6, 0] rfl) h
            · have h := zt h hc60
              exact hK32 _ _ hM hX15 hS h11 h12 h22 _ (lv_sub hl [2, 3, 4, 5, 6, 1, 0] rfl) h
  exact hL7 n (0 : Int32) S2 _ _ hM hX7 hS h5 h6 _ (lv_sub hl [1, 2, 3, 4, 0] rfl) h
def f_X9_meanOf_L8b (n : Nat) (S0 : zM) (a0 : Nat) (v1 : Int32) (v2 : Int32) (K4 : Int32 → Int32 → Option (Int32)) (rec8 : Int32 → Int32 → Int32 → Option (Int32)) (x8 : Int32) (x9 : Int32) (x10 : Int32) : Option (Int32) :=
  if (zi S0 a0 7) ≤ x10 then K4 x8 x9 else zChk (¬ (zr S0 a0 9) = 0) (zChk (¬ (x10 < 0 ∨ zln S0 (zr S0 a0 9) ≤ (x10).toNatClampNeg)) (zChk (¬ (zr S0 (zr S0 a0 9) (Int32.toNatClampNeg x10)) = 0) (zB1 (f_X1_markBy n S0 (zr S0 (zr S0 a0 9) (Int32.toNatClampNeg x10)) v1) (fun r20 => if r20 = (-128 : Int32) then rec8 x8 x9 (x10 + (1 : Int32)) else zLet (f_X11_within (zi S0 (zr S0 (zr S0 a0 9) (Int32.toNatClampNeg x10)) 2) (6 : Int32)) (fun r25 => if r25 = 0 then rec8 x8 x9 (x10 + (1 : Int32)) else zChk (¬ (zr S0 a0 2) = 0) (zChk (¬ ((zi S0 (zr S0 (zr S0 a0 9) (Int32.toNatClampNeg x10)) 2) < 0 ∨ zln S0 (zr S0 a0 2) ≤ ((zi S0 (zr S0 (zr S0 a0 9) (Int32.toNatClampNeg x10)) 2)).toNatClampNeg)) (if (zi S0 (zr S0 a0 2) (Int32.toNatClampNeg (zi S0 (zr S0 (zr S0 a0 9) (Int32.toNatClampNeg x10)) 2))) = v2 then rec8 (x8 + r20) (x9 + (1 : Int32)) (x10 + (1 : Int32)) else rec8 x8 x9 (x10 + (1 : Int32)))))))))
def f_X9_meanOf_L8 (n : Nat) (S0 : zM) (a0 : Nat) (v1 : Int32) (v2 : Int32) (K4 : Int32 → Int32 → Option (Int32)) : Nat → Int32 → Int32 → Int32 → Option (Int32)
  | 0 => fun _ _ _ => none
  | k + 1 => fun x8 x9 x10 => f_X9_meanOf_L8b n S0 a0 v1 v2 K4 (f_X9_meanOf_L8 n S0 a0 v1 v2 K4 k) x8 x9 x10
def f_X9_meanOf (n : Nat) (S0 : zM) (a0 : Nat) (v1 : Int32) (v2 : Int32) : Option (Int32) :=
  zLet (fun (x1 : Int32) (x2 : Int32) => if x2 = 0 then some (-4 : Int32) else zChk (¬ x2 = 0) (some ((x1 * (100 : Int32)) / x2))) (fun K4 => f_X9_meanOf_L8 n S0 a0 v1 v2 K4 n (0 : Int32) (0 : Int32) (0 : Int32))
set_option maxHeartbeats 4000000 in
set_option maxRecDepth 100000 in
theorem c_X9_meanOf (l : Launch) (D : va_G) (cy : Nat → ClassId) (B : Nat) {n : Nat} {S0 : zM} {a0 : Nat} {v1 : Int32} {v2 : Int32} {r : Int32} (ha0 : zA S0 a0 9) (h : f_X9_meanOf n S0 a0 v1 v2 = some r) : Met l yX9_meanOf (zws yX9_meanOf cX9_meanOf 8 ((some .int))) { frames := 1, cells := 0, slots := 0, locals := 22 } (zPc D cy B S0 [.ref (B + a0), .int v1, .int v2]) (zQi D cy B S0 r S0) 0 0 (fun q => B < q) := by
  refine Met.ofW (cc := cX9_meanOf) (maxL := 8) (ret := ((some .int))) (by decide) rfl ?_
  intro p e s m args below meth c s₁ Bd hml hv
  obtain ⟨rfl, hC, hM⟩ := hv
  obtain ⟨hx, hb, hr, hg, hown, hlk⟩ := z_open Bd
  have hK := hC.1
  have hS : va_S (fun q => B < q) s.heap s.heap [] := va_S.rf
  have hX0 : zX S0 S0 := zX.rf
  refine z_entry (vs := [.ref (B + a0), .int v1, .int v2]) (Nat.le_of_ble_eq_true rfl) (fun ls hl => ?_)
  have hl : lv_has ls 8 [(0, .ref (B + a0)), (1, .int v1), (2, .int v2)] := hl
  unfold f_X9_meanOf at h
  refine lv_iconst (v := (0 : Int32)) hx hb dX9_meanOf_0 (by decide +kernel) ?_
  refine lv_istore_n (i := 3) (lv' := [(3, .int (0 : Int32)), (0, .ref (B + a0)), (1, .int v1), (2, .int v2)]) hx hb dX9_meanOf_1 rfl hl (by decide) rfl (fun ls hl => ?_)
  refine lv_iconst (v := (0 : Int32)) hx hb dX9_meanOf_2 (by decide +kernel) ?_
  refine lv_istore (i := 4) (lv' := [(4, .int (0 : Int32)), (3, .int (0 : Int32)), (0, .ref (B + a0)), (1, .int v1), (2, .int v2)]) hx hb dX9_meanOf_3 hl (by decide) rfl (fun ls hl => ?_)
  refine lv_iconst (v := (0 : Int32)) hx hb dX9_meanOf_5 (by decide +kernel) ?_
  refine lv_istore (i := 5) (lv' := [(5, .int (0 : Int32)), (4, .int (0 : Int32)), (3, .int (0 : Int32)), (0, .ref (B + a0)), (1, .int v1), (2, .int v2)]) hx hb dX9_meanOf_6 hl (by decide) rfl (fun ls hl => ?_)
  obtain ⟨K4, eK4, h⟩ := zlg h
  have hK4 : ∀ (x1 : Int32) (x2 : Int32) (H : Heap) (locs : List Loc), zMR D cy B S0 H → zX S0 S0 → va_S (fun q => B < q) s.heap H locs → ∀ ls : Array Slot, lv_has ls 8 [(3, .int x1), (4, .int x2)] → K4 x1 x2 = some r → W p l e (headSpec (zws yX9_meanOf cX9_meanOf 8 ((some .int))) { frames := 1, cells := 0, slots := 0, locals := 22 }).room s m (([.ref (B + a0), .int v1, .int v2] : List Value).toArray) below meth c H locs 0 0 (MQ below (zQi D cy B S0 r S0) (([.ref (B + a0), .int v1, .int v2] : List Value).toArray) s 0 0 (fun q => B < q)) (F0 m 82 ls []) := by
    intro x1 x2 H locs hM hX3 hS ls hl h
    rw [eK4] at h
    refine lv_iload hx hb dX9_meanOf_82 (lv_at hl 1 rfl) ?_
    refine lv_if_ne (tgt := 92) hx hb dX9_meanOf_84 (by decide) (fun hc5 => ?_) (fun hc5 => ?_)
    · have h := zf h hc5
      refine lv_iload_n hx hb dX9_meanOf_92 rfl (lv_at hl 0 rfl) ?_
      refine lv_bipush (v := (100 : Int32)) hx hb dX9_meanOf_93 (by decide +kernel) ?_
      refine lv_imul hx hb dX9_meanOf_95 ?_
      refine lv_iload hx hb dX9_meanOf_96 (lv_at hl 1 rfl) ?_
      obtain ⟨hq6, h⟩ := zk h
      refine lv_idiv hx hb dX9_meanOf_98 hq6 ?_
      exact z_iret hx hb hr hlk hM hX3 hS ⟨zsm h, rfl⟩ dX9_meanOf_99
    · have h := zt h hc5
      refine lv_bipush (v := (-4 : Int32)) hx hb dX9_meanOf_87 (by decide +kernel) ?_
      refine lv_goto (tgt := 99) hx hb dX9_meanOf_89 (by decide) ?_
      exact z_iret hx hb hr hlk hM hX3 hS ⟨zsm h, rfl⟩ dX9_meanOf_99
  have hL8 : ∀ (k : Nat) (x8 : Int32) (x9 : Int32) (x10 : Int32) (H : Heap) (locs : List Loc), zMR D cy B S0 H → zX S0 S0 → va_S (fun q => B < q) s.heap H locs → zA S0 a0 9 → ∀ ls : Array Slot, lv_has ls 8 [(0, .ref (B + a0)), (1, .int v1), (2, .int v2), (3, .int x8), (4, .int x9), (5, .int x10)] → f_X9_meanOf_L8 n S0 a0 v1 v2 K4 k x8 x9 x10 = some r → W p l e (headSpec (zws yX9_meanOf cX9_meanOf 8 ((some .int))) { frames := 1, cells := 0, slots := 0, locals := 22 }).room s m (([.ref (B + a0), .int v1, .int v2] : List Value).toArray) below meth c H locs 0 0 (MQ below (zQi D cy B S0 r S0) (([.ref (B + a0), .int v1, .int v2] : List Value).toArray) s 0 0 (fun q => B < q)) (F0 m 8 ls []) := by
    intro k
    induction k with
    | zero =>
      intro x8 x9 x10 H locs hM hX11 hS h7 ls hl h
      exact znone h
    | succ k ih8 =>
      intro x8 x9 x10 H locs hM hX11 hS h7 ls hl h
      replace h : f_X9_meanOf_L8b n S0 a0 v1 v2 K4 (f_X9_meanOf_L8 n S0 a0 v1 v2 K4 k) x8 x9 x10 = some r := h
      generalize f_X9_meanOf_L8 n S0 a0 v1 v2 K4 k = rec8 at ih8 h
      unfold f_X9_meanOf_L8b at h
      refine lv_iload hx hb dX9_meanOf_8 (lv_at hl 5 rfl) ?_
      refine lv_aload_n hx hb dX9_meanOf_10 rfl (lv_at hl 0 rfl) ?_
      refine z_getI hx hb hg zin_9 hown hK hM h7 7 rfl (by decide) (hg _ zw_139) (fun _ h9 => h9) dX9_meanOf_11 ?_
      refine lv_icmp_ge (tgt := 82) hx hb dX9_meanOf_14 (by decide) (fun hc12 => ?_) (fun hc12 => ?_)
      · have h := zt h hc12
        exact hK4 x8 x9 _ _ hM hX11 hS _ (lv_sub hl [3, 4] rfl) h
      · have h := zf h hc12
        refine lv_aload_n hx hb dX9_meanOf_17 rfl (lv_at hl 0 rfl) ?_
        obtain ⟨hq14, h⟩ := zk h
        refine z_getN hx hb hg zin_9 hown hK hM h7 9 rfl (by decide) (hg _ zw_142) (fun _ h9 => h9) hq14 dX9_meanOf_18 (fun h13 => ?_)
        refine lv_iload hx hb dX9_meanOf_21 (lv_at hl 5 rfl) ?_
        obtain ⟨hq15, h⟩ := zk h
        refine z_aald hx hb hK hM h13 (by decide) rfl hq15 dX9_meanOf_23 (fun h16 => ?_)
        have h16 : zQ S0 (zr S0 (zr S0 a0 9) (Int32.toNatClampNeg x10)) 1 := h16
        refine z_astore (i := 6) (lv' := [(6, zv B (zr S0 (zr S0 a0 9) (Int32.toNatClampNeg x10))), (0, .ref (B + a0)), (1, .int v1), (2, .int v2), (3, .int x8), (4, .int x9), (5, .int x10)]) hx hb dX9_meanOf_24 hl (by decide) rfl (fun ls hl => ?_)
        obtain ⟨hq17, h⟩ := zk h
        have h18 := h16.nn hq17
        refine z_aloadR hx hb dX9_meanOf_26 (lv_at hl 0 rfl) h18.1 ?_
        refine lv_iload_n hx hb dX9_meanOf_28 rfl (lv_at hl 2 rfl) ?_
        obtain ⟨r20, hr19, h⟩ := zb1 h
        refine z_runi (va_runV (As := [.int v1]) (rest := []) ⟨hx, hb, hml, hown, hg⟩ (c_X1_markBy l D cy B h18 hr19) (z_cwV hg zw_668 zw_669 zw_670 zw_6 zw_671 zh_X1_markBy ⟨(Nat.le_of_ble_eq_true rfl), (Nat.le_of_ble_eq_true rfl)⟩) (zPV hC hM h18 (by decide) rfl) rfl rfl hl.1 rfl (lv_room (Nat.le_of_ble_eq_true rfl)) dX9_meanOf_29 ⟨(Nat.le_of_ble_eq_true rfl), (Nat.le_of_ble_eq_true rfl)⟩) hS (fun H locs hM hX21 hS => ?_)
        refine lv_istore (i := 7) (lv' := [(7, .int r20), (6, zv B (zr S0 (zr S0 a0 9) (Int32.toNatClampNeg x10))), (0, .ref (B + a0)), (1, .int v1), (2, .int v2), (3, .int x8), (4, .int x9), (5, .int x10)]) hx hb dX9_meanOf_32 hl (by decide) (by simp [zv_cat]) (fun ls hl => ?_)
        refine lv_iload hx hb dX9_meanOf_34 (lv_at hl 0 rfl) ?_
        refine lv_bipush (v := (-128 : Int32)) hx hb dX9_meanOf_36 (by decide +kernel) ?_
        refine lv_icmp_eq (tgt := 76) hx hb dX9_meanOf_38 (by decide) (fun hc23 => ?_) (fun hc23 => ?_)
        · have h := zt h hc23
          refine lv_iinc (v := (x10 + (1 : Int32))) (lv' := [(5, .int (x10 + (1 : Int32))), (7, .int r20), (6, zv B (zr S0 (zr S0 a0 9) (Int32.toNatClampNeg x10))), (0, .ref (B + a0)), (1, .int v1), (2, .int v2), (3, .int x8), (4, .int x9)]) hx hb dX9_meanOf_76 hl (k := 7) rfl rfl (by decide) rfl (fun ls hl => ?_)
          refine lv_goto (tgt := 8) hx hb dX9_meanOf_79 (by decide) ?_
          exact ih8 x8 x9 (x10 + (1 : Int32)) _ _ hM hX11 hS h7 _ (lv_sub hl [3, 4, 5, 6, 7, 0] rfl) h
        · have h := zf h hc23
          refine z_aloadR hx hb dX9_meanOf_41 (lv_at hl 1 rfl) h18.1 ?_
          refine z_getI hx hb hg zin_1 hown hK hM h18 2 rfl (by decide) (hg _ zw_101) (fun _ h9 => h9) dX9_meanOf_43 ?_
          refine lv_bipush (v := (6 : Int32)) hx hb dX9_meanOf_46 (by decide +kernel) ?_
          obtain ⟨r25, hr24, h⟩ := zlg h
          have hr24 := hr24.symm
          refine z_runi (va_runSN (As := [.int (zi S0 (zr S0 (zr S0 a0 9) (Int32.toNatClampNeg x10)) 2), .int (6 : Int32)]) (rest := []) ⟨hx, hb, hml, hown, hg⟩ (c_X11_within l D cy B hr24) ⟨z_cnB hg hC (List.mem_of_getElem? (i := 9) rfl) zw_2 zw_292 zh_X11_within.2 ⟨(Nat.le_of_ble_eq_true rfl), (Nat.le_of_ble_eq_true rfl)⟩, hg _ zw_291, trivial⟩ (zPS hC hM) rfl rfl hl.1 rfl (lv_room (Nat.le_of_ble_eq_true rfl)) dX9_meanOf_48 ⟨(Nat.le_of_ble_eq_true rfl), (Nat.le_of_ble_eq_true rfl)⟩) hS (fun H locs hM hX26 hS => ?_)
          refine lv_if_eq (tgt := 76) hx hb dX9_meanOf_51 (by decide) (fun hc28 => ?_) (fun hc28 => ?_)
          · have h := zt h hc28
            refine lv_iinc (v := (x10 + (1 : Int32))) (lv' := [(5, .int (x10 + (1 : Int32))), (7, .int r20), (6, zv B (zr S0 (zr S0 a0 9) (Int32.toNatClampNeg x10))), (0, .ref (B + a0)), (1, .int v1), (2, .int v2), (3, .int x8), (4, .int x9)]) hx hb dX9_meanOf_76 hl (k := 7) rfl rfl (by decide) rfl (fun ls hl => ?_)
            refine lv_goto (tgt := 8) hx hb dX9_meanOf_79 (by decide) ?_
            exact ih8 x8 x9 (x10 + (1 : Int32)) _ _ hM hX11 hS h7 _ (lv_sub hl [3, 4, 5, 6, 7, 0] rfl) h
          · have h := zf h hc28
            refine lv_aload_n hx hb dX9_meanOf_54 rfl (lv_at hl 2 rfl) ?_
            obtain ⟨hq30, h⟩ := zk h
            refine z_getN hx hb hg zin_9 hown hK hM h7 2 rfl (by decide) (hg _ zw_126) (fun _ h9 => h9) hq30 dX9_meanOf_55 (fun h29 => ?_)
            refine z_aloadR hx hb dX9_meanOf_58 (lv_at hl 1 rfl) h18.1 ?_
            refine z_getI hx hb hg zin_1 hown hK hM h18 2 rfl (by decide) (hg _ zw_101) (fun _ h9 => h9) dX9_meanOf_60 ?_
            obtain ⟨hq31, h⟩ := zk h
            refine z_iald hx hb hK hM h29 hq31 dX9_meanOf_63 ?_
            refine lv_iload_n hx hb dX9_meanOf_64 rfl (lv_at hl 4 rfl) ?_
            refine lv_icmp_ne (tgt := 76) hx hb dX9_meanOf_65 (by decide) (fun hc32 => ?_) (fun hc32 => ?_)
            · have h := zf h hc32
              refine lv_iinc (v := (x10 + (1 : Int32))) (lv' := [(5, .int (x10 + (1 : Int32))), (7, .int r20), (6, zv B (zr S0 (zr S0 a0 9) (Int32.toNatClampNeg x10))), (0, .ref (B + a0)), (1, .int v1), (2, .int v2), (3, .int x8), (4, .int x9)]) hx hb dX9_meanOf_76 hl (k := 7) rfl rfl (by decide) rfl (fun ls hl => ?_)
              refine lv_goto (tgt := 8) hx hb dX9_meanOf_79 (by decide) ?_
              exact ih8 x8 x9 (x10 + (1 : Int32)) _ _ hM hX11 hS h7 _ (lv_sub hl [3, 4, 5, 6, 7, 0] rfl) h
            · have h := zt h hc32
              refine lv_iload_n hx hb dX9_meanOf_68 rfl (lv_at hl 5 rfl) ?_
              refine lv_iload hx hb dX9_meanOf_69 (lv_at hl 0 rfl) ?_
              refine lv_iadd hx hb dX9_meanOf_71 ?_
              refine lv_istore_n (i := 3) (lv' := [(3, .int (x8 + r20)), (7, .int r20), (6, zv B (zr S0 (zr S0 a0 9) (Int32.toNatClampNeg x10))), (0, .ref (B + a0)), (1, .int v1), (2, .int v2), (4, .int x9), (5, .int x10)]) hx hb dX9_meanOf_72 rfl hl (by decide) rfl (fun ls hl => ?_)
              refine lv_iinc (v := (x9 + (1 : Int32))) (lv' := [(4, .int (x9 + (1 : Int32))), (3, .int (x8 + r20)), (7, .int r20), (6, zv B (zr S0 (zr S0 a0 9) (Int32.toNatClampNeg x10))), (0, .ref (B + a0)), (1, .int v1), (2, .int v2), (5, .int x10)]) hx hb dX9_meanOf_73 hl (k := 6) rfl rfl (by decide) rfl (fun ls hl => ?_)
              refine lv_iinc (v := (x10 + (1 : Int32))) (lv' := [(5, .int (x10 + (1 : Int32))), (4, .int (x9 + (1 : Int32))), (3, .int (x8 + r20)), (7, .int r20), (6, zv B (zr S0 (zr S0 a0 9) (Int32.toNatClampNeg x10))), (0, .ref (B + a0)), (1, .int v1), (2, .int v2)]) hx hb dX9_meanOf_76 hl (k := 7) rfl rfl (by decide) rfl (fun ls hl => ?_)
              refine lv_goto (tgt := 8) hx hb dX9_meanOf_79 (by decide) ?_
              exact ih8 (x8 + r20) (x9 + (1 : Int32)) (x10 + (1 : Int32)) _ _ hM hX11 hS h7 _ (lv_sub hl [5, 6, 7, 2, 1, 0] rfl) h
  exact hL8 n (0 : Int32) (0 : Int32) (0 : Int32) _ _ hM hX0 hS ha0 _ (lv_sub hl [3, 4, 5, 2, 1, 0] rfl) h
def f_X9_flawAnew_L5b (a0 : Nat) (v1 : Int32) (K4 : Int32 → zM → Option (Int32 × zM)) (rec5 : Int32 → Int32 → zM → Option (Int32 × zM)) (x6 : Int32) (x7 : Int32) (S8 : zM) : Option (Int32 × zM) :=
  if (zi S8 a0 7) ≤ x7 then K4 x6 S8 else zChk (¬ (zr S8 a0 9) = 0) (zChk (¬ (x7 < 0 ∨ zln S8 (zr S8 a0 9) ≤ (x7).toNatClampNeg)) (zChk (¬ (zr S8 (zr S8 a0 9) (Int32.toNatClampNeg x7)) = 0) (if (zi S8 (zr S8 (zr S8 a0 9) (Int32.toNatClampNeg x7)) 2) = v1 then zLet (zpI S8 (zr S8 (zr S8 a0 9) (Int32.toNatClampNeg x7)) 4 (((((x6 * (1103515245 : Int32)) + (12345 : Int32)) &&& (2147483647 : Int32)) / (65536 : Int32)) - ((((x6 * (1103515245 : Int32)) + (12345 : Int32)) &&& (2147483647 : Int32)) / (65536 : Int32)) / (64 : Int32) * (64 : Int32))) (fun S18 => rec5 ((x6 * (1103515245 : Int32)) + (12345 : Int32)) (x7 + (1 : Int32)) S18) else rec5 x6 (x7 + (1 : Int32)) S8)))
def f_X9_flawAnew_L5 (a0 : Nat) (v1 : Int32) (K4 : Int32 → zM → Option (Int32 × zM)) : Nat → Int32 → Int32 → zM → Option (Int32 × zM)
  | 0 => fun _ _ _ => none
  | k + 1 => fun x6 x7 S8 => f_X9_flawAnew_L5b a0 v1 K4 (f_X9_flawAnew_L5 a0 v1 K4 k) x6 x7 S8
def f_X9_flawAnew (n : Nat) (S0 : zM) (a0 : Nat) (v1 : Int32) (v2 : Int32) : Option (Int32 × zM) :=
  zLet (fun (x1 : Int32) (S2 : zM) => some ((x1, S2))) (fun K4 => f_X9_flawAnew_L5 a0 v1 K4 n v2 (0 : Int32) S0)
set_option maxHeartbeats 4000000 in
set_option maxRecDepth 100000 in
theorem c_X9_flawAnew (l : Launch) (D : va_G) (cy : Nat → ClassId) (B : Nat) {n : Nat} {S0 : zM} {a0 : Nat} {v1 : Int32} {v2 : Int32} {r : Int32} {S' : zM} (ha0 : zA S0 a0 9) (h : f_X9_flawAnew n S0 a0 v1 v2 = some (r, S')) : Met l yX9_flawAnew (zws yX9_flawAnew cX9_flawAnew 6 ((some .int))) { frames := 0, cells := 0, slots := 0, locals := 0 } (zPc D cy B S0 [.ref (B + a0), .int v1, .int v2]) (zQi D cy B S0 r S') 0 0 (fun q => B < q) := by
  refine Met.ofW (cc := cX9_flawAnew) (maxL := 6) (ret := ((some .int))) (by decide) rfl ?_
  intro p e s m args below meth c s₁ Bd hml hv
  obtain ⟨rfl, hC, hM⟩ := hv
  obtain ⟨hx, hb, hr, hg, hown, hlk⟩ := z_open Bd
  have hK := hC.1
  have hS : va_S (fun q => B < q) s.heap s.heap [] := va_S.rf
  have hX0 : zX S0 S0 := zX.rf
  refine z_entry (vs := [.ref (B + a0), .int v1, .int v2]) (Nat.le_of_ble_eq_true rfl) (fun ls hl => ?_)
  have hl : lv_has ls 6 [(0, .ref (B + a0)), (1, .int v1), (2, .int v2)] := hl
  unfold f_X9_flawAnew at h
  refine lv_iload_n hx hb dX9_flawAnew_0 rfl (lv_at hl 2 rfl) ?_
  refine lv_istore_n (i := 3) (lv' := [(3, .int v2), (0, .ref (B + a0)), (1, .int v1), (2, .int v2)]) hx hb dX9_flawAnew_1 rfl hl (by decide) rfl (fun ls hl => ?_)
  refine lv_iconst (v := (0 : Int32)) hx hb dX9_flawAnew_2 (by decide +kernel) ?_
  refine lv_istore (i := 4) (lv' := [(4, .int (0 : Int32)), (3, .int v2), (0, .ref (B + a0)), (1, .int v1), (2, .int v2)]) hx hb dX9_flawAnew_3 hl (by decide) rfl (fun ls hl => ?_)
  obtain ⟨K4, eK4, h⟩ := zlg h
  have hK4 : ∀ (x1 : Int32) (S2 : zM) (H : Heap) (locs : List Loc), zMR D cy B S2 H → zX S0 S2 → va_S (fun q => B < q) s.heap H locs → ∀ ls : Array Slot, lv_has ls 6 [(3, .int x1)] → K4 x1 S2 = some (r, S') → W p l e (headSpec (zws yX9_flawAnew cX9_flawAnew 6 ((some .int))) { frames := 0, cells := 0, slots := 0, locals := 0 }).room s m (([.ref (B + a0), .int v1, .int v2] : List Value).toArray) below meth c H locs 0 0 (MQ below (zQi D cy B S0 r S') (([.ref (B + a0), .int v1, .int v2] : List Value).toArray) s 0 0 (fun q => B < q)) (F0 m 62 ls []) := by
    intro x1 S2 H locs hM hX3 hS ls hl h
    rw [eK4] at h
    refine lv_iload_n hx hb dX9_flawAnew_62 rfl (lv_at hl 0 rfl) ?_
    exact z_iret hx hb hr hlk hM hX3 hS (zsp h) dX9_flawAnew_63
  have hL5 : ∀ (k : Nat) (x6 : Int32) (x7 : Int32) (S8 : zM) (H : Heap) (locs : List Loc), zMR D cy B S8 H → zX S0 S8 → va_S (fun q => B < q) s.heap H locs → zA S8 a0 9 → ∀ ls : Array Slot, lv_has ls 6 [(0, .ref (B + a0)), (1, .int v1), (3, .int x6), (4, .int x7)] → f_X9_flawAnew_L5 a0 v1 K4 k x6 x7 S8 = some (r, S') → W p l e (headSpec (zws yX9_flawAnew cX9_flawAnew 6 ((some .int))) { frames := 0, cells := 0, slots := 0, locals := 0 }).room s m (([.ref (B + a0), .int v1, .int v2] : List Value).toArray) below meth c H locs 0 0 (MQ below (zQi D cy B S0 r S') (([.ref (B + a0), .int v1, .int v2] : List Value).toArray) s 0 0 (fun q => B < q)) (F0 m 5 ls []) := by
    intro k
    induction k with
    | zero =>
      intro x6 x7 S8 H locs hM hX9 hS h5 ls hl h
      exact znone h
    | succ k ih5 =>
      intro x6 x7 S8 H locs hM hX9 hS h5 ls hl h
      replace h : f_X9_flawAnew_L5b a0 v1 K4 (f_X9_flawAnew_L5 a0 v1 K4 k) x6 x7 S8 = some (r, S') := h
      generalize f_X9_flawAnew_L5 a0 v1 K4 k = rec5 at ih5 h
      unfold f_X9_flawAnew_L5b at h
      refine lv_iload hx hb dX9_flawAnew_5 (lv_at hl 3 rfl) ?_
      refine lv_aload_n hx hb dX9_flawAnew_7 rfl (lv_at hl 0 rfl) ?_
      refine z_getI hx hb hg zin_9 hown hK hM h5 7 rfl (by decide) (hg _ zw_139) (fun _ h9 => h9) dX9_flawAnew_8 ?_
      refine lv_icmp_ge (tgt := 62) hx hb dX9_flawAnew_11 (by decide) (fun hc10 => ?_) (fun hc10 => ?_)
      · have h := zt h hc10
        exact hK4 x6 S8 _ _ hM hX9 hS _ (lv_sub hl [2] rfl) h
      · have h := zf h hc10
        refine lv_aload_n hx hb dX9_flawAnew_14 rfl (lv_at hl 0 rfl) ?_
        obtain ⟨hq12, h⟩ := zk h
        refine z_getN hx hb hg zin_9 hown hK hM h5 9 rfl (by decide) (hg _ zw_142) (fun _ h9 => h9) hq12 dX9_flawAnew_15 (fun h11 => ?_)
        refine lv_iload hx hb dX9_flawAnew_18 (lv_at hl 3 rfl) ?_
        obtain ⟨hq13, h⟩ := zk h
        refine z_aald hx hb hK hM h11 (by decide) rfl hq13 dX9_flawAnew_20 (fun h14 => ?_)
        have h14 : zQ S8 (zr S8 (zr S8 a0 9) (Int32.toNatClampNeg x7)) 1 := h14
        refine z_astore (i := 5) (lv' := [(5, zv B (zr S8 (zr S8 a0 9) (Int32.toNatClampNeg x7))), (0, .ref (B + a0)), (1, .int v1), (3, .int x6), (4, .int x7)]) hx hb dX9_flawAnew_21 hl (by decide) rfl (fun ls hl => ?_)
        obtain ⟨hq15, h⟩ := zk h
        have h16 := h14.nn hq15
        refine z_aloadR hx hb dX9_flawAnew_23 (lv_at hl 0 rfl) h16.1 ?_
        refine z_getI hx hb hg zin_1 hown hK hM h16 2 rfl (by decide) (hg _ zw_101) (fun _ h9 => h9) dX9_flawAnew_25 ?_
        refine lv_iload_n hx hb dX9_flawAnew_28 rfl (lv_at hl 2 rfl) ?_
        refine lv_icmp_ne (tgt := 56) hx hb dX9_flawAnew_29 (by decide) (fun hc17 => ?_) (fun hc17 => ?_)
        · have h := zf h hc17
          refine lv_iinc (v := (x7 + (1 : Int32))) (lv' := [(4, .int (x7 + (1 : Int32))), (5, zv B (zr S8 (zr S8 a0 9) (Int32.toNatClampNeg x7))), (0, .ref (B + a0)), (1, .int v1), (3, .int x6)]) hx hb dX9_flawAnew_56 hl (k := 4) rfl rfl (by decide) rfl (fun ls hl => ?_)
          refine lv_goto (tgt := 5) hx hb dX9_flawAnew_59 (by decide) ?_
          exact ih5 x6 (x7 + (1 : Int32)) S8 _ _ hM hX9 hS h5 _ (lv_sub hl [2, 3, 4, 0] rfl) h
        · have h := zt h hc17
          refine lv_iload_n hx hb dX9_flawAnew_32 rfl (lv_at hl 3 rfl) ?_
          refine lv_ldc (v := (1103515245 : Int32)) hx hb hown (hg _ zw_801) dX9_flawAnew_33 ?_
          refine lv_imul hx hb dX9_flawAnew_35 ?_
          refine lv_sipush (v := (12345 : Int32)) hx hb dX9_flawAnew_36 (by decide +kernel) ?_
          refine lv_iadd hx hb dX9_flawAnew_39 ?_
          refine lv_istore_n (i := 3) (lv' := [(3, .int ((x6 * (1103515245 : Int32)) + (12345 : Int32))), (5, zv B (zr S8 (zr S8 a0 9) (Int32.toNatClampNeg x7))), (0, .ref (B + a0)), (1, .int v1), (4, .int x7)]) hx hb dX9_flawAnew_40 rfl hl (by decide) rfl (fun ls hl => ?_)
          refine z_aloadR hx hb dX9_flawAnew_41 (lv_at hl 1 rfl) h16.1 ?_
          refine lv_iload_n hx hb dX9_flawAnew_43 rfl (lv_at hl 0 rfl) ?_
          refine lv_ldc (v := (2147483647 : Int32)) hx hb hown (hg _ zw_802) dX9_flawAnew_44 ?_
          refine lv_iand hx hb dX9_flawAnew_46 ?_
          refine lv_ldc (v := (65536 : Int32)) hx hb hown (hg _ zw_803) dX9_flawAnew_47 ?_
          refine lv_idiv hx hb dX9_flawAnew_49 (by decide +kernel) ?_
          refine lv_bipush (v := (64 : Int32)) hx hb dX9_flawAnew_50 (by decide +kernel) ?_
          refine lv_irem hx hb dX9_flawAnew_52 (by decide +kernel) ?_
          refine z_putI hx hb hg zin_1 tyX1 tyX1_ok nmX1 hown hK hM hS h16 4 rfl (by decide) (hg _ zw_107) (fun _ h9 => h9) (Or.inl rfl) (tyX1_ok 4 (by decide)) rfl rfl dX9_flawAnew_53 (fun H locs hM hS => ?_)
          obtain ⟨S18, e19, h⟩ := zlg h
          rw [← e19] at hM
          have hX20 : zX S8 S18 := by rw [e19]; exact zX_pI
          have h21 := h5.mo hX20
          have hX22 := hX9.tr hX20
          refine lv_iinc (v := (x7 + (1 : Int32))) (lv' := [(4, .int (x7 + (1 : Int32))), (3, .int ((x6 * (1103515245 : Int32)) + (12345 : Int32))), (5, zv B (zr S8 (zr S8 a0 9) (Int32.toNatClampNeg x7))), (0, .ref (B + a0)), (1, .int v1)]) hx hb dX9_flawAnew_56 hl (k := 4) rfl rfl (by decide) rfl (fun ls hl => ?_)
          refine lv_goto (tgt := 5) hx hb dX9_flawAnew_59 (by decide) ?_
          exact ih5 ((x6 * (1103515245 : Int32)) + (12345 : Int32)) (x7 + (1 : Int32)) S18 _ _ hM hX22 hS h21 _ (lv_sub hl [3, 4, 1, 0] rfl) h
  exact hL5 n v2 (0 : Int32) S0 _ _ hM hX0 hS ha0 _ (lv_sub hl [2, 3, 1, 0] rfl) h
def f_X9_isRight_L2b (n : Nat) (a0 : Nat) (v1 : Int32) (K4 : zM → Option (Int32 × zM)) (rec2 : Int32 → zM → Option (Int32 × zM)) (x20 : Int32) (S21 : zM) : Option (Int32 × zM) :=
  if (zi S21 a0 7) ≤ x20 then K4 S21 else zChk (¬ (zr S21 a0 9) = 0) (zChk (¬ (x20 < 0 ∨ zln S21 (zr S21 a0 9) ≤ (x20).toNatClampNeg)) (zChk (¬ (zr S21 (zr S21 a0 9) (Int32.toNatClampNeg x20)) = 0) (if (zi S21 (zr S21 (zr S21 a0 9) (Int32.toNatClampNeg x20)) 2) = v1 then zB2 (f_X9_markDive n S21 a0 x20) (fun r32 S33 => rec2 (x20 + (1 : Int32)) S33) else rec2 (x20 + (1 : Int32)) S21)))
def f_X9_isRight_L2 (n : Nat) (a0 : Nat) (v1 : Int32) (K4 : zM → Option (Int32 × zM)) : Nat → Int32 → zM → Option (Int32 × zM)
  | 0 => fun _ _ => none
  | k + 1 => fun x20 S21 => f_X9_isRight_L2b n a0 v1 K4 (f_X9_isRight_L2 n a0 v1 K4 k) x20 S21
def f_X9_isRight (n : Nat) (S0 : zM) (a0 : Nat) (v1 : Int32) : Option (Int32 × zM) :=
  zLet (fun (S2 : zM) => zB2 (f_X9_winner n S2 a0 v1) (fun r6 S7 => zB2 (f_X9_placeOf n S7 a0 v1 r6 (1 : Int32)) (fun r13 S14 => if r13 = (1 : Int32) then some (((1 : Int32), S14)) else some (((0 : Int32), S14))))) (fun K4 => f_X9_isRight_L2 n a0 v1 K4 n (0 : Int32) S0)
set_option maxHeartbeats 4000000 in
set_option maxRecDepth 100000 in
theorem c_X9_isRight (l : Launch) (D : va_G) (cy : Nat → ClassId) (B : Nat) {n : Nat} {S0 : zM} {a0 : Nat} {v1 : Int32} {r : Int32} {S' : zM} (ha0 : zA S0 a0 9) (h : f_X9_isRight n S0 a0 v1 = some (r, S')) : Met l yX9_isRight (zws yX9_isRight cX9_isRight 3 ((some .boolean))) { frames := 6, cells := 0, slots := 0, locals := 147 } (zPc D cy B S0 [.ref (B + a0), .int v1]) (zQi D cy B S0 r S') 0 0 (fun q => B < q) := by
  refine Met.ofW (cc := cX9_isRight) (maxL := 3) (ret := ((some .boolean))) (by decide) rfl ?_
  intro p e s m args below meth c s₁ Bd hml hv
  obtain ⟨rfl, hC, hM⟩ := hv
  obtain ⟨hx, hb, hr, hg, hown, hlk⟩ := z_open Bd
  have hK := hC.1
  have hS : va_S (fun q => B < q) s.heap s.heap [] := va_S.rf
  have hX0 : zX S0 S0 := zX.rf
  refine z_entry (vs := [.ref (B + a0), .int v1]) (Nat.le_of_ble_eq_true rfl) (fun ls hl => ?_)
  have hl : lv_has ls 3 [(0, .ref (B + a0)), (1, .int v1)] := hl
  unfold f_X9_isRight at h
  refine lv_iconst (v := (0 : Int32)) hx hb dX9_isRight_0 (by decide +kernel) ?_
  refine lv_istore_n (i := 2) (lv' := [(2, .int (0 : Int32)), (0, .ref (B + a0)), (1, .int v1)]) hx hb dX9_isRight_1 rfl hl (by decide) rfl (fun ls hl => ?_)
  obtain ⟨K4, eK4, h⟩ := zlg h
  have hK4 : ∀ (S2 : zM) (H : Heap) (locs : List Loc), zMR D cy B S2 H → zX S0 S2 → va_S (fun q => B < q) s.heap H locs → zA S2 a0 9 → ∀ ls : Array Slot, lv_has ls 3 [(0, .ref (B + a0)), (1, .int v1)] → K4 S2 = some (r, S') → W p l e (headSpec (zws yX9_isRight cX9_isRight 3 ((some .boolean))) { frames := 6, cells := 0, slots := 0, locals := 147 }).room s m (([.ref (B + a0), .int v1] : List Value).toArray) below meth c H locs 0 0 (MQ below (zQi D cy B S0 r S') (([.ref (B + a0), .int v1] : List Value).toArray) s 0 0 (fun q => B < q)) (F0 m 35 ls []) := by
    intro S2 H locs hM hX3 hS h1 ls hl h
    rw [eK4] at h
    refine lv_aload_n hx hb dX9_isRight_35 rfl (lv_at hl 0 rfl) ?_
    refine lv_iload_n hx hb dX9_isRight_36 rfl (lv_at hl 1 rfl) ?_
    refine lv_aload_n hx hb dX9_isRight_37 rfl (lv_at hl 0 rfl) ?_
    refine lv_iload_n hx hb dX9_isRight_38 rfl (lv_at hl 1 rfl) ?_
    obtain ⟨r6, S7, hr5, h⟩ := zb2 h
    refine z_runi (va_runV (As := [.int v1]) (rest := [.int v1, .ref (B + a0)]) ⟨hx, hb, hml, hown, hg⟩ (c_X9_winner l D cy B h1 hr5) (z_cwV hg zw_809 zw_608 zw_609 zw_3 zw_610 zh_X9_winner ⟨(Nat.le_of_ble_eq_true rfl), (Nat.le_of_ble_eq_true rfl)⟩) (zPV hC hM h1 (by decide) rfl) rfl rfl hl.1 rfl (lv_room (Nat.le_of_ble_eq_true rfl)) dX9_isRight_39 ⟨(Nat.le_of_ble_eq_true rfl), (Nat.le_of_ble_eq_true rfl)⟩) hS (fun H locs hM hX8 hS => ?_)
    have h10 := h1.mo hX8
    have hX11 := hX3.tr hX8
    refine lv_iconst (v := (1 : Int32)) hx hb dX9_isRight_42 (by decide +kernel) ?_
    obtain ⟨r13, S14, hr12, h⟩ := zb2 h
    refine z_runi (va_runV (As := [.int v1, .int r6, .int (1 : Int32)]) (rest := []) ⟨hx, hb, hml, hown, hg⟩ (c_X9_placeOf l D cy B h10 hr12) (z_cwV hg zw_810 zw_598 zw_599 zw_3 zw_600 zh_X9_placeOf ⟨(Nat.le_of_ble_eq_true rfl), (Nat.le_of_ble_eq_true rfl)⟩) (zPV hC hM h10 (by decide) rfl) rfl rfl hl.1 rfl (lv_room (Nat.le_of_ble_eq_true rfl)) dX9_isRight_43 ⟨(Nat.le_of_ble_eq_true rfl), (Nat.le_of_ble_eq_true rfl)⟩) hS (fun H locs hM hX15 hS => ?_)
    have hX17 := hX11.tr hX15
    refine lv_iconst (v := (1 : Int32)) hx hb dX9_isRight_46 (by decide +kernel) ?_
    refine lv_icmp_ne (tgt := 54) hx hb dX9_isRight_47 (by decide) (fun hc18 => ?_) (fun hc18 => ?_)
    · have h := zf h hc18
      refine lv_iconst (v := (0 : Int32)) hx hb dX9_isRight_54 (by decide +kernel) ?_
      exact z_zret (by decide +kernel) hx hb hr hlk hM hX17 hS (zsp h) dX9_isRight_55
    · have h := zt h hc18
      refine lv_iconst (v := (1 : Int32)) hx hb dX9_isRight_50 (by decide +kernel) ?_
      refine lv_goto (tgt := 55) hx hb dX9_isRight_51 (by decide) ?_
      exact z_zret (by decide +kernel) hx hb hr hlk hM hX17 hS (zsp h) dX9_isRight_55
  have hL2 : ∀ (k : Nat) (x20 : Int32) (S21 : zM) (H : Heap) (locs : List Loc), zMR D cy B S21 H → zX S0 S21 → va_S (fun q => B < q) s.heap H locs → zA S21 a0 9 → ∀ ls : Array Slot, lv_has ls 3 [(0, .ref (B + a0)), (1, .int v1), (2, .int x20)] → f_X9_isRight_L2 n a0 v1 K4 k x20 S21 = some (r, S') → W p l e (headSpec (zws yX9_isRight cX9_isRight 3 ((some .boolean))) { frames := 6, cells := 0, slots := 0, locals := 147 }).room s m (([.ref (B + a0), .int v1] : List Value).toArray) below meth c H locs 0 0 (MQ below (zQi D cy B S0 r S') (([.ref (B + a0), .int v1] : List Value).toArray) s 0 0 (fun q => B < q)) (F0 m 2 ls []) := by
    intro k
    induction k with
    | zero =>
      intro x20 S21 H locs hM hX22 hS h19 ls hl h
      exact znone h
    | succ k ih2 =>
      intro x20 S21 H locs hM hX22 hS h19 ls hl h
      replace h : f_X9_isRight_L2b n a0 v1 K4 (f_X9_isRight_L2 n a0 v1 K4 k) x20 S21 = some (r, S') := h
      generalize f_X9_isRight_L2 n a0 v1 K4 k = rec2 at ih2 h
      unfold f_X9_isRight_L2b at h
      refine lv_iload_n hx hb dX9_isRight_2 rfl (lv_at hl 2 rfl) ?_
      refine lv_aload_n hx hb dX9_isRight_3 rfl (lv_at hl 0 rfl) ?_
      refine z_getI hx hb hg zin_9 hown hK hM h19 7 rfl (by decide) (hg _ zw_139) (fun _ h9 => h9) dX9_isRight_4 ?_
      refine lv_icmp_ge (tgt := 35) hx hb dX9_isRight_7 (by decide) (fun hc23 => ?_) (fun hc23 => ?_)
      · have h := zt h hc23
        exact hK4 S21 _ _ hM hX22 hS h19 _ (lv_sub hl [0, 1] rfl) h
      · have h := zf h hc23
        refine lv_aload_n hx hb dX9_isRight_10 rfl (lv_at hl 0 rfl) ?_
        obtain ⟨hq25, h⟩ := zk h
        refine z_getN hx hb hg zin_9 hown hK hM h19 9 rfl (by decide) (hg _ zw_142) (fun _ h9 => h9) hq25 dX9_isRight_11 (fun h24 => ?_)
        refine lv_iload_n hx hb dX9_isRight_14 rfl (lv_at hl 2 rfl) ?_
        obtain ⟨hq26, h⟩ := zk h
        refine z_aald hx hb hK hM h24 (by decide) rfl hq26 dX9_isRight_15 (fun h27 => ?_)
        have h27 : zQ S21 (zr S21 (zr S21 a0 9) (Int32.toNatClampNeg x20)) 1 := h27
        obtain ⟨hq28, h⟩ := zk h
        have h29 := h27.nn hq28
        refine z_nn h29.1 ?_
        refine z_getI hx hb hg zin_1 hown hK hM h29 2 rfl (by decide) (hg _ zw_101) (fun _ h9 => h9) dX9_isRight_16 ?_
        refine lv_iload_n hx hb dX9_isRight_19 rfl (lv_at hl 1 rfl) ?_
        refine lv_icmp_ne (tgt := 29) hx hb dX9_isRight_20 (by decide) (fun hc30 => ?_) (fun hc30 => ?_)
        · have h := zf h hc30
          refine lv_iinc (v := (x20 + (1 : Int32))) (lv' := [(2, .int (x20 + (1 : Int32))), (0, .ref (B + a0)), (1, .int v1)]) hx hb dX9_isRight_29 hl (k := 2) rfl rfl (by decide) rfl (fun ls hl => ?_)
          refine lv_goto (tgt := 2) hx hb dX9_isRight_32 (by decide) ?_
          exact ih2 (x20 + (1 : Int32)) S21 _ _ hM hX22 hS h19 _ (lv_sub hl [1, 2, 0] rfl) h
        · have h := zt h hc30
          refine lv_aload_n hx hb dX9_isRight_23 rfl (lv_at hl 0 rfl) ?_
          refine lv_iload_n hx hb dX9_isRight_24 rfl (lv_at hl 2 rfl) ?_
          obtain ⟨r32, S33, hr31, h⟩ := zb2 h
          refine z_runi (va_runV (As := [.int x20]) (rest := []) ⟨hx, hb, hml, hown, hg⟩ (c_X9_markDive l D cy B h19 hr31) (z_cwV hg zw_808 zw_442 zw_443 zw_3 zw_444 zh_X9_markDive ⟨(Nat.le_of_ble_eq_true rfl), (Nat.le_of_ble_eq_true rfl)⟩) (zPV hC hM h19 (by decide) rfl) rfl rfl hl.1 rfl (lv_room (Nat.le_of_ble_eq_true rfl)) dX9_isRight_25 ⟨(Nat.le_of_ble_eq_true rfl), (Nat.le_of_ble_eq_true rfl)⟩) hS (fun H locs hM hX34 hS => ?_)
          have h36 := h19.mo hX34
          have hX37 := hX22.tr hX34
          refine lv_pop hx hb dX9_isRight_28 rfl ?_
          refine lv_iinc (v := (x20 + (1 : Int32))) (lv' := [(2, .int (x20 + (1 : Int32))), (0, .ref (B + a0)), (1, .int v1)]) hx hb dX9_isRight_29 hl (k := 2) rfl rfl (by decide) rfl (fun ls hl => ?_)
          refine lv_goto (tgt := 2) hx hb dX9_isRight_32 (by decide) ?_
          exact ih2 (x20 + (1 : Int32)) S33 _ _ hM hX37 hS h36 _ (lv_sub hl [1, 2, 0] rfl) h
  exact hL2 n (0 : Int32) S0 _ _ hM hX0 hS ha0 _ (lv_sub hl [1, 2, 0] rfl) h
def f_X10_init (S0 : zM) (a0 : Nat) : zM :=
  S0
set_option maxHeartbeats 4000000 in
set_option maxRecDepth 100000 in
theorem c_X10_init (l : Launch) (D : va_G) (cy : Nat → ClassId) (B : Nat) {S0 : zM} {a0 : Nat} {S' : zM} (ha0 : zA S0 a0 10) (h : f_X10_init S0 a0 = S') : Met l yX10_init (zws yX10_init cX10_init 1 none) { frames := 1, cells := 0, slots := 0, locals := 20 } (zPc D cy B S0 [.ref (B + a0)]) (zQv D cy B S0 S') 0 0 (fun q => B < q) := by
  refine Met.ofW (cc := cX10_init) (maxL := 1) (ret := none) (by decide) rfl ?_
  intro p e s m args below meth c s₁ Bd hml hv
  obtain ⟨rfl, hC, hM⟩ := hv
  obtain ⟨hx, hb, hr, hg, hown, hlk⟩ := z_open Bd
  have hK := hC.1
  have hin : meth.name = "<init>" := (name_of_methodNamed Bd.named Bd.method).1
  have hS : va_S (fun q => B < q) s.heap s.heap [] := va_S.rf
  have hX0 : zX S0 S0 := zX.rf
  refine z_entry (vs := [.ref (B + a0)]) (Nat.le_of_ble_eq_true rfl) (fun ls hl => ?_)
  have hl : lv_has ls 1 [(0, .ref (B + a0))] := hl
  unfold f_X10_init at h
  refine lv_aload_n hx hb dX10_init_0 rfl (lv_at hl 0 rfl) ?_
  refine W.objInit hx hb hown (hg _ zw_228) (hg _ zw_29) (hg _ zw_30) rfl (by rw [hml]; exact hl.1) rfl dX10_init_1 (Nat.le_of_ble_eq_true rfl) (Nat.le_of_ble_eq_true rfl) ?_
  refine W.eq (g2 := F0 m 4 ls []) rfl ?_
  exact z_vret hx hb hr hlk hM hX0 hS h dX10_init_4
def f_X11_init_L92b (a0 : Nat) (K140 : zM → Option (zM)) (rec92 : Int32 → zM → Option (zM)) (x142 : Int32) (S143 : zM) : Option (zM) :=
  if (8 : Int32) ≤ x142 then K140 S143 else zChk (¬ (zr S143 a0 3) = 0) (zLet (znw S143 8 0) (fun S152 => zLet (f_X8_init S152 (zsz S143)) (fun S160 => zChk (¬ (x142 < 0 ∨ zln S160 (zr S143 a0 3) ≤ (x142).toNatClampNeg)) (zLet (zpR S160 (zr S143 a0 3) (Int32.toNatClampNeg x142) (zsz S143)) (fun S168 => rec92 (x142 + (1 : Int32)) S168)))))
def f_X11_init_L92 (a0 : Nat) (K140 : zM → Option (zM)) : Nat → Int32 → zM → Option (zM)
  | 0 => fun _ _ => none
  | k + 1 => fun x142 S143 => f_X11_init_L92b a0 K140 (f_X11_init_L92 a0 K140 k) x142 S143
def f_X11_init (n : Nat) (S0 : zM) (a0 : Nat) : Option (zM) :=
  zLet (znw S0 9 0) (fun S1 => zB1 (f_X9_init n S1 (zsz S0)) (fun S8 => zLet (zpR S8 a0 0 (zsz S0)) (fun S14 => zLet (znw S14 9 0) (fun S19 => zB1 (f_X9_init n S19 (zsz S14)) (fun S26 => zLet (zpR S26 a0 1 (zsz S14)) (fun S32 => zLet (znw S32 9 0) (fun S37 => zB1 (f_X9_init n S37 (zsz S32)) (fun S44 => zLet (zpR S44 a0 2 (zsz S32)) (fun S50 => zLet (znw S50 25 8) (fun S55 => zLet (zpR S55 a0 3 (zsz S50)) (fun S61 => zLet (znw S61 7 0) (fun S66 => zB1 (f_X7_init n S66 (zsz S61)) (fun S73 => zLet (zpR S73 a0 4 (zsz S61)) (fun S79 => zLet (znw S79 4 0) (fun S84 => zLet (f_X4_init S84 (zsz S79)) (fun S91 => zLet (zpR S91 a0 5 (zsz S79)) (fun S97 => zLet (znw S97 3 0) (fun S102 => zLet (f_X3_init S102 (zsz S97)) (fun S109 => zLet (zpR S109 a0 6 (zsz S97)) (fun S115 => zLet (znw S115 10 0) (fun S120 => zLet (f_X10_init S120 (zsz S115)) (fun S127 => zLet (zpR S127 a0 7 (zsz S115)) (fun S133 => zLet (fun (S138 : zM) => some S138) (fun K140 => f_X11_init_L92 a0 K140 n (0 : Int32) S133))))))))))))))))))))))))
set_option maxHeartbeats 4000000 in
set_option maxRecDepth 100000 in
theorem c_X11_init (l : Launch) (D : va_G) (cy : Nat → ClassId) (B : Nat) {n : Nat} {S0 : zM} {a0 : Nat} {S' : zM} (ha0 : zA S0 a0 11) (h : f_X11_init n S0 a0 = some S') : Met l yX11_init (zws yX11_init cX11_init 2 none) { frames := 3, cells := 434, slots := 5142, locals := 63 } (zPc D cy B S0 [.ref (B + a0)]) (zQv D cy B S0 S') 434 5142 (fun q => B < q) := by
  refine Met.ofW (cc := cX11_init) (maxL := 2) (ret := none) (by decide) rfl ?_
  intro p e s m args below meth c s₁ Bd hml hv
  obtain ⟨rfl, hC, hM⟩ := hv
  obtain ⟨hx, hb, hr, hg, hown, hlk⟩ := z_open Bd
  have hK := hC.1
  have hin : meth.name = "<init>" := (name_of_methodNamed Bd.named Bd.method).1
  have hS : va_S (fun q => B < q) s.heap s.heap [] := va_S.rf
  have hX0 : zX S0 S0 := zX.rf
  refine z_entry (vs := [.ref (B + a0)]) (Nat.le_of_ble_eq_true rfl) (fun ls hl => ?_)
  have hl : lv_has ls 2 [(0, .ref (B + a0))] := hl
  unfold f_X11_init at h
  refine lv_aload_n hx hb dX11_init_0 rfl (lv_at hl 0 rfl) ?_
  refine W.objInit hx hb hown (hg _ zw_28) (hg _ zw_29) (hg _ zw_30) rfl (by rw [hml]; exact hl.1) rfl dX11_init_1 (Nat.le_of_ble_eq_true rfl) (Nat.le_of_ble_eq_true rfl) ?_
  refine W.eq (g2 := F0 m 4 ls []) rfl ?_
  refine lv_aload_n hx hb dX11_init_4 rfl (lv_at hl 0 rfl) ?_
  refine z_new hx hb hg zin_9 tyX9 tyX9_ok hown (hg _ zw_31) (hg _ zw_32) (hg _ zw_3) hK hM hS 9 rfl (by decide) zdf_9 (Nat.le_of_ble_eq_true rfl) (Nat.le_of_ble_eq_true rfl) dX11_init_5 (fun H hM hA hX hS => ?_)
  obtain ⟨S1, e2, h⟩ := zlg h
  rw [← e2] at hM hA hX
  have hX3 := hX
  have h4 := hA
  have h5 := ha0.mo hX3
  have hX6 := hX0.tr hX3
  refine W.widen (k := 1) (n := 12) (Nat.le_refl _) (Nat.le_refl _) ?_
  refine lv_dup hx hb dX11_init_8 rfl ?_
  obtain ⟨S8, hr7, h⟩ := zb1 h
  refine z_runv (va_runI (As := []) (rest := [.ref (B + (zsz S0)), .ref (B + a0)]) ⟨hx, hb, hml, hown, hg⟩ (c_X9_init l D cy B h4 hr7) (z_cwI hg zw_33 zw_34 zw_3 zw_35 rfl zh_X9_init.2 ⟨(Nat.le_of_ble_eq_true rfl), (Nat.le_of_ble_eq_true rfl)⟩) (zPS hC hM) rfl rfl hl.1 rfl (lv_room (Nat.le_of_ble_eq_true rfl)) dX11_init_9 ⟨(Nat.le_of_ble_eq_true rfl), (Nat.le_of_ble_eq_true rfl)⟩) hS (fun H locs hM hX9 hS => ?_)
  refine W.widen (k := 134) (n := 1237) (Nat.le_refl _) (Nat.le_refl _) ?_
  have h11 := h5.mo hX9
  have h12 := h4.mo hX9
  have hX13 := hX6.tr hX9
  refine z_putR (r := (zsz S0)) hx hb hg zin_11 tyX11 tyX11_ok nmX11 hown hK hM hS h11 0 rfl (by decide) (hg _ zw_267) (fun _ h9 => h9) (Or.inr ⟨rfl, hin, rfl⟩) (zv_ref h12.1).symm (tyX11_ok 0 (by decide)) (Or.inl ⟨_, rfl⟩) (h12.q) dX11_init_12 (fun H locs hM hS => ?_)
  obtain ⟨S14, e15, h⟩ := zlg h
  rw [← e15] at hM
  have hX16 : zX S8 S14 := by rw [e15]; exact zX_pR
  have h17 := h11.mo hX16
  have hX18 := hX13.tr hX16
  refine lv_aload_n hx hb dX11_init_15 rfl (lv_at hl 0 rfl) ?_
  refine z_new hx hb hg zin_9 tyX9 tyX9_ok hown (hg _ zw_31) (hg _ zw_32) (hg _ zw_3) hK hM hS 9 rfl (by decide) zdf_9 (Nat.le_of_ble_eq_true rfl) (Nat.le_of_ble_eq_true rfl) dX11_init_16 (fun H hM hA hX hS => ?_)
  obtain ⟨S19, e20, h⟩ := zlg h
  rw [← e20] at hM hA hX
  have hX21 := hX
  have h22 := hA
  have h23 := h17.mo hX21
  have hX24 := hX18.tr hX21
  refine W.widen (k := 135) (n := 1249) (Nat.le_refl _) (Nat.le_refl _) ?_
  refine lv_dup hx hb dX11_init_19 rfl ?_
  obtain ⟨S26, hr25, h⟩ := zb1 h
  refine z_runv (va_runI (As := []) (rest := [.ref (B + (zsz S14)), .ref (B + a0)]) ⟨hx, hb, hml, hown, hg⟩ (c_X9_init l D cy B h22 hr25) (z_cwI hg zw_33 zw_34 zw_3 zw_35 rfl zh_X9_init.2 ⟨(Nat.le_of_ble_eq_true rfl), (Nat.le_of_ble_eq_true rfl)⟩) (zPS hC hM) rfl rfl hl.1 rfl (lv_room (Nat.le_of_ble_eq_true rfl)) dX11_init_20 ⟨(Nat.le_of_ble_eq_true rfl), (Nat.le_of_ble_eq_true rfl)⟩) hS (fun H locs hM hX27 hS => ?_)
  refine W.widen (k := 268) (n := 2474) (Nat.le_refl _) (Nat.le_refl _) ?_
  have h29 := h23.mo hX27
  have h30 := h22.mo hX27
  have hX31 := hX24.tr hX27
  refine z_putR (r := (zsz S14)) hx hb hg zin_11 tyX11 tyX11_ok nmX11 hown hK hM hS h29 1 rfl (by decide) (hg _ zw_268) (fun _ h9 => h9) (Or.inr ⟨rfl, hin, rfl⟩) (zv_ref h30.1).symm (tyX11_ok 1 (by decide)) (Or.inl ⟨_, rfl⟩) (h30.q) dX11_init_23 (fun H locs hM hS => ?_)
  obtain ⟨S32, e33, h⟩ := zlg h
  rw [← e33] at hM
  have hX34 : zX S26 S32 := by rw [e33]; exact zX_pR
  have h35 := h29.mo hX34
  have hX36 := hX31.tr hX34
  refine lv_aload_n hx hb dX11_init_26 rfl (lv_at hl 0 rfl) ?_
  refine z_new hx hb hg zin_9 tyX9 tyX9_ok hown (hg _ zw_31) (hg _ zw_32) (hg _ zw_3) hK hM hS 9 rfl (by decide) zdf_9 (Nat.le_of_ble_eq_true rfl) (Nat.le_of_ble_eq_true rfl) dX11_init_27 (fun H hM hA hX hS => ?_)
  obtain ⟨S37, e38, h⟩ := zlg h
  rw [← e38] at hM hA hX
  have hX39 := hX
  have h40 := hA
  have h41 := h35.mo hX39
  have hX42 := hX36.tr hX39
  refine W.widen (k := 269) (n := 2486) (Nat.le_refl _) (Nat.le_refl _) ?_
  refine lv_dup hx hb dX11_init_30 rfl ?_
  obtain ⟨S44, hr43, h⟩ := zb1 h
  refine z_runv (va_runI (As := []) (rest := [.ref (B + (zsz S32)), .ref (B + a0)]) ⟨hx, hb, hml, hown, hg⟩ (c_X9_init l D cy B h40 hr43) (z_cwI hg zw_33 zw_34 zw_3 zw_35 rfl zh_X9_init.2 ⟨(Nat.le_of_ble_eq_true rfl), (Nat.le_of_ble_eq_true rfl)⟩) (zPS hC hM) rfl rfl hl.1 rfl (lv_room (Nat.le_of_ble_eq_true rfl)) dX11_init_31 ⟨(Nat.le_of_ble_eq_true rfl), (Nat.le_of_ble_eq_true rfl)⟩) hS (fun H locs hM hX45 hS => ?_)
  refine W.widen (k := 402) (n := 3711) (Nat.le_refl _) (Nat.le_refl _) ?_
  have h47 := h41.mo hX45
  have h48 := h40.mo hX45
  have hX49 := hX42.tr hX45
  refine z_putR (r := (zsz S32)) hx hb hg zin_11 tyX11 tyX11_ok nmX11 hown hK hM hS h47 2 rfl (by decide) (hg _ zw_269) (fun _ h9 => h9) (Or.inr ⟨rfl, hin, rfl⟩) (zv_ref h48.1).symm (tyX11_ok 2 (by decide)) (Or.inl ⟨_, rfl⟩) (h48.q) dX11_init_34 (fun H locs hM hS => ?_)
  obtain ⟨S50, e51, h⟩ := zlg h
  rw [← e51] at hM
  have hX52 : zX S44 S50 := by rw [e51]; exact zX_pR
  have h53 := h47.mo hX52
  have hX54 := hX49.tr hX52
  refine lv_aload_n hx hb dX11_init_37 rfl (lv_at hl 0 rfl) ?_
  refine lv_bipush (v := (8 : Int32)) hx hb dX11_init_38 (by decide +kernel) ?_
  refine z_anew hx hb hown (hg _ zw_160) (hC.2.2.2.1 _ (by decide)) hK hM hS 25 (by decide) rfl (N := 8) (by decide +kernel) (by decide +kernel) (by decide +kernel) (Nat.le_of_ble_eq_true rfl) (Nat.le_of_ble_eq_true rfl) dX11_init_40 (fun H hM hA hX hS => ?_)
  obtain ⟨S55, e56, h⟩ := zlg h
  rw [← e56] at hM hA hX
  have hX57 := hX
  have h58 := hA
  have h59 := h53.mo hX57
  have hX60 := hX54.tr hX57
  refine W.widen (k := 403) (n := 3719) (Nat.le_refl _) (Nat.le_refl _) ?_
  refine z_putR (r := (zsz S50)) hx hb hg zin_11 tyX11 tyX11_ok nmX11 hown hK hM hS h59 3 rfl (by decide) (hg _ zw_270) (fun _ h9 => h9) (Or.inr ⟨rfl, hin, rfl⟩) (zv_ref h58.1).symm (tyX11_ok 3 (by decide)) (Or.inr ⟨_, rfl⟩) (h58.q) dX11_init_43 (fun H locs hM hS => ?_)
  obtain ⟨S61, e62, h⟩ := zlg h
  rw [← e62] at hM
  have hX63 : zX S55 S61 := by rw [e62]; exact zX_pR
  have h64 := h59.mo hX63
  have hX65 := hX60.tr hX63
  refine lv_aload_n hx hb dX11_init_46 rfl (lv_at hl 0 rfl) ?_
  refine z_new hx hb hg zin_7 tyX7 tyX7_ok hown (hg _ zw_162) (hg _ zw_163) (hg _ zw_7) hK hM hS 7 rfl (by decide) zdf_7 (Nat.le_of_ble_eq_true rfl) (Nat.le_of_ble_eq_true rfl) dX11_init_47 (fun H hM hA hX hS => ?_)
  obtain ⟨S66, e67, h⟩ := zlg h
  rw [← e67] at hM hA hX
  have hX68 := hX
  have h69 := hA
  have h70 := h64.mo hX68
  have hX71 := hX65.tr hX68
  refine W.widen (k := 404) (n := 3725) (Nat.le_refl _) (Nat.le_refl _) ?_
  refine lv_dup hx hb dX11_init_50 rfl ?_
  obtain ⟨S73, hr72, h⟩ := zb1 h
  refine z_runv (va_runIN (As := []) (rest := [.ref (B + (zsz S61)), .ref (B + a0)]) ⟨hx, hb, hml, hown, hg⟩ (c_X7_init l D cy B h69 hr72) ⟨z_cnB hg hC (List.mem_of_getElem? (i := 2) rfl) zw_7 zw_166 zh_X7_init.2 ⟨(Nat.le_of_ble_eq_true rfl), (Nat.le_of_ble_eq_true rfl)⟩, rfl, hg _ zw_165⟩ (zPS hC hM) rfl rfl hl.1 rfl (lv_room (Nat.le_of_ble_eq_true rfl)) dX11_init_51 ⟨(Nat.le_of_ble_eq_true rfl), (Nat.le_of_ble_eq_true rfl)⟩) hS (fun H locs hM hX74 hS => ?_)
  refine W.widen (k := 409) (n := 3977) (Nat.le_refl _) (Nat.le_refl _) ?_
  have h76 := h70.mo hX74
  have h77 := h69.mo hX74
  have hX78 := hX71.tr hX74
  refine z_putR (r := (zsz S61)) hx hb hg zin_11 tyX11 tyX11_ok nmX11 hown hK hM hS h76 4 rfl (by decide) (hg _ zw_271) (fun _ h9 => h9) (Or.inr ⟨rfl, hin, rfl⟩) (zv_ref h77.1).symm (tyX11_ok 4 (by decide)) (Or.inl ⟨_, rfl⟩) (h77.q) dX11_init_54 (fun H locs hM hS => ?_)
  obtain ⟨S79, e80, h⟩ := zlg h
  rw [← e80] at hM
  have hX81 : zX S73 S79 := by rw [e80]; exact zX_pR
  have h82 := h76.mo hX81
  have hX83 := hX78.tr hX81
  refine lv_aload_n hx hb dX11_init_57 rfl (lv_at hl 0 rfl) ?_
  refine z_new hx hb hg zin_4 tyX4 tyX4_ok hown (hg _ zw_184) (hg _ zw_185) (hg _ zw_9) hK hM hS 4 rfl (by decide) zdf_4 (Nat.le_of_ble_eq_true rfl) (Nat.le_of_ble_eq_true rfl) dX11_init_58 (fun H hM hA hX hS => ?_)
  obtain ⟨S84, e85, h⟩ := zlg h
  rw [← e85] at hM hA hX
  have hX86 := hX
  have h87 := hA
  have h88 := h82.mo hX86
  have hX89 := hX83.tr hX86
  refine W.widen (k := 410) (n := 3981) (Nat.le_refl _) (Nat.le_refl _) ?_
  refine lv_dup hx hb dX11_init_61 rfl ?_
  obtain ⟨S91, hr90, h⟩ := zlg h
  have hr90 := hr90.symm
  refine z_runv (va_runIN (As := []) (rest := [.ref (B + (zsz S79)), .ref (B + a0)]) ⟨hx, hb, hml, hown, hg⟩ (c_X4_init l D cy B h87 hr90) ⟨z_cnB hg hC (List.mem_of_getElem? (i := 3) rfl) zw_9 zw_188 zh_X4_init.2 ⟨(Nat.le_of_ble_eq_true rfl), (Nat.le_of_ble_eq_true rfl)⟩, rfl, hg _ zw_187⟩ (zPS hC hM) rfl rfl hl.1 rfl (lv_room (Nat.le_of_ble_eq_true rfl)) dX11_init_62 ⟨(Nat.le_of_ble_eq_true rfl), (Nat.le_of_ble_eq_true rfl)⟩) hS (fun H locs hM hX92 hS => ?_)
  refine W.widen (k := 412) (n := 4028) (Nat.le_refl _) (Nat.le_refl _) ?_
  have h94 := h88.mo hX92
  have h95 := h87.mo hX92
  have hX96 := hX89.tr hX92
  refine z_putR (r := (zsz S79)) hx hb hg zin_11 tyX11 tyX11_ok nmX11 hown hK hM hS h94 5 rfl (by decide) (hg _ zw_272) (fun _ h9 => h9) (Or.inr ⟨rfl, hin, rfl⟩) (zv_ref h95.1).symm (tyX11_ok 5 (by decide)) (Or.inl ⟨_, rfl⟩) (h95.q) dX11_init_65 (fun H locs hM hS => ?_)
  obtain ⟨S97, e98, h⟩ := zlg h
  rw [← e98] at hM
  have hX99 : zX S91 S97 := by rw [e98]; exact zX_pR
  have h100 := h94.mo hX99
  have hX101 := hX96.tr hX99
  refine lv_aload_n hx hb dX11_init_68 rfl (lv_at hl 0 rfl) ?_
  refine z_new hx hb hg zin_3 tyX3 tyX3_ok hown (hg _ zw_207) (hg _ zw_208) (hg _ zw_10) hK hM hS 3 rfl (by decide) zdf_3 (Nat.le_of_ble_eq_true rfl) (Nat.le_of_ble_eq_true rfl) dX11_init_69 (fun H hM hA hX hS => ?_)
  obtain ⟨S102, e103, h⟩ := zlg h
  rw [← e103] at hM hA hX
  have hX104 := hX
  have h105 := hA
  have h106 := h100.mo hX104
  have hX107 := hX101.tr hX104
  refine W.widen (k := 413) (n := 4034) (Nat.le_refl _) (Nat.le_refl _) ?_
  refine lv_dup hx hb dX11_init_72 rfl ?_
  obtain ⟨S109, hr108, h⟩ := zlg h
  have hr108 := hr108.symm
  refine z_runv (va_runIN (As := []) (rest := [.ref (B + (zsz S97)), .ref (B + a0)]) ⟨hx, hb, hml, hown, hg⟩ (c_X3_init l D cy B h105 hr108) ⟨z_cnB hg hC (List.mem_of_getElem? (i := 5) rfl) zw_10 zw_211 zh_X3_init.2 ⟨(Nat.le_of_ble_eq_true rfl), (Nat.le_of_ble_eq_true rfl)⟩, rfl, hg _ zw_210⟩ (zPS hC hM) rfl rfl hl.1 rfl (lv_room (Nat.le_of_ble_eq_true rfl)) dX11_init_73 ⟨(Nat.le_of_ble_eq_true rfl), (Nat.le_of_ble_eq_true rfl)⟩) hS (fun H locs hM hX110 hS => ?_)
  refine W.widen (k := 417) (n := 4137) (Nat.le_refl _) (Nat.le_refl _) ?_
  have h112 := h106.mo hX110
  have h113 := h105.mo hX110
  have hX114 := hX107.tr hX110
  refine z_putR (r := (zsz S97)) hx hb hg zin_11 tyX11 tyX11_ok nmX11 hown hK hM hS h112 6 rfl (by decide) (hg _ zw_273) (fun _ h9 => h9) (Or.inr ⟨rfl, hin, rfl⟩) (zv_ref h113.1).symm (tyX11_ok 6 (by decide)) (Or.inl ⟨_, rfl⟩) (h113.q) dX11_init_76 (fun H locs hM hS => ?_)
  obtain ⟨S115, e116, h⟩ := zlg h
  rw [← e116] at hM
  have hX117 : zX S109 S115 := by rw [e116]; exact zX_pR
  have h118 := h112.mo hX117
  have hX119 := hX114.tr hX117
  refine lv_aload_n hx hb dX11_init_79 rfl (lv_at hl 0 rfl) ?_
  refine z_new hx hb hg zin_10 tyX10 tyX10_ok hown (hg _ zw_223) (hg _ zw_224) (hg _ zw_11) hK hM hS 10 rfl (by decide) zdf_10 (Nat.le_of_ble_eq_true rfl) (Nat.le_of_ble_eq_true rfl) dX11_init_80 (fun H hM hA hX hS => ?_)
  obtain ⟨S120, e121, h⟩ := zlg h
  rw [← e121] at hM hA hX
  have hX122 := hX
  have h123 := hA
  have h124 := h118.mo hX122
  have hX125 := hX119.tr hX122
  refine W.widen (k := 418) (n := 4142) (Nat.le_refl _) (Nat.le_refl _) ?_
  refine lv_dup hx hb dX11_init_83 rfl ?_
  obtain ⟨S127, hr126, h⟩ := zlg h
  have hr126 := hr126.symm
  refine z_runv (va_runIN (As := []) (rest := [.ref (B + (zsz S115)), .ref (B + a0)]) ⟨hx, hb, hml, hown, hg⟩ (c_X10_init l D cy B h123 hr126) ⟨z_cnB hg hC (List.mem_of_getElem? (i := 7) rfl) zw_11 zw_227 zh_X10_init.2 ⟨(Nat.le_of_ble_eq_true rfl), (Nat.le_of_ble_eq_true rfl)⟩, rfl, hg _ zw_226⟩ (zPS hC hM) rfl rfl hl.1 rfl (lv_room (Nat.le_of_ble_eq_true rfl)) dX11_init_84 ⟨(Nat.le_of_ble_eq_true rfl), (Nat.le_of_ble_eq_true rfl)⟩) hS (fun H locs hM hX128 hS => ?_)
  have h130 := h124.mo hX128
  have h131 := h123.mo hX128
  have hX132 := hX125.tr hX128
  refine z_putR (r := (zsz S115)) hx hb hg zin_11 tyX11 tyX11_ok nmX11 hown hK hM hS h130 7 rfl (by decide) (hg _ zw_274) (fun _ h9 => h9) (Or.inr ⟨rfl, hin, rfl⟩) (zv_ref h131.1).symm (tyX11_ok 7 (by decide)) (Or.inl ⟨_, rfl⟩) (h131.q) dX11_init_87 (fun H locs hM hS => ?_)
  obtain ⟨S133, e134, h⟩ := zlg h
  rw [← e134] at hM
  have hX135 : zX S127 S133 := by rw [e134]; exact zX_pR
  have h136 := h130.mo hX135
  have hX137 := hX132.tr hX135
  refine lv_iconst (v := (0 : Int32)) hx hb dX11_init_90 (by decide +kernel) ?_
  refine lv_istore_n (i := 1) (lv' := [(1, .int (0 : Int32)), (0, .ref (B + a0))]) hx hb dX11_init_91 rfl hl (by decide) rfl (fun ls hl => ?_)
  obtain ⟨K140, eK140, h⟩ := zlg h
  have hK140 : ∀ (S138 : zM) (H : Heap) (locs : List Loc), zMR D cy B S138 H → zX S0 S138 → va_S (fun q => B < q) s.heap H locs → ∀ ls : Array Slot, lv_has ls 2 [] → K140 S138 = some S' → W p l e (headSpec (zws yX11_init cX11_init 2 none) { frames := 3, cells := 434, slots := 5142, locals := 63 }).room s m (([.ref (B + a0)] : List Value).toArray) below meth c H locs 434 5142 (MQ below (zQv D cy B S0 S') (([.ref (B + a0)] : List Value).toArray) s 434 5142 (fun q => B < q)) (F0 m 117 ls []) := by
    intro S138 H locs hM hX139 hS ls hl h
    rw [eK140] at h
    refine W.widen (k := 434) (n := 5142) (by omega) (by omega) ?_
    exact z_vret hx hb hr hlk hM hX139 hS (zsm h) dX11_init_117
  have hL92 : ∀ (k : Nat) (x142 : Int32) (S143 : zM) (j145 : Nat) (_ : x142 = nI j145) (_ : j145 ≤ 8) (H : Heap) (locs : List Loc), zMR D cy B S143 H → zX S0 S143 → va_S (fun q => B < q) s.heap H locs → zA S143 a0 11 → ∀ ls : Array Slot, lv_has ls 2 [(0, .ref (B + a0)), (1, .int x142)] → f_X11_init_L92 a0 K140 k x142 S143 = some S' → W p l e (headSpec (zws yX11_init cX11_init 2 none) { frames := 3, cells := 434, slots := 5142, locals := 63 }).room s m (([.ref (B + a0)] : List Value).toArray) below meth c H locs (2 * j145 + 418) (125 * j145 + 4142) (MQ below (zQv D cy B S0 S') (([.ref (B + a0)] : List Value).toArray) s 434 5142 (fun q => B < q)) (F0 m 92 ls []) := by
    intro k
    induction k with
    | zero =>
      intro x142 S143 j145 hj146 hj147 H locs hM hX144 hS h141 ls hl h
      exact znone h
    | succ k ih92 =>
      intro x142 S143 j145 hj146 hj147 H locs hM hX144 hS h141 ls hl h
      replace h : f_X11_init_L92b a0 K140 (f_X11_init_L92 a0 K140 k) x142 S143 = some S' := h
      generalize f_X11_init_L92 a0 K140 k = rec92 at ih92 h
      unfold f_X11_init_L92b at h
      refine lv_iload_n hx hb dX11_init_92 rfl (lv_at hl 1 rfl) ?_
      refine lv_bipush (v := (8 : Int32)) hx hb dX11_init_93 (by decide +kernel) ?_
      refine lv_icmp_ge (tgt := 117) hx hb dX11_init_95 (by decide) (fun hc149 => ?_) (fun hc149 => ?_)
      · have h := zt h hc149
        refine W.widen (k := 434) (n := 5142) (by omega) (by omega) ?_
        exact hK140 S143 _ _ hM hX144 hS _ (lv_sub hl [] rfl) h
      · have h := zf h hc149
        have hj148 := zjlt hj146 hj147 hc149 (N := 8) (by decide +kernel)
        refine lv_aload_n hx hb dX11_init_98 rfl (lv_at hl 0 rfl) ?_
        obtain ⟨hq151, h⟩ := zk h
        refine z_getN hx hb hg zin_11 hown hK hM h141 3 rfl (by decide) (hg _ zw_270) (fun _ h9 => h9) hq151 dX11_init_99 (fun h150 => ?_)
        refine lv_iload_n hx hb dX11_init_102 rfl (lv_at hl 1 rfl) ?_
        refine z_new hx hb hg zin_8 tyX8 tyX8_ok hown (hg _ zw_160) (hg _ zw_245) (hg _ zw_12) hK hM hS 8 rfl (by decide) zdf_8 (by show (2 * j145 + 418) + 1 ≤ 434; omega) (by show (125 * j145 + 4142) + 5 ≤ 5142; omega) dX11_init_103 (fun H hM hA hX hS => ?_)
        obtain ⟨S152, e153, h⟩ := zlg h
        rw [← e153] at hM hA hX
        have hX154 := hX
        have h155 := hA
        have h156 := h141.mo hX154
        have h157 := h150.mo hX154
        have hX158 := hX144.tr hX154
        refine W.widen (k := (2 * j145 + 419)) (n := (125 * j145 + 4147)) (Nat.le_refl _) (Nat.le_refl _) ?_
        refine lv_dup hx hb dX11_init_106 rfl ?_
        obtain ⟨S160, hr159, h⟩ := zlg h
        have hr159 := hr159.symm
        refine z_runv (va_runIN (As := []) (rest := [.ref (B + (zsz S143)), .int x142, .ref (B + (zr S143 a0 3))]) ⟨hx, hb, hml, hown, hg⟩ (c_X8_init l D cy B h155 hr159) ⟨z_cnB hg hC (List.mem_of_getElem? (i := 8) rfl) zw_12 zw_248 zh_X8_init.2 ⟨(Nat.le_of_ble_eq_true rfl), (Nat.le_of_ble_eq_true rfl)⟩, rfl, hg _ zw_247⟩ (zPS hC hM) rfl rfl hl.1 rfl (lv_room (Nat.le_of_ble_eq_true rfl)) dX11_init_107 ⟨(by show (2 * j145 + 419) + 1 ≤ 434; omega), (by show (125 * j145 + 4147) + 120 ≤ 5142; omega)⟩) hS (fun H locs hM hX161 hS => ?_)
        refine W.widen (k := (2 * j145 + 420)) (n := (125 * j145 + 4267)) (Nat.le_refl _) (Nat.le_refl _) ?_
        have h163 := h156.mo hX161
        have h164 := h157.mo hX161
        have h165 := h155.mo hX161
        have hX166 := hX158.tr hX161
        obtain ⟨hq167, h⟩ := zk h
        refine z_aast (r := (zsz S143)) hx hb hK hM hS h164 (by decide) (q := (RX8, TX8, 5)) rfl (fun _ => rfl) (by decide) rfl (zv_ref h165.1).symm (h165.q) hq167 dX11_init_110 (fun H locs hM hS => ?_)
        obtain ⟨S168, e169, h⟩ := zlg h
        rw [← e169] at hM
        have hX170 : zX S160 S168 := by rw [e169]; exact zX_pR
        have h171 := h163.mo hX170
        have hX172 := hX166.tr hX170
        refine lv_iinc (v := (x142 + (1 : Int32))) (lv' := [(1, .int (x142 + (1 : Int32))), (0, .ref (B + a0))]) hx hb dX11_init_111 hl (k := 1) rfl rfl (by decide) rfl (fun ls hl => ?_)
        refine lv_goto (tgt := 92) hx hb dX11_init_114 (by decide) ?_
        refine W.widen (k := (2 * (j145 + 1) + 418)) (n := (125 * (j145 + 1) + 4142)) (by omega) (by omega) ?_
        exact ih92 (x142 + (1 : Int32)) S168 (j145 + 1) (by rw [hj146]; exact nI_1 j145) hj148 _ _ hM hX172 hS h171 _ (lv_sub hl [1, 0] rfl) h
  refine W.widen (k := (2 * 0 + 418)) (n := (125 * 0 + 4142)) (by omega) (by omega) ?_
  exact hL92 n (0 : Int32) S133 0 nI_0.symm (Nat.zero_le _) _ _ hM hX137 hS h136 _ (lv_sub hl [1, 0] rfl) h
