def f_X11_diver (S0 : zM) (a0 : Nat) (v1 : Int32) (v2 : Int32) : Option (Int32 × zM) :=
  zLet (f_X11_within v1 (6 : Int32)) (fun r2 => if r2 = 0 then some (((-1 : Int32), S0)) else zLet (f_X11_within v2 (10 : Int32)) (fun r7 => if r7 = 0 then some (((-1 : Int32), S0)) else zChk (¬ (zr S0 a0 0) = 0) (zB2 (f_X9_addDiver S0 (zr S0 a0 0) v1 v2) (fun r14 S15 => some ((r14, S15))))))
set_option maxHeartbeats 4000000 in
set_option maxRecDepth 100000 in
theorem c_X11_diver (l : Launch) (D : va_G) (cy : Nat → ClassId) (B : Nat) {S0 : zM} {a0 : Nat} {v1 : Int32} {v2 : Int32} {r : Int32} {S' : zM} (ha0 : zA S0 a0 11) (h : f_X11_diver S0 a0 v1 v2 = some (r, S')) : Met l yX11_diver (zws yX11_diver cX11_diver 3 ((some .int))) { frames := 2, cells := 0, slots := 0, locals := 43 } (zPc D cy B S0 [.ref (B + a0), .int v1, .int v2]) (zQi D cy B S0 r S') 0 0 (fun q => B < q) := by
  refine Met.ofW (cc := cX11_diver) (maxL := 3) (ret := ((some .int))) (by decide) rfl ?_
  intro p e s m args below meth c s₁ Bd hml hv
  obtain ⟨rfl, hC, hM⟩ := hv
  obtain ⟨hx, hb, hr, hg, hown, hlk⟩ := z_open Bd
  have hK := hC.1
  have hS : va_S (fun q => B < q) s.heap s.heap [] := va_S.rf
  have hX0 : zX S0 S0 := zX.rf
  refine z_entry (vs := [.ref (B + a0), .int v1, .int v2]) (Nat.le_of_ble_eq_true rfl) (fun ls hl => ?_)
  have hl : lv_has ls 3 [(0, .ref (B + a0)), (1, .int v1), (2, .int v2)] := hl
  unfold f_X11_diver at h
  refine lv_iload_n hx hb dX11_diver_0 rfl (lv_at hl 1 rfl) ?_
  refine lv_bipush (v := (6 : Int32)) hx hb dX11_diver_1 (by decide +kernel) ?_
  obtain ⟨r2, hr1, h⟩ := zlg h
  have hr1 := hr1.symm
  refine z_runi (va_runS (As := [.int v1, .int (6 : Int32)]) (rest := []) ⟨hx, hb, hml, hown, hg⟩ (c_X11_within l D cy B hr1) (z_cwS hg zw_290 zw_291 zw_2 zw_292 zh_X11_within.2 ⟨(Nat.le_of_ble_eq_true rfl), (Nat.le_of_ble_eq_true rfl)⟩) (zPS hC hM) rfl rfl hl.1 rfl (lv_room (Nat.le_of_ble_eq_true rfl)) dX11_diver_3 ⟨(Nat.le_of_ble_eq_true rfl), (Nat.le_of_ble_eq_true rfl)⟩) hS (fun H locs hM hX3 hS => ?_)
  refine lv_if_eq (tgt := 18) hx hb dX11_diver_6 (by decide) (fun hc5 => ?_) (fun hc5 => ?_)
  · have h := zt h hc5
    refine lv_iconst (v := (-1 : Int32)) hx hb dX11_diver_18 (by decide +kernel) ?_
    exact z_iret hx hb hr hlk hM hX0 hS (zsp h) dX11_diver_19
  · have h := zf h hc5
    refine lv_iload_n hx hb dX11_diver_9 rfl (lv_at hl 2 rfl) ?_
    refine lv_bipush (v := (10 : Int32)) hx hb dX11_diver_10 (by decide +kernel) ?_
    obtain ⟨r7, hr6, h⟩ := zlg h
    have hr6 := hr6.symm
    refine z_runi (va_runS (As := [.int v2, .int (10 : Int32)]) (rest := []) ⟨hx, hb, hml, hown, hg⟩ (c_X11_within l D cy B hr6) (z_cwS hg zw_290 zw_291 zw_2 zw_292 zh_X11_within.2 ⟨(Nat.le_of_ble_eq_true rfl), (Nat.le_of_ble_eq_true rfl)⟩) (zPS hC hM) rfl rfl hl.1 rfl (lv_room (Nat.le_of_ble_eq_true rfl)) dX11_diver_12 ⟨(Nat.le_of_ble_eq_true rfl), (Nat.le_of_ble_eq_true rfl)⟩) hS (fun H locs hM hX8 hS => ?_)
    refine lv_if_ne (tgt := 20) hx hb dX11_diver_15 (by decide) (fun hc10 => ?_) (fun hc10 => ?_)
    · have h := zf h hc10
      refine lv_aload_n hx hb dX11_diver_20 rfl (lv_at hl 0 rfl) ?_
      obtain ⟨hq12, h⟩ := zk h
      refine z_getN hx hb hg zin_11 hown hK hM ha0 0 rfl (by decide) (hg _ zw_267) (fun _ h9 => h9) hq12 dX11_diver_21 (fun h11 => ?_)
      refine lv_iload_n hx hb dX11_diver_24 rfl (lv_at hl 1 rfl) ?_
      refine lv_iload_n hx hb dX11_diver_25 rfl (lv_at hl 2 rfl) ?_
      obtain ⟨r14, S15, hr13, h⟩ := zb2 h
      refine z_runi (va_runV (As := [.int v1, .int v2]) (rest := []) ⟨hx, hb, hml, hown, hg⟩ (c_X9_addDiver l D cy B h11 hr13) (z_cwV hg zw_293 zw_294 zw_295 zw_3 zw_296 zh_X9_addDiver ⟨(Nat.le_of_ble_eq_true rfl), (Nat.le_of_ble_eq_true rfl)⟩) (zPV hC hM h11 (by decide) rfl) rfl rfl hl.1 rfl (lv_room (Nat.le_of_ble_eq_true rfl)) dX11_diver_26 ⟨(Nat.le_of_ble_eq_true rfl), (Nat.le_of_ble_eq_true rfl)⟩) hS (fun H locs hM hX16 hS => ?_)
      have hX18 := hX0.tr hX16
      exact z_iret hx hb hr hlk hM hX18 hS (zsp h) dX11_diver_29
    · have h := zt h hc10
      refine lv_iconst (v := (-1 : Int32)) hx hb dX11_diver_18 (by decide +kernel) ?_
      exact z_iret hx hb hr hlk hM hX0 hS (zsp h) dX11_diver_19
def f_X11_judge (S0 : zM) (a0 : Nat) (v1 : Int32) (v2 : Int32) : Option (Int32 × zM) :=
  zLet (f_X11_within v1 (8 : Int32)) (fun r2 => if r2 = 0 then some (((-1 : Int32), S0)) else zLet (f_X11_within v2 (600 : Int32)) (fun r7 => if r7 = 0 then some (((-1 : Int32), S0)) else zLet (f_X11_within (v2 - v2 / (10 : Int32) * (10 : Int32)) (6 : Int32)) (fun r12 => if r12 = 0 then some (((-1 : Int32), S0)) else zChk (¬ (zr S0 a0 0) = 0) (zB2 (f_X9_addJudge S0 (zr S0 a0 0) v1 v2) (fun r19 S20 => some ((r19, S20)))))))
set_option maxHeartbeats 4000000 in
set_option maxRecDepth 100000 in
theorem c_X11_judge (l : Launch) (D : va_G) (cy : Nat → ClassId) (B : Nat) {S0 : zM} {a0 : Nat} {v1 : Int32} {v2 : Int32} {r : Int32} {S' : zM} (ha0 : zA S0 a0 11) (h : f_X11_judge S0 a0 v1 v2 = some (r, S')) : Met l yX11_judge (zws yX11_judge cX11_judge 3 ((some .int))) { frames := 3, cells := 1, slots := 5, locals := 65 } (zPc D cy B S0 [.ref (B + a0), .int v1, .int v2]) (zQi D cy B S0 r S') 1 5 (fun q => B < q) := by
  refine Met.ofW (cc := cX11_judge) (maxL := 3) (ret := ((some .int))) (by decide) rfl ?_
  intro p e s m args below meth c s₁ Bd hml hv
  obtain ⟨rfl, hC, hM⟩ := hv
  obtain ⟨hx, hb, hr, hg, hown, hlk⟩ := z_open Bd
  have hK := hC.1
  have hS : va_S (fun q => B < q) s.heap s.heap [] := va_S.rf
  have hX0 : zX S0 S0 := zX.rf
  refine z_entry (vs := [.ref (B + a0), .int v1, .int v2]) (Nat.le_of_ble_eq_true rfl) (fun ls hl => ?_)
  have hl : lv_has ls 3 [(0, .ref (B + a0)), (1, .int v1), (2, .int v2)] := hl
  unfold f_X11_judge at h
  refine lv_iload_n hx hb dX11_judge_0 rfl (lv_at hl 1 rfl) ?_
  refine lv_bipush (v := (8 : Int32)) hx hb dX11_judge_1 (by decide +kernel) ?_
  obtain ⟨r2, hr1, h⟩ := zlg h
  have hr1 := hr1.symm
  refine z_runi (va_runS (As := [.int v1, .int (8 : Int32)]) (rest := []) ⟨hx, hb, hml, hown, hg⟩ (c_X11_within l D cy B hr1) (z_cwS hg zw_290 zw_291 zw_2 zw_292 zh_X11_within.2 ⟨(Nat.le_of_ble_eq_true rfl), (Nat.le_of_ble_eq_true rfl)⟩) (zPS hC hM) rfl rfl hl.1 rfl (lv_room (Nat.le_of_ble_eq_true rfl)) dX11_judge_3 ⟨(Nat.le_of_ble_eq_true rfl), (Nat.le_of_ble_eq_true rfl)⟩) hS (fun H locs hM hX3 hS => ?_)
  refine lv_if_eq (tgt := 31) hx hb dX11_judge_6 (by decide) (fun hc5 => ?_) (fun hc5 => ?_)
  · have h := zt h hc5
    refine lv_iconst (v := (-1 : Int32)) hx hb dX11_judge_31 (by decide +kernel) ?_
    refine W.widen (k := 1) (n := 5) (by omega) (by omega) ?_
    exact z_iret hx hb hr hlk hM hX0 hS (zsp h) dX11_judge_32
  · have h := zf h hc5
    refine lv_iload_n hx hb dX11_judge_9 rfl (lv_at hl 2 rfl) ?_
    refine lv_sipush (v := (600 : Int32)) hx hb dX11_judge_10 (by decide +kernel) ?_
    obtain ⟨r7, hr6, h⟩ := zlg h
    have hr6 := hr6.symm
    refine z_runi (va_runS (As := [.int v2, .int (600 : Int32)]) (rest := []) ⟨hx, hb, hml, hown, hg⟩ (c_X11_within l D cy B hr6) (z_cwS hg zw_290 zw_291 zw_2 zw_292 zh_X11_within.2 ⟨(Nat.le_of_ble_eq_true rfl), (Nat.le_of_ble_eq_true rfl)⟩) (zPS hC hM) rfl rfl hl.1 rfl (lv_room (Nat.le_of_ble_eq_true rfl)) dX11_judge_13 ⟨(Nat.le_of_ble_eq_true rfl), (Nat.le_of_ble_eq_true rfl)⟩) hS (fun H locs hM hX8 hS => ?_)
    refine lv_if_eq (tgt := 31) hx hb dX11_judge_16 (by decide) (fun hc10 => ?_) (fun hc10 => ?_)
    · have h := zt h hc10
      refine lv_iconst (v := (-1 : Int32)) hx hb dX11_judge_31 (by decide +kernel) ?_
      refine W.widen (k := 1) (n := 5) (by omega) (by omega) ?_
      exact z_iret hx hb hr hlk hM hX0 hS (zsp h) dX11_judge_32
    · have h := zf h hc10
      refine lv_iload_n hx hb dX11_judge_19 rfl (lv_at hl 2 rfl) ?_
      refine lv_bipush (v := (10 : Int32)) hx hb dX11_judge_20 (by decide +kernel) ?_
      refine lv_irem hx hb dX11_judge_22 (by decide +kernel) ?_
      refine lv_bipush (v := (6 : Int32)) hx hb dX11_judge_23 (by decide +kernel) ?_
      obtain ⟨r12, hr11, h⟩ := zlg h
      have hr11 := hr11.symm
      refine z_runi (va_runS (As := [.int (v2 - v2 / (10 : Int32) * (10 : Int32)), .int (6 : Int32)]) (rest := []) ⟨hx, hb, hml, hown, hg⟩ (c_X11_within l D cy B hr11) (z_cwS hg zw_290 zw_291 zw_2 zw_292 zh_X11_within.2 ⟨(Nat.le_of_ble_eq_true rfl), (Nat.le_of_ble_eq_true rfl)⟩) (zPS hC hM) rfl rfl hl.1 rfl (lv_room (Nat.le_of_ble_eq_true rfl)) dX11_judge_25 ⟨(Nat.le_of_ble_eq_true rfl), (Nat.le_of_ble_eq_true rfl)⟩) hS (fun H locs hM hX13 hS => ?_)
      refine lv_if_ne (tgt := 33) hx hb dX11_judge_28 (by decide) (fun hc15 => ?_) (fun hc15 => ?_)
      · have h := zf h hc15
        refine lv_aload_n hx hb dX11_judge_33 rfl (lv_at hl 0 rfl) ?_
        obtain ⟨hq17, h⟩ := zk h
        refine z_getN hx hb hg zin_11 hown hK hM ha0 0 rfl (by decide) (hg _ zw_267) (fun _ h9 => h9) hq17 dX11_judge_34 (fun h16 => ?_)
        refine lv_iload_n hx hb dX11_judge_37 rfl (lv_at hl 1 rfl) ?_
        refine lv_iload_n hx hb dX11_judge_38 rfl (lv_at hl 2 rfl) ?_
        obtain ⟨r19, S20, hr18, h⟩ := zb2 h
        refine z_runi (va_runV (As := [.int v1, .int v2]) (rest := []) ⟨hx, hb, hml, hown, hg⟩ (c_X9_addJudge l D cy B h16 hr18) (z_cwV hg zw_302 zw_303 zw_304 zw_3 zw_305 zh_X9_addJudge ⟨(Nat.le_of_ble_eq_true rfl), (Nat.le_of_ble_eq_true rfl)⟩) (zPV hC hM h16 (by decide) rfl) rfl rfl hl.1 rfl (lv_room (Nat.le_of_ble_eq_true rfl)) dX11_judge_39 ⟨(Nat.le_of_ble_eq_true rfl), (Nat.le_of_ble_eq_true rfl)⟩) hS (fun H locs hM hX21 hS => ?_)
        refine W.widen (k := 1) (n := 5) (Nat.le_refl _) (Nat.le_refl _) ?_
        have hX23 := hX0.tr hX21
        refine W.widen (k := 1) (n := 5) (by omega) (by omega) ?_
        exact z_iret hx hb hr hlk hM hX23 hS (zsp h) dX11_judge_42
      · have h := zt h hc15
        refine lv_iconst (v := (-1 : Int32)) hx hb dX11_judge_31 (by decide +kernel) ?_
        refine W.widen (k := 1) (n := 5) (by omega) (by omega) ?_
        exact z_iret hx hb hr hlk hM hX0 hS (zsp h) dX11_judge_32
def f_X11_year (S0 : zM) (a0 : Nat) (v1 : Int32) (v2 : Int32) : Option (Int32 × zM) :=
  zLet (f_X11_within v1 (6 : Int32)) (fun r2 => if r2 = 0 then some (((-1 : Int32), S0)) else zLet (f_X11_within v2 (41 : Int32)) (fun r7 => if r7 = 0 then some (((-1 : Int32), S0)) else zChk (¬ (zr S0 a0 0) = 0) (zChk (¬ (zr S0 (zr S0 a0 0) 2) = 0) (zChk (¬ (v1 < 0 ∨ zln S0 (zr S0 (zr S0 a0 0) 2) ≤ (v1).toNatClampNeg)) (zChk (¬ (v1 < 0 ∨ zln S0 (zr S0 (zr S0 a0 0) 2) ≤ (v1).toNatClampNeg)) (zLet (zpI S0 (zr S0 (zr S0 a0 0) 2) (Int32.toNatClampNeg v1) v2) (fun S19 => some (((zi S0 (zr S0 (zr S0 a0 0) 2) (Int32.toNatClampNeg v1)), S19)))))))))
set_option maxHeartbeats 4000000 in
set_option maxRecDepth 100000 in
theorem c_X11_year (l : Launch) (D : va_G) (cy : Nat → ClassId) (B : Nat) {S0 : zM} {a0 : Nat} {v1 : Int32} {v2 : Int32} {r : Int32} {S' : zM} (ha0 : zA S0 a0 11) (h : f_X11_year S0 a0 v1 v2 = some (r, S')) : Met l yX11_year (zws yX11_year cX11_year 4 ((some .int))) { frames := 1, cells := 0, slots := 0, locals := 21 } (zPc D cy B S0 [.ref (B + a0), .int v1, .int v2]) (zQi D cy B S0 r S') 0 0 (fun q => B < q) := by
  refine Met.ofW (cc := cX11_year) (maxL := 4) (ret := ((some .int))) (by decide) rfl ?_
  intro p e s m args below meth c s₁ Bd hml hv
  obtain ⟨rfl, hC, hM⟩ := hv
  obtain ⟨hx, hb, hr, hg, hown, hlk⟩ := z_open Bd
  have hK := hC.1
  have hS : va_S (fun q => B < q) s.heap s.heap [] := va_S.rf
  have hX0 : zX S0 S0 := zX.rf
  refine z_entry (vs := [.ref (B + a0), .int v1, .int v2]) (Nat.le_of_ble_eq_true rfl) (fun ls hl => ?_)
  have hl : lv_has ls 4 [(0, .ref (B + a0)), (1, .int v1), (2, .int v2)] := hl
  unfold f_X11_year at h
  refine lv_iload_n hx hb dX11_year_0 rfl (lv_at hl 1 rfl) ?_
  refine lv_bipush (v := (6 : Int32)) hx hb dX11_year_1 (by decide +kernel) ?_
  obtain ⟨r2, hr1, h⟩ := zlg h
  have hr1 := hr1.symm
  refine z_runi (va_runS (As := [.int v1, .int (6 : Int32)]) (rest := []) ⟨hx, hb, hml, hown, hg⟩ (c_X11_within l D cy B hr1) (z_cwS hg zw_290 zw_291 zw_2 zw_292 zh_X11_within.2 ⟨(Nat.le_of_ble_eq_true rfl), (Nat.le_of_ble_eq_true rfl)⟩) (zPS hC hM) rfl rfl hl.1 rfl (lv_room (Nat.le_of_ble_eq_true rfl)) dX11_year_3 ⟨(Nat.le_of_ble_eq_true rfl), (Nat.le_of_ble_eq_true rfl)⟩) hS (fun H locs hM hX3 hS => ?_)
  refine lv_if_eq (tgt := 18) hx hb dX11_year_6 (by decide) (fun hc5 => ?_) (fun hc5 => ?_)
  · have h := zt h hc5
    refine lv_iconst (v := (-1 : Int32)) hx hb dX11_year_18 (by decide +kernel) ?_
    exact z_iret hx hb hr hlk hM hX0 hS (zsp h) dX11_year_19
  · have h := zf h hc5
    refine lv_iload_n hx hb dX11_year_9 rfl (lv_at hl 2 rfl) ?_
    refine lv_bipush (v := (41 : Int32)) hx hb dX11_year_10 (by decide +kernel) ?_
    obtain ⟨r7, hr6, h⟩ := zlg h
    have hr6 := hr6.symm
    refine z_runi (va_runS (As := [.int v2, .int (41 : Int32)]) (rest := []) ⟨hx, hb, hml, hown, hg⟩ (c_X11_within l D cy B hr6) (z_cwS hg zw_290 zw_291 zw_2 zw_292 zh_X11_within.2 ⟨(Nat.le_of_ble_eq_true rfl), (Nat.le_of_ble_eq_true rfl)⟩) (zPS hC hM) rfl rfl hl.1 rfl (lv_room (Nat.le_of_ble_eq_true rfl)) dX11_year_12 ⟨(Nat.le_of_ble_eq_true rfl), (Nat.le_of_ble_eq_true rfl)⟩) hS (fun H locs hM hX8 hS => ?_)
    refine lv_if_ne (tgt := 20) hx hb dX11_year_15 (by decide) (fun hc10 => ?_) (fun hc10 => ?_)
    · have h := zf h hc10
      refine lv_aload_n hx hb dX11_year_20 rfl (lv_at hl 0 rfl) ?_
      obtain ⟨hq12, h⟩ := zk h
      refine z_getN hx hb hg zin_11 hown hK hM ha0 0 rfl (by decide) (hg _ zw_267) (fun _ h9 => h9) hq12 dX11_year_21 (fun h11 => ?_)
      obtain ⟨hq14, h⟩ := zk h
      refine z_getN hx hb hg zin_9 hown hK hM h11 2 rfl (by decide) (hg _ zw_127) (fun _ h9 => h9) hq14 dX11_year_24 (fun h13 => ?_)
      refine lv_iload_n hx hb dX11_year_27 rfl (lv_at hl 1 rfl) ?_
      obtain ⟨hq15, h⟩ := zk h
      refine z_iald hx hb hK hM h13 hq15 dX11_year_28 ?_
      refine lv_istore_n (i := 3) (lv' := [(3, .int (zi S0 (zr S0 (zr S0 a0 0) 2) (Int32.toNatClampNeg v1))), (0, .ref (B + a0)), (1, .int v1), (2, .int v2)]) hx hb dX11_year_29 rfl hl (by decide) rfl (fun ls hl => ?_)
      refine lv_aload_n hx hb dX11_year_30 rfl (lv_at hl 1 rfl) ?_
      refine z_getN hx hb hg zin_11 hown hK hM ha0 0 rfl (by decide) (hg _ zw_267) (fun _ h9 => h9) h11.ne dX11_year_31 (fun h16 => ?_)
      refine z_getN hx hb hg zin_9 hown hK hM h16 2 rfl (by decide) (hg _ zw_127) (fun _ h9 => h9) h13.ne dX11_year_34 (fun h17 => ?_)
      refine lv_iload_n hx hb dX11_year_37 rfl (lv_at hl 2 rfl) ?_
      refine lv_iload_n hx hb dX11_year_38 rfl (lv_at hl 3 rfl) ?_
      obtain ⟨hq18, h⟩ := zk h
      refine z_iast hx hb hK hM hS h17 hq18 dX11_year_39 (fun H locs hM hS => ?_)
      obtain ⟨S19, e20, h⟩ := zlg h
      rw [← e20] at hM
      have hX21 : zX S0 S19 := by rw [e20]; exact zX_pI
      have hX22 := hX0.tr hX21
      refine lv_iload_n hx hb dX11_year_40 rfl (lv_at hl 0 rfl) ?_
      exact z_iret hx hb hr hlk hM hX22 hS (zsp h) dX11_year_41
    · have h := zt h hc10
      refine lv_iconst (v := (-1 : Int32)) hx hb dX11_year_18 (by decide +kernel) ?_
      exact z_iret hx hb hr hlk hM hX0 hS (zsp h) dX11_year_19
def f_X11_chair (n : Nat) (S0 : zM) (a0 : Nat) (v1 : Int32) (v2 : Int32) (v3 : Int32) : Option (Int32 × zM) :=
  zLet (fun (x2 : Int32) => zLet (f_X11_within v1 (6 : Int32)) (fun r6 => if r6 = 0 then some (((-1 : Int32), S0)) else zLet (f_X11_within v2 (7 : Int32)) (fun r11 => if r11 = 0 then some (((-1 : Int32), S0)) else if x2 = 0 then some (((-1 : Int32), S0)) else zChk (¬ (zr S0 a0 0) = 0) (zB1 (f_X9_isOnOtherChair n S0 (zr S0 a0 0) v1 v2 v3) (fun r19 => if r19 = 0 then zB1 (f_X9_seatOf S0 (zr S0 a0 0) v1 v2) (fun r25 => zChk (¬ (zr S0 (zr S0 a0 0) 3) = 0) (zChk (¬ (((v1 * (7 : Int32)) + v2) < 0 ∨ zln S0 (zr S0 (zr S0 a0 0) 3) ≤ (((v1 * (7 : Int32)) + v2)).toNatClampNeg)) (zLet (zpI S0 (zr S0 (zr S0 a0 0) 3) (Int32.toNatClampNeg ((v1 * (7 : Int32)) + v2)) v3) (fun S32 => if r25 = (-1 : Int32) then some (((-4 : Int32), S32)) else some ((r25, S32)))))) else some (((-3 : Int32), S0))))))) (fun K4 => zLet (K4 (1 : Int32)) (fun K39 => if v3 = (-1 : Int32) then K39 else zChk (¬ (zr S0 a0 0) = 0) (zLet (f_X11_within v3 (zi S0 (zr S0 a0 0) 6)) (fun r44 => if r44 = 0 then K4 (0 : Int32) else K39))))
set_option maxHeartbeats 4000000 in
set_option maxRecDepth 100000 in
theorem c_X11_chair (l : Launch) (D : va_G) (cy : Nat → ClassId) (B : Nat) {n : Nat} {S0 : zM} {a0 : Nat} {v1 : Int32} {v2 : Int32} {v3 : Int32} {r : Int32} {S' : zM} (ha0 : zA S0 a0 11) (h : f_X11_chair n S0 a0 v1 v2 v3 = some (r, S')) : Met l yX11_chair (zws yX11_chair cX11_chair 6 ((some .int))) { frames := 3, cells := 0, slots := 0, locals := 67 } (zPc D cy B S0 [.ref (B + a0), .int v1, .int v2, .int v3]) (zQi D cy B S0 r S') 0 0 (fun q => B < q) := by
  refine Met.ofW (cc := cX11_chair) (maxL := 6) (ret := ((some .int))) (by decide) rfl ?_
  intro p e s m args below meth c s₁ Bd hml hv
  obtain ⟨rfl, hC, hM⟩ := hv
  obtain ⟨hx, hb, hr, hg, hown, hlk⟩ := z_open Bd
  have hK := hC.1
  have hS : va_S (fun q => B < q) s.heap s.heap [] := va_S.rf
  have hX0 : zX S0 S0 := zX.rf
  refine z_entry (vs := [.ref (B + a0), .int v1, .int v2, .int v3]) (Nat.le_of_ble_eq_true rfl) (fun ls hl => ?_)
  have hl : lv_has ls 6 [(0, .ref (B + a0)), (1, .int v1), (2, .int v2), (3, .int v3)] := hl
  unfold f_X11_chair at h
  refine lv_iload_n hx hb dX11_chair_0 rfl (lv_at hl 3 rfl) ?_
  refine lv_iconst (v := (-1 : Int32)) hx hb dX11_chair_1 (by decide +kernel) ?_
  obtain ⟨K4, eK4, h⟩ := zlg h
  have hK4 : ∀ (x2 : Int32) (H : Heap) (locs : List Loc), zMR D cy B S0 H → zX S0 S0 → va_S (fun q => B < q) s.heap H locs → zA S0 a0 11 → ∀ ls : Array Slot, lv_has ls 6 [(0, .ref (B + a0)), (1, .int v1), (2, .int v2), (3, .int v3)] → K4 x2 = some (r, S') → W p l e (headSpec (zws yX11_chair cX11_chair 6 ((some .int))) { frames := 3, cells := 0, slots := 0, locals := 67 }).room s m (([.ref (B + a0), .int v1, .int v2, .int v3] : List Value).toArray) below meth c H locs 0 0 (MQ below (zQi D cy B S0 r S') (([.ref (B + a0), .int v1, .int v2, .int v3] : List Value).toArray) s 0 0 (fun q => B < q)) (F0 m 24 ls [.int x2]) := by
    intro x2 H locs hM hX3 hS h1 ls hl h
    rw [eK4] at h
    refine lv_istore (i := 4) (lv' := [(4, .int x2), (0, .ref (B + a0)), (1, .int v1), (2, .int v2), (3, .int v3)]) hx hb dX11_chair_24 hl (by decide) rfl (fun ls hl => ?_)
    refine lv_iload_n hx hb dX11_chair_26 rfl (lv_at hl 2 rfl) ?_
    refine lv_bipush (v := (6 : Int32)) hx hb dX11_chair_27 (by decide +kernel) ?_
    obtain ⟨r6, hr5, h⟩ := zlg h
    have hr5 := hr5.symm
    refine z_runi (va_runS (As := [.int v1, .int (6 : Int32)]) (rest := []) ⟨hx, hb, hml, hown, hg⟩ (c_X11_within l D cy B hr5) (z_cwS hg zw_290 zw_291 zw_2 zw_292 zh_X11_within.2 ⟨(Nat.le_of_ble_eq_true rfl), (Nat.le_of_ble_eq_true rfl)⟩) (zPS hC hM) rfl rfl hl.1 rfl (lv_room (Nat.le_of_ble_eq_true rfl)) dX11_chair_29 ⟨(Nat.le_of_ble_eq_true rfl), (Nat.le_of_ble_eq_true rfl)⟩) hS (fun H locs hM hX7 hS => ?_)
    refine lv_if_eq (tgt := 49) hx hb dX11_chair_32 (by decide) (fun hc9 => ?_) (fun hc9 => ?_)
    · have h := zt h hc9
      refine lv_iconst (v := (-1 : Int32)) hx hb dX11_chair_49 (by decide +kernel) ?_
      exact z_iret hx hb hr hlk hM hX3 hS (zsp h) dX11_chair_50
    · have h := zf h hc9
      refine lv_iload_n hx hb dX11_chair_35 rfl (lv_at hl 3 rfl) ?_
      refine lv_bipush (v := (7 : Int32)) hx hb dX11_chair_36 (by decide +kernel) ?_
      obtain ⟨r11, hr10, h⟩ := zlg h
      have hr10 := hr10.symm
      refine z_runi (va_runS (As := [.int v2, .int (7 : Int32)]) (rest := []) ⟨hx, hb, hml, hown, hg⟩ (c_X11_within l D cy B hr10) (z_cwS hg zw_290 zw_291 zw_2 zw_292 zh_X11_within.2 ⟨(Nat.le_of_ble_eq_true rfl), (Nat.le_of_ble_eq_true rfl)⟩) (zPS hC hM) rfl rfl hl.1 rfl (lv_room (Nat.le_of_ble_eq_true rfl)) dX11_chair_38 ⟨(Nat.le_of_ble_eq_true rfl), (Nat.le_of_ble_eq_true rfl)⟩) hS (fun H locs hM hX12 hS => ?_)
      refine lv_if_eq (tgt := 49) hx hb dX11_chair_41 (by decide) (fun hc14 => ?_) (fun hc14 => ?_)
      · have h := zt h hc14
        refine lv_iconst (v := (-1 : Int32)) hx hb dX11_chair_49 (by decide +kernel) ?_
        exact z_iret hx hb hr hlk hM hX3 hS (zsp h) dX11_chair_50
      · have h := zf h hc14
        refine lv_iload hx hb dX11_chair_44 (lv_at hl 0 rfl) ?_
        refine lv_if_ne (tgt := 51) hx hb dX11_chair_46 (by decide) (fun hc15 => ?_) (fun hc15 => ?_)
        · have h := zf h hc15
          refine lv_aload_n hx hb dX11_chair_51 rfl (lv_at hl 1 rfl) ?_
          obtain ⟨hq17, h⟩ := zk h
          refine z_getN hx hb hg zin_11 hown hK hM h1 0 rfl (by decide) (hg _ zw_267) (fun _ h9 => h9) hq17 dX11_chair_52 (fun h16 => ?_)
          refine lv_iload_n hx hb dX11_chair_55 rfl (lv_at hl 2 rfl) ?_
          refine lv_iload_n hx hb dX11_chair_56 rfl (lv_at hl 3 rfl) ?_
          refine lv_iload_n hx hb dX11_chair_57 rfl (lv_at hl 4 rfl) ?_
          obtain ⟨r19, hr18, h⟩ := zb1 h
          refine z_runi (va_runV (As := [.int v1, .int v2, .int v3]) (rest := []) ⟨hx, hb, hml, hown, hg⟩ (c_X9_isOnOtherChair l D cy B h16 hr18) (z_cwV hg zw_332 zw_333 zw_334 zw_3 zw_335 zh_X9_isOnOtherChair ⟨(Nat.le_of_ble_eq_true rfl), (Nat.le_of_ble_eq_true rfl)⟩) (zPV hC hM h16 (by decide) rfl) rfl rfl hl.1 rfl (lv_room (Nat.le_of_ble_eq_true rfl)) dX11_chair_58 ⟨(Nat.le_of_ble_eq_true rfl), (Nat.le_of_ble_eq_true rfl)⟩) hS (fun H locs hM hX20 hS => ?_)
          refine lv_if_eq (tgt := 67) hx hb dX11_chair_61 (by decide) (fun hc22 => ?_) (fun hc22 => ?_)
          · have h := zt h hc22
            refine lv_aload_n hx hb dX11_chair_67 rfl (lv_at hl 1 rfl) ?_
            refine z_getN hx hb hg zin_11 hown hK hM h1 0 rfl (by decide) (hg _ zw_267) (fun _ h9 => h9) h16.ne dX11_chair_68 (fun h23 => ?_)
            refine lv_iload_n hx hb dX11_chair_71 rfl (lv_at hl 2 rfl) ?_
            refine lv_iload_n hx hb dX11_chair_72 rfl (lv_at hl 3 rfl) ?_
            obtain ⟨r25, hr24, h⟩ := zb1 h
            refine z_runi (va_runV (As := [.int v1, .int v2]) (rest := []) ⟨hx, hb, hml, hown, hg⟩ (c_X9_seatOf l D cy B h23 hr24) (z_cwV hg zw_340 zw_337 zw_338 zw_3 zw_339 zh_X9_seatOf ⟨(Nat.le_of_ble_eq_true rfl), (Nat.le_of_ble_eq_true rfl)⟩) (zPV hC hM h23 (by decide) rfl) rfl rfl hl.1 rfl (lv_room (Nat.le_of_ble_eq_true rfl)) dX11_chair_73 ⟨(Nat.le_of_ble_eq_true rfl), (Nat.le_of_ble_eq_true rfl)⟩) hS (fun H locs hM hX26 hS => ?_)
            refine lv_istore (i := 5) (lv' := [(5, .int r25), (4, .int x2), (0, .ref (B + a0)), (1, .int v1), (2, .int v2), (3, .int v3)]) hx hb dX11_chair_76 hl (by decide) rfl (fun ls hl => ?_)
            refine lv_aload_n hx hb dX11_chair_78 rfl (lv_at hl 2 rfl) ?_
            refine z_getN hx hb hg zin_11 hown hK hM h1 0 rfl (by decide) (hg _ zw_267) (fun _ h9 => h9) h23.ne dX11_chair_79 (fun h28 => ?_)
            obtain ⟨hq30, h⟩ := zk h
            refine z_getN hx hb hg zin_9 hown hK hM h28 3 rfl (by decide) (hg _ zw_129) (fun _ h9 => h9) hq30 dX11_chair_82 (fun h29 => ?_)
            refine lv_iload_n hx hb dX11_chair_85 rfl (lv_at hl 3 rfl) ?_
            refine lv_bipush (v := (7 : Int32)) hx hb dX11_chair_86 (by decide +kernel) ?_
            refine lv_imul hx hb dX11_chair_88 ?_
            refine lv_iload_n hx hb dX11_chair_89 rfl (lv_at hl 4 rfl) ?_
            refine lv_iadd hx hb dX11_chair_90 ?_
            refine lv_iload_n hx hb dX11_chair_91 rfl (lv_at hl 5 rfl) ?_
            obtain ⟨hq31, h⟩ := zk h
            refine z_iast hx hb hK hM hS h29 hq31 dX11_chair_92 (fun H locs hM hS => ?_)
            obtain ⟨S32, e33, h⟩ := zlg h
            rw [← e33] at hM
            have hX34 : zX S0 S32 := by rw [e33]; exact zX_pI
            have hX35 := hX3.tr hX34
            refine lv_iload hx hb dX11_chair_93 (lv_at hl 0 rfl) ?_
            refine lv_iconst (v := (-1 : Int32)) hx hb dX11_chair_95 (by decide +kernel) ?_
            refine lv_icmp_ne (tgt := 104) hx hb dX11_chair_96 (by decide) (fun hc36 => ?_) (fun hc36 => ?_)
            · have h := zf h hc36
              refine lv_iload hx hb dX11_chair_104 (lv_at hl 0 rfl) ?_
              exact z_iret hx hb hr hlk hM hX35 hS (zsp h) dX11_chair_106
            · have h := zt h hc36
              refine lv_bipush (v := (-4 : Int32)) hx hb dX11_chair_99 (by decide +kernel) ?_
              refine lv_goto (tgt := 106) hx hb dX11_chair_101 (by decide) ?_
              exact z_iret hx hb hr hlk hM hX35 hS (zsp h) dX11_chair_106
          · have h := zf h hc22
            refine lv_bipush (v := (-3 : Int32)) hx hb dX11_chair_64 (by decide +kernel) ?_
            exact z_iret hx hb hr hlk hM hX3 hS (zsp h) dX11_chair_66
        · have h := zt h hc15
          refine lv_iconst (v := (-1 : Int32)) hx hb dX11_chair_49 (by decide +kernel) ?_
          exact z_iret hx hb hr hlk hM hX3 hS (zsp h) dX11_chair_50
  obtain ⟨K39, eK39, h⟩ := zlg h
  have hK39 : ∀ (H : Heap) (locs : List Loc), zMR D cy B S0 H → zX S0 S0 → va_S (fun q => B < q) s.heap H locs → zA S0 a0 11 → ∀ ls : Array Slot, lv_has ls 6 [(0, .ref (B + a0)), (1, .int v1), (2, .int v2), (3, .int v3)] → K39 = some (r, S') → W p l e (headSpec (zws yX11_chair cX11_chair 6 ((some .int))) { frames := 3, cells := 0, slots := 0, locals := 67 }).room s m (([.ref (B + a0), .int v1, .int v2, .int v3] : List Value).toArray) below meth c H locs 0 0 (MQ below (zQi D cy B S0 r S') (([.ref (B + a0), .int v1, .int v2, .int v3] : List Value).toArray) s 0 0 (fun q => B < q)) (F0 m 19 ls []) := by
    intro H locs hM hX38 hS h37 ls hl h
    rw [eK39] at h
    refine lv_iconst (v := (1 : Int32)) hx hb dX11_chair_19 (by decide +kernel) ?_
    refine lv_goto (tgt := 24) hx hb dX11_chair_20 (by decide) ?_
    exact hK4 (1 : Int32) _ _ hM hX38 hS h37 _ (lv_sub hl [0, 1, 2, 3] rfl) h
  refine lv_icmp_eq (tgt := 19) hx hb dX11_chair_2 (by decide) (fun hc40 => ?_) (fun hc40 => ?_)
  · have h := zt h hc40
    exact hK39 _ _ hM hX0 hS ha0 _ (lv_sub hl [0, 1, 2, 3] rfl) h
  · have h := zf h hc40
    refine lv_iload_n hx hb dX11_chair_5 rfl (lv_at hl 3 rfl) ?_
    refine lv_aload_n hx hb dX11_chair_6 rfl (lv_at hl 0 rfl) ?_
    obtain ⟨hq42, h⟩ := zk h
    refine z_getN hx hb hg zin_11 hown hK hM ha0 0 rfl (by decide) (hg _ zw_267) (fun _ h9 => h9) hq42 dX11_chair_7 (fun h41 => ?_)
    refine z_getI hx hb hg zin_9 hown hK hM h41 6 rfl (by decide) (hg _ zw_136) (fun _ h9 => h9) dX11_chair_10 ?_
    obtain ⟨r44, hr43, h⟩ := zlg h
    have hr43 := hr43.symm
    refine z_runi (va_runS (As := [.int v3, .int (zi S0 (zr S0 a0 0) 6)]) (rest := []) ⟨hx, hb, hml, hown, hg⟩ (c_X11_within l D cy B hr43) (z_cwS hg zw_290 zw_291 zw_2 zw_292 zh_X11_within.2 ⟨(Nat.le_of_ble_eq_true rfl), (Nat.le_of_ble_eq_true rfl)⟩) (zPS hC hM) rfl rfl hl.1 rfl (lv_room (Nat.le_of_ble_eq_true rfl)) dX11_chair_13 ⟨(Nat.le_of_ble_eq_true rfl), (Nat.le_of_ble_eq_true rfl)⟩) hS (fun H locs hM hX45 hS => ?_)
    refine lv_if_eq (tgt := 23) hx hb dX11_chair_16 (by decide) (fun hc47 => ?_) (fun hc47 => ?_)
    · have h := zt h hc47
      refine lv_iconst (v := (0 : Int32)) hx hb dX11_chair_23 (by decide +kernel) ?_
      exact hK4 (0 : Int32) _ _ hM hX0 hS ha0 _ (lv_sub hl [0, 1, 2, 3] rfl) h
    · have h := zf h hc47
      exact hK39 _ _ hM hX0 hS ha0 _ (lv_sub hl [0, 1, 2, 3] rfl) h
def f_X11_dive (n : Nat) (S0 : zM) (a0 : Nat) (v1 : Int32) (v2 : Int32) (v3 : Int32) (v4 : Int32) : Option (Int32 × zM) :=
  zLet (f_X11_within v1 (6 : Int32)) (fun r2 => if r2 = 0 then some (((-1 : Int32), S0)) else zChk (¬ (zr S0 a0 0) = 0) (zLet (f_X11_within v2 (zi S0 (zr S0 a0 0) 5)) (fun r9 => if r9 = 0 then some (((-1 : Int32), S0)) else zLet (f_X11_within v3 (64 : Int32)) (fun r14 => if r14 = 0 then some (((-1 : Int32), S0)) else if v4 < (1000 : Int32) then some (((-1 : Int32), S0)) else if (4100 : Int32) ≤ v4 then some (((-1 : Int32), S0)) else if (v4 - v4 / (10 : Int32) * (10 : Int32)) = 0 then zB2 (f_X9_addDive n S0 (zr S0 a0 0) v1 v2 v3 v4) (fun r23 S24 => some ((r23, S24))) else some (((-1 : Int32), S0))))))
set_option maxHeartbeats 4000000 in
set_option maxRecDepth 100000 in
theorem c_X11_dive (l : Launch) (D : va_G) (cy : Nat → ClassId) (B : Nat) {n : Nat} {S0 : zM} {a0 : Nat} {v1 : Int32} {v2 : Int32} {v3 : Int32} {v4 : Int32} {r : Int32} {S' : zM} (ha0 : zA S0 a0 11) (h : f_X11_dive n S0 a0 v1 v2 v3 v4 = some (r, S')) : Met l yX11_dive (zws yX11_dive cX11_dive 5 ((some .int))) { frames := 4, cells := 0, slots := 0, locals := 93 } (zPc D cy B S0 [.ref (B + a0), .int v1, .int v2, .int v3, .int v4]) (zQi D cy B S0 r S') 0 0 (fun q => B < q) := by
  refine Met.ofW (cc := cX11_dive) (maxL := 5) (ret := ((some .int))) (by decide) rfl ?_
  intro p e s m args below meth c s₁ Bd hml hv
  obtain ⟨rfl, hC, hM⟩ := hv
  obtain ⟨hx, hb, hr, hg, hown, hlk⟩ := z_open Bd
  have hK := hC.1
  have hS : va_S (fun q => B < q) s.heap s.heap [] := va_S.rf
  have hX0 : zX S0 S0 := zX.rf
  refine z_entry (vs := [.ref (B + a0), .int v1, .int v2, .int v3, .int v4]) (Nat.le_of_ble_eq_true rfl) (fun ls hl => ?_)
  have hl : lv_has ls 5 [(0, .ref (B + a0)), (1, .int v1), (2, .int v2), (3, .int v3), (4, .int v4)] := hl
  unfold f_X11_dive at h
  refine lv_iload_n hx hb dX11_dive_0 rfl (lv_at hl 1 rfl) ?_
  refine lv_bipush (v := (6 : Int32)) hx hb dX11_dive_1 (by decide +kernel) ?_
  obtain ⟨r2, hr1, h⟩ := zlg h
  have hr1 := hr1.symm
  refine z_runi (va_runS (As := [.int v1, .int (6 : Int32)]) (rest := []) ⟨hx, hb, hml, hown, hg⟩ (c_X11_within l D cy B hr1) (z_cwS hg zw_290 zw_291 zw_2 zw_292 zh_X11_within.2 ⟨(Nat.le_of_ble_eq_true rfl), (Nat.le_of_ble_eq_true rfl)⟩) (zPS hC hM) rfl rfl hl.1 rfl (lv_room (Nat.le_of_ble_eq_true rfl)) dX11_dive_3 ⟨(Nat.le_of_ble_eq_true rfl), (Nat.le_of_ble_eq_true rfl)⟩) hS (fun H locs hM hX3 hS => ?_)
  refine lv_if_eq (tgt := 32) hx hb dX11_dive_6 (by decide) (fun hc5 => ?_) (fun hc5 => ?_)
  · have h := zt h hc5
    refine lv_iconst (v := (-1 : Int32)) hx hb dX11_dive_32 (by decide +kernel) ?_
    exact z_iret hx hb hr hlk hM hX0 hS (zsp h) dX11_dive_33
  · have h := zf h hc5
    refine lv_iload_n hx hb dX11_dive_9 rfl (lv_at hl 2 rfl) ?_
    refine lv_aload_n hx hb dX11_dive_10 rfl (lv_at hl 0 rfl) ?_
    obtain ⟨hq7, h⟩ := zk h
    refine z_getN hx hb hg zin_11 hown hK hM ha0 0 rfl (by decide) (hg _ zw_267) (fun _ h9 => h9) hq7 dX11_dive_11 (fun h6 => ?_)
    refine z_getI hx hb hg zin_9 hown hK hM h6 5 rfl (by decide) (hg _ zw_133) (fun _ h9 => h9) dX11_dive_14 ?_
    obtain ⟨r9, hr8, h⟩ := zlg h
    have hr8 := hr8.symm
    refine z_runi (va_runS (As := [.int v2, .int (zi S0 (zr S0 a0 0) 5)]) (rest := []) ⟨hx, hb, hml, hown, hg⟩ (c_X11_within l D cy B hr8) (z_cwS hg zw_290 zw_291 zw_2 zw_292 zh_X11_within.2 ⟨(Nat.le_of_ble_eq_true rfl), (Nat.le_of_ble_eq_true rfl)⟩) (zPS hC hM) rfl rfl hl.1 rfl (lv_room (Nat.le_of_ble_eq_true rfl)) dX11_dive_17 ⟨(Nat.le_of_ble_eq_true rfl), (Nat.le_of_ble_eq_true rfl)⟩) hS (fun H locs hM hX10 hS => ?_)
    refine lv_if_eq (tgt := 32) hx hb dX11_dive_20 (by decide) (fun hc12 => ?_) (fun hc12 => ?_)
    · have h := zt h hc12
      refine lv_iconst (v := (-1 : Int32)) hx hb dX11_dive_32 (by decide +kernel) ?_
      exact z_iret hx hb hr hlk hM hX0 hS (zsp h) dX11_dive_33
    · have h := zf h hc12
      refine lv_iload_n hx hb dX11_dive_23 rfl (lv_at hl 3 rfl) ?_
      refine lv_bipush (v := (64 : Int32)) hx hb dX11_dive_24 (by decide +kernel) ?_
      obtain ⟨r14, hr13, h⟩ := zlg h
      have hr13 := hr13.symm
      refine z_runi (va_runS (As := [.int v3, .int (64 : Int32)]) (rest := []) ⟨hx, hb, hml, hown, hg⟩ (c_X11_within l D cy B hr13) (z_cwS hg zw_290 zw_291 zw_2 zw_292 zh_X11_within.2 ⟨(Nat.le_of_ble_eq_true rfl), (Nat.le_of_ble_eq_true rfl)⟩) (zPS hC hM) rfl rfl hl.1 rfl (lv_room (Nat.le_of_ble_eq_true rfl)) dX11_dive_26 ⟨(Nat.le_of_ble_eq_true rfl), (Nat.le_of_ble_eq_true rfl)⟩) hS (fun H locs hM hX15 hS => ?_)
      refine lv_if_ne (tgt := 34) hx hb dX11_dive_29 (by decide) (fun hc17 => ?_) (fun hc17 => ?_)
      · have h := zf h hc17
        refine lv_iload hx hb dX11_dive_34 (lv_at hl 4 rfl) ?_
        refine lv_sipush (v := (1000 : Int32)) hx hb dX11_dive_36 (by decide +kernel) ?_
        refine lv_icmp_lt (tgt := 58) hx hb dX11_dive_39 (by decide) (fun hc18 => ?_) (fun hc18 => ?_)
        · have h := zt h hc18
          refine lv_iconst (v := (-1 : Int32)) hx hb dX11_dive_58 (by decide +kernel) ?_
          exact z_iret hx hb hr hlk hM hX0 hS (zsp h) dX11_dive_59
        · have h := zf h hc18
          refine lv_iload hx hb dX11_dive_42 (lv_at hl 4 rfl) ?_
          refine lv_sipush (v := (4100 : Int32)) hx hb dX11_dive_44 (by decide +kernel) ?_
          refine lv_icmp_ge (tgt := 58) hx hb dX11_dive_47 (by decide) (fun hc19 => ?_) (fun hc19 => ?_)
          · have h := zt h hc19
            refine lv_iconst (v := (-1 : Int32)) hx hb dX11_dive_58 (by decide +kernel) ?_
            exact z_iret hx hb hr hlk hM hX0 hS (zsp h) dX11_dive_59
          · have h := zf h hc19
            refine lv_iload hx hb dX11_dive_50 (lv_at hl 4 rfl) ?_
            refine lv_bipush (v := (10 : Int32)) hx hb dX11_dive_52 (by decide +kernel) ?_
            refine lv_irem hx hb dX11_dive_54 (by decide +kernel) ?_
            refine lv_if_eq (tgt := 60) hx hb dX11_dive_55 (by decide) (fun hc20 => ?_) (fun hc20 => ?_)
            · have h := zt h hc20
              refine lv_aload_n hx hb dX11_dive_60 rfl (lv_at hl 0 rfl) ?_
              refine z_getN hx hb hg zin_11 hown hK hM ha0 0 rfl (by decide) (hg _ zw_267) (fun _ h9 => h9) h6.ne dX11_dive_61 (fun h21 => ?_)
              refine lv_iload_n hx hb dX11_dive_64 rfl (lv_at hl 1 rfl) ?_
              refine lv_iload_n hx hb dX11_dive_65 rfl (lv_at hl 2 rfl) ?_
              refine lv_iload_n hx hb dX11_dive_66 rfl (lv_at hl 3 rfl) ?_
              refine lv_iload hx hb dX11_dive_67 (lv_at hl 4 rfl) ?_
              obtain ⟨r23, S24, hr22, h⟩ := zb2 h
              refine z_runi (va_runV (As := [.int v1, .int v2, .int v3, .int v4]) (rest := []) ⟨hx, hb, hml, hown, hg⟩ (c_X9_addDive l D cy B h21 hr22) (z_cwV hg zw_345 zw_346 zw_347 zw_3 zw_348 zh_X9_addDive ⟨(Nat.le_of_ble_eq_true rfl), (Nat.le_of_ble_eq_true rfl)⟩) (zPV hC hM h21 (by decide) rfl) rfl rfl hl.1 rfl (lv_room (Nat.le_of_ble_eq_true rfl)) dX11_dive_69 ⟨(Nat.le_of_ble_eq_true rfl), (Nat.le_of_ble_eq_true rfl)⟩) hS (fun H locs hM hX25 hS => ?_)
              have hX27 := hX0.tr hX25
              exact z_iret hx hb hr hlk hM hX27 hS (zsp h) dX11_dive_72
            · have h := zf h hc20
              refine lv_iconst (v := (-1 : Int32)) hx hb dX11_dive_58 (by decide +kernel) ?_
              exact z_iret hx hb hr hlk hM hX0 hS (zsp h) dX11_dive_59
      · have h := zt h hc17
        refine lv_iconst (v := (-1 : Int32)) hx hb dX11_dive_32 (by decide +kernel) ?_
        exact z_iret hx hb hr hlk hM hX0 hS (zsp h) dX11_dive_33
def f_X11_of (n : Nat) (S0 : zM) (a0 : Nat) (v1 : Int32) (v2 : Int32) : Option (Int32) :=
  zChk (¬ (zr S0 a0 0) = 0) (zB1 (f_X9_diveAt S0 (zr S0 a0 0) v1) (fun r4 => if r4 = 0 then some (-1 : Int32) else if v2 = (0 : Int32) then some (zi S0 r4 2) else if v2 = (1 : Int32) then some (zi S0 r4 3) else if v2 = (2 : Int32) then some (zi S0 r4 4) else if v2 = (3 : Int32) then some (zi S0 r4 5) else if v2 = (4 : Int32) then some (zi S0 r4 6) else if v2 = (5 : Int32) then zB1 (f_X9_worthOf n S0 (zr S0 a0 0) r4) (fun r17 => some r17) else if v2 = (6 : Int32) then zB1 (f_X1_marksThere n S0 r4) (fun r22 => some r22) else some (-1 : Int32)))
set_option maxHeartbeats 4000000 in
set_option maxRecDepth 100000 in
theorem c_X11_of (l : Launch) (D : va_G) (cy : Nat → ClassId) (B : Nat) {n : Nat} {S0 : zM} {a0 : Nat} {v1 : Int32} {v2 : Int32} {r : Int32} (ha0 : zA S0 a0 11) (h : f_X11_of n S0 a0 v1 v2 = some r) : Met l yX11_of (zws yX11_of cX11_of 4 ((some .int))) { frames := 2, cells := 0, slots := 0, locals := 44 } (zPc D cy B S0 [.ref (B + a0), .int v1, .int v2]) (zQi D cy B S0 r S0) 0 0 (fun q => B < q) := by
  refine Met.ofW (cc := cX11_of) (maxL := 4) (ret := ((some .int))) (by decide) rfl ?_
  intro p e s m args below meth c s₁ Bd hml hv
  obtain ⟨rfl, hC, hM⟩ := hv
  obtain ⟨hx, hb, hr, hg, hown, hlk⟩ := z_open Bd
  have hK := hC.1
  have hS : va_S (fun q => B < q) s.heap s.heap [] := va_S.rf
  have hX0 : zX S0 S0 := zX.rf
  refine z_entry (vs := [.ref (B + a0), .int v1, .int v2]) (Nat.le_of_ble_eq_true rfl) (fun ls hl => ?_)
  have hl : lv_has ls 4 [(0, .ref (B + a0)), (1, .int v1), (2, .int v2)] := hl
  unfold f_X11_of at h
  refine lv_aload_n hx hb dX11_of_0 rfl (lv_at hl 0 rfl) ?_
  obtain ⟨hq2, h⟩ := zk h
  refine z_getN hx hb hg zin_11 hown hK hM ha0 0 rfl (by decide) (hg _ zw_267) (fun _ h9 => h9) hq2 dX11_of_1 (fun h1 => ?_)
  refine lv_iload_n hx hb dX11_of_4 rfl (lv_at hl 1 rfl) ?_
  obtain ⟨r4, hr3, h⟩ := zb1 h
  refine z_runr (va_runV (As := [.int v1]) (rest := []) ⟨hx, hb, hml, hown, hg⟩ (c_X9_diveAt l D cy B h1 hr3) (z_cwV hg zw_362 zw_363 zw_364 zw_3 zw_365 zh_X9_diveAt ⟨(Nat.le_of_ble_eq_true rfl), (Nat.le_of_ble_eq_true rfl)⟩) (zPV hC hM h1 (by decide) rfl) rfl rfl hl.1 rfl (lv_room (Nat.le_of_ble_eq_true rfl)) dX11_of_5 ⟨(Nat.le_of_ble_eq_true rfl), (Nat.le_of_ble_eq_true rfl)⟩) hS (fun H locs hM hX5 h6 hS => ?_)
  refine z_astore_n (i := 3) (lv' := [(3, zv B r4), (0, .ref (B + a0)), (1, .int v1), (2, .int v2)]) hx hb dX11_of_8 rfl hl (by decide) rfl (fun ls hl => ?_)
  refine z_aload_n hx hb dX11_of_9 rfl (lv_at hl 0 rfl) ?_
  refine z_ifnonnull (tgt := 15) hx hb dX11_of_10 (by decide) (fun hc7 => ?_) (fun hc7 => ?_)
  · have h8 := h6.nn hc7
    have h := zf h hc7
    refine lv_iload_n hx hb dX11_of_15 rfl (lv_at hl 3 rfl) ?_
    by_cases hc9 : v2 = (0 : Int32)
    · refine z_tin (off := 44) hx hb hc9 dX11_of_16 (by decide +kernel) (tgt := 60) (by decide) ?_
      have h := zt h hc9
      refine z_aloadR_n hx hb dX11_of_60 rfl (lv_at hl 0 rfl) h8.1 ?_
      refine z_getI hx hb hg zin_1 hown hK hM h8 2 rfl (by decide) (hg _ zw_100) (fun _ h9 => h9) dX11_of_61 ?_
      exact z_iret hx hb hr hlk hM hX0 hS ⟨zsm h, rfl⟩ dX11_of_64
    · have h := zf h hc9
      by_cases hc10 : v2 = (1 : Int32)
      · refine z_tin (off := 49) hx hb hc10 dX11_of_16 (by decide +kernel) (tgt := 65) (by decide) ?_
        have h := zt h hc10
        refine z_aloadR_n hx hb dX11_of_65 rfl (lv_at hl 0 rfl) h8.1 ?_
        refine z_getI hx hb hg zin_1 hown hK hM h8 3 rfl (by decide) (hg _ zw_103) (fun _ h9 => h9) dX11_of_66 ?_
        exact z_iret hx hb hr hlk hM hX0 hS ⟨zsm h, rfl⟩ dX11_of_69
      · have h := zf h hc10
        by_cases hc11 : v2 = (2 : Int32)
        · refine z_tin (off := 54) hx hb hc11 dX11_of_16 (by decide +kernel) (tgt := 70) (by decide) ?_
          have h := zt h hc11
          refine z_aloadR_n hx hb dX11_of_70 rfl (lv_at hl 0 rfl) h8.1 ?_
          refine z_getI hx hb hg zin_1 hown hK hM h8 4 rfl (by decide) (hg _ zw_106) (fun _ h9 => h9) dX11_of_71 ?_
          exact z_iret hx hb hr hlk hM hX0 hS ⟨zsm h, rfl⟩ dX11_of_74
        · have h := zf h hc11
          by_cases hc12 : v2 = (3 : Int32)
          · refine z_tin (off := 59) hx hb hc12 dX11_of_16 (by decide +kernel) (tgt := 75) (by decide) ?_
            have h := zt h hc12
            refine z_aloadR_n hx hb dX11_of_75 rfl (lv_at hl 0 rfl) h8.1 ?_
            refine z_getI hx hb hg zin_1 hown hK hM h8 5 rfl (by decide) (hg _ zw_109) (fun _ h9 => h9) dX11_of_76 ?_
            exact z_iret hx hb hr hlk hM hX0 hS ⟨zsm h, rfl⟩ dX11_of_79
          · have h := zf h hc12
            by_cases hc13 : v2 = (4 : Int32)
            · refine z_tin (off := 64) hx hb hc13 dX11_of_16 (by decide +kernel) (tgt := 80) (by decide) ?_
              have h := zt h hc13
              refine z_aloadR_n hx hb dX11_of_80 rfl (lv_at hl 0 rfl) h8.1 ?_
              refine z_getI hx hb hg zin_1 hown hK hM h8 6 rfl (by decide) (hg _ zw_113) (fun _ h9 => h9) dX11_of_81 ?_
              exact z_iret hx hb hr hlk hM hX0 hS ⟨zsm h, rfl⟩ dX11_of_84
            · have h := zf h hc13
              by_cases hc14 : v2 = (5 : Int32)
              · refine z_tin (off := 69) hx hb hc14 dX11_of_16 (by decide +kernel) (tgt := 85) (by decide) ?_
                have h := zt h hc14
                refine lv_aload_n hx hb dX11_of_85 rfl (lv_at hl 1 rfl) ?_
                refine z_getN hx hb hg zin_11 hown hK hM ha0 0 rfl (by decide) (hg _ zw_267) (fun _ h9 => h9) h1.ne dX11_of_86 (fun h15 => ?_)
                refine z_aloadR_n hx hb dX11_of_89 rfl (lv_at hl 0 rfl) h8.1 ?_
                obtain ⟨r17, hr16, h⟩ := zb1 h
                refine z_runi (va_runV (As := [.ref (B + r4)]) (rest := []) ⟨hx, hb, hml, hown, hg⟩ (c_X9_worthOf l D cy B h15 h8 hr16) (z_cwV hg zw_366 zw_367 zw_368 zw_3 zw_369 zh_X9_worthOf ⟨(Nat.le_of_ble_eq_true rfl), (Nat.le_of_ble_eq_true rfl)⟩) (zPV hC hM h15 (by decide) rfl) rfl rfl hl.1 rfl (lv_room (Nat.le_of_ble_eq_true rfl)) dX11_of_90 ⟨(Nat.le_of_ble_eq_true rfl), (Nat.le_of_ble_eq_true rfl)⟩) hS (fun H locs hM hX18 hS => ?_)
                exact z_iret hx hb hr hlk hM hX0 hS ⟨zsm h, rfl⟩ dX11_of_93
              · have h := zf h hc14
                by_cases hc20 : v2 = (6 : Int32)
                · refine z_tin (off := 78) hx hb hc20 dX11_of_16 (by decide +kernel) (tgt := 94) (by decide) ?_
                  have h := zt h hc20
                  refine z_aloadR_n hx hb dX11_of_94 rfl (lv_at hl 0 rfl) h8.1 ?_
                  obtain ⟨r22, hr21, h⟩ := zb1 h
                  refine z_runi (va_runV (As := []) (rest := []) ⟨hx, hb, hml, hown, hg⟩ (c_X1_marksThere l D cy B h8 hr21) (z_cwV hg zw_377 zw_378 zw_379 zw_6 zw_380 zh_X1_marksThere ⟨(Nat.le_of_ble_eq_true rfl), (Nat.le_of_ble_eq_true rfl)⟩) (zPV hC hM h8 (by decide) rfl) rfl rfl hl.1 rfl (lv_room (Nat.le_of_ble_eq_true rfl)) dX11_of_95 ⟨(Nat.le_of_ble_eq_true rfl), (Nat.le_of_ble_eq_true rfl)⟩) hS (fun H locs hM hX23 hS => ?_)
                  exact z_iret hx hb hr hlk hM hX0 hS ⟨zsm h, rfl⟩ dX11_of_98
                · have h := zf h hc20
                  refine lv_tableOut hx hb dX11_of_16 (by have := lv_neT hc9 (a := 0) (by decide +kernel); have := lv_neT hc10 (a := 1) (by decide +kernel); have := lv_neT hc11 (a := 2) (by decide +kernel); have := lv_neT hc12 (a := 3) (by decide +kernel); have := lv_neT hc13 (a := 4) (by decide +kernel); have := lv_neT hc14 (a := 5) (by decide +kernel); have := lv_neT hc20 (a := 6) (by decide +kernel); omega) (tgt := 99) (by decide) ?_
                  refine lv_iconst (v := (-1 : Int32)) hx hb dX11_of_99 (by decide +kernel) ?_
                  exact z_iret hx hb hr hlk hM hX0 hS ⟨zsm h, rfl⟩ dX11_of_100
  · have h := zt h hc7
    refine lv_iconst (v := (-1 : Int32)) hx hb dX11_of_13 (by decide +kernel) ?_
    exact z_iret hx hb hr hlk hM hX0 hS ⟨zsm h, rfl⟩ dX11_of_14
def f_X11_seen (n : Nat) (a0 : Nat) (v1 : Int32) (v2 : Int32) (v3 : Int32) : Option (Int32) :=
  zLet (f_X11_within v1 (6 : Int32)) (fun r2 => if r2 = 0 then some (-1 : Int32) else zLet (f_X11_within v2 (7 : Int32)) (fun r7 => if r7 = 0 then some (-1 : Int32) else zLet (f_X11_within v3 (10 : Int32)) (fun r12 => if r12 = 0 then some (-1 : Int32) else zB1 (f_X11_partsSeen n v2 v3) (fun r17 => some ((r17 >>> (v1 &&& 31)) &&& (1 : Int32))))))
set_option maxHeartbeats 4000000 in
set_option maxRecDepth 100000 in
theorem c_X11_seen (l : Launch) (D : va_G) (cy : Nat → ClassId) (B : Nat) {n : Nat} {S0 : zM} {a0 : Nat} {v1 : Int32} {v2 : Int32} {v3 : Int32} {r : Int32} (ha0 : zA S0 a0 11) (h : f_X11_seen n a0 v1 v2 v3 = some r) : Met l yX11_seen (zws yX11_seen cX11_seen 4 ((some .int))) { frames := 1, cells := 0, slots := 0, locals := 24 } (zPc D cy B S0 [.ref (B + a0), .int v1, .int v2, .int v3]) (zQi D cy B S0 r S0) 0 0 (fun q => B < q) := by
  refine Met.ofW (cc := cX11_seen) (maxL := 4) (ret := ((some .int))) (by decide) rfl ?_
  intro p e s m args below meth c s₁ Bd hml hv
  obtain ⟨rfl, hC, hM⟩ := hv
  obtain ⟨hx, hb, hr, hg, hown, hlk⟩ := z_open Bd
  have hK := hC.1
  have hS : va_S (fun q => B < q) s.heap s.heap [] := va_S.rf
  have hX0 : zX S0 S0 := zX.rf
  refine z_entry (vs := [.ref (B + a0), .int v1, .int v2, .int v3]) (Nat.le_of_ble_eq_true rfl) (fun ls hl => ?_)
  have hl : lv_has ls 4 [(0, .ref (B + a0)), (1, .int v1), (2, .int v2), (3, .int v3)] := hl
  unfold f_X11_seen at h
  refine lv_iload_n hx hb dX11_seen_0 rfl (lv_at hl 1 rfl) ?_
  refine lv_bipush (v := (6 : Int32)) hx hb dX11_seen_1 (by decide +kernel) ?_
  obtain ⟨r2, hr1, h⟩ := zlg h
  have hr1 := hr1.symm
  refine z_runi (va_runS (As := [.int v1, .int (6 : Int32)]) (rest := []) ⟨hx, hb, hml, hown, hg⟩ (c_X11_within l D cy B hr1) (z_cwS hg zw_290 zw_291 zw_2 zw_292 zh_X11_within.2 ⟨(Nat.le_of_ble_eq_true rfl), (Nat.le_of_ble_eq_true rfl)⟩) (zPS hC hM) rfl rfl hl.1 rfl (lv_room (Nat.le_of_ble_eq_true rfl)) dX11_seen_3 ⟨(Nat.le_of_ble_eq_true rfl), (Nat.le_of_ble_eq_true rfl)⟩) hS (fun H locs hM hX3 hS => ?_)
  refine lv_if_eq (tgt := 27) hx hb dX11_seen_6 (by decide) (fun hc5 => ?_) (fun hc5 => ?_)
  · have h := zt h hc5
    refine lv_iconst (v := (-1 : Int32)) hx hb dX11_seen_27 (by decide +kernel) ?_
    exact z_iret hx hb hr hlk hM hX0 hS ⟨zsm h, rfl⟩ dX11_seen_28
  · have h := zf h hc5
    refine lv_iload_n hx hb dX11_seen_9 rfl (lv_at hl 2 rfl) ?_
    refine lv_bipush (v := (7 : Int32)) hx hb dX11_seen_10 (by decide +kernel) ?_
    obtain ⟨r7, hr6, h⟩ := zlg h
    have hr6 := hr6.symm
    refine z_runi (va_runS (As := [.int v2, .int (7 : Int32)]) (rest := []) ⟨hx, hb, hml, hown, hg⟩ (c_X11_within l D cy B hr6) (z_cwS hg zw_290 zw_291 zw_2 zw_292 zh_X11_within.2 ⟨(Nat.le_of_ble_eq_true rfl), (Nat.le_of_ble_eq_true rfl)⟩) (zPS hC hM) rfl rfl hl.1 rfl (lv_room (Nat.le_of_ble_eq_true rfl)) dX11_seen_12 ⟨(Nat.le_of_ble_eq_true rfl), (Nat.le_of_ble_eq_true rfl)⟩) hS (fun H locs hM hX8 hS => ?_)
    refine lv_if_eq (tgt := 27) hx hb dX11_seen_15 (by decide) (fun hc10 => ?_) (fun hc10 => ?_)
    · have h := zt h hc10
      refine lv_iconst (v := (-1 : Int32)) hx hb dX11_seen_27 (by decide +kernel) ?_
      exact z_iret hx hb hr hlk hM hX0 hS ⟨zsm h, rfl⟩ dX11_seen_28
    · have h := zf h hc10
      refine lv_iload_n hx hb dX11_seen_18 rfl (lv_at hl 3 rfl) ?_
      refine lv_bipush (v := (10 : Int32)) hx hb dX11_seen_19 (by decide +kernel) ?_
      obtain ⟨r12, hr11, h⟩ := zlg h
      have hr11 := hr11.symm
      refine z_runi (va_runS (As := [.int v3, .int (10 : Int32)]) (rest := []) ⟨hx, hb, hml, hown, hg⟩ (c_X11_within l D cy B hr11) (z_cwS hg zw_290 zw_291 zw_2 zw_292 zh_X11_within.2 ⟨(Nat.le_of_ble_eq_true rfl), (Nat.le_of_ble_eq_true rfl)⟩) (zPS hC hM) rfl rfl hl.1 rfl (lv_room (Nat.le_of_ble_eq_true rfl)) dX11_seen_21 ⟨(Nat.le_of_ble_eq_true rfl), (Nat.le_of_ble_eq_true rfl)⟩) hS (fun H locs hM hX13 hS => ?_)
      refine lv_if_ne (tgt := 29) hx hb dX11_seen_24 (by decide) (fun hc15 => ?_) (fun hc15 => ?_)
      · have h := zf h hc15
        refine lv_iload_n hx hb dX11_seen_29 rfl (lv_at hl 2 rfl) ?_
        refine lv_iload_n hx hb dX11_seen_30 rfl (lv_at hl 3 rfl) ?_
        obtain ⟨r17, hr16, h⟩ := zb1 h
        refine z_runi (va_runS (As := [.int v2, .int v3]) (rest := []) ⟨hx, hb, hml, hown, hg⟩ (c_X11_partsSeen l D cy B hr16) (z_cwS hg zw_385 zw_386 zw_2 zw_387 zh_X11_partsSeen.2 ⟨(Nat.le_of_ble_eq_true rfl), (Nat.le_of_ble_eq_true rfl)⟩) (zPS hC hM) rfl rfl hl.1 rfl (lv_room (Nat.le_of_ble_eq_true rfl)) dX11_seen_31 ⟨(Nat.le_of_ble_eq_true rfl), (Nat.le_of_ble_eq_true rfl)⟩) hS (fun H locs hM hX18 hS => ?_)
        refine lv_iload_n hx hb dX11_seen_34 rfl (lv_at hl 1 rfl) ?_
        refine lv_ishr hx hb dX11_seen_35 ?_
        refine lv_iconst (v := (1 : Int32)) hx hb dX11_seen_36 (by decide +kernel) ?_
        refine lv_iand hx hb dX11_seen_37 ?_
        exact z_iret hx hb hr hlk hM hX0 hS ⟨zsm h, rfl⟩ dX11_seen_38
      · have h := zt h hc15
        refine lv_iconst (v := (-1 : Int32)) hx hb dX11_seen_27 (by decide +kernel) ?_
        exact z_iret hx hb hr hlk hM hX0 hS ⟨zsm h, rfl⟩ dX11_seen_28
def f_X11_would (n : Nat) (S0 : zM) (a0 : Nat) (v1 : Int32) (v2 : Int32) : Option (Int32 × zM) :=
  zChk (¬ (zr S0 a0 0) = 0) (zLet (f_X11_within v1 (zi S0 (zr S0 a0 0) 7)) (fun r4 => if r4 = 0 then some (((-1 : Int32), S0)) else zLet (f_X11_within v2 (7 : Int32)) (fun r9 => if r9 = 0 then some (((-1 : Int32), S0)) else zB2 (f_X9_wouldMark n S0 (zr S0 a0 0) v1 v2) (fun r15 S16 => some ((r15, S16))))))
set_option maxHeartbeats 4000000 in
set_option maxRecDepth 100000 in
theorem c_X11_would (l : Launch) (D : va_G) (cy : Nat → ClassId) (B : Nat) {n : Nat} {S0 : zM} {a0 : Nat} {v1 : Int32} {v2 : Int32} {r : Int32} {S' : zM} (ha0 : zA S0 a0 11) (h : f_X11_would n S0 a0 v1 v2 = some (r, S')) : Met l yX11_would (zws yX11_would cX11_would 3 ((some .int))) { frames := 5, cells := 0, slots := 0, locals := 123 } (zPc D cy B S0 [.ref (B + a0), .int v1, .int v2]) (zQi D cy B S0 r S') 0 0 (fun q => B < q) := by
  refine Met.ofW (cc := cX11_would) (maxL := 3) (ret := ((some .int))) (by decide) rfl ?_
  intro p e s m args below meth c s₁ Bd hml hv
  obtain ⟨rfl, hC, hM⟩ := hv
  obtain ⟨hx, hb, hr, hg, hown, hlk⟩ := z_open Bd
  have hK := hC.1
  have hS : va_S (fun q => B < q) s.heap s.heap [] := va_S.rf
  have hX0 : zX S0 S0 := zX.rf
  refine z_entry (vs := [.ref (B + a0), .int v1, .int v2]) (Nat.le_of_ble_eq_true rfl) (fun ls hl => ?_)
  have hl : lv_has ls 3 [(0, .ref (B + a0)), (1, .int v1), (2, .int v2)] := hl
  unfold f_X11_would at h
  refine lv_iload_n hx hb dX11_would_0 rfl (lv_at hl 1 rfl) ?_
  refine lv_aload_n hx hb dX11_would_1 rfl (lv_at hl 0 rfl) ?_
  obtain ⟨hq2, h⟩ := zk h
  refine z_getN hx hb hg zin_11 hown hK hM ha0 0 rfl (by decide) (hg _ zw_267) (fun _ h9 => h9) hq2 dX11_would_2 (fun h1 => ?_)
  refine z_getI hx hb hg zin_9 hown hK hM h1 7 rfl (by decide) (hg _ zw_140) (fun _ h9 => h9) dX11_would_5 ?_
  obtain ⟨r4, hr3, h⟩ := zlg h
  have hr3 := hr3.symm
  refine z_runi (va_runS (As := [.int v1, .int (zi S0 (zr S0 a0 0) 7)]) (rest := []) ⟨hx, hb, hml, hown, hg⟩ (c_X11_within l D cy B hr3) (z_cwS hg zw_290 zw_291 zw_2 zw_292 zh_X11_within.2 ⟨(Nat.le_of_ble_eq_true rfl), (Nat.le_of_ble_eq_true rfl)⟩) (zPS hC hM) rfl rfl hl.1 rfl (lv_room (Nat.le_of_ble_eq_true rfl)) dX11_would_8 ⟨(Nat.le_of_ble_eq_true rfl), (Nat.le_of_ble_eq_true rfl)⟩) hS (fun H locs hM hX5 hS => ?_)
  refine lv_if_eq (tgt := 23) hx hb dX11_would_11 (by decide) (fun hc7 => ?_) (fun hc7 => ?_)
  · have h := zt h hc7
    refine lv_iconst (v := (-1 : Int32)) hx hb dX11_would_23 (by decide +kernel) ?_
    exact z_iret hx hb hr hlk hM hX0 hS (zsp h) dX11_would_24
  · have h := zf h hc7
    refine lv_iload_n hx hb dX11_would_14 rfl (lv_at hl 2 rfl) ?_
    refine lv_bipush (v := (7 : Int32)) hx hb dX11_would_15 (by decide +kernel) ?_
    obtain ⟨r9, hr8, h⟩ := zlg h
    have hr8 := hr8.symm
    refine z_runi (va_runS (As := [.int v2, .int (7 : Int32)]) (rest := []) ⟨hx, hb, hml, hown, hg⟩ (c_X11_within l D cy B hr8) (z_cwS hg zw_290 zw_291 zw_2 zw_292 zh_X11_within.2 ⟨(Nat.le_of_ble_eq_true rfl), (Nat.le_of_ble_eq_true rfl)⟩) (zPS hC hM) rfl rfl hl.1 rfl (lv_room (Nat.le_of_ble_eq_true rfl)) dX11_would_17 ⟨(Nat.le_of_ble_eq_true rfl), (Nat.le_of_ble_eq_true rfl)⟩) hS (fun H locs hM hX10 hS => ?_)
    refine lv_if_ne (tgt := 25) hx hb dX11_would_20 (by decide) (fun hc12 => ?_) (fun hc12 => ?_)
    · have h := zf h hc12
      refine lv_aload_n hx hb dX11_would_25 rfl (lv_at hl 0 rfl) ?_
      refine z_getN hx hb hg zin_11 hown hK hM ha0 0 rfl (by decide) (hg _ zw_267) (fun _ h9 => h9) h1.ne dX11_would_26 (fun h13 => ?_)
      refine lv_iload_n hx hb dX11_would_29 rfl (lv_at hl 1 rfl) ?_
      refine lv_iload_n hx hb dX11_would_30 rfl (lv_at hl 2 rfl) ?_
      obtain ⟨r15, S16, hr14, h⟩ := zb2 h
      refine z_runi (va_runV (As := [.int v1, .int v2]) (rest := []) ⟨hx, hb, hml, hown, hg⟩ (c_X9_wouldMark l D cy B h13 hr14) (z_cwV hg zw_392 zw_393 zw_394 zw_3 zw_395 zh_X9_wouldMark ⟨(Nat.le_of_ble_eq_true rfl), (Nat.le_of_ble_eq_true rfl)⟩) (zPV hC hM h13 (by decide) rfl) rfl rfl hl.1 rfl (lv_room (Nat.le_of_ble_eq_true rfl)) dX11_would_31 ⟨(Nat.le_of_ble_eq_true rfl), (Nat.le_of_ble_eq_true rfl)⟩) hS (fun H locs hM hX17 hS => ?_)
      have hX19 := hX0.tr hX17
      exact z_iret hx hb hr hlk hM hX19 hS (zsp h) dX11_would_34
    · have h := zt h hc12
      refine lv_iconst (v := (-1 : Int32)) hx hb dX11_would_23 (by decide +kernel) ?_
      exact z_iret hx hb hr hlk hM hX0 hS (zsp h) dX11_would_24
def f_X11_markAll_L36b (n : Nat) (a0 : Nat) (K5 : Int32 → zM → Option (Int32 × zM)) (rec36 : Int32 → Int32 → zM → Option (Int32 × zM)) (x7 : Int32) (x8 : Int32) (S9 : zM) : Option (Int32 × zM) :=
  zChk (¬ (zr S9 a0 0) = 0) (if (zi S9 (zr S9 a0 0) 7) ≤ x8 then K5 x7 S9 else zB2 (f_X9_markDive n S9 (zr S9 a0 0) x8) (fun r16 S17 => rec36 (x7 + r16) (x8 + (1 : Int32)) S17))
def f_X11_markAll_L36 (n : Nat) (a0 : Nat) (K5 : Int32 → zM → Option (Int32 × zM)) : Nat → Int32 → Int32 → zM → Option (Int32 × zM)
  | 0 => fun _ _ _ => none
  | k + 1 => fun x7 x8 S9 => f_X11_markAll_L36b n a0 K5 (f_X11_markAll_L36 n a0 K5 k) x7 x8 S9
def f_X11_markAll (n : Nat) (S0 : zM) (a0 : Nat) (v1 : Int32) : Option (Int32 × zM) :=
  if v1 = (-1 : Int32) then zLet (fun (x2 : Int32) (S3 : zM) => some ((x2, S3))) (fun K5 => f_X11_markAll_L36 n a0 K5 n (0 : Int32) (0 : Int32) S0) else zChk (¬ (zr S0 a0 0) = 0) (zLet (f_X11_within v1 (zi S0 (zr S0 a0 0) 7)) (fun r25 => if r25 = 0 then some (((-1 : Int32), S0)) else zB2 (f_X9_markDive n S0 (zr S0 a0 0) v1) (fun r31 S32 => some ((r31, S32)))))
set_option maxHeartbeats 4000000 in
set_option maxRecDepth 100000 in
theorem c_X11_markAll (l : Launch) (D : va_G) (cy : Nat → ClassId) (B : Nat) {n : Nat} {S0 : zM} {a0 : Nat} {v1 : Int32} {r : Int32} {S' : zM} (ha0 : zA S0 a0 11) (h : f_X11_markAll n S0 a0 v1 = some (r, S')) : Met l yX11_markAll (zws yX11_markAll cX11_markAll 4 ((some .int))) { frames := 6, cells := 0, slots := 0, locals := 147 } (zPc D cy B S0 [.ref (B + a0), .int v1]) (zQi D cy B S0 r S') 0 0 (fun q => B < q) := by
  refine Met.ofW (cc := cX11_markAll) (maxL := 4) (ret := ((some .int))) (by decide) rfl ?_
  intro p e s m args below meth c s₁ Bd hml hv
  obtain ⟨rfl, hC, hM⟩ := hv
  obtain ⟨hx, hb, hr, hg, hown, hlk⟩ := z_open Bd
  have hK := hC.1
  have hS : va_S (fun q => B < q) s.heap s.heap [] := va_S.rf
  have hX0 : zX S0 S0 := zX.rf
  refine z_entry (vs := [.ref (B + a0), .int v1]) (Nat.le_of_ble_eq_true rfl) (fun ls hl => ?_)
  have hl : lv_has ls 4 [(0, .ref (B + a0)), (1, .int v1)] := hl
  unfold f_X11_markAll at h
  refine lv_iload_n hx hb dX11_markAll_0 rfl (lv_at hl 1 rfl) ?_
  refine lv_iconst (v := (-1 : Int32)) hx hb dX11_markAll_1 (by decide +kernel) ?_
  refine lv_icmp_eq (tgt := 32) hx hb dX11_markAll_2 (by decide) (fun hc1 => ?_) (fun hc1 => ?_)
  · have h := zt h hc1
    refine lv_iconst (v := (0 : Int32)) hx hb dX11_markAll_32 (by decide +kernel) ?_
    refine lv_istore_n (i := 2) (lv' := [(2, .int (0 : Int32)), (0, .ref (B + a0)), (1, .int v1)]) hx hb dX11_markAll_33 rfl hl (by decide) rfl (fun ls hl => ?_)
    refine lv_iconst (v := (0 : Int32)) hx hb dX11_markAll_34 (by decide +kernel) ?_
    refine lv_istore_n (i := 3) (lv' := [(3, .int (0 : Int32)), (2, .int (0 : Int32)), (0, .ref (B + a0)), (1, .int v1)]) hx hb dX11_markAll_35 rfl hl (by decide) rfl (fun ls hl => ?_)
    obtain ⟨K5, eK5, h⟩ := zlg h
    have hK5 : ∀ (x2 : Int32) (S3 : zM) (H : Heap) (locs : List Loc), zMR D cy B S3 H → zX S0 S3 → va_S (fun q => B < q) s.heap H locs → ∀ ls : Array Slot, lv_has ls 4 [(2, .int x2)] → K5 x2 S3 = some (r, S') → W p l e (headSpec (zws yX11_markAll cX11_markAll 4 ((some .int))) { frames := 6, cells := 0, slots := 0, locals := 147 }).room s m (([.ref (B + a0), .int v1] : List Value).toArray) below meth c H locs 0 0 (MQ below (zQi D cy B S0 r S') (([.ref (B + a0), .int v1] : List Value).toArray) s 0 0 (fun q => B < q)) (F0 m 64 ls []) := by
      intro x2 S3 H locs hM hX4 hS ls hl h
      rw [eK5] at h
      refine lv_iload_n hx hb dX11_markAll_64 rfl (lv_at hl 0 rfl) ?_
      exact z_iret hx hb hr hlk hM hX4 hS (zsp h) dX11_markAll_65
    have hL36 : ∀ (k : Nat) (x7 : Int32) (x8 : Int32) (S9 : zM) (H : Heap) (locs : List Loc), zMR D cy B S9 H → zX S0 S9 → va_S (fun q => B < q) s.heap H locs → zA S9 a0 11 → ∀ ls : Array Slot, lv_has ls 4 [(0, .ref (B + a0)), (2, .int x7), (3, .int x8)] → f_X11_markAll_L36 n a0 K5 k x7 x8 S9 = some (r, S') → W p l e (headSpec (zws yX11_markAll cX11_markAll 4 ((some .int))) { frames := 6, cells := 0, slots := 0, locals := 147 }).room s m (([.ref (B + a0), .int v1] : List Value).toArray) below meth c H locs 0 0 (MQ below (zQi D cy B S0 r S') (([.ref (B + a0), .int v1] : List Value).toArray) s 0 0 (fun q => B < q)) (F0 m 36 ls []) := by
      intro k
      induction k with
      | zero =>
        intro x7 x8 S9 H locs hM hX10 hS h6 ls hl h
        exact znone h
      | succ k ih36 =>
        intro x7 x8 S9 H locs hM hX10 hS h6 ls hl h
        replace h : f_X11_markAll_L36b n a0 K5 (f_X11_markAll_L36 n a0 K5 k) x7 x8 S9 = some (r, S') := h
        generalize f_X11_markAll_L36 n a0 K5 k = rec36 at ih36 h
        unfold f_X11_markAll_L36b at h
        refine lv_iload_n hx hb dX11_markAll_36 rfl (lv_at hl 2 rfl) ?_
        refine lv_aload_n hx hb dX11_markAll_37 rfl (lv_at hl 0 rfl) ?_
        obtain ⟨hq12, h⟩ := zk h
        refine z_getN hx hb hg zin_11 hown hK hM h6 0 rfl (by decide) (hg _ zw_267) (fun _ h9 => h9) hq12 dX11_markAll_38 (fun h11 => ?_)
        refine z_getI hx hb hg zin_9 hown hK hM h11 7 rfl (by decide) (hg _ zw_140) (fun _ h9 => h9) dX11_markAll_41 ?_
        refine lv_icmp_ge (tgt := 64) hx hb dX11_markAll_44 (by decide) (fun hc13 => ?_) (fun hc13 => ?_)
        · have h := zt h hc13
          exact hK5 x7 S9 _ _ hM hX10 hS _ (lv_sub hl [1] rfl) h
        · have h := zf h hc13
          refine lv_iload_n hx hb dX11_markAll_47 rfl (lv_at hl 1 rfl) ?_
          refine lv_aload_n hx hb dX11_markAll_48 rfl (lv_at hl 0 rfl) ?_
          refine z_getN hx hb hg zin_11 hown hK hM h6 0 rfl (by decide) (hg _ zw_267) (fun _ h9 => h9) h11.ne dX11_markAll_49 (fun h14 => ?_)
          refine lv_iload_n hx hb dX11_markAll_52 rfl (lv_at hl 2 rfl) ?_
          obtain ⟨r16, S17, hr15, h⟩ := zb2 h
          refine z_runi (va_runV (As := [.int x8]) (rest := [.int x7]) ⟨hx, hb, hml, hown, hg⟩ (c_X9_markDive l D cy B h14 hr15) (z_cwV hg zw_441 zw_442 zw_443 zw_3 zw_444 zh_X9_markDive ⟨(Nat.le_of_ble_eq_true rfl), (Nat.le_of_ble_eq_true rfl)⟩) (zPV hC hM h14 (by decide) rfl) rfl rfl hl.1 rfl (lv_room (Nat.le_of_ble_eq_true rfl)) dX11_markAll_53 ⟨(Nat.le_of_ble_eq_true rfl), (Nat.le_of_ble_eq_true rfl)⟩) hS (fun H locs hM hX18 hS => ?_)
          have h20 := h6.mo hX18
          have hX21 := hX10.tr hX18
          refine lv_iadd hx hb dX11_markAll_56 ?_
          refine lv_istore_n (i := 2) (lv' := [(2, .int (x7 + r16)), (0, .ref (B + a0)), (3, .int x8)]) hx hb dX11_markAll_57 rfl hl (by decide) rfl (fun ls hl => ?_)
          refine lv_iinc (v := (x8 + (1 : Int32))) (lv' := [(3, .int (x8 + (1 : Int32))), (2, .int (x7 + r16)), (0, .ref (B + a0))]) hx hb dX11_markAll_58 hl (k := 2) rfl rfl (by decide) rfl (fun ls hl => ?_)
          refine lv_goto (tgt := 36) hx hb dX11_markAll_61 (by decide) ?_
          exact ih36 (x7 + r16) (x8 + (1 : Int32)) S17 _ _ hM hX21 hS h20 _ (lv_sub hl [2, 1, 0] rfl) h
    exact hL36 n (0 : Int32) (0 : Int32) S0 _ _ hM hX0 hS ha0 _ (lv_sub hl [2, 1, 0] rfl) h
  · have h := zf h hc1
    refine lv_iload_n hx hb dX11_markAll_5 rfl (lv_at hl 1 rfl) ?_
    refine lv_aload_n hx hb dX11_markAll_6 rfl (lv_at hl 0 rfl) ?_
    obtain ⟨hq23, h⟩ := zk h
    refine z_getN hx hb hg zin_11 hown hK hM ha0 0 rfl (by decide) (hg _ zw_267) (fun _ h9 => h9) hq23 dX11_markAll_7 (fun h22 => ?_)
    refine z_getI hx hb hg zin_9 hown hK hM h22 7 rfl (by decide) (hg _ zw_140) (fun _ h9 => h9) dX11_markAll_10 ?_
    obtain ⟨r25, hr24, h⟩ := zlg h
    have hr24 := hr24.symm
    refine z_runi (va_runS (As := [.int v1, .int (zi S0 (zr S0 a0 0) 7)]) (rest := []) ⟨hx, hb, hml, hown, hg⟩ (c_X11_within l D cy B hr24) (z_cwS hg zw_290 zw_291 zw_2 zw_292 zh_X11_within.2 ⟨(Nat.le_of_ble_eq_true rfl), (Nat.le_of_ble_eq_true rfl)⟩) (zPS hC hM) rfl rfl hl.1 rfl (lv_room (Nat.le_of_ble_eq_true rfl)) dX11_markAll_13 ⟨(Nat.le_of_ble_eq_true rfl), (Nat.le_of_ble_eq_true rfl)⟩) hS (fun H locs hM hX26 hS => ?_)
    refine lv_if_eq (tgt := 30) hx hb dX11_markAll_16 (by decide) (fun hc28 => ?_) (fun hc28 => ?_)
    · have h := zt h hc28
      refine lv_iconst (v := (-1 : Int32)) hx hb dX11_markAll_30 (by decide +kernel) ?_
      exact z_iret hx hb hr hlk hM hX0 hS (zsp h) dX11_markAll_31
    · have h := zf h hc28
      refine lv_aload_n hx hb dX11_markAll_19 rfl (lv_at hl 0 rfl) ?_
      refine z_getN hx hb hg zin_11 hown hK hM ha0 0 rfl (by decide) (hg _ zw_267) (fun _ h9 => h9) h22.ne dX11_markAll_20 (fun h29 => ?_)
      refine lv_iload_n hx hb dX11_markAll_23 rfl (lv_at hl 1 rfl) ?_
      obtain ⟨r31, S32, hr30, h⟩ := zb2 h
      refine z_runi (va_runV (As := [.int v1]) (rest := []) ⟨hx, hb, hml, hown, hg⟩ (c_X9_markDive l D cy B h29 hr30) (z_cwV hg zw_441 zw_442 zw_443 zw_3 zw_444 zh_X9_markDive ⟨(Nat.le_of_ble_eq_true rfl), (Nat.le_of_ble_eq_true rfl)⟩) (zPV hC hM h29 (by decide) rfl) rfl rfl hl.1 rfl (lv_room (Nat.le_of_ble_eq_true rfl)) dX11_markAll_24 ⟨(Nat.le_of_ble_eq_true rfl), (Nat.le_of_ble_eq_true rfl)⟩) hS (fun H locs hM hX33 hS => ?_)
      have hX35 := hX0.tr hX33
      refine lv_goto (tgt := 31) hx hb dX11_markAll_27 (by decide) ?_
      exact z_iret hx hb hr hlk hM hX35 hS (zsp h) dX11_markAll_31
def f_X11_shelfAt (S0 : zM) (a0 : Nat) (v1 : Int32) : Option (Nat) :=
  zLet (f_X11_within v1 (8 : Int32)) (fun r2 => if r2 = 0 then some 0 else zChk (¬ (zr S0 a0 3) = 0) (zChk (¬ (v1 < 0 ∨ zln S0 (zr S0 a0 3) ≤ (v1).toNatClampNeg)) (some (zr S0 (zr S0 a0 3) (Int32.toNatClampNeg v1)))))
set_option maxHeartbeats 4000000 in
set_option maxRecDepth 100000 in
theorem c_X11_shelfAt (l : Launch) (D : va_G) (cy : Nat → ClassId) (B : Nat) {S0 : zM} {a0 : Nat} {v1 : Int32} {r : Nat} (ha0 : zA S0 a0 11) (h : f_X11_shelfAt S0 a0 v1 = some r) : Met l yX11_shelfAt (zws yX11_shelfAt cX11_shelfAt 2 ((some (.object "DiveChairs$Shelf")))) { frames := 1, cells := 0, slots := 0, locals := 21 } (zPc D cy B S0 [.ref (B + a0), .int v1]) (zQr D cy B S0 8 r S0) 0 0 (fun q => B < q) := by
  refine Met.ofW (cc := cX11_shelfAt) (maxL := 2) (ret := ((some (.object "DiveChairs$Shelf")))) (by decide) rfl ?_
  intro p e s m args below meth c s₁ Bd hml hv
  obtain ⟨rfl, hC, hM⟩ := hv
  obtain ⟨hx, hb, hr, hg, hown, hlk⟩ := z_open Bd
  have hK := hC.1
  have hS : va_S (fun q => B < q) s.heap s.heap [] := va_S.rf
  have hX0 : zX S0 S0 := zX.rf
  refine z_entry (vs := [.ref (B + a0), .int v1]) (Nat.le_of_ble_eq_true rfl) (fun ls hl => ?_)
  have hl : lv_has ls 2 [(0, .ref (B + a0)), (1, .int v1)] := hl
  unfold f_X11_shelfAt at h
  refine lv_iload_n hx hb dX11_shelfAt_0 rfl (lv_at hl 1 rfl) ?_
  refine lv_bipush (v := (8 : Int32)) hx hb dX11_shelfAt_1 (by decide +kernel) ?_
  obtain ⟨r2, hr1, h⟩ := zlg h
  have hr1 := hr1.symm
  refine z_runi (va_runS (As := [.int v1, .int (8 : Int32)]) (rest := []) ⟨hx, hb, hml, hown, hg⟩ (c_X11_within l D cy B hr1) (z_cwS hg zw_290 zw_291 zw_2 zw_292 zh_X11_within.2 ⟨(Nat.le_of_ble_eq_true rfl), (Nat.le_of_ble_eq_true rfl)⟩) (zPS hC hM) rfl rfl hl.1 rfl (lv_room (Nat.le_of_ble_eq_true rfl)) dX11_shelfAt_3 ⟨(Nat.le_of_ble_eq_true rfl), (Nat.le_of_ble_eq_true rfl)⟩) hS (fun H locs hM hX3 hS => ?_)
  refine lv_if_eq (tgt := 18) hx hb dX11_shelfAt_6 (by decide) (fun hc5 => ?_) (fun hc5 => ?_)
  · have h := zt h hc5
    refine lv_null hx hb dX11_shelfAt_18 ?_
    exact z_aret (r := 0) hx hb hr (Or.inl ⟨_, rfl⟩) hlk hM hX0 hS rfl zQ_0 ⟨zsm h, rfl⟩ dX11_shelfAt_19
  · have h := zf h hc5
    refine lv_aload_n hx hb dX11_shelfAt_9 rfl (lv_at hl 0 rfl) ?_
    obtain ⟨hq7, h⟩ := zk h
    refine z_getN hx hb hg zin_11 hown hK hM ha0 3 rfl (by decide) (hg _ zw_270) (fun _ h9 => h9) hq7 dX11_shelfAt_10 (fun h6 => ?_)
    refine lv_iload_n hx hb dX11_shelfAt_13 rfl (lv_at hl 1 rfl) ?_
    obtain ⟨hq8, h⟩ := zk h
    refine z_aald hx hb hK hM h6 (by decide) rfl hq8 dX11_shelfAt_14 (fun h9 => ?_)
    have h9 : zQ S0 (zr S0 (zr S0 a0 3) (Int32.toNatClampNeg v1)) 8 := h9
    refine lv_goto (tgt := 19) hx hb dX11_shelfAt_15 (by decide) ?_
    exact z_aret (r := (zr S0 (zr S0 a0 3) (Int32.toNatClampNeg v1))) hx hb hr (Or.inl ⟨_, rfl⟩) hlk hM hX0 hS rfl (h9) ⟨zsm h, rfl⟩ dX11_shelfAt_19
def f_X11_marks_L56b (a0 : Nat) (r4 : Nat) (r8 : Nat) (K28 : zM → Option (Int32 × zM)) (rec56 : Int32 → zM → Option (Int32 × zM)) (x36 : Int32) (S37 : zM) : Option (Int32 × zM) :=
  if (7 : Int32) ≤ x36 then K28 S37 else zLet (fun (x43 : Int32) => zChk (¬ (zr S37 a0 0) = 0) (zB1 (f_X9_seatOf S37 (zr S37 a0 0) (zi S37 r4 2) x36) (fun r49 => zB1 (f_X1_tell S37 r4 x36 x43 r49) (fun S53 => rec56 (x36 + (1 : Int32)) S53)))) (fun K45 => if (zi S37 r8 3) ≤ x36 then K45 (-128 : Int32) else zChk (¬ (zr S37 r8 0) = 0) (zChk (¬ (x36 < 0 ∨ zln S37 (zr S37 r8 0) ≤ (x36).toNatClampNeg)) (K45 (zi S37 (zr S37 r8 0) (Int32.toNatClampNeg x36)))))
def f_X11_marks_L56 (a0 : Nat) (r4 : Nat) (r8 : Nat) (K28 : zM → Option (Int32 × zM)) : Nat → Int32 → zM → Option (Int32 × zM)
  | 0 => fun _ _ => none
  | k + 1 => fun x36 S37 => f_X11_marks_L56b a0 r4 r8 K28 (f_X11_marks_L56 a0 r4 r8 K28 k) x36 S37
def f_X11_marks (n : Nat) (S0 : zM) (a0 : Nat) (v1 : Int32) (v2 : Int32) : Option (Int32 × zM) :=
  zChk (¬ (zr S0 a0 0) = 0) (zB1 (f_X9_diveAt S0 (zr S0 a0 0) v1) (fun r4 => zB1 (f_X11_shelfAt S0 a0 v2) (fun r8 => if r4 = 0 then some (((-1 : Int32), S0)) else if r8 = 0 then some (((-1 : Int32), S0)) else zB1 (f_X8_refusalAsText S0 r8) (fun r16 => if r16 = 0 then zB1 (f_X8_holdsMarks n S0 r8) (fun r21 => if r21 = 0 then some (((-13 : Int32), S0)) else zLet (fun (S26 : zM) => zB1 (f_X1_marksThere n S26 r4) (fun r30 => some ((r30, S26)))) (fun K28 => f_X11_marks_L56 a0 r4 r8 K28 n (0 : Int32) S0)) else some ((r16, S0))))))
set_option maxHeartbeats 4000000 in
set_option maxRecDepth 100000 in
theorem c_X11_marks (l : Launch) (D : va_G) (cy : Nat → ClassId) (B : Nat) {n : Nat} {S0 : zM} {a0 : Nat} {v1 : Int32} {v2 : Int32} {r : Int32} {S' : zM} (ha0 : zA S0 a0 11) (h : f_X11_marks n S0 a0 v1 v2 = some (r, S')) : Met l yX11_marks (zws yX11_marks cX11_marks 8 ((some .int))) { frames := 2, cells := 0, slots := 0, locals := 44 } (zPc D cy B S0 [.ref (B + a0), .int v1, .int v2]) (zQi D cy B S0 r S') 0 0 (fun q => B < q) := by
  refine Met.ofW (cc := cX11_marks) (maxL := 8) (ret := ((some .int))) (by decide) rfl ?_
  intro p e s m args below meth c s₁ Bd hml hv
  obtain ⟨rfl, hC, hM⟩ := hv
  obtain ⟨hx, hb, hr, hg, hown, hlk⟩ := z_open Bd
  have hK := hC.1
  have hS : va_S (fun q => B < q) s.heap s.heap [] := va_S.rf
  have hX0 : zX S0 S0 := zX.rf
  refine z_entry (vs := [.ref (B + a0), .int v1, .int v2]) (Nat.le_of_ble_eq_true rfl) (fun ls hl => ?_)
  have hl : lv_has ls 8 [(0, .ref (B + a0)), (1, .int v1), (2, .int v2)] := hl
  unfold f_X11_marks at h
  refine lv_aload_n hx hb dX11_marks_0 rfl (lv_at hl 0 rfl) ?_
  obtain ⟨hq2, h⟩ := zk h
  refine z_getN hx hb hg zin_11 hown hK hM ha0 0 rfl (by decide) (hg _ zw_267) (fun _ h9 => h9) hq2 dX11_marks_1 (fun h1 => ?_)
  refine lv_iload_n hx hb dX11_marks_4 rfl (lv_at hl 1 rfl) ?_
  obtain ⟨r4, hr3, h⟩ := zb1 h
  refine z_runr (va_runV (As := [.int v1]) (rest := []) ⟨hx, hb, hml, hown, hg⟩ (c_X9_diveAt l D cy B h1 hr3) (z_cwV hg zw_362 zw_363 zw_364 zw_3 zw_365 zh_X9_diveAt ⟨(Nat.le_of_ble_eq_true rfl), (Nat.le_of_ble_eq_true rfl)⟩) (zPV hC hM h1 (by decide) rfl) rfl rfl hl.1 rfl (lv_room (Nat.le_of_ble_eq_true rfl)) dX11_marks_5 ⟨(Nat.le_of_ble_eq_true rfl), (Nat.le_of_ble_eq_true rfl)⟩) hS (fun H locs hM hX5 h6 hS => ?_)
  refine z_astore_n (i := 3) (lv' := [(3, zv B r4), (0, .ref (B + a0)), (1, .int v1), (2, .int v2)]) hx hb dX11_marks_8 rfl hl (by decide) rfl (fun ls hl => ?_)
  refine lv_aload_n hx hb dX11_marks_9 rfl (lv_at hl 1 rfl) ?_
  refine lv_iload_n hx hb dX11_marks_10 rfl (lv_at hl 3 rfl) ?_
  obtain ⟨r8, hr7, h⟩ := zb1 h
  refine z_runr (va_runV (As := [.int v2]) (rest := []) ⟨hx, hb, hml, hown, hg⟩ (c_X11_shelfAt l D cy B ha0 hr7) (z_cwV hg zw_452 zw_453 zw_1464 zw_2 zw_454 zh_X11_shelfAt ⟨(Nat.le_of_ble_eq_true rfl), (Nat.le_of_ble_eq_true rfl)⟩) (zPV hC hM ha0 (by decide) rfl) rfl rfl hl.1 rfl (lv_room (Nat.le_of_ble_eq_true rfl)) dX11_marks_11 ⟨(Nat.le_of_ble_eq_true rfl), (Nat.le_of_ble_eq_true rfl)⟩) hS (fun H locs hM hX9 h10 hS => ?_)
  refine z_astore (i := 4) (lv' := [(4, zv B r8), (3, zv B r4), (0, .ref (B + a0)), (1, .int v1), (2, .int v2)]) hx hb dX11_marks_14 hl (by decide) (by simp [zv_cat]) (fun ls hl => ?_)
  refine z_aload_n hx hb dX11_marks_16 rfl (lv_at hl 1 rfl) ?_
  refine z_ifnull (tgt := 25) hx hb dX11_marks_17 (by decide) (fun hc11 => ?_) (fun hc11 => ?_)
  · have h := zt h hc11
    refine lv_iconst (v := (-1 : Int32)) hx hb dX11_marks_25 (by decide +kernel) ?_
    exact z_iret hx hb hr hlk hM hX0 hS (zsp h) dX11_marks_26
  · have h12 := h6.nn hc11
    have h := zf h hc11
    refine z_aload hx hb dX11_marks_20 (lv_at hl 0 rfl) ?_
    refine z_ifnonnull (tgt := 27) hx hb dX11_marks_22 (by decide) (fun hc13 => ?_) (fun hc13 => ?_)
    · have h14 := h10.nn hc13
      have h := zf h hc13
      refine z_aloadR hx hb dX11_marks_27 (lv_at hl 0 rfl) h14.1 ?_
      obtain ⟨r16, hr15, h⟩ := zb1 h
      refine z_runi (va_runV (As := []) (rest := []) ⟨hx, hb, hml, hown, hg⟩ (c_X8_refusalAsText l D cy B h14 hr15) (z_cwV hg zw_455 zw_456 zw_457 zw_12 zw_458 zh_X8_refusalAsText ⟨(Nat.le_of_ble_eq_true rfl), (Nat.le_of_ble_eq_true rfl)⟩) (zPV hC hM h14 (by decide) rfl) rfl rfl hl.1 rfl (lv_room (Nat.le_of_ble_eq_true rfl)) dX11_marks_29 ⟨(Nat.le_of_ble_eq_true rfl), (Nat.le_of_ble_eq_true rfl)⟩) hS (fun H locs hM hX17 hS => ?_)
      refine lv_istore (i := 5) (lv' := [(5, .int r16), (4, zv B r8), (3, zv B r4), (0, .ref (B + a0)), (1, .int v1), (2, .int v2)]) hx hb dX11_marks_32 hl (by decide) (by simp [zv_cat]) (fun ls hl => ?_)
      refine lv_iload hx hb dX11_marks_34 (lv_at hl 0 rfl) ?_
      refine lv_if_eq (tgt := 42) hx hb dX11_marks_36 (by decide) (fun hc19 => ?_) (fun hc19 => ?_)
      · have h := zt h hc19
        refine z_aloadR hx hb dX11_marks_42 (lv_at hl 1 rfl) h14.1 ?_
        obtain ⟨r21, hr20, h⟩ := zb1 h
        refine z_runi (va_runV (As := []) (rest := []) ⟨hx, hb, hml, hown, hg⟩ (c_X8_holdsMarks l D cy B h14 hr20) (z_cwV hg zw_463 zw_464 zw_465 zw_12 zw_466 zh_X8_holdsMarks ⟨(Nat.le_of_ble_eq_true rfl), (Nat.le_of_ble_eq_true rfl)⟩) (zPV hC hM h14 (by decide) rfl) rfl rfl hl.1 rfl (lv_room (Nat.le_of_ble_eq_true rfl)) dX11_marks_44 ⟨(Nat.le_of_ble_eq_true rfl), (Nat.le_of_ble_eq_true rfl)⟩) hS (fun H locs hM hX22 hS => ?_)
        refine lv_if_ne (tgt := 53) hx hb dX11_marks_47 (by decide) (fun hc24 => ?_) (fun hc24 => ?_)
        · have h := zf h hc24
          refine lv_iconst (v := (0 : Int32)) hx hb dX11_marks_53 (by decide +kernel) ?_
          refine lv_istore (i := 6) (lv' := [(6, .int (0 : Int32)), (5, .int r16), (4, zv B r8), (3, zv B r4), (0, .ref (B + a0)), (1, .int v1), (2, .int v2)]) hx hb dX11_marks_54 hl (by decide) rfl (fun ls hl => ?_)
          obtain ⟨K28, eK28, h⟩ := zlg h
          have hK28 : ∀ (S26 : zM) (H : Heap) (locs : List Loc), zMR D cy B S26 H → zX S0 S26 → va_S (fun q => B < q) s.heap H locs → zA S26 r4 1 → ∀ ls : Array Slot, lv_has ls 8 [(3, zv B r4)] → K28 S26 = some (r, S') → W p l e (headSpec (zws yX11_marks cX11_marks 8 ((some .int))) { frames := 2, cells := 0, slots := 0, locals := 44 }).room s m (([.ref (B + a0), .int v1, .int v2] : List Value).toArray) below meth c H locs 0 0 (MQ below (zQi D cy B S0 r S') (([.ref (B + a0), .int v1, .int v2] : List Value).toArray) s 0 0 (fun q => B < q)) (F0 m 115 ls []) := by
            intro S26 H locs hM hX27 hS h25 ls hl h
            rw [eK28] at h
            refine z_aloadR_n hx hb dX11_marks_115 rfl (lv_at hl 0 rfl) h25.1 ?_
            obtain ⟨r30, hr29, h⟩ := zb1 h
            refine z_runi (va_runV (As := []) (rest := []) ⟨hx, hb, hml, hown, hg⟩ (c_X1_marksThere l D cy B h25 hr29) (z_cwV hg zw_377 zw_378 zw_379 zw_6 zw_380 zh_X1_marksThere ⟨(Nat.le_of_ble_eq_true rfl), (Nat.le_of_ble_eq_true rfl)⟩) (zPV hC hM h25 (by decide) rfl) rfl rfl hl.1 rfl (lv_room (Nat.le_of_ble_eq_true rfl)) dX11_marks_116 ⟨(Nat.le_of_ble_eq_true rfl), (Nat.le_of_ble_eq_true rfl)⟩) hS (fun H locs hM hX31 hS => ?_)
            exact z_iret hx hb hr hlk hM hX27 hS (zsp h) dX11_marks_119
          have hL56 : ∀ (k : Nat) (x36 : Int32) (S37 : zM) (H : Heap) (locs : List Loc), zMR D cy B S37 H → zX S0 S37 → va_S (fun q => B < q) s.heap H locs → zA S37 a0 11 → zA S37 r4 1 → zA S37 r8 8 → ∀ ls : Array Slot, lv_has ls 8 [(0, .ref (B + a0)), (3, zv B r4), (4, zv B r8), (6, .int x36)] → f_X11_marks_L56 a0 r4 r8 K28 k x36 S37 = some (r, S') → W p l e (headSpec (zws yX11_marks cX11_marks 8 ((some .int))) { frames := 2, cells := 0, slots := 0, locals := 44 }).room s m (([.ref (B + a0), .int v1, .int v2] : List Value).toArray) below meth c H locs 0 0 (MQ below (zQi D cy B S0 r S') (([.ref (B + a0), .int v1, .int v2] : List Value).toArray) s 0 0 (fun q => B < q)) (F0 m 56 ls []) := by
            intro k
            induction k with
            | zero =>
              intro x36 S37 H locs hM hX38 hS h33 h34 h35 ls hl h
              exact znone h
            | succ k ih56 =>
              intro x36 S37 H locs hM hX38 hS h33 h34 h35 ls hl h
              replace h : f_X11_marks_L56b a0 r4 r8 K28 (f_X11_marks_L56 a0 r4 r8 K28 k) x36 S37 = some (r, S') := h
              generalize f_X11_marks_L56 a0 r4 r8 K28 k = rec56 at ih56 h
              unfold f_X11_marks_L56b at h
              refine lv_iload hx hb dX11_marks_56 (lv_at hl 3 rfl) ?_
              refine lv_bipush (v := (7 : Int32)) hx hb dX11_marks_58 (by decide +kernel) ?_
              refine lv_icmp_ge (tgt := 115) hx hb dX11_marks_60 (by decide) (fun hc39 => ?_) (fun hc39 => ?_)
              · have h := zt h hc39
                exact hK28 S37 _ _ hM hX38 hS h34 _ (lv_sub hl [1] rfl) h
              · have h := zf h hc39
                refine lv_iload hx hb dX11_marks_63 (lv_at hl 3 rfl) ?_
                refine z_aloadR hx hb dX11_marks_65 (lv_at hl 2 rfl) h35.1 ?_
                refine z_getI hx hb hg zin_8 hown hK hM h35 3 rfl (by decide) (hg _ zw_259) (fun _ h9 => h9) dX11_marks_67 ?_
                obtain ⟨K45, eK45, h⟩ := zlg h
                have hK45 : ∀ (x43 : Int32) (H : Heap) (locs : List Loc), zMR D cy B S37 H → zX S0 S37 → va_S (fun q => B < q) s.heap H locs → zA S37 a0 11 → zA S37 r4 1 → zA S37 r8 8 → ∀ ls : Array Slot, lv_has ls 8 [(0, .ref (B + a0)), (3, zv B r4), (4, zv B r8), (6, .int x36)] → K45 x43 = some (r, S') → W p l e (headSpec (zws yX11_marks cX11_marks 8 ((some .int))) { frames := 2, cells := 0, slots := 0, locals := 44 }).room s m (([.ref (B + a0), .int v1, .int v2] : List Value).toArray) below meth c H locs 0 0 (MQ below (zQi D cy B S0 r S') (([.ref (B + a0), .int v1, .int v2] : List Value).toArray) s 0 0 (fun q => B < q)) (F0 m 86 ls [.int x43]) := by
                  intro x43 H locs hM hX44 hS h40 h41 h42 ls hl h
                  rw [eK45] at h
                  refine lv_istore (i := 7) (lv' := [(7, .int x43), (0, .ref (B + a0)), (3, zv B r4), (4, zv B r8), (6, .int x36)]) hx hb dX11_marks_86 hl (by decide) rfl (fun ls hl => ?_)
                  refine z_aloadR_n hx hb dX11_marks_88 rfl (lv_at hl 2 rfl) h41.1 ?_
                  refine lv_iload hx hb dX11_marks_89 (lv_at hl 4 rfl) ?_
                  refine lv_iload hx hb dX11_marks_91 (lv_at hl 0 rfl) ?_
                  refine lv_aload_n hx hb dX11_marks_93 rfl (lv_at hl 1 rfl) ?_
                  obtain ⟨hq47, h⟩ := zk h
                  refine z_getN hx hb hg zin_11 hown hK hM h40 0 rfl (by decide) (hg _ zw_267) (fun _ h9 => h9) hq47 dX11_marks_94 (fun h46 => ?_)
                  refine z_aloadR_n hx hb dX11_marks_97 rfl (lv_at hl 2 rfl) h41.1 ?_
                  refine z_getI hx hb hg zin_1 hown hK hM h41 2 rfl (by decide) (hg _ zw_100) (fun _ h9 => h9) dX11_marks_98 ?_
                  refine lv_iload hx hb dX11_marks_101 (lv_at hl 4 rfl) ?_
                  obtain ⟨r49, hr48, h⟩ := zb1 h
                  refine z_runi (va_runV (As := [.int (zi S37 r4 2), .int x36]) (rest := [.int x43, .int x36, .ref (B + r4)]) ⟨hx, hb, hml, hown, hg⟩ (c_X9_seatOf l D cy B h46 hr48) (z_cwV hg zw_340 zw_337 zw_338 zw_3 zw_339 zh_X9_seatOf ⟨(Nat.le_of_ble_eq_true rfl), (Nat.le_of_ble_eq_true rfl)⟩) (zPV hC hM h46 (by decide) rfl) rfl rfl hl.1 rfl (lv_room (Nat.le_of_ble_eq_true rfl)) dX11_marks_103 ⟨(Nat.le_of_ble_eq_true rfl), (Nat.le_of_ble_eq_true rfl)⟩) hS (fun H locs hM hX50 hS => ?_)
                  obtain ⟨S53, hr52, h⟩ := zb1 h
                  refine z_runv (va_runV (As := [.int x36, .int x43, .int r49]) (rest := []) ⟨hx, hb, hml, hown, hg⟩ (c_X1_tell l D cy B h41 hr52) (z_cwV hg zw_468 zw_354 zw_355 zw_6 zw_356 zh_X1_tell ⟨(Nat.le_of_ble_eq_true rfl), (Nat.le_of_ble_eq_true rfl)⟩) (zPV hC hM h41 (by decide) rfl) rfl rfl hl.1 rfl (lv_room (Nat.le_of_ble_eq_true rfl)) dX11_marks_106 ⟨(Nat.le_of_ble_eq_true rfl), (Nat.le_of_ble_eq_true rfl)⟩) hS (fun H locs hM hX54 hS => ?_)
                  have h56 := h40.mo hX54
                  have h57 := h41.mo hX54
                  have h58 := h42.mo hX54
                  have hX59 := hX44.tr hX54
                  refine lv_iinc (v := (x36 + (1 : Int32))) (lv' := [(6, .int (x36 + (1 : Int32))), (7, .int x43), (0, .ref (B + a0)), (3, zv B r4), (4, zv B r8)]) hx hb dX11_marks_109 hl (k := 4) rfl rfl (by decide) rfl (fun ls hl => ?_)
                  refine lv_goto (tgt := 56) hx hb dX11_marks_112 (by decide) ?_
                  exact ih56 (x36 + (1 : Int32)) S53 _ _ hM hX59 hS h56 h57 h58 _ (lv_sub hl [2, 3, 4, 0] rfl) h
                refine lv_icmp_ge (tgt := 84) hx hb dX11_marks_70 (by decide) (fun hc60 => ?_) (fun hc60 => ?_)
                · have h := zt h hc60
                  refine lv_bipush (v := (-128 : Int32)) hx hb dX11_marks_84 (by decide +kernel) ?_
                  exact hK45 (-128 : Int32) _ _ hM hX38 hS h33 h34 h35 _ (lv_sub hl [0, 1, 2, 3] rfl) h
                · have h := zf h hc60
                  refine z_aloadR hx hb dX11_marks_73 (lv_at hl 2 rfl) h35.1 ?_
                  obtain ⟨hq62, h⟩ := zk h
                  refine z_getN hx hb hg zin_8 hown hK hM h35 0 rfl (by decide) (hg _ zw_252) (fun _ h9 => h9) hq62 dX11_marks_75 (fun h61 => ?_)
                  refine lv_iload hx hb dX11_marks_78 (lv_at hl 3 rfl) ?_
                  obtain ⟨hq63, h⟩ := zk h
                  refine z_iald hx hb hK hM h61 hq63 dX11_marks_80 ?_
                  refine lv_goto (tgt := 86) hx hb dX11_marks_81 (by decide) ?_
                  exact hK45 (zi S37 (zr S37 r8 0) (Int32.toNatClampNeg x36)) _ _ hM hX38 hS h33 h34 h35 _ (lv_sub hl [0, 1, 2, 3] rfl) h
          exact hL56 n (0 : Int32) S0 _ _ hM hX0 hS ha0 h12 h14 _ (lv_sub hl [4, 3, 2, 0] rfl) h
        · have h := zt h hc24
          refine lv_bipush (v := (-13 : Int32)) hx hb dX11_marks_50 (by decide +kernel) ?_
          exact z_iret hx hb hr hlk hM hX0 hS (zsp h) dX11_marks_52
      · have h := zf h hc19
        refine lv_iload hx hb dX11_marks_39 (lv_at hl 0 rfl) ?_
        exact z_iret hx hb hr hlk hM hX0 hS (zsp h) dX11_marks_41
    · have h := zt h hc13
      refine lv_iconst (v := (-1 : Int32)) hx hb dX11_marks_25 (by decide +kernel) ?_
      exact z_iret hx hb hr hlk hM hX0 hS (zsp h) dX11_marks_26
def f_X11_mark (S0 : zM) (a0 : Nat) (v1 : Int32) (v2 : Int32) : Option (Int32) :=
  zChk (¬ (zr S0 a0 0) = 0) (zB1 (f_X9_diveAt S0 (zr S0 a0 0) v1) (fun r4 => if r4 = 0 then some (-1 : Int32) else zLet (f_X11_within v2 (7 : Int32)) (fun r10 => if r10 = 0 then some (-1 : Int32) else zB1 (f_X1_hasMark S0 r4 v2) (fun r15 => if r15 = 0 then some (-4 : Int32) else zChk (¬ (zr S0 r4 0) = 0) (zChk (¬ (v2 < 0 ∨ zln S0 (zr S0 r4 0) ≤ (v2).toNatClampNeg)) (some (zi S0 (zr S0 r4 0) (Int32.toNatClampNeg v2))))))))
set_option maxHeartbeats 4000000 in
set_option maxRecDepth 100000 in
theorem c_X11_mark (l : Launch) (D : va_G) (cy : Nat → ClassId) (B : Nat) {S0 : zM} {a0 : Nat} {v1 : Int32} {v2 : Int32} {r : Int32} (ha0 : zA S0 a0 11) (h : f_X11_mark S0 a0 v1 v2 = some r) : Met l yX11_mark (zws yX11_mark cX11_mark 4 ((some .int))) { frames := 2, cells := 0, slots := 0, locals := 42 } (zPc D cy B S0 [.ref (B + a0), .int v1, .int v2]) (zQi D cy B S0 r S0) 0 0 (fun q => B < q) := by
  refine Met.ofW (cc := cX11_mark) (maxL := 4) (ret := ((some .int))) (by decide) rfl ?_
  intro p e s m args below meth c s₁ Bd hml hv
  obtain ⟨rfl, hC, hM⟩ := hv
  obtain ⟨hx, hb, hr, hg, hown, hlk⟩ := z_open Bd
  have hK := hC.1
  have hS : va_S (fun q => B < q) s.heap s.heap [] := va_S.rf
  have hX0 : zX S0 S0 := zX.rf
  refine z_entry (vs := [.ref (B + a0), .int v1, .int v2]) (Nat.le_of_ble_eq_true rfl) (fun ls hl => ?_)
  have hl : lv_has ls 4 [(0, .ref (B + a0)), (1, .int v1), (2, .int v2)] := hl
  unfold f_X11_mark at h
  refine lv_aload_n hx hb dX11_mark_0 rfl (lv_at hl 0 rfl) ?_
  obtain ⟨hq2, h⟩ := zk h
  refine z_getN hx hb hg zin_11 hown hK hM ha0 0 rfl (by decide) (hg _ zw_267) (fun _ h9 => h9) hq2 dX11_mark_1 (fun h1 => ?_)
  refine lv_iload_n hx hb dX11_mark_4 rfl (lv_at hl 1 rfl) ?_
  obtain ⟨r4, hr3, h⟩ := zb1 h
  refine z_runr (va_runV (As := [.int v1]) (rest := []) ⟨hx, hb, hml, hown, hg⟩ (c_X9_diveAt l D cy B h1 hr3) (z_cwV hg zw_362 zw_363 zw_364 zw_3 zw_365 zh_X9_diveAt ⟨(Nat.le_of_ble_eq_true rfl), (Nat.le_of_ble_eq_true rfl)⟩) (zPV hC hM h1 (by decide) rfl) rfl rfl hl.1 rfl (lv_room (Nat.le_of_ble_eq_true rfl)) dX11_mark_5 ⟨(Nat.le_of_ble_eq_true rfl), (Nat.le_of_ble_eq_true rfl)⟩) hS (fun H locs hM hX5 h6 hS => ?_)
  refine z_astore_n (i := 3) (lv' := [(3, zv B r4), (0, .ref (B + a0)), (1, .int v1), (2, .int v2)]) hx hb dX11_mark_8 rfl hl (by decide) rfl (fun ls hl => ?_)
  refine z_aload_n hx hb dX11_mark_9 rfl (lv_at hl 0 rfl) ?_
  refine z_ifnull (tgt := 22) hx hb dX11_mark_10 (by decide) (fun hc7 => ?_) (fun hc7 => ?_)
  · have h := zt h hc7
    refine lv_iconst (v := (-1 : Int32)) hx hb dX11_mark_22 (by decide +kernel) ?_
    exact z_iret hx hb hr hlk hM hX0 hS ⟨zsm h, rfl⟩ dX11_mark_23
  · have h8 := h6.nn hc7
    have h := zf h hc7
    refine lv_iload_n hx hb dX11_mark_13 rfl (lv_at hl 3 rfl) ?_
    refine lv_bipush (v := (7 : Int32)) hx hb dX11_mark_14 (by decide +kernel) ?_
    obtain ⟨r10, hr9, h⟩ := zlg h
    have hr9 := hr9.symm
    refine z_runi (va_runS (As := [.int v2, .int (7 : Int32)]) (rest := []) ⟨hx, hb, hml, hown, hg⟩ (c_X11_within l D cy B hr9) (z_cwS hg zw_290 zw_291 zw_2 zw_292 zh_X11_within.2 ⟨(Nat.le_of_ble_eq_true rfl), (Nat.le_of_ble_eq_true rfl)⟩) (zPS hC hM) rfl rfl hl.1 rfl (lv_room (Nat.le_of_ble_eq_true rfl)) dX11_mark_16 ⟨(Nat.le_of_ble_eq_true rfl), (Nat.le_of_ble_eq_true rfl)⟩) hS (fun H locs hM hX11 hS => ?_)
    refine lv_if_ne (tgt := 24) hx hb dX11_mark_19 (by decide) (fun hc13 => ?_) (fun hc13 => ?_)
    · have h := zf h hc13
      refine z_aloadR_n hx hb dX11_mark_24 rfl (lv_at hl 0 rfl) h8.1 ?_
      refine lv_iload_n hx hb dX11_mark_25 rfl (lv_at hl 3 rfl) ?_
      obtain ⟨r15, hr14, h⟩ := zb1 h
      refine z_runi (va_runV (As := [.int v2]) (rest := []) ⟨hx, hb, hml, hown, hg⟩ (c_X1_hasMark l D cy B h8 hr14) (z_cwV hg zw_473 zw_474 zw_475 zw_6 zw_476 zh_X1_hasMark ⟨(Nat.le_of_ble_eq_true rfl), (Nat.le_of_ble_eq_true rfl)⟩) (zPV hC hM h8 (by decide) rfl) rfl rfl hl.1 rfl (lv_room (Nat.le_of_ble_eq_true rfl)) dX11_mark_26 ⟨(Nat.le_of_ble_eq_true rfl), (Nat.le_of_ble_eq_true rfl)⟩) hS (fun H locs hM hX16 hS => ?_)
      refine lv_if_eq (tgt := 41) hx hb dX11_mark_29 (by decide) (fun hc18 => ?_) (fun hc18 => ?_)
      · have h := zt h hc18
        refine lv_bipush (v := (-4 : Int32)) hx hb dX11_mark_41 (by decide +kernel) ?_
        exact z_iret hx hb hr hlk hM hX0 hS ⟨zsm h, rfl⟩ dX11_mark_43
      · have h := zf h hc18
        refine z_aloadR_n hx hb dX11_mark_32 rfl (lv_at hl 0 rfl) h8.1 ?_
        obtain ⟨hq20, h⟩ := zk h
        refine z_getN hx hb hg zin_1 hown hK hM h8 0 rfl (by decide) (hg _ zw_93) (fun _ h9 => h9) hq20 dX11_mark_33 (fun h19 => ?_)
        refine lv_iload_n hx hb dX11_mark_36 rfl (lv_at hl 3 rfl) ?_
        obtain ⟨hq21, h⟩ := zk h
        refine z_iald hx hb hK hM h19 hq21 dX11_mark_37 ?_
        refine lv_goto (tgt := 43) hx hb dX11_mark_38 (by decide) ?_
        exact z_iret hx hb hr hlk hM hX0 hS ⟨zsm h, rfl⟩ dX11_mark_43
    · have h := zt h hc13
      refine lv_iconst (v := (-1 : Int32)) hx hb dX11_mark_22 (by decide +kernel) ?_
      exact z_iret hx hb hr hlk hM hX0 hS ⟨zsm h, rfl⟩ dX11_mark_23
def f_X11_rule (n : Nat) (S0 : zM) (a0 : Nat) (v1 : Int32) : Option (Int32 × zM) :=
  zB1 (f_X11_shelfAt S0 a0 v1) (fun r2 => if r2 = 0 then some (((-1 : Int32), S0)) else zB1 (f_X8_refusalAsText S0 r2) (fun r8 => if r8 = 0 then zChk (¬ (zr S0 a0 4) = 0) (zChk (¬ (zr S0 a0 0) = 0) (zChk (¬ (zr S0 (zr S0 a0 0) 4) = 0) (zB2 (f_X7_read n S0 (zr S0 a0 4) r2 (zr S0 (zr S0 a0 0) 4)) (fun r19 S20 => if r19 ≤ 0 then some ((r19, S20)) else zChk (¬ (zr S20 a0 0) = 0) (zChk (¬ (zr S20 (zr S20 a0 0) 4) = 0) (zChk (¬ (zr S20 a0 4) = 0) (zChk (¬ (zr S20 (zr S20 a0 4) 0) = 0) (zB1 (f_X6_copyFrom S20 (zr S20 (zr S20 a0 0) 4) (zr S20 (zr S20 a0 4) 0)) (fun S35 => some ((r19, S35))))))))))) else some ((r8, S0))))
set_option maxHeartbeats 4000000 in
set_option maxRecDepth 100000 in
theorem c_X11_rule (l : Launch) (D : va_G) (cy : Nat → ClassId) (B : Nat) {n : Nat} {S0 : zM} {a0 : Nat} {v1 : Int32} {r : Int32} {S' : zM} (ha0 : zA S0 a0 11) (h : f_X11_rule n S0 a0 v1 = some (r, S')) : Met l yX11_rule (zws yX11_rule cX11_rule 5 ((some .int))) { frames := 35, cells := 0, slots := 0, locals := 795 } (zPc D cy B S0 [.ref (B + a0), .int v1]) (zQi D cy B S0 r S') 0 0 (fun q => B < q) := by
  refine Met.ofW (cc := cX11_rule) (maxL := 5) (ret := ((some .int))) (by decide) rfl ?_
  intro p e s m args below meth c s₁ Bd hml hv
  obtain ⟨rfl, hC, hM⟩ := hv
  obtain ⟨hx, hb, hr, hg, hown, hlk⟩ := z_open Bd
  have hK := hC.1
  have hS : va_S (fun q => B < q) s.heap s.heap [] := va_S.rf
  have hX0 : zX S0 S0 := zX.rf
  refine z_entry (vs := [.ref (B + a0), .int v1]) (Nat.le_of_ble_eq_true rfl) (fun ls hl => ?_)
  have hl : lv_has ls 5 [(0, .ref (B + a0)), (1, .int v1)] := hl
  unfold f_X11_rule at h
  refine lv_aload_n hx hb dX11_rule_0 rfl (lv_at hl 0 rfl) ?_
  refine lv_iload_n hx hb dX11_rule_1 rfl (lv_at hl 1 rfl) ?_
  obtain ⟨r2, hr1, h⟩ := zb1 h
  refine z_runr (va_runV (As := [.int v1]) (rest := []) ⟨hx, hb, hml, hown, hg⟩ (c_X11_shelfAt l D cy B ha0 hr1) (z_cwV hg zw_452 zw_453 zw_1464 zw_2 zw_454 zh_X11_shelfAt ⟨(Nat.le_of_ble_eq_true rfl), (Nat.le_of_ble_eq_true rfl)⟩) (zPV hC hM ha0 (by decide) rfl) rfl rfl hl.1 rfl (lv_room (Nat.le_of_ble_eq_true rfl)) dX11_rule_2 ⟨(Nat.le_of_ble_eq_true rfl), (Nat.le_of_ble_eq_true rfl)⟩) hS (fun H locs hM hX3 h4 hS => ?_)
  refine z_astore_n (i := 2) (lv' := [(2, zv B r2), (0, .ref (B + a0)), (1, .int v1)]) hx hb dX11_rule_5 rfl hl (by decide) rfl (fun ls hl => ?_)
  refine z_aload_n hx hb dX11_rule_6 rfl (lv_at hl 0 rfl) ?_
  refine z_ifnonnull (tgt := 12) hx hb dX11_rule_7 (by decide) (fun hc5 => ?_) (fun hc5 => ?_)
  · have h6 := h4.nn hc5
    have h := zf h hc5
    refine z_aloadR_n hx hb dX11_rule_12 rfl (lv_at hl 0 rfl) h6.1 ?_
    obtain ⟨r8, hr7, h⟩ := zb1 h
    refine z_runi (va_runV (As := []) (rest := []) ⟨hx, hb, hml, hown, hg⟩ (c_X8_refusalAsText l D cy B h6 hr7) (z_cwV hg zw_455 zw_456 zw_457 zw_12 zw_458 zh_X8_refusalAsText ⟨(Nat.le_of_ble_eq_true rfl), (Nat.le_of_ble_eq_true rfl)⟩) (zPV hC hM h6 (by decide) rfl) rfl rfl hl.1 rfl (lv_room (Nat.le_of_ble_eq_true rfl)) dX11_rule_13 ⟨(Nat.le_of_ble_eq_true rfl), (Nat.le_of_ble_eq_true rfl)⟩) hS (fun H locs hM hX9 hS => ?_)
    refine lv_istore_n (i := 3) (lv' := [(3, .int r8), (2, zv B r2), (0, .ref (B + a0)), (1, .int v1)]) hx hb dX11_rule_16 rfl hl (by decide) (by simp [zv_cat]) (fun ls hl => ?_)
    refine lv_iload_n hx hb dX11_rule_17 rfl (lv_at hl 0 rfl) ?_
    refine lv_if_eq (tgt := 23) hx hb dX11_rule_18 (by decide) (fun hc11 => ?_) (fun hc11 => ?_)
    · have h := zt h hc11
      refine lv_aload_n hx hb dX11_rule_23 rfl (lv_at hl 2 rfl) ?_
      obtain ⟨hq13, h⟩ := zk h
      refine z_getN hx hb hg zin_11 hown hK hM ha0 4 rfl (by decide) (hg _ zw_271) (fun _ h9 => h9) hq13 dX11_rule_24 (fun h12 => ?_)
      refine z_aloadR_n hx hb dX11_rule_27 rfl (lv_at hl 1 rfl) h6.1 ?_
      refine lv_aload_n hx hb dX11_rule_28 rfl (lv_at hl 2 rfl) ?_
      obtain ⟨hq15, h⟩ := zk h
      refine z_getN hx hb hg zin_11 hown hK hM ha0 0 rfl (by decide) (hg _ zw_267) (fun _ h9 => h9) hq15 dX11_rule_29 (fun h14 => ?_)
      obtain ⟨hq17, h⟩ := zk h
      refine z_getN hx hb hg zin_9 hown hK hM h14 4 rfl (by decide) (hg _ zw_131) (fun _ h9 => h9) hq17 dX11_rule_32 (fun h16 => ?_)
      obtain ⟨r19, S20, hr18, h⟩ := zb2 h
      refine z_runi (va_runV (As := [.ref (B + r2), .ref (B + (zr S0 (zr S0 a0 0) 4))]) (rest := []) ⟨hx, hb, hml, hown, hg⟩ (c_X7_read l D cy B h12 h6 h16 hr18) (z_cwV hg zw_481 zw_482 zw_483 zw_7 zw_484 zh_X7_read ⟨(Nat.le_of_ble_eq_true rfl), (Nat.le_of_ble_eq_true rfl)⟩) (zPV hC hM h12 (by decide) rfl) rfl rfl hl.1 rfl (lv_room (Nat.le_of_ble_eq_true rfl)) dX11_rule_35 ⟨(Nat.le_of_ble_eq_true rfl), (Nat.le_of_ble_eq_true rfl)⟩) hS (fun H locs hM hX21 hS => ?_)
      have h23 := ha0.mo hX21
      have hX24 := hX0.tr hX21
      refine lv_istore (i := 4) (lv' := [(4, .int r19), (3, .int r8), (2, zv B r2), (0, .ref (B + a0)), (1, .int v1)]) hx hb dX11_rule_38 hl (by decide) rfl (fun ls hl => ?_)
      refine lv_iload hx hb dX11_rule_40 (lv_at hl 0 rfl) ?_
      refine lv_if_le (tgt := 62) hx hb dX11_rule_42 (by decide) (fun hc25 => ?_) (fun hc25 => ?_)
      · have h := zt h hc25
        refine lv_iload hx hb dX11_rule_62 (lv_at hl 0 rfl) ?_
        exact z_iret hx hb hr hlk hM hX24 hS (zsp h) dX11_rule_64
      · have h := zf h hc25
        refine lv_aload_n hx hb dX11_rule_45 rfl (lv_at hl 3 rfl) ?_
        obtain ⟨hq27, h⟩ := zk h
        refine z_getN hx hb hg zin_11 hown hK hM h23 0 rfl (by decide) (hg _ zw_267) (fun _ h9 => h9) hq27 dX11_rule_46 (fun h26 => ?_)
        obtain ⟨hq29, h⟩ := zk h
        refine z_getN hx hb hg zin_9 hown hK hM h26 4 rfl (by decide) (hg _ zw_131) (fun _ h9 => h9) hq29 dX11_rule_49 (fun h28 => ?_)
        refine lv_aload_n hx hb dX11_rule_52 rfl (lv_at hl 3 rfl) ?_
        obtain ⟨hq31, h⟩ := zk h
        refine z_getN hx hb hg zin_11 hown hK hM h23 4 rfl (by decide) (hg _ zw_271) (fun _ h9 => h9) hq31 dX11_rule_53 (fun h30 => ?_)
        obtain ⟨hq33, h⟩ := zk h
        refine z_getN hx hb hg zin_7 hown hK hM h30 0 rfl (by decide) (hg _ zw_171) (fun _ h9 => h9) hq33 dX11_rule_56 (fun h32 => ?_)
        obtain ⟨S35, hr34, h⟩ := zb1 h
        refine z_runv (va_runV (As := [.ref (B + (zr S20 (zr S20 a0 4) 0))]) (rest := []) ⟨hx, hb, hml, hown, hg⟩ (c_X6_copyFrom l D cy B h28 h32 hr34) (z_cwV hg zw_535 zw_486 zw_487 zw_4 zw_488 zh_X6_copyFrom ⟨(Nat.le_of_ble_eq_true rfl), (Nat.le_of_ble_eq_true rfl)⟩) (zPV hC hM h28 (by decide) rfl) rfl rfl hl.1 rfl (lv_room (Nat.le_of_ble_eq_true rfl)) dX11_rule_59 ⟨(Nat.le_of_ble_eq_true rfl), (Nat.le_of_ble_eq_true rfl)⟩) hS (fun H locs hM hX36 hS => ?_)
        have hX38 := hX24.tr hX36
        refine lv_iload hx hb dX11_rule_62 (lv_at hl 0 rfl) ?_
        exact z_iret hx hb hr hlk hM hX38 hS (zsp h) dX11_rule_64
    · have h := zf h hc11
      refine lv_iload_n hx hb dX11_rule_21 rfl (lv_at hl 0 rfl) ?_
      exact z_iret hx hb hr hlk hM hX0 hS (zsp h) dX11_rule_22
  · have h := zt h hc5
    refine lv_iconst (v := (-1 : Int32)) hx hb dX11_rule_10 (by decide +kernel) ?_
    exact z_iret hx hb hr hlk hM hX0 hS (zsp h) dX11_rule_11
def f_X11_counts (n : Nat) (S0 : zM) (a0 : Nat) (v1 : Int32) : Option (Int32 × zM) :=
  zChk (¬ (zr S0 a0 0) = 0) (zB1 (f_X9_diveAt S0 (zr S0 a0 0) v1) (fun r4 => if r4 = 0 then some (((-1000000001 : Int32), S0)) else zB2 (f_X9_countOf n S0 (zr S0 a0 0) r4) (fun r11 S12 => some ((r11, S12)))))
set_option maxHeartbeats 4000000 in
set_option maxRecDepth 100000 in
theorem c_X11_counts (l : Launch) (D : va_G) (cy : Nat → ClassId) (B : Nat) {n : Nat} {S0 : zM} {a0 : Nat} {v1 : Int32} {r : Int32} {S' : zM} (ha0 : zA S0 a0 11) (h : f_X11_counts n S0 a0 v1 = some (r, S')) : Met l yX11_counts (zws yX11_counts cX11_counts 3 ((some .int))) { frames := 4, cells := 0, slots := 0, locals := 93 } (zPc D cy B S0 [.ref (B + a0), .int v1]) (zQi D cy B S0 r S') 0 0 (fun q => B < q) := by
  refine Met.ofW (cc := cX11_counts) (maxL := 3) (ret := ((some .int))) (by decide) rfl ?_
  intro p e s m args below meth c s₁ Bd hml hv
  obtain ⟨rfl, hC, hM⟩ := hv
  obtain ⟨hx, hb, hr, hg, hown, hlk⟩ := z_open Bd
  have hK := hC.1
  have hS : va_S (fun q => B < q) s.heap s.heap [] := va_S.rf
  have hX0 : zX S0 S0 := zX.rf
  refine z_entry (vs := [.ref (B + a0), .int v1]) (Nat.le_of_ble_eq_true rfl) (fun ls hl => ?_)
  have hl : lv_has ls 3 [(0, .ref (B + a0)), (1, .int v1)] := hl
  unfold f_X11_counts at h
  refine lv_aload_n hx hb dX11_counts_0 rfl (lv_at hl 0 rfl) ?_
  obtain ⟨hq2, h⟩ := zk h
  refine z_getN hx hb hg zin_11 hown hK hM ha0 0 rfl (by decide) (hg _ zw_267) (fun _ h9 => h9) hq2 dX11_counts_1 (fun h1 => ?_)
  refine lv_iload_n hx hb dX11_counts_4 rfl (lv_at hl 1 rfl) ?_
  obtain ⟨r4, hr3, h⟩ := zb1 h
  refine z_runr (va_runV (As := [.int v1]) (rest := []) ⟨hx, hb, hml, hown, hg⟩ (c_X9_diveAt l D cy B h1 hr3) (z_cwV hg zw_362 zw_363 zw_364 zw_3 zw_365 zh_X9_diveAt ⟨(Nat.le_of_ble_eq_true rfl), (Nat.le_of_ble_eq_true rfl)⟩) (zPV hC hM h1 (by decide) rfl) rfl rfl hl.1 rfl (lv_room (Nat.le_of_ble_eq_true rfl)) dX11_counts_5 ⟨(Nat.le_of_ble_eq_true rfl), (Nat.le_of_ble_eq_true rfl)⟩) hS (fun H locs hM hX5 h6 hS => ?_)
  refine z_astore_n (i := 2) (lv' := [(2, zv B r4), (0, .ref (B + a0)), (1, .int v1)]) hx hb dX11_counts_8 rfl hl (by decide) rfl (fun ls hl => ?_)
  refine z_aload_n hx hb dX11_counts_9 rfl (lv_at hl 0 rfl) ?_
  refine z_ifnonnull (tgt := 18) hx hb dX11_counts_10 (by decide) (fun hc7 => ?_) (fun hc7 => ?_)
  · have h8 := h6.nn hc7
    have h := zf h hc7
    refine lv_aload_n hx hb dX11_counts_18 rfl (lv_at hl 1 rfl) ?_
    refine z_getN hx hb hg zin_11 hown hK hM ha0 0 rfl (by decide) (hg _ zw_267) (fun _ h9 => h9) h1.ne dX11_counts_19 (fun h9 => ?_)
    refine z_aloadR_n hx hb dX11_counts_22 rfl (lv_at hl 0 rfl) h8.1 ?_
    obtain ⟨r11, S12, hr10, h⟩ := zb2 h
    refine z_runi (va_runV (As := [.ref (B + r4)]) (rest := []) ⟨hx, hb, hml, hown, hg⟩ (c_X9_countOf l D cy B h9 h8 hr10) (z_cwV hg zw_541 zw_542 zw_543 zw_3 zw_544 zh_X9_countOf ⟨(Nat.le_of_ble_eq_true rfl), (Nat.le_of_ble_eq_true rfl)⟩) (zPV hC hM h9 (by decide) rfl) rfl rfl hl.1 rfl (lv_room (Nat.le_of_ble_eq_true rfl)) dX11_counts_23 ⟨(Nat.le_of_ble_eq_true rfl), (Nat.le_of_ble_eq_true rfl)⟩) hS (fun H locs hM hX13 hS => ?_)
    have hX15 := hX0.tr hX13
    exact z_iret hx hb hr hlk hM hX15 hS (zsp h) dX11_counts_26
  · have h := zt h hc7
    refine lv_ldc (v := (-1000000001 : Int32)) hx hb hown (hg _ zw_540) dX11_counts_13 ?_
    refine lv_goto (tgt := 26) hx hb dX11_counts_15 (by decide) ?_
    exact z_iret hx hb hr hlk hM hX0 hS (zsp h) dX11_counts_26
def f_X11_total (n : Nat) (S0 : zM) (a0 : Nat) (v1 : Int32) (v2 : Int32) : Option (Int64 × zM) :=
  zLet (f_X11_within v1 (6 : Int32)) (fun r2 => if r2 = 0 then some (((-4611686018427387904 : Int64), S0)) else zChk (¬ (zr S0 a0 0) = 0) (zLet (f_X11_within v2 (zi S0 (zr S0 a0 0) 5)) (fun r9 => if r9 = 0 then some (((-4611686018427387904 : Int64), S0)) else zB2 (f_X9_addUp n S0 (zr S0 a0 0) v1 (0 : Int32)) (fun r15 S16 => zLet (f_X11_holds r15 v2) (fun r22 => if r22 = 0 then some (((-4611686018427387904 : Int64), S16)) else zChk (¬ (zr S16 a0 0) = 0) (zChk (¬ (zr S16 (zr S16 a0 0) 10) = 0) (zChk (¬ (v2 < 0 ∨ zln S16 (zr S16 (zr S16 a0 0) 10) ≤ (v2).toNatClampNeg)) (some (((zl S16 (zr S16 (zr S16 a0 0) 10) (Int32.toNatClampNeg v2)), S16))))))))))
set_option maxHeartbeats 4000000 in
set_option maxRecDepth 100000 in
theorem c_X11_total (l : Launch) (D : va_G) (cy : Nat → ClassId) (B : Nat) {n : Nat} {S0 : zM} {a0 : Nat} {v1 : Int32} {v2 : Int32} {r : Int64} {S' : zM} (ha0 : zA S0 a0 11) (h : f_X11_total n S0 a0 v1 v2 = some (r, S')) : Met l yX11_total (zws yX11_total cX11_total 4 ((some .long))) { frames := 5, cells := 0, slots := 0, locals := 118 } (zPc D cy B S0 [.ref (B + a0), .int v1, .int v2]) (zQl D cy B S0 r S') 0 0 (fun q => B < q) := by
  refine Met.ofW (cc := cX11_total) (maxL := 4) (ret := ((some .long))) (by decide) rfl ?_
  intro p e s m args below meth c s₁ Bd hml hv
  obtain ⟨rfl, hC, hM⟩ := hv
  obtain ⟨hx, hb, hr, hg, hown, hlk⟩ := z_open Bd
  have hK := hC.1
  have hS : va_S (fun q => B < q) s.heap s.heap [] := va_S.rf
  have hX0 : zX S0 S0 := zX.rf
  refine z_entry (vs := [.ref (B + a0), .int v1, .int v2]) (Nat.le_of_ble_eq_true rfl) (fun ls hl => ?_)
  have hl : lv_has ls 4 [(0, .ref (B + a0)), (1, .int v1), (2, .int v2)] := hl
  unfold f_X11_total at h
  refine lv_iload_n hx hb dX11_total_0 rfl (lv_at hl 1 rfl) ?_
  refine lv_bipush (v := (6 : Int32)) hx hb dX11_total_1 (by decide +kernel) ?_
  obtain ⟨r2, hr1, h⟩ := zlg h
  have hr1 := hr1.symm
  refine z_runi (va_runS (As := [.int v1, .int (6 : Int32)]) (rest := []) ⟨hx, hb, hml, hown, hg⟩ (c_X11_within l D cy B hr1) (z_cwS hg zw_290 zw_291 zw_2 zw_292 zh_X11_within.2 ⟨(Nat.le_of_ble_eq_true rfl), (Nat.le_of_ble_eq_true rfl)⟩) (zPS hC hM) rfl rfl hl.1 rfl (lv_room (Nat.le_of_ble_eq_true rfl)) dX11_total_3 ⟨(Nat.le_of_ble_eq_true rfl), (Nat.le_of_ble_eq_true rfl)⟩) hS (fun H locs hM hX3 hS => ?_)
  refine lv_if_eq (tgt := 23) hx hb dX11_total_6 (by decide) (fun hc5 => ?_) (fun hc5 => ?_)
  · have h := zt h hc5
    refine lv_ldc2 (v := (-4611686018427387904 : Int64)) hx hb hown (hg _ zw_583) dX11_total_23 ?_
    exact z_lret hx hb hr hlk hM hX0 hS (zsp h) dX11_total_26
  · have h := zf h hc5
    refine lv_iload_n hx hb dX11_total_9 rfl (lv_at hl 2 rfl) ?_
    refine lv_aload_n hx hb dX11_total_10 rfl (lv_at hl 0 rfl) ?_
    obtain ⟨hq7, h⟩ := zk h
    refine z_getN hx hb hg zin_11 hown hK hM ha0 0 rfl (by decide) (hg _ zw_267) (fun _ h9 => h9) hq7 dX11_total_11 (fun h6 => ?_)
    refine z_getI hx hb hg zin_9 hown hK hM h6 5 rfl (by decide) (hg _ zw_133) (fun _ h9 => h9) dX11_total_14 ?_
    obtain ⟨r9, hr8, h⟩ := zlg h
    have hr8 := hr8.symm
    refine z_runi (va_runS (As := [.int v2, .int (zi S0 (zr S0 a0 0) 5)]) (rest := []) ⟨hx, hb, hml, hown, hg⟩ (c_X11_within l D cy B hr8) (z_cwS hg zw_290 zw_291 zw_2 zw_292 zh_X11_within.2 ⟨(Nat.le_of_ble_eq_true rfl), (Nat.le_of_ble_eq_true rfl)⟩) (zPS hC hM) rfl rfl hl.1 rfl (lv_room (Nat.le_of_ble_eq_true rfl)) dX11_total_17 ⟨(Nat.le_of_ble_eq_true rfl), (Nat.le_of_ble_eq_true rfl)⟩) hS (fun H locs hM hX10 hS => ?_)
    refine lv_if_ne (tgt := 27) hx hb dX11_total_20 (by decide) (fun hc12 => ?_) (fun hc12 => ?_)
    · have h := zf h hc12
      refine lv_aload_n hx hb dX11_total_27 rfl (lv_at hl 0 rfl) ?_
      refine z_getN hx hb hg zin_11 hown hK hM ha0 0 rfl (by decide) (hg _ zw_267) (fun _ h9 => h9) h6.ne dX11_total_28 (fun h13 => ?_)
      refine lv_iload_n hx hb dX11_total_31 rfl (lv_at hl 1 rfl) ?_
      refine lv_iconst (v := (0 : Int32)) hx hb dX11_total_32 (by decide +kernel) ?_
      obtain ⟨r15, S16, hr14, h⟩ := zb2 h
      refine z_runi (va_runV (As := [.int v1, .int (0 : Int32)]) (rest := []) ⟨hx, hb, hml, hown, hg⟩ (c_X9_addUp l D cy B h13 hr14) (z_cwV hg zw_584 zw_585 zw_586 zw_3 zw_587 zh_X9_addUp ⟨(Nat.le_of_ble_eq_true rfl), (Nat.le_of_ble_eq_true rfl)⟩) (zPV hC hM h13 (by decide) rfl) rfl rfl hl.1 rfl (lv_room (Nat.le_of_ble_eq_true rfl)) dX11_total_33 ⟨(Nat.le_of_ble_eq_true rfl), (Nat.le_of_ble_eq_true rfl)⟩) hS (fun H locs hM hX17 hS => ?_)
      have h19 := ha0.mo hX17
      have hX20 := hX0.tr hX17
      refine lv_istore_n (i := 3) (lv' := [(3, .int r15), (0, .ref (B + a0)), (1, .int v1), (2, .int v2)]) hx hb dX11_total_36 rfl hl (by decide) rfl (fun ls hl => ?_)
      refine lv_iload_n hx hb dX11_total_37 rfl (lv_at hl 0 rfl) ?_
      refine lv_iload_n hx hb dX11_total_38 rfl (lv_at hl 3 rfl) ?_
      obtain ⟨r22, hr21, h⟩ := zlg h
      have hr21 := hr21.symm
      refine z_runi (va_runS (As := [.int r15, .int v2]) (rest := []) ⟨hx, hb, hml, hown, hg⟩ (c_X11_holds l D cy B hr21) (z_cwS hg zw_590 zw_591 zw_2 zw_592 zh_X11_holds.2 ⟨(Nat.le_of_ble_eq_true rfl), (Nat.le_of_ble_eq_true rfl)⟩) (zPS hC hM) rfl rfl hl.1 rfl (lv_room (Nat.le_of_ble_eq_true rfl)) dX11_total_39 ⟨(Nat.le_of_ble_eq_true rfl), (Nat.le_of_ble_eq_true rfl)⟩) hS (fun H locs hM hX23 hS => ?_)
      refine lv_if_eq (tgt := 57) hx hb dX11_total_42 (by decide) (fun hc25 => ?_) (fun hc25 => ?_)
      · have h := zt h hc25
        refine lv_ldc2 (v := (-4611686018427387904 : Int64)) hx hb hown (hg _ zw_583) dX11_total_57 ?_
        exact z_lret hx hb hr hlk hM hX20 hS (zsp h) dX11_total_60
      · have h := zf h hc25
        refine lv_aload_n hx hb dX11_total_45 rfl (lv_at hl 1 rfl) ?_
        obtain ⟨hq27, h⟩ := zk h
        refine z_getN hx hb hg zin_11 hown hK hM h19 0 rfl (by decide) (hg _ zw_267) (fun _ h9 => h9) hq27 dX11_total_46 (fun h26 => ?_)
        obtain ⟨hq29, h⟩ := zk h
        refine z_getN hx hb hg zin_9 hown hK hM h26 10 rfl (by decide) (hg _ zw_144) (fun _ h9 => h9) hq29 dX11_total_49 (fun h28 => ?_)
        refine lv_iload_n hx hb dX11_total_52 rfl (lv_at hl 3 rfl) ?_
        obtain ⟨hq30, h⟩ := zk h
        refine z_lald hx hb hK hM h28 hq30 dX11_total_53 ?_
        refine lv_goto (tgt := 60) hx hb dX11_total_54 (by decide) ?_
        exact z_lret hx hb hr hlk hM hX20 hS (zsp h) dX11_total_60
    · have h := zt h hc12
      refine lv_ldc2 (v := (-4611686018427387904 : Int64)) hx hb hown (hg _ zw_583) dX11_total_23 ?_
      exact z_lret hx hb hr hlk hM hX0 hS (zsp h) dX11_total_26
def f_X11_place (n : Nat) (S0 : zM) (a0 : Nat) (v1 : Int32) (v2 : Int32) : Option (Int32 × zM) :=
  zLet (f_X11_within v1 (6 : Int32)) (fun r2 => if r2 = 0 then some (((-1 : Int32), S0)) else zChk (¬ (zr S0 a0 0) = 0) (zLet (f_X11_within v2 (zi S0 (zr S0 a0 0) 5)) (fun r9 => if r9 = 0 then some (((-1 : Int32), S0)) else zB2 (f_X9_placeOf n S0 (zr S0 a0 0) v1 v2 (0 : Int32)) (fun r15 S16 => some ((r15, S16))))))
set_option maxHeartbeats 4000000 in
set_option maxRecDepth 100000 in
theorem c_X11_place (l : Launch) (D : va_G) (cy : Nat → ClassId) (B : Nat) {n : Nat} {S0 : zM} {a0 : Nat} {v1 : Int32} {v2 : Int32} {r : Int32} {S' : zM} (ha0 : zA S0 a0 11) (h : f_X11_place n S0 a0 v1 v2 = some (r, S')) : Met l yX11_place (zws yX11_place cX11_place 3 ((some .int))) { frames := 6, cells := 0, slots := 0, locals := 144 } (zPc D cy B S0 [.ref (B + a0), .int v1, .int v2]) (zQi D cy B S0 r S') 0 0 (fun q => B < q) := by
  refine Met.ofW (cc := cX11_place) (maxL := 3) (ret := ((some .int))) (by decide) rfl ?_
  intro p e s m args below meth c s₁ Bd hml hv
  obtain ⟨rfl, hC, hM⟩ := hv
  obtain ⟨hx, hb, hr, hg, hown, hlk⟩ := z_open Bd
  have hK := hC.1
  have hS : va_S (fun q => B < q) s.heap s.heap [] := va_S.rf
  have hX0 : zX S0 S0 := zX.rf
  refine z_entry (vs := [.ref (B + a0), .int v1, .int v2]) (Nat.le_of_ble_eq_true rfl) (fun ls hl => ?_)
  have hl : lv_has ls 3 [(0, .ref (B + a0)), (1, .int v1), (2, .int v2)] := hl
  unfold f_X11_place at h
  refine lv_iload_n hx hb dX11_place_0 rfl (lv_at hl 1 rfl) ?_
  refine lv_bipush (v := (6 : Int32)) hx hb dX11_place_1 (by decide +kernel) ?_
  obtain ⟨r2, hr1, h⟩ := zlg h
  have hr1 := hr1.symm
  refine z_runi (va_runS (As := [.int v1, .int (6 : Int32)]) (rest := []) ⟨hx, hb, hml, hown, hg⟩ (c_X11_within l D cy B hr1) (z_cwS hg zw_290 zw_291 zw_2 zw_292 zh_X11_within.2 ⟨(Nat.le_of_ble_eq_true rfl), (Nat.le_of_ble_eq_true rfl)⟩) (zPS hC hM) rfl rfl hl.1 rfl (lv_room (Nat.le_of_ble_eq_true rfl)) dX11_place_3 ⟨(Nat.le_of_ble_eq_true rfl), (Nat.le_of_ble_eq_true rfl)⟩) hS (fun H locs hM hX3 hS => ?_)
  refine lv_if_eq (tgt := 23) hx hb dX11_place_6 (by decide) (fun hc5 => ?_) (fun hc5 => ?_)
  · have h := zt h hc5
    refine lv_iconst (v := (-1 : Int32)) hx hb dX11_place_23 (by decide +kernel) ?_
    exact z_iret hx hb hr hlk hM hX0 hS (zsp h) dX11_place_24
  · have h := zf h hc5
    refine lv_iload_n hx hb dX11_place_9 rfl (lv_at hl 2 rfl) ?_
    refine lv_aload_n hx hb dX11_place_10 rfl (lv_at hl 0 rfl) ?_
    obtain ⟨hq7, h⟩ := zk h
    refine z_getN hx hb hg zin_11 hown hK hM ha0 0 rfl (by decide) (hg _ zw_267) (fun _ h9 => h9) hq7 dX11_place_11 (fun h6 => ?_)
    refine z_getI hx hb hg zin_9 hown hK hM h6 5 rfl (by decide) (hg _ zw_133) (fun _ h9 => h9) dX11_place_14 ?_
    obtain ⟨r9, hr8, h⟩ := zlg h
    have hr8 := hr8.symm
    refine z_runi (va_runS (As := [.int v2, .int (zi S0 (zr S0 a0 0) 5)]) (rest := []) ⟨hx, hb, hml, hown, hg⟩ (c_X11_within l D cy B hr8) (z_cwS hg zw_290 zw_291 zw_2 zw_292 zh_X11_within.2 ⟨(Nat.le_of_ble_eq_true rfl), (Nat.le_of_ble_eq_true rfl)⟩) (zPS hC hM) rfl rfl hl.1 rfl (lv_room (Nat.le_of_ble_eq_true rfl)) dX11_place_17 ⟨(Nat.le_of_ble_eq_true rfl), (Nat.le_of_ble_eq_true rfl)⟩) hS (fun H locs hM hX10 hS => ?_)
    refine lv_if_ne (tgt := 25) hx hb dX11_place_20 (by decide) (fun hc12 => ?_) (fun hc12 => ?_)
    · have h := zf h hc12
      refine lv_aload_n hx hb dX11_place_25 rfl (lv_at hl 0 rfl) ?_
      refine z_getN hx hb hg zin_11 hown hK hM ha0 0 rfl (by decide) (hg _ zw_267) (fun _ h9 => h9) h6.ne dX11_place_26 (fun h13 => ?_)
      refine lv_iload_n hx hb dX11_place_29 rfl (lv_at hl 1 rfl) ?_
      refine lv_iload_n hx hb dX11_place_30 rfl (lv_at hl 2 rfl) ?_
      refine lv_iconst (v := (0 : Int32)) hx hb dX11_place_31 (by decide +kernel) ?_
      obtain ⟨r15, S16, hr14, h⟩ := zb2 h
      refine z_runi (va_runV (As := [.int v1, .int v2, .int (0 : Int32)]) (rest := []) ⟨hx, hb, hml, hown, hg⟩ (c_X9_placeOf l D cy B h13 hr14) (z_cwV hg zw_597 zw_598 zw_599 zw_3 zw_600 zh_X9_placeOf ⟨(Nat.le_of_ble_eq_true rfl), (Nat.le_of_ble_eq_true rfl)⟩) (zPV hC hM h13 (by decide) rfl) rfl rfl hl.1 rfl (lv_room (Nat.le_of_ble_eq_true rfl)) dX11_place_32 ⟨(Nat.le_of_ble_eq_true rfl), (Nat.le_of_ble_eq_true rfl)⟩) hS (fun H locs hM hX17 hS => ?_)
      have hX19 := hX0.tr hX17
      exact z_iret hx hb hr hlk hM hX19 hS (zsp h) dX11_place_35
    · have h := zt h hc12
      refine lv_iconst (v := (-1 : Int32)) hx hb dX11_place_23 (by decide +kernel) ?_
      exact z_iret hx hb hr hlk hM hX0 hS (zsp h) dX11_place_24
def f_X11_won (n : Nat) (S0 : zM) (a0 : Nat) (v1 : Int32) : Option (Int32 × zM) :=
  zLet (f_X11_within v1 (6 : Int32)) (fun r2 => if r2 = 0 then some (((-1 : Int32), S0)) else zChk (¬ (zr S0 a0 0) = 0) (zB2 (f_X9_winner n S0 (zr S0 a0 0) v1) (fun r9 S10 => some ((r9, S10)))))
set_option maxHeartbeats 4000000 in
set_option maxRecDepth 100000 in
theorem c_X11_won (l : Launch) (D : va_G) (cy : Nat → ClassId) (B : Nat) {n : Nat} {S0 : zM} {a0 : Nat} {v1 : Int32} {r : Int32} {S' : zM} (ha0 : zA S0 a0 11) (h : f_X11_won n S0 a0 v1 = some (r, S')) : Met l yX11_won (zws yX11_won cX11_won 2 ((some .int))) { frames := 6, cells := 0, slots := 0, locals := 142 } (zPc D cy B S0 [.ref (B + a0), .int v1]) (zQi D cy B S0 r S') 0 0 (fun q => B < q) := by
  refine Met.ofW (cc := cX11_won) (maxL := 2) (ret := ((some .int))) (by decide) rfl ?_
  intro p e s m args below meth c s₁ Bd hml hv
  obtain ⟨rfl, hC, hM⟩ := hv
  obtain ⟨hx, hb, hr, hg, hown, hlk⟩ := z_open Bd
  have hK := hC.1
  have hS : va_S (fun q => B < q) s.heap s.heap [] := va_S.rf
  have hX0 : zX S0 S0 := zX.rf
  refine z_entry (vs := [.ref (B + a0), .int v1]) (Nat.le_of_ble_eq_true rfl) (fun ls hl => ?_)
  have hl : lv_has ls 2 [(0, .ref (B + a0)), (1, .int v1)] := hl
  unfold f_X11_won at h
  refine lv_iload_n hx hb dX11_won_0 rfl (lv_at hl 1 rfl) ?_
  refine lv_bipush (v := (6 : Int32)) hx hb dX11_won_1 (by decide +kernel) ?_
  obtain ⟨r2, hr1, h⟩ := zlg h
  have hr1 := hr1.symm
  refine z_runi (va_runS (As := [.int v1, .int (6 : Int32)]) (rest := []) ⟨hx, hb, hml, hown, hg⟩ (c_X11_within l D cy B hr1) (z_cwS hg zw_290 zw_291 zw_2 zw_292 zh_X11_within.2 ⟨(Nat.le_of_ble_eq_true rfl), (Nat.le_of_ble_eq_true rfl)⟩) (zPS hC hM) rfl rfl hl.1 rfl (lv_room (Nat.le_of_ble_eq_true rfl)) dX11_won_3 ⟨(Nat.le_of_ble_eq_true rfl), (Nat.le_of_ble_eq_true rfl)⟩) hS (fun H locs hM hX3 hS => ?_)
  refine lv_if_eq (tgt := 20) hx hb dX11_won_6 (by decide) (fun hc5 => ?_) (fun hc5 => ?_)
  · have h := zt h hc5
    refine lv_iconst (v := (-1 : Int32)) hx hb dX11_won_20 (by decide +kernel) ?_
    exact z_iret hx hb hr hlk hM hX0 hS (zsp h) dX11_won_21
  · have h := zf h hc5
    refine lv_aload_n hx hb dX11_won_9 rfl (lv_at hl 0 rfl) ?_
    obtain ⟨hq7, h⟩ := zk h
    refine z_getN hx hb hg zin_11 hown hK hM ha0 0 rfl (by decide) (hg _ zw_267) (fun _ h9 => h9) hq7 dX11_won_10 (fun h6 => ?_)
    refine lv_iload_n hx hb dX11_won_13 rfl (lv_at hl 1 rfl) ?_
    obtain ⟨r9, S10, hr8, h⟩ := zb2 h
    refine z_runi (va_runV (As := [.int v1]) (rest := []) ⟨hx, hb, hml, hown, hg⟩ (c_X9_winner l D cy B h6 hr8) (z_cwV hg zw_607 zw_608 zw_609 zw_3 zw_610 zh_X9_winner ⟨(Nat.le_of_ble_eq_true rfl), (Nat.le_of_ble_eq_true rfl)⟩) (zPV hC hM h6 (by decide) rfl) rfl rfl hl.1 rfl (lv_room (Nat.le_of_ble_eq_true rfl)) dX11_won_14 ⟨(Nat.le_of_ble_eq_true rfl), (Nat.le_of_ble_eq_true rfl)⟩) hS (fun H locs hM hX11 hS => ?_)
    have hX13 := hX0.tr hX11
    refine lv_goto (tgt := 21) hx hb dX11_won_17 (by decide) ?_
    exact z_iret hx hb hr hlk hM hX13 hS (zsp h) dX11_won_21
def f_X11_isSupposable (v0 : Int32) (v1 : Int32) : Option (Int32) :=
  if v0 = (0 : Int32) then zLet (f_X11_within v1 (7 : Int32)) (fun r3 => zChk (r3 = 0 ∨ r3 = 1) (some r3)) else if v0 = (1 : Int32) then zLet (f_X11_within v1 (34 : Int32)) (fun r9 => if r9 = 0 then some (0 : Int32) else if (3 : Int32) < (v1 - v1 / (10 : Int32) * (10 : Int32)) then some (0 : Int32) else some (1 : Int32)) else if v0 = (2 : Int32) then if v1 = 0 then some (1 : Int32) else some (0 : Int32) else some (0 : Int32)
set_option maxHeartbeats 4000000 in
set_option maxRecDepth 100000 in
theorem c_X11_isSupposable (l : Launch) (D : va_G) (cy : Nat → ClassId) (B : Nat) {S0 : zM} {v0 : Int32} {v1 : Int32} {r : Int32}  (h : f_X11_isSupposable v0 v1 = some r) : Met l yX11_isSupposable (zws yX11_isSupposable cX11_isSupposable 2 ((some .boolean))) { frames := 1, cells := 0, slots := 0, locals := 21 } (zPc D cy B S0 [.int v0, .int v1]) (zQi D cy B S0 r S0) 0 0 (fun q => B < q) := by
  refine Met.ofW (cc := cX11_isSupposable) (maxL := 2) (ret := ((some .boolean))) (by decide) rfl ?_
  intro p e s m args below meth c s₁ Bd hml hv
  obtain ⟨rfl, hC, hM⟩ := hv
  obtain ⟨hx, hb, hr, hg, hown, hlk⟩ := z_open Bd
  have hK := hC.1
  have hS : va_S (fun q => B < q) s.heap s.heap [] := va_S.rf
  have hX0 : zX S0 S0 := zX.rf
  refine z_entry (vs := [.int v0, .int v1]) (Nat.le_of_ble_eq_true rfl) (fun ls hl => ?_)
  have hl : lv_has ls 2 [(0, .int v0), (1, .int v1)] := hl
  unfold f_X11_isSupposable at h
  refine lv_iload_n hx hb dX11_isSupposable_0 rfl (lv_at hl 0 rfl) ?_
  by_cases hc1 : v0 = (0 : Int32)
  · refine z_tin (off := 27) hx hb hc1 dX11_isSupposable_1 (by decide +kernel) (tgt := 28) (by decide) ?_
    have h := zt h hc1
    refine lv_iload_n hx hb dX11_isSupposable_28 rfl (lv_at hl 1 rfl) ?_
    refine lv_bipush (v := (7 : Int32)) hx hb dX11_isSupposable_29 (by decide +kernel) ?_
    obtain ⟨r3, hr2, h⟩ := zlg h
    have hr2 := hr2.symm
    refine z_runi (va_runS (As := [.int v1, .int (7 : Int32)]) (rest := []) ⟨hx, hb, hml, hown, hg⟩ (c_X11_within l D cy B hr2) (z_cwS hg zw_290 zw_291 zw_2 zw_292 zh_X11_within.2 ⟨(Nat.le_of_ble_eq_true rfl), (Nat.le_of_ble_eq_true rfl)⟩) (zPS hC hM) rfl rfl hl.1 rfl (lv_room (Nat.le_of_ble_eq_true rfl)) dX11_isSupposable_31 ⟨(Nat.le_of_ble_eq_true rfl), (Nat.le_of_ble_eq_true rfl)⟩) hS (fun H locs hM hX4 hS => ?_)
    obtain ⟨hb6, h⟩ := zk h
    exact z_zret (z_bit hb6).1 hx hb hr hlk hM hX0 hS ⟨zsm h, rfl⟩ dX11_isSupposable_34
  · have h := zf h hc1
    by_cases hc7 : v0 = (1 : Int32)
    · refine z_tin (off := 34) hx hb hc7 dX11_isSupposable_1 (by decide +kernel) (tgt := 35) (by decide) ?_
      have h := zt h hc7
      refine lv_iload_n hx hb dX11_isSupposable_35 rfl (lv_at hl 1 rfl) ?_
      refine lv_bipush (v := (34 : Int32)) hx hb dX11_isSupposable_36 (by decide +kernel) ?_
      obtain ⟨r9, hr8, h⟩ := zlg h
      have hr8 := hr8.symm
      refine z_runi (va_runS (As := [.int v1, .int (34 : Int32)]) (rest := []) ⟨hx, hb, hml, hown, hg⟩ (c_X11_within l D cy B hr8) (z_cwS hg zw_290 zw_291 zw_2 zw_292 zh_X11_within.2 ⟨(Nat.le_of_ble_eq_true rfl), (Nat.le_of_ble_eq_true rfl)⟩) (zPS hC hM) rfl rfl hl.1 rfl (lv_room (Nat.le_of_ble_eq_true rfl)) dX11_isSupposable_38 ⟨(Nat.le_of_ble_eq_true rfl), (Nat.le_of_ble_eq_true rfl)⟩) hS (fun H locs hM hX10 hS => ?_)
      refine lv_if_eq (tgt := 56) hx hb dX11_isSupposable_41 (by decide) (fun hc12 => ?_) (fun hc12 => ?_)
      · have h := zt h hc12
        refine lv_iconst (v := (0 : Int32)) hx hb dX11_isSupposable_56 (by decide +kernel) ?_
        exact z_zret (by decide +kernel) hx hb hr hlk hM hX0 hS ⟨zsm h, rfl⟩ dX11_isSupposable_57
      · have h := zf h hc12
        refine lv_iload_n hx hb dX11_isSupposable_44 rfl (lv_at hl 1 rfl) ?_
        refine lv_bipush (v := (10 : Int32)) hx hb dX11_isSupposable_45 (by decide +kernel) ?_
        refine lv_irem hx hb dX11_isSupposable_47 (by decide +kernel) ?_
        refine lv_iconst (v := (3 : Int32)) hx hb dX11_isSupposable_48 (by decide +kernel) ?_
        refine lv_icmp_gt (tgt := 56) hx hb dX11_isSupposable_49 (by decide) (fun hc13 => ?_) (fun hc13 => ?_)
        · have h := zt h hc13
          refine lv_iconst (v := (0 : Int32)) hx hb dX11_isSupposable_56 (by decide +kernel) ?_
          exact z_zret (by decide +kernel) hx hb hr hlk hM hX0 hS ⟨zsm h, rfl⟩ dX11_isSupposable_57
        · have h := zf h hc13
          refine lv_iconst (v := (1 : Int32)) hx hb dX11_isSupposable_52 (by decide +kernel) ?_
          refine lv_goto (tgt := 57) hx hb dX11_isSupposable_53 (by decide) ?_
          exact z_zret (by decide +kernel) hx hb hr hlk hM hX0 hS ⟨zsm h, rfl⟩ dX11_isSupposable_57
    · have h := zf h hc7
      by_cases hc14 : v0 = (2 : Int32)
      · refine z_tin (off := 57) hx hb hc14 dX11_isSupposable_1 (by decide +kernel) (tgt := 58) (by decide) ?_
        have h := zt h hc14
        refine lv_iload_n hx hb dX11_isSupposable_58 rfl (lv_at hl 1 rfl) ?_
        refine lv_if_ne (tgt := 66) hx hb dX11_isSupposable_59 (by decide) (fun hc15 => ?_) (fun hc15 => ?_)
        · have h := zf h hc15
          refine lv_iconst (v := (0 : Int32)) hx hb dX11_isSupposable_66 (by decide +kernel) ?_
          exact z_zret (by decide +kernel) hx hb hr hlk hM hX0 hS ⟨zsm h, rfl⟩ dX11_isSupposable_67
        · have h := zt h hc15
          refine lv_iconst (v := (1 : Int32)) hx hb dX11_isSupposable_62 (by decide +kernel) ?_
          refine lv_goto (tgt := 67) hx hb dX11_isSupposable_63 (by decide) ?_
          exact z_zret (by decide +kernel) hx hb hr hlk hM hX0 hS ⟨zsm h, rfl⟩ dX11_isSupposable_67
      · have h := zf h hc14
        refine lv_tableOut hx hb dX11_isSupposable_1 (by have := lv_neT hc1 (a := 0) (by decide +kernel); have := lv_neT hc7 (a := 1) (by decide +kernel); have := lv_neT hc14 (a := 2) (by decide +kernel); omega) (tgt := 68) (by decide) ?_
        refine lv_iconst (v := (0 : Int32)) hx hb dX11_isSupposable_68 (by decide +kernel) ?_
        exact z_zret (by decide +kernel) hx hb hr hlk hM hX0 hS ⟨zsm h, rfl⟩ dX11_isSupposable_69
def f_X11_wonIf (n : Nat) (S0 : zM) (a0 : Nat) (v1 : Int32) (v2 : Int32) (v3 : Int32) : Option (Int32 × zM) :=
  zLet (f_X11_within v1 (6 : Int32)) (fun r2 => if r2 = 0 then some (((-1 : Int32), S0)) else zB1 (f_X11_isSupposable v2 v3) (fun r7 => if r7 = 0 then some (((-1 : Int32), S0)) else zChk (¬ (zr S0 a0 2) = 0) (zChk (¬ (zr S0 a0 0) = 0) (zB1 (f_X9_copyFrom n S0 (zr S0 a0 2) (zr S0 a0 0)) (fun S16 => zLet (fun (S22 : zM) => zChk (¬ (zr S22 a0 2) = 0) (zB2 (f_X9_winner n S22 (zr S22 a0 2) v1) (fun r28 S29 => some ((r28, S29))))) (fun K24 => if v2 = (0 : Int32) then zChk (¬ (zr S16 a0 2) = 0) (zB1 (f_X9_takeChairOff n S16 (zr S16 a0 2) v3) (fun S37 => K24 S37)) else if v2 = (1 : Int32) then zChk (¬ (zr S16 a0 2) = 0) (zChk (¬ (zr S16 (zr S16 a0 2) 4) = 0) (zLet (zpI S16 (zr S16 (zr S16 a0 2) 4) 1 (v3 / (10 : Int32))) (fun S47 => zChk (¬ (zr S47 a0 2) = 0) (zChk (¬ (zr S47 (zr S47 a0 2) 4) = 0) (zLet (zpI S47 (zr S47 (zr S47 a0 2) 4) 2 (v3 - v3 / (10 : Int32) * (10 : Int32))) (fun S56 => K24 S56)))))) else zChk (¬ (zr S16 a0 2) = 0) (zB1 (f_X9_takeLeansOff n S16 (zr S16 a0 2)) (fun S64 => K24 S64))))))))
set_option maxHeartbeats 4000000 in
set_option maxRecDepth 100000 in
theorem c_X11_wonIf (l : Launch) (D : va_G) (cy : Nat → ClassId) (B : Nat) {n : Nat} {S0 : zM} {a0 : Nat} {v1 : Int32} {v2 : Int32} {v3 : Int32} {r : Int32} {S' : zM} (ha0 : zA S0 a0 11) (h : f_X11_wonIf n S0 a0 v1 v2 v3 = some (r, S')) : Met l yX11_wonIf (zws yX11_wonIf cX11_wonIf 4 ((some .int))) { frames := 6, cells := 0, slots := 0, locals := 142 } (zPc D cy B S0 [.ref (B + a0), .int v1, .int v2, .int v3]) (zQi D cy B S0 r S') 0 0 (fun q => B < q) := by
  refine Met.ofW (cc := cX11_wonIf) (maxL := 4) (ret := ((some .int))) (by decide) rfl ?_
  intro p e s m args below meth c s₁ Bd hml hv
  obtain ⟨rfl, hC, hM⟩ := hv
  obtain ⟨hx, hb, hr, hg, hown, hlk⟩ := z_open Bd
  have hK := hC.1
  have hS : va_S (fun q => B < q) s.heap s.heap [] := va_S.rf
  have hX0 : zX S0 S0 := zX.rf
  refine z_entry (vs := [.ref (B + a0), .int v1, .int v2, .int v3]) (Nat.le_of_ble_eq_true rfl) (fun ls hl => ?_)
  have hl : lv_has ls 4 [(0, .ref (B + a0)), (1, .int v1), (2, .int v2), (3, .int v3)] := hl
  unfold f_X11_wonIf at h
  refine lv_iload_n hx hb dX11_wonIf_0 rfl (lv_at hl 1 rfl) ?_
  refine lv_bipush (v := (6 : Int32)) hx hb dX11_wonIf_1 (by decide +kernel) ?_
  obtain ⟨r2, hr1, h⟩ := zlg h
  have hr1 := hr1.symm
  refine z_runi (va_runS (As := [.int v1, .int (6 : Int32)]) (rest := []) ⟨hx, hb, hml, hown, hg⟩ (c_X11_within l D cy B hr1) (z_cwS hg zw_290 zw_291 zw_2 zw_292 zh_X11_within.2 ⟨(Nat.le_of_ble_eq_true rfl), (Nat.le_of_ble_eq_true rfl)⟩) (zPS hC hM) rfl rfl hl.1 rfl (lv_room (Nat.le_of_ble_eq_true rfl)) dX11_wonIf_3 ⟨(Nat.le_of_ble_eq_true rfl), (Nat.le_of_ble_eq_true rfl)⟩) hS (fun H locs hM hX3 hS => ?_)
  refine lv_if_eq (tgt := 17) hx hb dX11_wonIf_6 (by decide) (fun hc5 => ?_) (fun hc5 => ?_)
  · have h := zt h hc5
    refine lv_iconst (v := (-1 : Int32)) hx hb dX11_wonIf_17 (by decide +kernel) ?_
    exact z_iret hx hb hr hlk hM hX0 hS (zsp h) dX11_wonIf_18
  · have h := zf h hc5
    refine lv_iload_n hx hb dX11_wonIf_9 rfl (lv_at hl 2 rfl) ?_
    refine lv_iload_n hx hb dX11_wonIf_10 rfl (lv_at hl 3 rfl) ?_
    obtain ⟨r7, hr6, h⟩ := zb1 h
    refine z_runi (va_runS (As := [.int v2, .int v3]) (rest := []) ⟨hx, hb, hml, hown, hg⟩ (c_X11_isSupposable l D cy B hr6) (z_cwS hg zw_615 zw_616 zw_2 zw_617 zh_X11_isSupposable.2 ⟨(Nat.le_of_ble_eq_true rfl), (Nat.le_of_ble_eq_true rfl)⟩) (zPS hC hM) rfl rfl hl.1 rfl (lv_room (Nat.le_of_ble_eq_true rfl)) dX11_wonIf_11 ⟨(Nat.le_of_ble_eq_true rfl), (Nat.le_of_ble_eq_true rfl)⟩) hS (fun H locs hM hX8 hS => ?_)
    refine lv_if_ne (tgt := 19) hx hb dX11_wonIf_14 (by decide) (fun hc10 => ?_) (fun hc10 => ?_)
    · have h := zf h hc10
      refine lv_aload_n hx hb dX11_wonIf_19 rfl (lv_at hl 0 rfl) ?_
      obtain ⟨hq12, h⟩ := zk h
      refine z_getN hx hb hg zin_11 hown hK hM ha0 2 rfl (by decide) (hg _ zw_269) (fun _ h9 => h9) hq12 dX11_wonIf_20 (fun h11 => ?_)
      refine lv_aload_n hx hb dX11_wonIf_23 rfl (lv_at hl 0 rfl) ?_
      obtain ⟨hq14, h⟩ := zk h
      refine z_getN hx hb hg zin_11 hown hK hM ha0 0 rfl (by decide) (hg _ zw_267) (fun _ h9 => h9) hq14 dX11_wonIf_24 (fun h13 => ?_)
      obtain ⟨S16, hr15, h⟩ := zb1 h
      refine z_runv (va_runV (As := [.ref (B + (zr S0 a0 0))]) (rest := []) ⟨hx, hb, hml, hown, hg⟩ (c_X9_copyFrom l D cy B h11 h13 hr15) (z_cwV hg zw_618 zw_619 zw_620 zw_3 zw_621 zh_X9_copyFrom ⟨(Nat.le_of_ble_eq_true rfl), (Nat.le_of_ble_eq_true rfl)⟩) (zPV hC hM h11 (by decide) rfl) rfl rfl hl.1 rfl (lv_room (Nat.le_of_ble_eq_true rfl)) dX11_wonIf_27 ⟨(Nat.le_of_ble_eq_true rfl), (Nat.le_of_ble_eq_true rfl)⟩) hS (fun H locs hM hX17 hS => ?_)
      have h19 := ha0.mo hX17
      have hX20 := hX0.tr hX17
      refine lv_iload_n hx hb dX11_wonIf_30 rfl (lv_at hl 2 rfl) ?_
      obtain ⟨K24, eK24, h⟩ := zlg h
      have hK24 : ∀ (S22 : zM) (H : Heap) (locs : List Loc), zMR D cy B S22 H → zX S0 S22 → va_S (fun q => B < q) s.heap H locs → zA S22 a0 11 → ∀ ls : Array Slot, lv_has ls 4 [(0, .ref (B + a0)), (1, .int v1)] → K24 S22 = some (r, S') → W p l e (headSpec (zws yX11_wonIf cX11_wonIf 4 ((some .int))) { frames := 6, cells := 0, slots := 0, locals := 142 }).room s m (([.ref (B + a0), .int v1, .int v2, .int v3] : List Value).toArray) below meth c H locs 0 0 (MQ below (zQi D cy B S0 r S') (([.ref (B + a0), .int v1, .int v2, .int v3] : List Value).toArray) s 0 0 (fun q => B < q)) (F0 m 105 ls []) := by
        intro S22 H locs hM hX23 hS h21 ls hl h
        rw [eK24] at h
        refine lv_aload_n hx hb dX11_wonIf_105 rfl (lv_at hl 0 rfl) ?_
        obtain ⟨hq26, h⟩ := zk h
        refine z_getN hx hb hg zin_11 hown hK hM h21 2 rfl (by decide) (hg _ zw_269) (fun _ h9 => h9) hq26 dX11_wonIf_106 (fun h25 => ?_)
        refine lv_iload_n hx hb dX11_wonIf_109 rfl (lv_at hl 1 rfl) ?_
        obtain ⟨r28, S29, hr27, h⟩ := zb2 h
        refine z_runi (va_runV (As := [.int v1]) (rest := []) ⟨hx, hb, hml, hown, hg⟩ (c_X9_winner l D cy B h25 hr27) (z_cwV hg zw_607 zw_608 zw_609 zw_3 zw_610 zh_X9_winner ⟨(Nat.le_of_ble_eq_true rfl), (Nat.le_of_ble_eq_true rfl)⟩) (zPV hC hM h25 (by decide) rfl) rfl rfl hl.1 rfl (lv_room (Nat.le_of_ble_eq_true rfl)) dX11_wonIf_110 ⟨(Nat.le_of_ble_eq_true rfl), (Nat.le_of_ble_eq_true rfl)⟩) hS (fun H locs hM hX30 hS => ?_)
        have hX32 := hX23.tr hX30
        exact z_iret hx hb hr hlk hM hX32 hS (zsp h) dX11_wonIf_113
      by_cases hc33 : v2 = (0 : Int32)
      · refine z_lin (off := 25) hx hb hc33 dX11_wonIf_31 (by decide +kernel) (by decide +kernel) (tgt := 56) (by decide) ?_
        have h := zt h hc33
        refine lv_aload_n hx hb dX11_wonIf_56 rfl (lv_at hl 0 rfl) ?_
        obtain ⟨hq35, h⟩ := zk h
        refine z_getN hx hb hg zin_11 hown hK hM h19 2 rfl (by decide) (hg _ zw_269) (fun _ h9 => h9) hq35 dX11_wonIf_57 (fun h34 => ?_)
        refine lv_iload_n hx hb dX11_wonIf_60 rfl (lv_at hl 3 rfl) ?_
        obtain ⟨S37, hr36, h⟩ := zb1 h
        refine z_runv (va_runV (As := [.int v3]) (rest := []) ⟨hx, hb, hml, hown, hg⟩ (c_X9_takeChairOff l D cy B h34 hr36) (z_cwV hg zw_629 zw_630 zw_631 zw_3 zw_632 zh_X9_takeChairOff ⟨(Nat.le_of_ble_eq_true rfl), (Nat.le_of_ble_eq_true rfl)⟩) (zPV hC hM h34 (by decide) rfl) rfl rfl hl.1 rfl (lv_room (Nat.le_of_ble_eq_true rfl)) dX11_wonIf_61 ⟨(Nat.le_of_ble_eq_true rfl), (Nat.le_of_ble_eq_true rfl)⟩) hS (fun H locs hM hX38 hS => ?_)
        have h40 := h19.mo hX38
        have hX41 := hX20.tr hX38
        refine lv_goto (tgt := 105) hx hb dX11_wonIf_64 (by decide) ?_
        exact hK24 S37 _ _ hM hX41 hS h40 _ (lv_sub hl [0, 1] rfl) h
      · have h := zf h hc33
        by_cases hc42 : v2 = (1 : Int32)
        · refine z_lin (off := 36) hx hb hc42 dX11_wonIf_31 (by decide +kernel) (by decide +kernel) (tgt := 67) (by decide) ?_
          have h := zt h hc42
          refine lv_aload_n hx hb dX11_wonIf_67 rfl (lv_at hl 0 rfl) ?_
          obtain ⟨hq44, h⟩ := zk h
          refine z_getN hx hb hg zin_11 hown hK hM h19 2 rfl (by decide) (hg _ zw_269) (fun _ h9 => h9) hq44 dX11_wonIf_68 (fun h43 => ?_)
          obtain ⟨hq46, h⟩ := zk h
          refine z_getN hx hb hg zin_9 hown hK hM h43 4 rfl (by decide) (hg _ zw_131) (fun _ h9 => h9) hq46 dX11_wonIf_71 (fun h45 => ?_)
          refine lv_iload_n hx hb dX11_wonIf_74 rfl (lv_at hl 3 rfl) ?_
          refine lv_bipush (v := (10 : Int32)) hx hb dX11_wonIf_75 (by decide +kernel) ?_
          refine lv_idiv hx hb dX11_wonIf_77 (by decide +kernel) ?_
          refine z_putI hx hb hg zin_6 tyX6 tyX6_ok nmX6 hown hK hM hS h45 1 rfl (by decide) (hg _ zw_52) (fun _ h9 => h9) (Or.inl rfl) (tyX6_ok 1 (by decide)) rfl rfl dX11_wonIf_78 (fun H locs hM hS => ?_)
          obtain ⟨S47, e48, h⟩ := zlg h
          rw [← e48] at hM
          have hX49 : zX S16 S47 := by rw [e48]; exact zX_pI
          have h50 := h19.mo hX49
          have hX51 := hX20.tr hX49
          refine lv_aload_n hx hb dX11_wonIf_81 rfl (lv_at hl 0 rfl) ?_
          obtain ⟨hq53, h⟩ := zk h
          refine z_getN hx hb hg zin_11 hown hK hM h50 2 rfl (by decide) (hg _ zw_269) (fun _ h9 => h9) hq53 dX11_wonIf_82 (fun h52 => ?_)
          obtain ⟨hq55, h⟩ := zk h
          refine z_getN hx hb hg zin_9 hown hK hM h52 4 rfl (by decide) (hg _ zw_131) (fun _ h9 => h9) hq55 dX11_wonIf_85 (fun h54 => ?_)
          refine lv_iload_n hx hb dX11_wonIf_88 rfl (lv_at hl 3 rfl) ?_
          refine lv_bipush (v := (10 : Int32)) hx hb dX11_wonIf_89 (by decide +kernel) ?_
          refine lv_irem hx hb dX11_wonIf_91 (by decide +kernel) ?_
          refine z_putI hx hb hg zin_6 tyX6 tyX6_ok nmX6 hown hK hM hS h54 2 rfl (by decide) (hg _ zw_55) (fun _ h9 => h9) (Or.inl rfl) (tyX6_ok 2 (by decide)) rfl rfl dX11_wonIf_92 (fun H locs hM hS => ?_)
          obtain ⟨S56, e57, h⟩ := zlg h
          rw [← e57] at hM
          have hX58 : zX S47 S56 := by rw [e57]; exact zX_pI
          have h59 := h50.mo hX58
          have hX60 := hX51.tr hX58
          refine lv_goto (tgt := 105) hx hb dX11_wonIf_95 (by decide) ?_
          exact hK24 S56 _ _ hM hX60 hS h59 _ (lv_sub hl [0, 1] rfl) h
        · have h := zf h hc42
          refine lv_lookup hx hb dX11_wonIf_31 (by decide +kernel) (off := 67) (by show Op.lookupswitch.offset [(0, 25), (1, 36)] 67 _ = _; rw [lv_osw hc33 (by decide +kernel), lv_osw hc42 (by decide +kernel)]; rfl) (tgt := 98) (by decide) ?_
          refine lv_aload_n hx hb dX11_wonIf_98 rfl (lv_at hl 0 rfl) ?_
          obtain ⟨hq62, h⟩ := zk h
          refine z_getN hx hb hg zin_11 hown hK hM h19 2 rfl (by decide) (hg _ zw_269) (fun _ h9 => h9) hq62 dX11_wonIf_99 (fun h61 => ?_)
          obtain ⟨S64, hr63, h⟩ := zb1 h
          refine z_runv (va_runV (As := []) (rest := []) ⟨hx, hb, hml, hown, hg⟩ (c_X9_takeLeansOff l D cy B h61 hr63) (z_cwV hg zw_633 zw_634 zw_635 zw_3 zw_636 zh_X9_takeLeansOff ⟨(Nat.le_of_ble_eq_true rfl), (Nat.le_of_ble_eq_true rfl)⟩) (zPV hC hM h61 (by decide) rfl) rfl rfl hl.1 rfl (lv_room (Nat.le_of_ble_eq_true rfl)) dX11_wonIf_102 ⟨(Nat.le_of_ble_eq_true rfl), (Nat.le_of_ble_eq_true rfl)⟩) hS (fun H locs hM hX65 hS => ?_)
          have h67 := h19.mo hX65
          have hX68 := hX20.tr hX65
          exact hK24 S64 _ _ hM hX68 hS h67 _ (lv_sub hl [0, 1] rfl) h
    · have h := zt h hc10
      refine lv_iconst (v := (-1 : Int32)) hx hb dX11_wonIf_17 (by decide +kernel) ?_
      exact z_iret hx hb hr hlk hM hX0 hS (zsp h) dX11_wonIf_18
def f_J6_bitCount_0f7a4 (v0 : Int32) : Int32 :=
  ((((((((v0 - ((((v0).toUInt32 >>> (((1 : Int32)).toUInt32 &&& Int32.toUInt32 31)).toInt32) &&& (1431655765 : Int32))) &&& (858993459 : Int32)) + (((((v0 - ((((v0).toUInt32 >>> (((1 : Int32)).toUInt32 &&& Int32.toUInt32 31)).toInt32) &&& (1431655765 : Int32)))).toUInt32 >>> (((2 : Int32)).toUInt32 &&& Int32.toUInt32 31)).toInt32) &&& (858993459 : Int32))) + ((((((v0 - ((((v0).toUInt32 >>> (((1 : Int32)).toUInt32 &&& Int32.toUInt32 31)).toInt32) &&& (1431655765 : Int32))) &&& (858993459 : Int32)) + (((((v0 - ((((v0).toUInt32 >>> (((1 : Int32)).toUInt32 &&& Int32.toUInt32 31)).toInt32) &&& (1431655765 : Int32)))).toUInt32 >>> (((2 : Int32)).toUInt32 &&& Int32.toUInt32 31)).toInt32) &&& (858993459 : Int32)))).toUInt32 >>> (((4 : Int32)).toUInt32 &&& Int32.toUInt32 31)).toInt32)) &&& (252645135 : Int32)) + ((((((((v0 - ((((v0).toUInt32 >>> (((1 : Int32)).toUInt32 &&& Int32.toUInt32 31)).toInt32) &&& (1431655765 : Int32))) &&& (858993459 : Int32)) + (((((v0 - ((((v0).toUInt32 >>> (((1 : Int32)).toUInt32 &&& Int32.toUInt32 31)).toInt32) &&& (1431655765 : Int32)))).toUInt32 >>> (((2 : Int32)).toUInt32 &&& Int32.toUInt32 31)).toInt32) &&& (858993459 : Int32))) + ((((((v0 - ((((v0).toUInt32 >>> (((1 : Int32)).toUInt32 &&& Int32.toUInt32 31)).toInt32) &&& (1431655765 : Int32))) &&& (858993459 : Int32)) + (((((v0 - ((((v0).toUInt32 >>> (((1 : Int32)).toUInt32 &&& Int32.toUInt32 31)).toInt32) &&& (1431655765 : Int32)))).toUInt32 >>> (((2 : Int32)).toUInt32 &&& Int32.toUInt32 31)).toInt32) &&& (858993459 : Int32)))).toUInt32 >>> (((4 : Int32)).toUInt32 &&& Int32.toUInt32 31)).toInt32)) &&& (252645135 : Int32))).toUInt32 >>> (((8 : Int32)).toUInt32 &&& Int32.toUInt32 31)).toInt32)) + (((((((((v0 - ((((v0).toUInt32 >>> (((1 : Int32)).toUInt32 &&& Int32.toUInt32 31)).toInt32) &&& (1431655765 : Int32))) &&& (858993459 : Int32)) + (((((v0 - ((((v0).toUInt32 >>> (((1 : Int32)).toUInt32 &&& Int32.toUInt32 31)).toInt32) &&& (1431655765 : Int32)))).toUInt32 >>> (((2 : Int32)).toUInt32 &&& Int32.toUInt32 31)).toInt32) &&& (858993459 : Int32))) + ((((((v0 - ((((v0).toUInt32 >>> (((1 : Int32)).toUInt32 &&& Int32.toUInt32 31)).toInt32) &&& (1431655765 : Int32))) &&& (858993459 : Int32)) + (((((v0 - ((((v0).toUInt32 >>> (((1 : Int32)).toUInt32 &&& Int32.toUInt32 31)).toInt32) &&& (1431655765 : Int32)))).toUInt32 >>> (((2 : Int32)).toUInt32 &&& Int32.toUInt32 31)).toInt32) &&& (858993459 : Int32)))).toUInt32 >>> (((4 : Int32)).toUInt32 &&& Int32.toUInt32 31)).toInt32)) &&& (252645135 : Int32)) + ((((((((v0 - ((((v0).toUInt32 >>> (((1 : Int32)).toUInt32 &&& Int32.toUInt32 31)).toInt32) &&& (1431655765 : Int32))) &&& (858993459 : Int32)) + (((((v0 - ((((v0).toUInt32 >>> (((1 : Int32)).toUInt32 &&& Int32.toUInt32 31)).toInt32) &&& (1431655765 : Int32)))).toUInt32 >>> (((2 : Int32)).toUInt32 &&& Int32.toUInt32 31)).toInt32) &&& (858993459 : Int32))) + ((((((v0 - ((((v0).toUInt32 >>> (((1 : Int32)).toUInt32 &&& Int32.toUInt32 31)).toInt32) &&& (1431655765 : Int32))) &&& (858993459 : Int32)) + (((((v0 - ((((v0).toUInt32 >>> (((1 : Int32)).toUInt32 &&& Int32.toUInt32 31)).toInt32) &&& (1431655765 : Int32)))).toUInt32 >>> (((2 : Int32)).toUInt32 &&& Int32.toUInt32 31)).toInt32) &&& (858993459 : Int32)))).toUInt32 >>> (((4 : Int32)).toUInt32 &&& Int32.toUInt32 31)).toInt32)) &&& (252645135 : Int32))).toUInt32 >>> (((8 : Int32)).toUInt32 &&& Int32.toUInt32 31)).toInt32))).toUInt32 >>> (((16 : Int32)).toUInt32 &&& Int32.toUInt32 31)).toInt32)) &&& (63 : Int32))
set_option maxHeartbeats 4000000 in
set_option maxRecDepth 100000 in
theorem c_J6_bitCount_0f7a4 (l : Launch) (D : va_G) (cy : Nat → ClassId) (B : Nat) {S0 : zM} {v0 : Int32} {r : Int32}  (h : f_J6_bitCount_0f7a4 v0 = r) : Met l yJ6_bitCount_0f7a4 (zws yJ6_bitCount_0f7a4 cJ6_bitCount_0f7a4 1 ((some .int))) { frames := 0, cells := 0, slots := 0, locals := 0 } (zPc D cy B S0 [.int v0]) (zQi D cy B S0 r S0) 0 0 (fun q => B < q) := by
  refine Met.ofW (cc := cJ6_bitCount_0f7a4) (maxL := 1) (ret := ((some .int))) (by decide) rfl ?_
  intro p e s m args below meth c s₁ Bd hml hv
  obtain ⟨rfl, hC, hM⟩ := hv
  obtain ⟨hx, hb, hr, hg, hown, hlk⟩ := z_open Bd
  have hK := hC.1
  have hS : va_S (fun q => B < q) s.heap s.heap [] := va_S.rf
  have hX0 : zX S0 S0 := zX.rf
  refine z_entry (vs := [.int v0]) (Nat.le_of_ble_eq_true rfl) (fun ls hl => ?_)
  have hl : lv_has ls 1 [(0, .int v0)] := hl
  unfold f_J6_bitCount_0f7a4 at h
  refine lv_iload_n hx hb dJ6_bitCount_0f7a4_0 rfl (lv_at hl 0 rfl) ?_
  refine lv_iload_n hx hb dJ6_bitCount_0f7a4_1 rfl (lv_at hl 0 rfl) ?_
  refine lv_iconst (v := (1 : Int32)) hx hb dJ6_bitCount_0f7a4_2 (by decide +kernel) ?_
  refine lv_iushr hx hb dJ6_bitCount_0f7a4_3 rfl ?_
  refine lv_ldcw (v := (1431655765 : Int32)) hx hb hown (hg _ zw_646) dJ6_bitCount_0f7a4_4 ?_
  refine lv_iand hx hb dJ6_bitCount_0f7a4_7 ?_
  refine lv_isub hx hb dJ6_bitCount_0f7a4_8 ?_
  refine lv_istore_n (i := 0) (lv' := [(0, .int (v0 - ((((v0).toUInt32 >>> (((1 : Int32)).toUInt32 &&& Int32.toUInt32 31)).toInt32) &&& (1431655765 : Int32))))]) hx hb dJ6_bitCount_0f7a4_9 rfl hl (by decide) rfl (fun ls hl => ?_)
  refine lv_iload_n hx hb dJ6_bitCount_0f7a4_10 rfl (lv_at hl 0 rfl) ?_
  refine lv_ldcw (v := (858993459 : Int32)) hx hb hown (hg _ zw_647) dJ6_bitCount_0f7a4_11 ?_
  refine lv_iand hx hb dJ6_bitCount_0f7a4_14 ?_
  refine lv_iload_n hx hb dJ6_bitCount_0f7a4_15 rfl (lv_at hl 0 rfl) ?_
  refine lv_iconst (v := (2 : Int32)) hx hb dJ6_bitCount_0f7a4_16 (by decide +kernel) ?_
  refine lv_iushr hx hb dJ6_bitCount_0f7a4_17 rfl ?_
  refine lv_ldcw (v := (858993459 : Int32)) hx hb hown (hg _ zw_647) dJ6_bitCount_0f7a4_18 ?_
  refine lv_iand hx hb dJ6_bitCount_0f7a4_21 ?_
  refine lv_iadd hx hb dJ6_bitCount_0f7a4_22 ?_
  refine lv_istore_n (i := 0) (lv' := [(0, .int (((v0 - ((((v0).toUInt32 >>> (((1 : Int32)).toUInt32 &&& Int32.toUInt32 31)).toInt32) &&& (1431655765 : Int32))) &&& (858993459 : Int32)) + (((((v0 - ((((v0).toUInt32 >>> (((1 : Int32)).toUInt32 &&& Int32.toUInt32 31)).toInt32) &&& (1431655765 : Int32)))).toUInt32 >>> (((2 : Int32)).toUInt32 &&& Int32.toUInt32 31)).toInt32) &&& (858993459 : Int32))))]) hx hb dJ6_bitCount_0f7a4_23 rfl hl (by decide) rfl (fun ls hl => ?_)
  refine lv_iload_n hx hb dJ6_bitCount_0f7a4_24 rfl (lv_at hl 0 rfl) ?_
  refine lv_iload_n hx hb dJ6_bitCount_0f7a4_25 rfl (lv_at hl 0 rfl) ?_
  refine lv_iconst (v := (4 : Int32)) hx hb dJ6_bitCount_0f7a4_26 (by decide +kernel) ?_
  refine lv_iushr hx hb dJ6_bitCount_0f7a4_27 rfl ?_
  refine lv_iadd hx hb dJ6_bitCount_0f7a4_28 ?_
  refine lv_ldcw (v := (252645135 : Int32)) hx hb hown (hg _ zw_648) dJ6_bitCount_0f7a4_29 ?_
  refine lv_iand hx hb dJ6_bitCount_0f7a4_32 ?_
  refine lv_istore_n (i := 0) (lv' := [(0, .int (((((v0 - ((((v0).toUInt32 >>> (((1 : Int32)).toUInt32 &&& Int32.toUInt32 31)).toInt32) &&& (1431655765 : Int32))) &&& (858993459 : Int32)) + (((((v0 - ((((v0).toUInt32 >>> (((1 : Int32)).toUInt32 &&& Int32.toUInt32 31)).toInt32) &&& (1431655765 : Int32)))).toUInt32 >>> (((2 : Int32)).toUInt32 &&& Int32.toUInt32 31)).toInt32) &&& (858993459 : Int32))) + ((((((v0 - ((((v0).toUInt32 >>> (((1 : Int32)).toUInt32 &&& Int32.toUInt32 31)).toInt32) &&& (1431655765 : Int32))) &&& (858993459 : Int32)) + (((((v0 - ((((v0).toUInt32 >>> (((1 : Int32)).toUInt32 &&& Int32.toUInt32 31)).toInt32) &&& (1431655765 : Int32)))).toUInt32 >>> (((2 : Int32)).toUInt32 &&& Int32.toUInt32 31)).toInt32) &&& (858993459 : Int32)))).toUInt32 >>> (((4 : Int32)).toUInt32 &&& Int32.toUInt32 31)).toInt32)) &&& (252645135 : Int32)))]) hx hb dJ6_bitCount_0f7a4_33 rfl hl (by decide) rfl (fun ls hl => ?_)
  refine lv_iload_n hx hb dJ6_bitCount_0f7a4_34 rfl (lv_at hl 0 rfl) ?_
  refine lv_iload_n hx hb dJ6_bitCount_0f7a4_35 rfl (lv_at hl 0 rfl) ?_
  refine lv_bipush (v := (8 : Int32)) hx hb dJ6_bitCount_0f7a4_36 (by decide +kernel) ?_
  refine lv_iushr hx hb dJ6_bitCount_0f7a4_38 rfl ?_
  refine lv_iadd hx hb dJ6_bitCount_0f7a4_39 ?_
  refine lv_istore_n (i := 0) (lv' := [(0, .int ((((((v0 - ((((v0).toUInt32 >>> (((1 : Int32)).toUInt32 &&& Int32.toUInt32 31)).toInt32) &&& (1431655765 : Int32))) &&& (858993459 : Int32)) + (((((v0 - ((((v0).toUInt32 >>> (((1 : Int32)).toUInt32 &&& Int32.toUInt32 31)).toInt32) &&& (1431655765 : Int32)))).toUInt32 >>> (((2 : Int32)).toUInt32 &&& Int32.toUInt32 31)).toInt32) &&& (858993459 : Int32))) + ((((((v0 - ((((v0).toUInt32 >>> (((1 : Int32)).toUInt32 &&& Int32.toUInt32 31)).toInt32) &&& (1431655765 : Int32))) &&& (858993459 : Int32)) + (((((v0 - ((((v0).toUInt32 >>> (((1 : Int32)).toUInt32 &&& Int32.toUInt32 31)).toInt32) &&& (1431655765 : Int32)))).toUInt32 >>> (((2 : Int32)).toUInt32 &&& Int32.toUInt32 31)).toInt32) &&& (858993459 : Int32)))).toUInt32 >>> (((4 : Int32)).toUInt32 &&& Int32.toUInt32 31)).toInt32)) &&& (252645135 : Int32)) + ((((((((v0 - ((((v0).toUInt32 >>> (((1 : Int32)).toUInt32 &&& Int32.toUInt32 31)).toInt32) &&& (1431655765 : Int32))) &&& (858993459 : Int32)) + (((((v0 - ((((v0).toUInt32 >>> (((1 : Int32)).toUInt32 &&& Int32.toUInt32 31)).toInt32) &&& (1431655765 : Int32)))).toUInt32 >>> (((2 : Int32)).toUInt32 &&& Int32.toUInt32 31)).toInt32) &&& (858993459 : Int32))) + ((((((v0 - ((((v0).toUInt32 >>> (((1 : Int32)).toUInt32 &&& Int32.toUInt32 31)).toInt32) &&& (1431655765 : Int32))) &&& (858993459 : Int32)) + (((((v0 - ((((v0).toUInt32 >>> (((1 : Int32)).toUInt32 &&& Int32.toUInt32 31)).toInt32) &&& (1431655765 : Int32)))).toUInt32 >>> (((2 : Int32)).toUInt32 &&& Int32.toUInt32 31)).toInt32) &&& (858993459 : Int32)))).toUInt32 >>> (((4 : Int32)).toUInt32 &&& Int32.toUInt32 31)).toInt32)) &&& (252645135 : Int32))).toUInt32 >>> (((8 : Int32)).toUInt32 &&& Int32.toUInt32 31)).toInt32)))]) hx hb dJ6_bitCount_0f7a4_40 rfl hl (by decide) rfl (fun ls hl => ?_)
  refine lv_iload_n hx hb dJ6_bitCount_0f7a4_41 rfl (lv_at hl 0 rfl) ?_
  refine lv_iload_n hx hb dJ6_bitCount_0f7a4_42 rfl (lv_at hl 0 rfl) ?_
  refine lv_bipush (v := (16 : Int32)) hx hb dJ6_bitCount_0f7a4_43 (by decide +kernel) ?_
  refine lv_iushr hx hb dJ6_bitCount_0f7a4_45 rfl ?_
  refine lv_iadd hx hb dJ6_bitCount_0f7a4_46 ?_
  refine lv_istore_n (i := 0) (lv' := [(0, .int (((((((v0 - ((((v0).toUInt32 >>> (((1 : Int32)).toUInt32 &&& Int32.toUInt32 31)).toInt32) &&& (1431655765 : Int32))) &&& (858993459 : Int32)) + (((((v0 - ((((v0).toUInt32 >>> (((1 : Int32)).toUInt32 &&& Int32.toUInt32 31)).toInt32) &&& (1431655765 : Int32)))).toUInt32 >>> (((2 : Int32)).toUInt32 &&& Int32.toUInt32 31)).toInt32) &&& (858993459 : Int32))) + ((((((v0 - ((((v0).toUInt32 >>> (((1 : Int32)).toUInt32 &&& Int32.toUInt32 31)).toInt32) &&& (1431655765 : Int32))) &&& (858993459 : Int32)) + (((((v0 - ((((v0).toUInt32 >>> (((1 : Int32)).toUInt32 &&& Int32.toUInt32 31)).toInt32) &&& (1431655765 : Int32)))).toUInt32 >>> (((2 : Int32)).toUInt32 &&& Int32.toUInt32 31)).toInt32) &&& (858993459 : Int32)))).toUInt32 >>> (((4 : Int32)).toUInt32 &&& Int32.toUInt32 31)).toInt32)) &&& (252645135 : Int32)) + ((((((((v0 - ((((v0).toUInt32 >>> (((1 : Int32)).toUInt32 &&& Int32.toUInt32 31)).toInt32) &&& (1431655765 : Int32))) &&& (858993459 : Int32)) + (((((v0 - ((((v0).toUInt32 >>> (((1 : Int32)).toUInt32 &&& Int32.toUInt32 31)).toInt32) &&& (1431655765 : Int32)))).toUInt32 >>> (((2 : Int32)).toUInt32 &&& Int32.toUInt32 31)).toInt32) &&& (858993459 : Int32))) + ((((((v0 - ((((v0).toUInt32 >>> (((1 : Int32)).toUInt32 &&& Int32.toUInt32 31)).toInt32) &&& (1431655765 : Int32))) &&& (858993459 : Int32)) + (((((v0 - ((((v0).toUInt32 >>> (((1 : Int32)).toUInt32 &&& Int32.toUInt32 31)).toInt32) &&& (1431655765 : Int32)))).toUInt32 >>> (((2 : Int32)).toUInt32 &&& Int32.toUInt32 31)).toInt32) &&& (858993459 : Int32)))).toUInt32 >>> (((4 : Int32)).toUInt32 &&& Int32.toUInt32 31)).toInt32)) &&& (252645135 : Int32))).toUInt32 >>> (((8 : Int32)).toUInt32 &&& Int32.toUInt32 31)).toInt32)) + (((((((((v0 - ((((v0).toUInt32 >>> (((1 : Int32)).toUInt32 &&& Int32.toUInt32 31)).toInt32) &&& (1431655765 : Int32))) &&& (858993459 : Int32)) + (((((v0 - ((((v0).toUInt32 >>> (((1 : Int32)).toUInt32 &&& Int32.toUInt32 31)).toInt32) &&& (1431655765 : Int32)))).toUInt32 >>> (((2 : Int32)).toUInt32 &&& Int32.toUInt32 31)).toInt32) &&& (858993459 : Int32))) + ((((((v0 - ((((v0).toUInt32 >>> (((1 : Int32)).toUInt32 &&& Int32.toUInt32 31)).toInt32) &&& (1431655765 : Int32))) &&& (858993459 : Int32)) + (((((v0 - ((((v0).toUInt32 >>> (((1 : Int32)).toUInt32 &&& Int32.toUInt32 31)).toInt32) &&& (1431655765 : Int32)))).toUInt32 >>> (((2 : Int32)).toUInt32 &&& Int32.toUInt32 31)).toInt32) &&& (858993459 : Int32)))).toUInt32 >>> (((4 : Int32)).toUInt32 &&& Int32.toUInt32 31)).toInt32)) &&& (252645135 : Int32)) + ((((((((v0 - ((((v0).toUInt32 >>> (((1 : Int32)).toUInt32 &&& Int32.toUInt32 31)).toInt32) &&& (1431655765 : Int32))) &&& (858993459 : Int32)) + (((((v0 - ((((v0).toUInt32 >>> (((1 : Int32)).toUInt32 &&& Int32.toUInt32 31)).toInt32) &&& (1431655765 : Int32)))).toUInt32 >>> (((2 : Int32)).toUInt32 &&& Int32.toUInt32 31)).toInt32) &&& (858993459 : Int32))) + ((((((v0 - ((((v0).toUInt32 >>> (((1 : Int32)).toUInt32 &&& Int32.toUInt32 31)).toInt32) &&& (1431655765 : Int32))) &&& (858993459 : Int32)) + (((((v0 - ((((v0).toUInt32 >>> (((1 : Int32)).toUInt32 &&& Int32.toUInt32 31)).toInt32) &&& (1431655765 : Int32)))).toUInt32 >>> (((2 : Int32)).toUInt32 &&& Int32.toUInt32 31)).toInt32) &&& (858993459 : Int32)))).toUInt32 >>> (((4 : Int32)).toUInt32 &&& Int32.toUInt32 31)).toInt32)) &&& (252645135 : Int32))).toUInt32 >>> (((8 : Int32)).toUInt32 &&& Int32.toUInt32 31)).toInt32))).toUInt32 >>> (((16 : Int32)).toUInt32 &&& Int32.toUInt32 31)).toInt32)))]) hx hb dJ6_bitCount_0f7a4_47 rfl hl (by decide) rfl (fun ls hl => ?_)
  refine lv_iload_n hx hb dJ6_bitCount_0f7a4_48 rfl (lv_at hl 0 rfl) ?_
  refine lv_bipush (v := (63 : Int32)) hx hb dJ6_bitCount_0f7a4_49 (by decide +kernel) ?_
  refine lv_iand hx hb dJ6_bitCount_0f7a4_51 ?_
  exact z_iret hx hb hr hlk hM hX0 hS ⟨h, rfl⟩ dJ6_bitCount_0f7a4_52
def f_X11_placeMovedBy (n : Nat) (S0 : zM) (a0 : Nat) (v1 : Int32) (v2 : Int32) (v3 : Int32) : Option (Int32 × zM) :=
  zChk (¬ (zr S0 a0 2) = 0) (zChk (¬ (zr S0 a0 0) = 0) (zB1 (f_X9_copyFrom n S0 (zr S0 a0 2) (zr S0 a0 0)) (fun S6 => zChk (¬ (zr S6 a0 2) = 0) (zB1 (f_X9_moveUp n S6 (zr S6 a0 2) v1 v2 v3) (fun S14 => zChk (¬ (zr S14 a0 2) = 0) (zB2 (f_X9_placeOf n S14 (zr S14 a0 2) v1 v2 (0 : Int32)) (fun r22 S23 => some ((r22, S23)))))))))
set_option maxHeartbeats 4000000 in
set_option maxRecDepth 100000 in
theorem c_X11_placeMovedBy (l : Launch) (D : va_G) (cy : Nat → ClassId) (B : Nat) {n : Nat} {S0 : zM} {a0 : Nat} {v1 : Int32} {v2 : Int32} {v3 : Int32} {r : Int32} {S' : zM} (ha0 : zA S0 a0 11) (h : f_X11_placeMovedBy n S0 a0 v1 v2 v3 = some (r, S')) : Met l yX11_placeMovedBy (zws yX11_placeMovedBy cX11_placeMovedBy 4 ((some .int))) { frames := 6, cells := 0, slots := 0, locals := 144 } (zPc D cy B S0 [.ref (B + a0), .int v1, .int v2, .int v3]) (zQi D cy B S0 r S') 0 0 (fun q => B < q) := by
  refine Met.ofW (cc := cX11_placeMovedBy) (maxL := 4) (ret := ((some .int))) (by decide) rfl ?_
  intro p e s m args below meth c s₁ Bd hml hv
  obtain ⟨rfl, hC, hM⟩ := hv
  obtain ⟨hx, hb, hr, hg, hown, hlk⟩ := z_open Bd
  have hK := hC.1
  have hS : va_S (fun q => B < q) s.heap s.heap [] := va_S.rf
  have hX0 : zX S0 S0 := zX.rf
  refine z_entry (vs := [.ref (B + a0), .int v1, .int v2, .int v3]) (Nat.le_of_ble_eq_true rfl) (fun ls hl => ?_)
  have hl : lv_has ls 4 [(0, .ref (B + a0)), (1, .int v1), (2, .int v2), (3, .int v3)] := hl
  unfold f_X11_placeMovedBy at h
  refine lv_aload_n hx hb dX11_placeMovedBy_0 rfl (lv_at hl 0 rfl) ?_
  obtain ⟨hq2, h⟩ := zk h
  refine z_getN hx hb hg zin_11 hown hK hM ha0 2 rfl (by decide) (hg _ zw_269) (fun _ h9 => h9) hq2 dX11_placeMovedBy_1 (fun h1 => ?_)
  refine lv_aload_n hx hb dX11_placeMovedBy_4 rfl (lv_at hl 0 rfl) ?_
  obtain ⟨hq4, h⟩ := zk h
  refine z_getN hx hb hg zin_11 hown hK hM ha0 0 rfl (by decide) (hg _ zw_267) (fun _ h9 => h9) hq4 dX11_placeMovedBy_5 (fun h3 => ?_)
  obtain ⟨S6, hr5, h⟩ := zb1 h
  refine z_runv (va_runV (As := [.ref (B + (zr S0 a0 0))]) (rest := []) ⟨hx, hb, hml, hown, hg⟩ (c_X9_copyFrom l D cy B h1 h3 hr5) (z_cwV hg zw_618 zw_619 zw_620 zw_3 zw_621 zh_X9_copyFrom ⟨(Nat.le_of_ble_eq_true rfl), (Nat.le_of_ble_eq_true rfl)⟩) (zPV hC hM h1 (by decide) rfl) rfl rfl hl.1 rfl (lv_room (Nat.le_of_ble_eq_true rfl)) dX11_placeMovedBy_8 ⟨(Nat.le_of_ble_eq_true rfl), (Nat.le_of_ble_eq_true rfl)⟩) hS (fun H locs hM hX7 hS => ?_)
  have h9 := ha0.mo hX7
  have hX10 := hX0.tr hX7
  refine lv_aload_n hx hb dX11_placeMovedBy_11 rfl (lv_at hl 0 rfl) ?_
  obtain ⟨hq12, h⟩ := zk h
  refine z_getN hx hb hg zin_11 hown hK hM h9 2 rfl (by decide) (hg _ zw_269) (fun _ h9 => h9) hq12 dX11_placeMovedBy_12 (fun h11 => ?_)
  refine lv_iload_n hx hb dX11_placeMovedBy_15 rfl (lv_at hl 1 rfl) ?_
  refine lv_iload_n hx hb dX11_placeMovedBy_16 rfl (lv_at hl 2 rfl) ?_
  refine lv_iload_n hx hb dX11_placeMovedBy_17 rfl (lv_at hl 3 rfl) ?_
  obtain ⟨S14, hr13, h⟩ := zb1 h
  refine z_runv (va_runV (As := [.int v1, .int v2, .int v3]) (rest := []) ⟨hx, hb, hml, hown, hg⟩ (c_X9_moveUp l D cy B h11 hr13) (z_cwV hg zw_652 zw_653 zw_654 zw_3 zw_655 zh_X9_moveUp ⟨(Nat.le_of_ble_eq_true rfl), (Nat.le_of_ble_eq_true rfl)⟩) (zPV hC hM h11 (by decide) rfl) rfl rfl hl.1 rfl (lv_room (Nat.le_of_ble_eq_true rfl)) dX11_placeMovedBy_18 ⟨(Nat.le_of_ble_eq_true rfl), (Nat.le_of_ble_eq_true rfl)⟩) hS (fun H locs hM hX15 hS => ?_)
  have h17 := h9.mo hX15
  have hX18 := hX10.tr hX15
  refine lv_aload_n hx hb dX11_placeMovedBy_21 rfl (lv_at hl 0 rfl) ?_
  obtain ⟨hq20, h⟩ := zk h
  refine z_getN hx hb hg zin_11 hown hK hM h17 2 rfl (by decide) (hg _ zw_269) (fun _ h9 => h9) hq20 dX11_placeMovedBy_22 (fun h19 => ?_)
  refine lv_iload_n hx hb dX11_placeMovedBy_25 rfl (lv_at hl 1 rfl) ?_
  refine lv_iload_n hx hb dX11_placeMovedBy_26 rfl (lv_at hl 2 rfl) ?_
  refine lv_iconst (v := (0 : Int32)) hx hb dX11_placeMovedBy_27 (by decide +kernel) ?_
  obtain ⟨r22, S23, hr21, h⟩ := zb2 h
  refine z_runi (va_runV (As := [.int v1, .int v2, .int (0 : Int32)]) (rest := []) ⟨hx, hb, hml, hown, hg⟩ (c_X9_placeOf l D cy B h19 hr21) (z_cwV hg zw_597 zw_598 zw_599 zw_3 zw_600 zh_X9_placeOf ⟨(Nat.le_of_ble_eq_true rfl), (Nat.le_of_ble_eq_true rfl)⟩) (zPV hC hM h19 (by decide) rfl) rfl rfl hl.1 rfl (lv_room (Nat.le_of_ble_eq_true rfl)) dX11_placeMovedBy_28 ⟨(Nat.le_of_ble_eq_true rfl), (Nat.le_of_ble_eq_true rfl)⟩) hS (fun H locs hM hX24 hS => ?_)
  have hX26 := hX18.tr hX24
  exact z_iret hx hb hr hlk hM hX26 hS (zsp h) dX11_placeMovedBy_31
def f_X11_moved_L55b (n : Nat) (a0 : Nat) (v1 : Int32) (v2 : Int32) (v3 : Int32) (K24 : Int32 → Int32 → zM → Option (Int32 × zM)) (rec55 : Int32 → Int32 → Int32 → zM → Option (Int32 × zM)) (x27 : Int32) (x28 : Int32) (x29 : Int32) (S30 : zM) : Option (Int32 × zM) :=
  if (128 : Int32) ≤ x29 then K24 x27 x28 S30 else zLet (f_J6_bitCount_0f7a4 x29) (fun r34 => if r34 = v3 then zB2 (f_X11_placeMovedBy n S30 a0 v1 v2 x29) (fun r39 S40 => zLet (if 0 ≤ r39 then rec55 r39 x29 (x29 + (1 : Int32)) S40 else rec55 r39 (-4 : Int32) (x29 + (1 : Int32)) S40) (fun K47 => if x27 < 0 then K47 else if x27 ≤ r39 then rec55 x27 x28 (x29 + (1 : Int32)) S40 else K47)) else rec55 x27 x28 (x29 + (1 : Int32)) S30)
def f_X11_moved_L55 (n : Nat) (a0 : Nat) (v1 : Int32) (v2 : Int32) (v3 : Int32) (K24 : Int32 → Int32 → zM → Option (Int32 × zM)) : Nat → Int32 → Int32 → Int32 → zM → Option (Int32 × zM)
  | 0 => fun _ _ _ _ => none
  | k + 1 => fun x27 x28 x29 S30 => f_X11_moved_L55b n a0 v1 v2 v3 K24 (f_X11_moved_L55 n a0 v1 v2 v3 K24 k) x27 x28 x29 S30
def f_X11_moved (n : Nat) (S0 : zM) (a0 : Nat) (v1 : Int32) (v2 : Int32) (v3 : Int32) (v4 : Int32) : Option (Int32 × zM) :=
  zLet (f_X11_within v1 (6 : Int32)) (fun r2 => if r2 = 0 then some (((-1 : Int32), S0)) else zChk (¬ (zr S0 a0 0) = 0) (zLet (f_X11_within v2 (zi S0 (zr S0 a0 0) 5)) (fun r9 => if r9 = 0 then some (((-1 : Int32), S0)) else if v3 < (1 : Int32) then some (((-1 : Int32), S0)) else if (3 : Int32) < v3 then some (((-1 : Int32), S0)) else zLet (f_X11_within v4 (2 : Int32)) (fun r16 => if r16 = 0 then some (((-1 : Int32), S0)) else zLet (fun (x20 : Int32) (x21 : Int32) (S22 : zM) => if v4 = 0 then some ((x20, S22)) else some ((x21, S22))) (fun K24 => f_X11_moved_L55 n a0 v1 v2 v3 K24 n (-4 : Int32) (-4 : Int32) (0 : Int32) S0)))))
set_option maxHeartbeats 4000000 in
set_option maxRecDepth 100000 in
theorem c_X11_moved (l : Launch) (D : va_G) (cy : Nat → ClassId) (B : Nat) {n : Nat} {S0 : zM} {a0 : Nat} {v1 : Int32} {v2 : Int32} {v3 : Int32} {v4 : Int32} {r : Int32} {S' : zM} (ha0 : zA S0 a0 11) (h : f_X11_moved n S0 a0 v1 v2 v3 v4 = some (r, S')) : Met l yX11_moved (zws yX11_moved cX11_moved 9 ((some .int))) { frames := 7, cells := 0, slots := 0, locals := 167 } (zPc D cy B S0 [.ref (B + a0), .int v1, .int v2, .int v3, .int v4]) (zQi D cy B S0 r S') 0 0 (fun q => B < q) := by
  refine Met.ofW (cc := cX11_moved) (maxL := 9) (ret := ((some .int))) (by decide) rfl ?_
  intro p e s m args below meth c s₁ Bd hml hv
  obtain ⟨rfl, hC, hM⟩ := hv
  obtain ⟨hx, hb, hr, hg, hown, hlk⟩ := z_open Bd
  have hK := hC.1
  have hS : va_S (fun q => B < q) s.heap s.heap [] := va_S.rf
  have hX0 : zX S0 S0 := zX.rf
  refine z_entry (vs := [.ref (B + a0), .int v1, .int v2, .int v3, .int v4]) (Nat.le_of_ble_eq_true rfl) (fun ls hl => ?_)
  have hl : lv_has ls 9 [(0, .ref (B + a0)), (1, .int v1), (2, .int v2), (3, .int v3), (4, .int v4)] := hl
  unfold f_X11_moved at h
  refine lv_iload_n hx hb dX11_moved_0 rfl (lv_at hl 1 rfl) ?_
  refine lv_bipush (v := (6 : Int32)) hx hb dX11_moved_1 (by decide +kernel) ?_
  obtain ⟨r2, hr1, h⟩ := zlg h
  have hr1 := hr1.symm
  refine z_runi (va_runS (As := [.int v1, .int (6 : Int32)]) (rest := []) ⟨hx, hb, hml, hown, hg⟩ (c_X11_within l D cy B hr1) (z_cwS hg zw_290 zw_291 zw_2 zw_292 zh_X11_within.2 ⟨(Nat.le_of_ble_eq_true rfl), (Nat.le_of_ble_eq_true rfl)⟩) (zPS hC hM) rfl rfl hl.1 rfl (lv_room (Nat.le_of_ble_eq_true rfl)) dX11_moved_3 ⟨(Nat.le_of_ble_eq_true rfl), (Nat.le_of_ble_eq_true rfl)⟩) hS (fun H locs hM hX3 hS => ?_)
  refine lv_if_eq (tgt := 42) hx hb dX11_moved_6 (by decide) (fun hc5 => ?_) (fun hc5 => ?_)
  · have h := zt h hc5
    refine lv_iconst (v := (-1 : Int32)) hx hb dX11_moved_42 (by decide +kernel) ?_
    exact z_iret hx hb hr hlk hM hX0 hS (zsp h) dX11_moved_43
  · have h := zf h hc5
    refine lv_iload_n hx hb dX11_moved_9 rfl (lv_at hl 2 rfl) ?_
    refine lv_aload_n hx hb dX11_moved_10 rfl (lv_at hl 0 rfl) ?_
    obtain ⟨hq7, h⟩ := zk h
    refine z_getN hx hb hg zin_11 hown hK hM ha0 0 rfl (by decide) (hg _ zw_267) (fun _ h9 => h9) hq7 dX11_moved_11 (fun h6 => ?_)
    refine z_getI hx hb hg zin_9 hown hK hM h6 5 rfl (by decide) (hg _ zw_133) (fun _ h9 => h9) dX11_moved_14 ?_
    obtain ⟨r9, hr8, h⟩ := zlg h
    have hr8 := hr8.symm
    refine z_runi (va_runS (As := [.int v2, .int (zi S0 (zr S0 a0 0) 5)]) (rest := []) ⟨hx, hb, hml, hown, hg⟩ (c_X11_within l D cy B hr8) (z_cwS hg zw_290 zw_291 zw_2 zw_292 zh_X11_within.2 ⟨(Nat.le_of_ble_eq_true rfl), (Nat.le_of_ble_eq_true rfl)⟩) (zPS hC hM) rfl rfl hl.1 rfl (lv_room (Nat.le_of_ble_eq_true rfl)) dX11_moved_17 ⟨(Nat.le_of_ble_eq_true rfl), (Nat.le_of_ble_eq_true rfl)⟩) hS (fun H locs hM hX10 hS => ?_)
    refine lv_if_eq (tgt := 42) hx hb dX11_moved_20 (by decide) (fun hc12 => ?_) (fun hc12 => ?_)
    · have h := zt h hc12
      refine lv_iconst (v := (-1 : Int32)) hx hb dX11_moved_42 (by decide +kernel) ?_
      exact z_iret hx hb hr hlk hM hX0 hS (zsp h) dX11_moved_43
    · have h := zf h hc12
      refine lv_iload_n hx hb dX11_moved_23 rfl (lv_at hl 3 rfl) ?_
      refine lv_iconst (v := (1 : Int32)) hx hb dX11_moved_24 (by decide +kernel) ?_
      refine lv_icmp_lt (tgt := 42) hx hb dX11_moved_25 (by decide) (fun hc13 => ?_) (fun hc13 => ?_)
      · have h := zt h hc13
        refine lv_iconst (v := (-1 : Int32)) hx hb dX11_moved_42 (by decide +kernel) ?_
        exact z_iret hx hb hr hlk hM hX0 hS (zsp h) dX11_moved_43
      · have h := zf h hc13
        refine lv_iload_n hx hb dX11_moved_28 rfl (lv_at hl 3 rfl) ?_
        refine lv_iconst (v := (3 : Int32)) hx hb dX11_moved_29 (by decide +kernel) ?_
        refine lv_icmp_gt (tgt := 42) hx hb dX11_moved_30 (by decide) (fun hc14 => ?_) (fun hc14 => ?_)
        · have h := zt h hc14
          refine lv_iconst (v := (-1 : Int32)) hx hb dX11_moved_42 (by decide +kernel) ?_
          exact z_iret hx hb hr hlk hM hX0 hS (zsp h) dX11_moved_43
        · have h := zf h hc14
          refine lv_iload hx hb dX11_moved_33 (lv_at hl 4 rfl) ?_
          refine lv_iconst (v := (2 : Int32)) hx hb dX11_moved_35 (by decide +kernel) ?_
          obtain ⟨r16, hr15, h⟩ := zlg h
          have hr15 := hr15.symm
          refine z_runi (va_runS (As := [.int v4, .int (2 : Int32)]) (rest := []) ⟨hx, hb, hml, hown, hg⟩ (c_X11_within l D cy B hr15) (z_cwS hg zw_290 zw_291 zw_2 zw_292 zh_X11_within.2 ⟨(Nat.le_of_ble_eq_true rfl), (Nat.le_of_ble_eq_true rfl)⟩) (zPS hC hM) rfl rfl hl.1 rfl (lv_room (Nat.le_of_ble_eq_true rfl)) dX11_moved_36 ⟨(Nat.le_of_ble_eq_true rfl), (Nat.le_of_ble_eq_true rfl)⟩) hS (fun H locs hM hX17 hS => ?_)
          refine lv_if_ne (tgt := 44) hx hb dX11_moved_39 (by decide) (fun hc19 => ?_) (fun hc19 => ?_)
          · have h := zf h hc19
            refine lv_bipush (v := (-4 : Int32)) hx hb dX11_moved_44 (by decide +kernel) ?_
            refine lv_istore (i := 5) (lv' := [(5, .int (-4 : Int32)), (0, .ref (B + a0)), (1, .int v1), (2, .int v2), (3, .int v3), (4, .int v4)]) hx hb dX11_moved_46 hl (by decide) rfl (fun ls hl => ?_)
            refine lv_bipush (v := (-4 : Int32)) hx hb dX11_moved_48 (by decide +kernel) ?_
            refine lv_istore (i := 6) (lv' := [(6, .int (-4 : Int32)), (5, .int (-4 : Int32)), (0, .ref (B + a0)), (1, .int v1), (2, .int v2), (3, .int v3), (4, .int v4)]) hx hb dX11_moved_50 hl (by decide) rfl (fun ls hl => ?_)
            refine lv_iconst (v := (0 : Int32)) hx hb dX11_moved_52 (by decide +kernel) ?_
            refine lv_istore (i := 7) (lv' := [(7, .int (0 : Int32)), (6, .int (-4 : Int32)), (5, .int (-4 : Int32)), (0, .ref (B + a0)), (1, .int v1), (2, .int v2), (3, .int v3), (4, .int v4)]) hx hb dX11_moved_53 hl (by decide) rfl (fun ls hl => ?_)
            obtain ⟨K24, eK24, h⟩ := zlg h
            have hK24 : ∀ (x20 : Int32) (x21 : Int32) (S22 : zM) (H : Heap) (locs : List Loc), zMR D cy B S22 H → zX S0 S22 → va_S (fun q => B < q) s.heap H locs → ∀ ls : Array Slot, lv_has ls 9 [(4, .int v4), (5, .int x20), (6, .int x21)] → K24 x20 x21 S22 = some (r, S') → W p l e (headSpec (zws yX11_moved cX11_moved 9 ((some .int))) { frames := 7, cells := 0, slots := 0, locals := 167 }).room s m (([.ref (B + a0), .int v1, .int v2, .int v3, .int v4] : List Value).toArray) below meth c H locs 0 0 (MQ below (zQi D cy B S0 r S') (([.ref (B + a0), .int v1, .int v2, .int v3, .int v4] : List Value).toArray) s 0 0 (fun q => B < q)) (F0 m 118 ls []) := by
              intro x20 x21 S22 H locs hM hX23 hS ls hl h
              rw [eK24] at h
              refine lv_iload hx hb dX11_moved_118 (lv_at hl 0 rfl) ?_
              refine lv_if_ne (tgt := 128) hx hb dX11_moved_120 (by decide) (fun hc25 => ?_) (fun hc25 => ?_)
              · have h := zf h hc25
                refine lv_iload hx hb dX11_moved_128 (lv_at hl 2 rfl) ?_
                exact z_iret hx hb hr hlk hM hX23 hS (zsp h) dX11_moved_130
              · have h := zt h hc25
                refine lv_iload hx hb dX11_moved_123 (lv_at hl 1 rfl) ?_
                refine lv_goto (tgt := 130) hx hb dX11_moved_125 (by decide) ?_
                exact z_iret hx hb hr hlk hM hX23 hS (zsp h) dX11_moved_130
            have hL55 : ∀ (k : Nat) (x27 : Int32) (x28 : Int32) (x29 : Int32) (S30 : zM) (H : Heap) (locs : List Loc), zMR D cy B S30 H → zX S0 S30 → va_S (fun q => B < q) s.heap H locs → zA S30 a0 11 → ∀ ls : Array Slot, lv_has ls 9 [(0, .ref (B + a0)), (1, .int v1), (2, .int v2), (3, .int v3), (4, .int v4), (5, .int x27), (6, .int x28), (7, .int x29)] → f_X11_moved_L55 n a0 v1 v2 v3 K24 k x27 x28 x29 S30 = some (r, S') → W p l e (headSpec (zws yX11_moved cX11_moved 9 ((some .int))) { frames := 7, cells := 0, slots := 0, locals := 167 }).room s m (([.ref (B + a0), .int v1, .int v2, .int v3, .int v4] : List Value).toArray) below meth c H locs 0 0 (MQ below (zQi D cy B S0 r S') (([.ref (B + a0), .int v1, .int v2, .int v3, .int v4] : List Value).toArray) s 0 0 (fun q => B < q)) (F0 m 55 ls []) := by
              intro k
              induction k with
              | zero =>
                intro x27 x28 x29 S30 H locs hM hX31 hS h26 ls hl h
                exact znone h
              | succ k ih55 =>
                intro x27 x28 x29 S30 H locs hM hX31 hS h26 ls hl h
                replace h : f_X11_moved_L55b n a0 v1 v2 v3 K24 (f_X11_moved_L55 n a0 v1 v2 v3 K24 k) x27 x28 x29 S30 = some (r, S') := h
                generalize f_X11_moved_L55 n a0 v1 v2 v3 K24 k = rec55 at ih55 h
                unfold f_X11_moved_L55b at h
                refine lv_iload hx hb dX11_moved_55 (lv_at hl 7 rfl) ?_
                refine lv_sipush (v := (128 : Int32)) hx hb dX11_moved_57 (by decide +kernel) ?_
                refine lv_icmp_ge (tgt := 118) hx hb dX11_moved_60 (by decide) (fun hc32 => ?_) (fun hc32 => ?_)
                · have h := zt h hc32
                  exact hK24 x27 x28 S30 _ _ hM hX31 hS _ (lv_sub hl [4, 5, 6] rfl) h
                · have h := zf h hc32
                  refine lv_iload hx hb dX11_moved_63 (lv_at hl 7 rfl) ?_
                  obtain ⟨r34, hr33, h⟩ := zlg h
                  have hr33 := hr33.symm
                  refine z_runi (va_runS (As := [.int x29]) (rest := []) ⟨hx, hb, hml, hown, hg⟩ (c_J6_bitCount_0f7a4 l D cy B hr33) (z_cwS hg zw_643 zw_644 zw_17 zw_645 zh_J6_bitCount_0f7a4.2 ⟨(Nat.le_of_ble_eq_true rfl), (Nat.le_of_ble_eq_true rfl)⟩) (zPS hC hM) rfl rfl hl.1 rfl (lv_room (Nat.le_of_ble_eq_true rfl)) dX11_moved_65 ⟨(Nat.le_of_ble_eq_true rfl), (Nat.le_of_ble_eq_true rfl)⟩) hS (fun H locs hM hX35 hS => ?_)
                  refine lv_iload_n hx hb dX11_moved_68 rfl (lv_at hl 3 rfl) ?_
                  refine lv_icmp_ne (tgt := 112) hx hb dX11_moved_69 (by decide) (fun hc37 => ?_) (fun hc37 => ?_)
                  · have h := zf h hc37
                    refine lv_iinc (v := (x29 + (1 : Int32))) (lv' := [(7, .int (x29 + (1 : Int32))), (0, .ref (B + a0)), (1, .int v1), (2, .int v2), (3, .int v3), (4, .int v4), (5, .int x27), (6, .int x28)]) hx hb dX11_moved_112 hl (k := 7) rfl rfl (by decide) rfl (fun ls hl => ?_)
                    refine lv_goto (tgt := 55) hx hb dX11_moved_115 (by decide) ?_
                    exact ih55 x27 x28 (x29 + (1 : Int32)) S30 _ _ hM hX31 hS h26 _ (lv_sub hl [1, 2, 3, 4, 5, 6, 7, 0] rfl) h
                  · have h := zt h hc37
                    refine lv_aload_n hx hb dX11_moved_72 rfl (lv_at hl 0 rfl) ?_
                    refine lv_iload_n hx hb dX11_moved_73 rfl (lv_at hl 1 rfl) ?_
                    refine lv_iload_n hx hb dX11_moved_74 rfl (lv_at hl 2 rfl) ?_
                    refine lv_iload hx hb dX11_moved_75 (lv_at hl 7 rfl) ?_
                    obtain ⟨r39, S40, hr38, h⟩ := zb2 h
                    refine z_runi (va_runV (As := [.int v1, .int v2, .int x29]) (rest := []) ⟨hx, hb, hml, hown, hg⟩ (c_X11_placeMovedBy l D cy B h26 hr38) (z_cwV hg zw_649 zw_650 zw_1478 zw_2 zw_651 zh_X11_placeMovedBy ⟨(Nat.le_of_ble_eq_true rfl), (Nat.le_of_ble_eq_true rfl)⟩) (zPV hC hM h26 (by decide) rfl) rfl rfl hl.1 rfl (lv_room (Nat.le_of_ble_eq_true rfl)) dX11_moved_77 ⟨(Nat.le_of_ble_eq_true rfl), (Nat.le_of_ble_eq_true rfl)⟩) hS (fun H locs hM hX41 hS => ?_)
                    have h43 := h26.mo hX41
                    have hX44 := hX31.tr hX41
                    refine lv_istore (i := 8) (lv' := [(8, .int r39), (0, .ref (B + a0)), (1, .int v1), (2, .int v2), (3, .int v3), (4, .int v4), (5, .int x27), (6, .int x28), (7, .int x29)]) hx hb dX11_moved_80 hl (by decide) rfl (fun ls hl => ?_)
                    refine lv_iload hx hb dX11_moved_82 (lv_at hl 6 rfl) ?_
                    obtain ⟨K47, eK47, h⟩ := zlg h
                    have hK47 : ∀ (H : Heap) (locs : List Loc), zMR D cy B S40 H → zX S0 S40 → va_S (fun q => B < q) s.heap H locs → zA S40 a0 11 → ∀ ls : Array Slot, lv_has ls 9 [(0, .ref (B + a0)), (1, .int v1), (2, .int v2), (3, .int v3), (4, .int v4), (7, .int x29), (8, .int r39)] → K47 = some (r, S') → W p l e (headSpec (zws yX11_moved cX11_moved 9 ((some .int))) { frames := 7, cells := 0, slots := 0, locals := 167 }).room s m (([.ref (B + a0), .int v1, .int v2, .int v3, .int v4] : List Value).toArray) below meth c H locs 0 0 (MQ below (zQi D cy B S0 r S') (([.ref (B + a0), .int v1, .int v2, .int v3, .int v4] : List Value).toArray) s 0 0 (fun q => B < q)) (F0 m 94 ls []) := by
                      intro H locs hM hX46 hS h45 ls hl h
                      rw [eK47] at h
                      refine lv_iload hx hb dX11_moved_94 (lv_at hl 6 rfl) ?_
                      refine lv_istore (i := 5) (lv' := [(5, .int r39), (0, .ref (B + a0)), (1, .int v1), (2, .int v2), (3, .int v3), (4, .int v4), (7, .int x29), (8, .int r39)]) hx hb dX11_moved_96 hl (by decide) rfl (fun ls hl => ?_)
                      refine lv_iload hx hb dX11_moved_98 (lv_at hl 7 rfl) ?_
                      refine lv_if_ge (tgt := 108) hx hb dX11_moved_100 (by decide) (fun hc48 => ?_) (fun hc48 => ?_)
                      · have h := zt h hc48
                        refine lv_iload hx hb dX11_moved_108 (lv_at hl 6 rfl) ?_
                        refine lv_istore (i := 6) (lv' := [(6, .int x29), (5, .int r39), (0, .ref (B + a0)), (1, .int v1), (2, .int v2), (3, .int v3), (4, .int v4), (7, .int x29), (8, .int r39)]) hx hb dX11_moved_110 hl (by decide) rfl (fun ls hl => ?_)
                        refine lv_iinc (v := (x29 + (1 : Int32))) (lv' := [(7, .int (x29 + (1 : Int32))), (6, .int x29), (5, .int r39), (0, .ref (B + a0)), (1, .int v1), (2, .int v2), (3, .int v3), (4, .int v4), (8, .int r39)]) hx hb dX11_moved_112 hl (k := 7) rfl rfl (by decide) rfl (fun ls hl => ?_)
                        refine lv_goto (tgt := 55) hx hb dX11_moved_115 (by decide) ?_
                        exact ih55 r39 x29 (x29 + (1 : Int32)) S40 _ _ hM hX46 hS h45 _ (lv_sub hl [3, 4, 5, 6, 7, 2, 1, 0] rfl) h
                      · have h := zf h hc48
                        refine lv_bipush (v := (-4 : Int32)) hx hb dX11_moved_103 (by decide +kernel) ?_
                        refine lv_goto (tgt := 110) hx hb dX11_moved_105 (by decide) ?_
                        refine lv_istore (i := 6) (lv' := [(6, .int (-4 : Int32)), (5, .int r39), (0, .ref (B + a0)), (1, .int v1), (2, .int v2), (3, .int v3), (4, .int v4), (7, .int x29), (8, .int r39)]) hx hb dX11_moved_110 hl (by decide) rfl (fun ls hl => ?_)
                        refine lv_iinc (v := (x29 + (1 : Int32))) (lv' := [(7, .int (x29 + (1 : Int32))), (6, .int (-4 : Int32)), (5, .int r39), (0, .ref (B + a0)), (1, .int v1), (2, .int v2), (3, .int v3), (4, .int v4), (8, .int r39)]) hx hb dX11_moved_112 hl (k := 7) rfl rfl (by decide) rfl (fun ls hl => ?_)
                        refine lv_goto (tgt := 55) hx hb dX11_moved_115 (by decide) ?_
                        exact ih55 r39 (-4 : Int32) (x29 + (1 : Int32)) S40 _ _ hM hX46 hS h45 _ (lv_sub hl [3, 4, 5, 6, 7, 2, 1, 0] rfl) h
                    refine lv_if_lt (tgt := 94) hx hb dX11_moved_84 (by decide) (fun hc49 => ?_) (fun hc49 => ?_)
                    · have h := zt h hc49
                      exact hK47 _ _ hM hX44 hS h43 _ (lv_sub hl [1, 2, 3, 4, 5, 8, 0] rfl) h
                    · have h := zf h hc49
                      refine lv_iload hx hb dX11_moved_87 (lv_at hl 0 rfl) ?_
                      refine lv_iload hx hb dX11_moved_89 (lv_at hl 6 rfl) ?_
                      refine lv_icmp_ge (tgt := 112) hx hb dX11_moved_91 (by decide) (fun hc50 => ?_) (fun hc50 => ?_)
                      · have h := zt h hc50
                        refine lv_iinc (v := (x29 + (1 : Int32))) (lv' := [(7, .int (x29 + (1 : Int32))), (8, .int r39), (0, .ref (B + a0)), (1, .int v1), (2, .int v2), (3, .int v3), (4, .int v4), (5, .int x27), (6, .int x28)]) hx hb dX11_moved_112 hl (k := 8) rfl rfl (by decide) rfl (fun ls hl => ?_)
                        refine lv_goto (tgt := 55) hx hb dX11_moved_115 (by decide) ?_
                        exact ih55 x27 x28 (x29 + (1 : Int32)) S40 _ _ hM hX44 hS h43 _ (lv_sub hl [2, 3, 4, 5, 6, 7, 8, 0] rfl) h
                      · have h := zf h hc50
                        exact hK47 _ _ hM hX44 hS h43 _ (lv_sub hl [1, 2, 3, 4, 5, 8, 0] rfl) h
            exact hL55 n (-4 : Int32) (-4 : Int32) (0 : Int32) S0 _ _ hM hX0 hS ha0 _ (lv_sub hl [3, 4, 5, 6, 7, 2, 1, 0] rfl) h
          · have h := zt h hc19
            refine lv_iconst (v := (-1 : Int32)) hx hb dX11_moved_42 (by decide +kernel) ?_
            exact z_iret hx hb hr hlk hM hX0 hS (zsp h) dX11_moved_43
def f_X11_lean (n : Nat) (S0 : zM) (a0 : Nat) (v1 : Int32) (v2 : Int32) (v3 : Int32) : Option (Int32 × zM) :=
  zChk (¬ (zr S0 a0 0) = 0) (zLet (f_X11_within v1 (zi S0 (zr S0 a0 0) 6)) (fun r4 => if r4 = 0 then some (((-1000000001 : Int32), S0)) else zLet (f_X11_within v2 (6 : Int32)) (fun r9 => if r9 = 0 then some (((-1000000001 : Int32), S0)) else zLet (f_X11_within v3 (4 : Int32)) (fun r14 => if r14 = 0 then some (((-1000000001 : Int32), S0)) else zChk (¬ (zr S0 a0 7) = 0) (zB1 (f_X9_tallyUp n S0 (zr S0 a0 0) (zr S0 a0 7) v1 v2) (fun S22 => if v3 = 0 then zChk (¬ (zr S22 a0 7) = 0) (some (((zi S22 (zr S22 a0 7) 0), S22))) else if v3 = (1 : Int32) then zChk (¬ (zr S22 a0 7) = 0) (some (((zi S22 (zr S22 a0 7) 1), S22))) else zChk (¬ (zr S22 a0 7) = 0) (if (zi S22 (zr S22 a0 7) 1) = 0 then some (((-1000000004 : Int32), S22)) else if v3 = (2 : Int32) then some (((zi S22 (zr S22 a0 7) 2), S22)) else some (((zi S22 (zr S22 a0 7) 3), S22)))))))))
set_option maxHeartbeats 4000000 in
set_option maxRecDepth 100000 in
theorem c_X11_lean (l : Launch) (D : va_G) (cy : Nat → ClassId) (B : Nat) {n : Nat} {S0 : zM} {a0 : Nat} {v1 : Int32} {v2 : Int32} {v3 : Int32} {r : Int32} {S' : zM} (ha0 : zA S0 a0 11) (h : f_X11_lean n S0 a0 v1 v2 v3 = some (r, S')) : Met l yX11_lean (zws yX11_lean cX11_lean 4 ((some .int))) { frames := 4, cells := 0, slots := 0, locals := 90 } (zPc D cy B S0 [.ref (B + a0), .int v1, .int v2, .int v3]) (zQi D cy B S0 r S') 0 0 (fun q => B < q) := by
  refine Met.ofW (cc := cX11_lean) (maxL := 4) (ret := ((some .int))) (by decide) rfl ?_
  intro p e s m args below meth c s₁ Bd hml hv
  obtain ⟨rfl, hC, hM⟩ := hv
  obtain ⟨hx, hb, hr, hg, hown, hlk⟩ := z_open Bd
  have hK := hC.1
  have hS : va_S (fun q => B < q) s.heap s.heap [] := va_S.rf
  have hX0 : zX S0 S0 := zX.rf
  refine z_entry (vs := [.ref (B + a0), .int v1, .int v2, .int v3]) (Nat.le_of_ble_eq_true rfl) (fun ls hl => ?_)
  have hl : lv_has ls 4 [(0, .ref (B + a0)), (1, .int v1), (2, .int v2), (3, .int v3)] := hl
  unfold f_X11_lean at h
  refine lv_iload_n hx hb dX11_lean_0 rfl (lv_at hl 1 rfl) ?_
  refine lv_aload_n hx hb dX11_lean_1 rfl (lv_at hl 0 rfl) ?_
  obtain ⟨hq2, h⟩ := zk h
  refine z_getN hx hb hg zin_11 hown hK hM ha0 0 rfl (by decide) (hg _ zw_267) (fun _ h9 => h9) hq2 dX11_lean_2 (fun h1 => ?_)
  refine z_getI hx hb hg zin_9 hown hK hM h1 6 rfl (by decide) (hg _ zw_136) (fun _ h9 => h9) dX11_lean_5 ?_
  obtain ⟨r4, hr3, h⟩ := zlg h
  have hr3 := hr3.symm
  refine z_runi (va_runS (As := [.int v1, .int (zi S0 (zr S0 a0 0) 6)]) (rest := []) ⟨hx, hb, hml, hown, hg⟩ (c_X11_within l D cy B hr3) (z_cwS hg zw_290 zw_291 zw_2 zw_292 zh_X11_within.2 ⟨(Nat.le_of_ble_eq_true rfl), (Nat.le_of_ble_eq_true rfl)⟩) (zPS hC hM) rfl rfl hl.1 rfl (lv_room (Nat.le_of_ble_eq_true rfl)) dX11_lean_8 ⟨(Nat.le_of_ble_eq_true rfl), (Nat.le_of_ble_eq_true rfl)⟩) hS (fun H locs hM hX5 hS => ?_)
  refine lv_if_eq (tgt := 31) hx hb dX11_lean_11 (by decide) (fun hc7 => ?_) (fun hc7 => ?_)
  · have h := zt h hc7
    refine lv_ldc (v := (-1000000001 : Int32)) hx hb hown (hg _ zw_540) dX11_lean_31 ?_
    exact z_iret hx hb hr hlk hM hX0 hS (zsp h) dX11_lean_33
  · have h := zf h hc7
    refine lv_iload_n hx hb dX11_lean_14 rfl (lv_at hl 2 rfl) ?_
    refine lv_bipush (v := (6 : Int32)) hx hb dX11_lean_15 (by decide +kernel) ?_
    obtain ⟨r9, hr8, h⟩ := zlg h
    have hr8 := hr8.symm
    refine z_runi (va_runS (As := [.int v2, .int (6 : Int32)]) (rest := []) ⟨hx, hb, hml, hown, hg⟩ (c_X11_within l D cy B hr8) (z_cwS hg zw_290 zw_291 zw_2 zw_292 zh_X11_within.2 ⟨(Nat.le_of_ble_eq_true rfl), (Nat.le_of_ble_eq_true rfl)⟩) (zPS hC hM) rfl rfl hl.1 rfl (lv_room (Nat.le_of_ble_eq_true rfl)) dX11_lean_17 ⟨(Nat.le_of_ble_eq_true rfl), (Nat.le_of_ble_eq_true rfl)⟩) hS (fun H locs hM hX10 hS => ?_)
    refine lv_if_eq (tgt := 31) hx hb dX11_lean_20 (by decide) (fun hc12 => ?_) (fun hc12 => ?_)
    · have h := zt h hc12
      refine lv_ldc (v := (-1000000001 : Int32)) hx hb hown (hg _ zw_540) dX11_lean_31 ?_
      exact z_iret hx hb hr hlk hM hX0 hS (zsp h) dX11_lean_33
    · have h := zf h hc12
      refine lv_iload_n hx hb dX11_lean_23 rfl (lv_at hl 3 rfl) ?_
      refine lv_iconst (v := (4 : Int32)) hx hb dX11_lean_24 (by decide +kernel) ?_
      obtain ⟨r14, hr13, h⟩ := zlg h
      have hr13 := hr13.symm
      refine z_runi (va_runS (As := [.int v3, .int (4 : Int32)]) (rest := []) ⟨hx, hb, hml, hown, hg⟩ (c_X11_within l D cy B hr13) (z_cwS hg zw_290 zw_291 zw_2 zw_292 zh_X11_within.2 ⟨(Nat.le_of_ble_eq_true rfl), (Nat.le_of_ble_eq_true rfl)⟩) (zPS hC hM) rfl rfl hl.1 rfl (lv_room (Nat.le_of_ble_eq_true rfl)) dX11_lean_25 ⟨(Nat.le_of_ble_eq_true rfl), (Nat.le_of_ble_eq_true rfl)⟩) hS (fun H locs hM hX15 hS => ?_)
      refine lv_if_ne (tgt := 34) hx hb dX11_lean_28 (by decide) (fun hc17 => ?_) (fun hc17 => ?_)
      · have h := zf h hc17
        refine lv_aload_n hx hb dX11_lean_34 rfl (lv_at hl 0 rfl) ?_
        refine z_getN hx hb hg zin_11 hown hK hM ha0 0 rfl (by decide) (hg _ zw_267) (fun _ h9 => h9) h1.ne dX11_lean_35 (fun h18 => ?_)
        refine lv_aload_n hx hb dX11_lean_38 rfl (lv_at hl 0 rfl) ?_
        obtain ⟨hq20, h⟩ := zk h
        refine z_getN hx hb hg zin_11 hown hK hM ha0 7 rfl (by decide) (hg _ zw_274) (fun _ h9 => h9) hq20 dX11_lean_39 (fun h19 => ?_)
        refine lv_iload_n hx hb dX11_lean_42 rfl (lv_at hl 1 rfl) ?_
        refine lv_iload_n hx hb dX11_lean_43 rfl (lv_at hl 2 rfl) ?_
        obtain ⟨S22, hr21, h⟩ := zb1 h
        refine z_runv (va_runV (As := [.ref (B + (zr S0 a0 7)), .int v1, .int v2]) (rest := []) ⟨hx, hb, hml, hown, hg⟩ (c_X9_tallyUp l D cy B h18 h19 hr21) (z_cwV hg zw_660 zw_661 zw_662 zw_3 zw_663 zh_X9_tallyUp ⟨(Nat.le_of_ble_eq_true rfl), (Nat.le_of_ble_eq_true rfl)⟩) (zPV hC hM h18 (by decide) rfl) rfl rfl hl.1 rfl (lv_room (Nat.le_of_ble_eq_true rfl)) dX11_lean_44 ⟨(Nat.le_of_ble_eq_true rfl), (Nat.le_of_ble_eq_true rfl)⟩) hS (fun H locs hM hX23 hS => ?_)
        have h25 := ha0.mo hX23
        have hX26 := hX0.tr hX23
        refine lv_iload_n hx hb dX11_lean_47 rfl (lv_at hl 3 rfl) ?_
        refine lv_if_ne (tgt := 59) hx hb dX11_lean_48 (by decide) (fun hc27 => ?_) (fun hc27 => ?_)
        · have h := zf h hc27
          refine lv_iload_n hx hb dX11_lean_59 rfl (lv_at hl 3 rfl) ?_
          refine lv_iconst (v := (1 : Int32)) hx hb dX11_lean_60 (by decide +kernel) ?_
          refine lv_icmp_ne (tgt := 72) hx hb dX11_lean_61 (by decide) (fun hc28 => ?_) (fun hc28 => ?_)
          · have h := zf h hc28
            refine lv_aload_n hx hb dX11_lean_72 rfl (lv_at hl 0 rfl) ?_
            obtain ⟨hq30, h⟩ := zk h
            refine z_getN hx hb hg zin_11 hown hK hM h25 7 rfl (by decide) (hg _ zw_274) (fun _ h9 => h9) hq30 dX11_lean_73 (fun h29 => ?_)
            refine z_getI hx hb hg zin_10 hown hK hM h29 1 rfl (by decide) (hg _ zw_232) (fun _ h9 => h9) dX11_lean_76 ?_
            refine lv_if_ne (tgt := 85) hx hb dX11_lean_79 (by decide) (fun hc31 => ?_) (fun hc31 => ?_)
            · have h := zf h hc31
              refine lv_iload_n hx hb dX11_lean_85 rfl (lv_at hl 3 rfl) ?_
              refine lv_iconst (v := (2 : Int32)) hx hb dX11_lean_86 (by decide +kernel) ?_
              refine lv_icmp_ne (tgt := 100) hx hb dX11_lean_87 (by decide) (fun hc32 => ?_) (fun hc32 => ?_)
              · have h := zf h hc32
                refine lv_aload_n hx hb dX11_lean_100 rfl (lv_at hl 0 rfl) ?_
                refine z_getN hx hb hg zin_11 hown hK hM h25 7 rfl (by decide) (hg _ zw_274) (fun _ h9 => h9) h29.ne dX11_lean_101 (fun h33 => ?_)
                refine z_getI hx hb hg zin_10 hown hK hM h33 3 rfl (by decide) (hg _ zw_236) (fun _ h9 => h9) dX11_lean_104 ?_
                exact z_iret hx hb hr hlk hM hX26 hS (zsp h) dX11_lean_107
              · have h := zt h hc32
                refine lv_aload_n hx hb dX11_lean_90 rfl (lv_at hl 0 rfl) ?_
                refine z_getN hx hb hg zin_11 hown hK hM h25 7 rfl (by decide) (hg _ zw_274) (fun _ h9 => h9) h29.ne dX11_lean_91 (fun h34 => ?_)
                refine z_getI hx hb hg zin_10 hown hK hM h34 2 rfl (by decide) (hg _ zw_234) (fun _ h9 => h9) dX11_lean_94 ?_
                refine lv_goto (tgt := 107) hx hb dX11_lean_97 (by decide) ?_
                exact z_iret hx hb hr hlk hM hX26 hS (zsp h) dX11_lean_107
            · have h := zt h hc31
              refine lv_ldc (v := (-1000000004 : Int32)) hx hb hown (hg _ zw_681) dX11_lean_82 ?_
              exact z_iret hx hb hr hlk hM hX26 hS (zsp h) dX11_lean_84
          · have h := zt h hc28
            refine lv_aload_n hx hb dX11_lean_64 rfl (lv_at hl 0 rfl) ?_
            obtain ⟨hq36, h⟩ := zk h
            refine z_getN hx hb hg zin_11 hown hK hM h25 7 rfl (by decide) (hg _ zw_274) (fun _ h9 => h9) hq36 dX11_lean_65 (fun h35 => ?_)
            refine z_getI hx hb hg zin_10 hown hK hM h35 1 rfl (by decide) (hg _ zw_232) (fun _ h9 => h9) dX11_lean_68 ?_
            exact z_iret hx hb hr hlk hM hX26 hS (zsp h) dX11_lean_71
        · have h := zt h hc27
          refine lv_aload_n hx hb dX11_lean_51 rfl (lv_at hl 0 rfl) ?_
          obtain ⟨hq38, h⟩ := zk h
          refine z_getN hx hb hg zin_11 hown hK hM h25 7 rfl (by decide) (hg _ zw_274) (fun _ h9 => h9) hq38 dX11_lean_52 (fun h37 => ?_)
          refine z_getI hx hb hg zin_10 hown hK hM h37 0 rfl (by decide) (hg _ zw_230) (fun _ h9 => h9) dX11_lean_55 ?_
          exact z_iret hx hb hr hlk hM hX26 hS (zsp h) dX11_lean_58
      · have h := zt h hc17
        refine lv_ldc (v := (-1000000001 : Int32)) hx hb hown (hg _ zw_540) dX11_lean_31 ?_
        exact z_iret hx hb hr hlk hM hX0 hS (zsp h) dX11_lean_33
def f_X11_pairs (n : Nat) (S0 : zM) (a0 : Nat) : Option (Int32 × zM) :=
  zChk (¬ (zr S0 a0 6) = 0) (zChk (¬ (zr S0 a0 0) = 0) (zB1 (f_X3_takeFrom n S0 (zr S0 a0 6) (zr S0 a0 0)) (fun S6 => zChk (¬ (zr S6 a0 6) = 0) (zB1 (f_X0L_asItStands n S6 (zr S6 a0 6)) (fun r14 => some ((r14, S6)))))))
set_option maxHeartbeats 4000000 in
set_option maxRecDepth 100000 in
theorem c_X11_pairs (l : Launch) (D : va_G) (cy : Nat → ClassId) (B : Nat) {n : Nat} {S0 : zM} {a0 : Nat} {r : Int32} {S' : zM} (ha0 : zA S0 a0 11) (h : f_X11_pairs n S0 a0 = some (r, S')) : Met l yX11_pairs (zws yX11_pairs cX11_pairs 1 ((some .int))) { frames := 4, cells := 0, slots := 0, locals := 94 } (zPc D cy B S0 [.ref (B + a0)]) (zQi D cy B S0 r S') 0 0 (fun q => B < q) := by
  refine Met.ofW (cc := cX11_pairs) (maxL := 1) (ret := ((some .int))) (by decide) rfl ?_
  intro p e s m args below meth c s₁ Bd hml hv
  obtain ⟨rfl, hC, hM⟩ := hv
  obtain ⟨hx, hb, hr, hg, hown, hlk⟩ := z_open Bd
  have hK := hC.1
  have hS : va_S (fun q => B < q) s.heap s.heap [] := va_S.rf
  have hX0 : zX S0 S0 := zX.rf
  refine z_entry (vs := [.ref (B + a0)]) (Nat.le_of_ble_eq_true rfl) (fun ls hl => ?_)
  have hl : lv_has ls 1 [(0, .ref (B + a0))] := hl
  unfold f_X11_pairs at h
  refine lv_aload_n hx hb dX11_pairs_0 rfl (lv_at hl 0 rfl) ?_
  obtain ⟨hq2, h⟩ := zk h
  refine z_getN hx hb hg zin_11 hown hK hM ha0 6 rfl (by decide) (hg _ zw_273) (fun _ h9 => h9) hq2 dX11_pairs_1 (fun h1 => ?_)
  refine lv_aload_n hx hb dX11_pairs_4 rfl (lv_at hl 0 rfl) ?_
  obtain ⟨hq4, h⟩ := zk h
  refine z_getN hx hb hg zin_11 hown hK hM ha0 0 rfl (by decide) (hg _ zw_267) (fun _ h9 => h9) hq4 dX11_pairs_5 (fun h3 => ?_)
  obtain ⟨S6, hr5, h⟩ := zb1 h
  refine z_runv (va_runV (As := [.ref (B + (zr S0 a0 0))]) (rest := []) ⟨hx, hb, hml, hown, hg⟩ (c_X3_takeFrom l D cy B h1 h3 hr5) (z_cwV hg zw_686 zw_687 zw_688 zw_10 zw_689 zh_X3_takeFrom ⟨(Nat.le_of_ble_eq_true rfl), (Nat.le_of_ble_eq_true rfl)⟩) (zPV hC hM h1 (by decide) rfl) rfl rfl hl.1 rfl (lv_room (Nat.le_of_ble_eq_true rfl)) dX11_pairs_8 ⟨(Nat.le_of_ble_eq_true rfl), (Nat.le_of_ble_eq_true rfl)⟩) hS (fun H locs hM hX7 hS => ?_)
  have h9 := ha0.mo hX7
  have hX10 := hX0.tr hX7
  refine lv_aload_n hx hb dX11_pairs_11 rfl (lv_at hl 0 rfl) ?_
  obtain ⟨hq12, h⟩ := zk h
  refine z_getN hx hb hg zin_11 hown hK hM h9 6 rfl (by decide) (hg _ zw_273) (fun _ h9 => h9) hq12 dX11_pairs_12 (fun h11 => ?_)
  obtain ⟨r14, hr13, h⟩ := zb1 h
  refine z_runi (va_runU (As := []) (rest := []) ⟨hx, hb, hml, hown, hg⟩ (c_X0L_asItStands l D cy B h11 hr13) (z_cwU (n := 0) (owner := "DiveChairs$Dealing") hg zw_703 zw_704 zw_706 zw_707 zw_8 zw_708 rfl (by decide +kernel) ⟨(Nat.le_of_ble_eq_true rfl), (Nat.le_of_ble_eq_true rfl)⟩) (zPV hC hM h11 (by decide) rfl) rfl rfl hl.1 rfl (lv_room (Nat.le_of_ble_eq_true rfl)) dX11_pairs_15 ⟨(Nat.le_of_ble_eq_true rfl), (Nat.le_of_ble_eq_true rfl)⟩) hS (fun H locs hM hX15 hS => ?_)
  exact z_iret hx hb hr hlk hM hX10 hS (zsp h) dX11_pairs_18
def f_X11_pairOdds (n : Nat) (S0 : zM) (a0 : Nat) (v1 : Int32) : Option (Int32 × zM) :=
  zLet (f_X11_within v1 (2 : Int32)) (fun r2 => if r2 = 0 then some (((-1 : Int32), S0)) else zChk (¬ (zr S0 a0 0) = 0) (if (zi S0 (zr S0 a0 0) 6) ≤ (7 : Int32) then zChk (¬ (zr S0 a0 6) = 0) (zB1 (f_X3_takeFrom n S0 (zr S0 a0 6) (zr S0 a0 0)) (fun S13 => if v1 = 0 then zChk (¬ (zr S13 a0 6) = 0) (zB2 (f_X0L_waysAsGood n S13 (zr S13 a0 6)) (fun r28 S29 => some ((r28, S29)))) else zChk (¬ (zr S13 a0 6) = 0) (zB1 (f_X0L_allWays n S13 (zr S13 a0 6)) (fun r22 => some ((r22, S13)))))) else some (((-3 : Int32), S0))))
set_option maxHeartbeats 4000000 in
set_option maxRecDepth 100000 in
theorem c_X11_pairOdds (l : Launch) (D : va_G) (cy : Nat → ClassId) (B : Nat) {n : Nat} {S0 : zM} {a0 : Nat} {v1 : Int32} {r : Int32} {S' : zM} (ha0 : zA S0 a0 11) (h : f_X11_pairOdds n S0 a0 v1 = some (r, S')) : Met l yX11_pairOdds (zws yX11_pairOdds cX11_pairOdds 2 ((some .int))) { frames := 38, cells := 0, slots := 0, locals := 891 } (zPc D cy B S0 [.ref (B + a0), .int v1]) (zQi D cy B S0 r S') 0 0 (fun q => B < q) := by
  refine Met.ofW (cc := cX11_pairOdds) (maxL := 2) (ret := ((some .int))) (by decide) rfl ?_
  intro p e s m args below meth c s₁ Bd hml hv
  obtain ⟨rfl, hC, hM⟩ := hv
  obtain ⟨hx, hb, hr, hg, hown, hlk⟩ := z_open Bd
  have hK := hC.1
  have hS : va_S (fun q => B < q) s.heap s.heap [] := va_S.rf
  have hX0 : zX S0 S0 := zX.rf
  refine z_entry (vs := [.ref (B + a0), .int v1]) (Nat.le_of_ble_eq_true rfl) (fun ls hl => ?_)
  have hl : lv_has ls 2 [(0, .ref (B + a0)), (1, .int v1)] := hl
  unfold f_X11_pairOdds at h
  refine lv_iload_n hx hb dX11_pairOdds_0 rfl (lv_at hl 1 rfl) ?_
  refine lv_iconst (v := (2 : Int32)) hx hb dX11_pairOdds_1 (by decide +kernel) ?_
  obtain ⟨r2, hr1, h⟩ := zlg h
  have hr1 := hr1.symm
  refine z_runi (va_runS (As := [.int v1, .int (2 : Int32)]) (rest := []) ⟨hx, hb, hml, hown, hg⟩ (c_X11_within l D cy B hr1) (z_cwS hg zw_290 zw_291 zw_2 zw_292 zh_X11_within.2 ⟨(Nat.le_of_ble_eq_true rfl), (Nat.le_of_ble_eq_true rfl)⟩) (zPS hC hM) rfl rfl hl.1 rfl (lv_room (Nat.le_of_ble_eq_true rfl)) dX11_pairOdds_2 ⟨(Nat.le_of_ble_eq_true rfl), (Nat.le_of_ble_eq_true rfl)⟩) hS (fun H locs hM hX3 hS => ?_)
  refine lv_if_ne (tgt := 10) hx hb dX11_pairOdds_5 (by decide) (fun hc5 => ?_) (fun hc5 => ?_)
  · have h := zf h hc5
    refine lv_aload_n hx hb dX11_pairOdds_10 rfl (lv_at hl 0 rfl) ?_
    obtain ⟨hq7, h⟩ := zk h
    refine z_getN hx hb hg zin_11 hown hK hM ha0 0 rfl (by decide) (hg _ zw_267) (fun _ h9 => h9) hq7 dX11_pairOdds_11 (fun h6 => ?_)
    refine z_getI hx hb hg zin_9 hown hK hM h6 6 rfl (by decide) (hg _ zw_136) (fun _ h9 => h9) dX11_pairOdds_14 ?_
    refine lv_bipush (v := (7 : Int32)) hx hb dX11_pairOdds_17 (by decide +kernel) ?_
    refine lv_icmp_le (tgt := 25) hx hb dX11_pairOdds_19 (by decide) (fun hc8 => ?_) (fun hc8 => ?_)
    · have h := zt h hc8
      refine lv_aload_n hx hb dX11_pairOdds_25 rfl (lv_at hl 0 rfl) ?_
      obtain ⟨hq10, h⟩ := zk h
      refine z_getN hx hb hg zin_11 hown hK hM ha0 6 rfl (by decide) (hg _ zw_273) (fun _ h9 => h9) hq10 dX11_pairOdds_26 (fun h9 => ?_)
      refine lv_aload_n hx hb dX11_pairOdds_29 rfl (lv_at hl 0 rfl) ?_
      refine z_getN hx hb hg zin_11 hown hK hM ha0 0 rfl (by decide) (hg _ zw_267) (fun _ h9 => h9) h6.ne dX11_pairOdds_30 (fun h11 => ?_)
      obtain ⟨S13, hr12, h⟩ := zb1 h
      refine z_runv (va_runV (As := [.ref (B + (zr S0 a0 0))]) (rest := []) ⟨hx, hb, hml, hown, hg⟩ (c_X3_takeFrom l D cy B h9 h11 hr12) (z_cwV hg zw_686 zw_687 zw_688 zw_10 zw_689 zh_X3_takeFrom ⟨(Nat.le_of_ble_eq_true rfl), (Nat.le_of_ble_eq_true rfl)⟩) (zPV hC hM h9 (by decide) rfl) rfl rfl hl.1 rfl (lv_room (Nat.le_of_ble_eq_true rfl)) dX11_pairOdds_33 ⟨(Nat.le_of_ble_eq_true rfl), (Nat.le_of_ble_eq_true rfl)⟩) hS (fun H locs hM hX14 hS => ?_)
      have h16 := ha0.mo hX14
      have hX17 := hX0.tr hX14
      refine lv_iload_n hx hb dX11_pairOdds_36 rfl (lv_at hl 1 rfl) ?_
      refine lv_if_ne (tgt := 50) hx hb dX11_pairOdds_37 (by decide) (fun hc18 => ?_) (fun hc18 => ?_)
      · have h := zf h hc18
        refine lv_aload_n hx hb dX11_pairOdds_50 rfl (lv_at hl 0 rfl) ?_
        obtain ⟨hq20, h⟩ := zk h
        refine z_getN hx hb hg zin_11 hown hK hM h16 6 rfl (by decide) (hg _ zw_273) (fun _ h9 => h9) hq20 dX11_pairOdds_51 (fun h19 => ?_)
        obtain ⟨r22, hr21, h⟩ := zb1 h
        refine z_runi (va_runU (As := []) (rest := []) ⟨hx, hb, hml, hown, hg⟩ (c_X0L_allWays l D cy B h19 hr21) (z_cwU (n := 0) (owner := "DiveChairs$Dealing") hg zw_741 zw_742 zw_744 zw_745 zw_8 zw_746 rfl (by decide +kernel) ⟨(Nat.le_of_ble_eq_true rfl), (Nat.le_of_ble_eq_true rfl)⟩) (zPV hC hM h19 (by decide) rfl) rfl rfl hl.1 rfl (lv_room (Nat.le_of_ble_eq_true rfl)) dX11_pairOdds_54 ⟨(Nat.le_of_ble_eq_true rfl), (Nat.le_of_ble_eq_true rfl)⟩) hS (fun H locs hM hX23 hS => ?_)
        exact z_iret hx hb hr hlk hM hX17 hS (zsp h) dX11_pairOdds_57
      · have h := zt h hc18
        refine lv_aload_n hx hb dX11_pairOdds_40 rfl (lv_at hl 0 rfl) ?_
        obtain ⟨hq26, h⟩ := zk h
        refine z_getN hx hb hg zin_11 hown hK hM h16 6 rfl (by decide) (hg _ zw_273) (fun _ h9 => h9) hq26 dX11_pairOdds_41 (fun h25 => ?_)
        obtain ⟨r28, S29, hr27, h⟩ := zb2 h
        refine z_runi (va_runU (As := []) (rest := []) ⟨hx, hb, hml, hown, hg⟩ (c_X0L_waysAsGood l D cy B h25 hr27) (z_cwU (n := 0) (owner := "DiveChairs$Dealing") hg zw_726 zw_727 zw_729 zw_730 zw_8 zw_731 rfl (by decide +kernel) ⟨(Nat.le_of_ble_eq_true rfl), (Nat.le_of_ble_eq_true rfl)⟩) (zPV hC hM h25 (by decide) rfl) rfl rfl hl.1 rfl (lv_room (Nat.le_of_ble_eq_true rfl)) dX11_pairOdds_44 ⟨(Nat.le_of_ble_eq_true rfl), (Nat.le_of_ble_eq_true rfl)⟩) hS (fun H locs hM hX30 hS => ?_)
        have hX32 := hX17.tr hX30
        refine lv_goto (tgt := 57) hx hb dX11_pairOdds_47 (by decide) ?_
        exact z_iret hx hb hr hlk hM hX32 hS (zsp h) dX11_pairOdds_57
    · have h := zf h hc8
      refine lv_bipush (v := (-3 : Int32)) hx hb dX11_pairOdds_22 (by decide +kernel) ?_
      exact z_iret hx hb hr hlk hM hX0 hS (zsp h) dX11_pairOdds_24
  · have h := zt h hc5
    refine lv_iconst (v := (-1 : Int32)) hx hb dX11_pairOdds_8 (by decide +kernel) ?_
    exact z_iret hx hb hr hlk hM hX0 hS (zsp h) dX11_pairOdds_9
def f_X11_order (n : Nat) (S0 : zM) (a0 : Nat) (v1 : Int32) : Option (Int32 × zM) :=
  zLet (f_X11_within v1 (6 : Int32)) (fun r2 => if r2 = 0 then some (((-1000000001 : Int32), S0)) else zChk (¬ (zr S0 a0 5) = 0) (zChk (¬ (zr S0 a0 0) = 0) (zB1 (f_X4_takeFrom n S0 (zr S0 a0 5) (zr S0 a0 0) v1) (fun S11 => zChk (¬ (zr S11 a0 5) = 0) (zB1 (f_X0O_asItStands n S11 (zr S11 a0 5)) (fun r19 => some ((r19, S11))))))))
set_option maxHeartbeats 4000000 in
set_option maxRecDepth 100000 in
theorem c_X11_order (l : Launch) (D : va_G) (cy : Nat → ClassId) (B : Nat) {n : Nat} {S0 : zM} {a0 : Nat} {v1 : Int32} {r : Int32} {S' : zM} (ha0 : zA S0 a0 11) (h : f_X11_order n S0 a0 v1 = some (r, S')) : Met l yX11_order (zws yX11_order cX11_order 2 ((some .int))) { frames := 5, cells := 0, slots := 0, locals := 117 } (zPc D cy B S0 [.ref (B + a0), .int v1]) (zQi D cy B S0 r S') 0 0 (fun q => B < q) := by
  refine Met.ofW (cc := cX11_order) (maxL := 2) (ret := ((some .int))) (by decide) rfl ?_
  intro p e s m args below meth c s₁ Bd hml hv
  obtain ⟨rfl, hC, hM⟩ := hv
  obtain ⟨hx, hb, hr, hg, hown, hlk⟩ := z_open Bd
  have hK := hC.1
  have hS : va_S (fun q => B < q) s.heap s.heap [] := va_S.rf
  have hX0 : zX S0 S0 := zX.rf
  refine z_entry (vs := [.ref (B + a0), .int v1]) (Nat.le_of_ble_eq_true rfl) (fun ls hl => ?_)
  have hl : lv_has ls 2 [(0, .ref (B + a0)), (1, .int v1)] := hl
  unfold f_X11_order at h
  refine lv_iload_n hx hb dX11_order_0 rfl (lv_at hl 1 rfl) ?_
  refine lv_bipush (v := (6 : Int32)) hx hb dX11_order_1 (by decide +kernel) ?_
  obtain ⟨r2, hr1, h⟩ := zlg h
  have hr1 := hr1.symm
  refine z_runi (va_runS (As := [.int v1, .int (6 : Int32)]) (rest := []) ⟨hx, hb, hml, hown, hg⟩ (c_X11_within l D cy B hr1) (z_cwS hg zw_290 zw_291 zw_2 zw_292 zh_X11_within.2 ⟨(Nat.le_of_ble_eq_true rfl), (Nat.le_of_ble_eq_true rfl)⟩) (zPS hC hM) rfl rfl hl.1 rfl (lv_room (Nat.le_of_ble_eq_true rfl)) dX11_order_3 ⟨(Nat.le_of_ble_eq_true rfl), (Nat.le_of_ble_eq_true rfl)⟩) hS (fun H locs hM hX3 hS => ?_)
  refine lv_if_ne (tgt := 12) hx hb dX11_order_6 (by decide) (fun hc5 => ?_) (fun hc5 => ?_)
  · have h := zf h hc5
    refine lv_aload_n hx hb dX11_order_12 rfl (lv_at hl 0 rfl) ?_
    obtain ⟨hq7, h⟩ := zk h
    refine z_getN hx hb hg zin_11 hown hK hM ha0 5 rfl (by decide) (hg _ zw_272) (fun _ h9 => h9) hq7 dX11_order_13 (fun h6 => ?_)
    refine lv_aload_n hx hb dX11_order_16 rfl (lv_at hl 0 rfl) ?_
    obtain ⟨hq9, h⟩ := zk h
    refine z_getN hx hb hg zin_11 hown hK hM ha0 0 rfl (by decide) (hg _ zw_267) (fun _ h9 => h9) hq9 dX11_order_17 (fun h8 => ?_)
    refine lv_iload_n hx hb dX11_order_20 rfl (lv_at hl 1 rfl) ?_
    obtain ⟨S11, hr10, h⟩ := zb1 h
    refine z_runv (va_runV (As := [.ref (B + (zr S0 a0 0)), .int v1]) (rest := []) ⟨hx, hb, hml, hown, hg⟩ (c_X4_takeFrom l D cy B h6 h8 hr10) (z_cwV hg zw_751 zw_752 zw_753 zw_9 zw_754 zh_X4_takeFrom ⟨(Nat.le_of_ble_eq_true rfl), (Nat.le_of_ble_eq_true rfl)⟩) (zPV hC hM h6 (by decide) rfl) rfl rfl hl.1 rfl (lv_room (Nat.le_of_ble_eq_true rfl)) dX11_order_21 ⟨(Nat.le_of_ble_eq_true rfl), (Nat.le_of_ble_eq_true rfl)⟩) hS (fun H locs hM hX12 hS => ?_)
    have h14 := ha0.mo hX12
    have hX15 := hX0.tr hX12
    refine lv_aload_n hx hb dX11_order_24 rfl (lv_at hl 0 rfl) ?_
    obtain ⟨hq17, h⟩ := zk h
    refine z_getN hx hb hg zin_11 hown hK hM h14 5 rfl (by decide) (hg _ zw_272) (fun _ h9 => h9) hq17 dX11_order_25 (fun h16 => ?_)
    obtain ⟨r19, hr18, h⟩ := zb1 h
    refine z_runi (va_runU (As := []) (rest := []) ⟨hx, hb, hml, hown, hg⟩ (c_X0O_asItStands l D cy B h16 hr18) (z_cwU (n := 0) (owner := "DiveChairs$Dealing") hg zw_757 zw_758 zw_759 zw_707 zw_8 zw_708 rfl (by decide +kernel) ⟨(Nat.le_of_ble_eq_true rfl), (Nat.le_of_ble_eq_true rfl)⟩) (zPV hC hM h16 (by decide) rfl) rfl rfl hl.1 rfl (lv_room (Nat.le_of_ble_eq_true rfl)) dX11_order_28 ⟨(Nat.le_of_ble_eq_true rfl), (Nat.le_of_ble_eq_true rfl)⟩) hS (fun H locs hM hX20 hS => ?_)
    exact z_iret hx hb hr hlk hM hX15 hS (zsp h) dX11_order_31
  · have h := zt h hc5
    refine lv_ldc (v := (-1000000001 : Int32)) hx hb hown (hg _ zw_540) dX11_order_9 ?_
    exact z_iret hx hb hr hlk hM hX0 hS (zsp h) dX11_order_11
def f_X11_orderOdds (n : Nat) (S0 : zM) (a0 : Nat) (v1 : Int32) (v2 : Int32) : Option (Int32 × zM) :=
  zLet (f_X11_within v1 (6 : Int32)) (fun r2 => if r2 = 0 then some (((-1 : Int32), S0)) else zLet (f_X11_within v2 (2 : Int32)) (fun r7 => if r7 = 0 then some (((-1 : Int32), S0)) else zChk (¬ (zr S0 a0 5) = 0) (zChk (¬ (zr S0 a0 0) = 0) (zB1 (f_X4_takeFrom n S0 (zr S0 a0 5) (zr S0 a0 0) v1) (fun S16 => zChk (¬ (zr S16 a0 5) = 0) (if (zi S16 (zr S16 a0 5) 2) ≤ (7 : Int32) then if v2 = 0 then zB2 (f_X0O_waysAsGood n S16 (zr S16 a0 5)) (fun r32 S33 => some ((r32, S33))) else zB1 (f_X0O_allWays n S16 (zr S16 a0 5)) (fun r27 => some ((r27, S16))) else some (((-3 : Int32), S16))))))))
set_option maxHeartbeats 4000000 in
set_option maxRecDepth 100000 in
theorem c_X11_orderOdds (l : Launch) (D : va_G) (cy : Nat → ClassId) (B : Nat) {n : Nat} {S0 : zM} {a0 : Nat} {v1 : Int32} {v2 : Int32} {r : Int32} {S' : zM} (ha0 : zA S0 a0 11) (h : f_X11_orderOdds n S0 a0 v1 v2 = some (r, S')) : Met l yX11_orderOdds (zws yX11_orderOdds cX11_orderOdds 3 ((some .int))) { frames := 29, cells := 0, slots := 0, locals := 675 } (zPc D cy B S0 [.ref (B + a0), .int v1, .int v2]) (zQi D cy B S0 r S') 0 0 (fun q => B < q) := by
  refine Met.ofW (cc := cX11_orderOdds) (maxL := 3) (ret := ((some .int))) (by decide) rfl ?_
  intro p e s m args below meth c s₁ Bd hml hv
  obtain ⟨rfl, hC, hM⟩ := hv
  obtain ⟨hx, hb, hr, hg, hown, hlk⟩ := z_open Bd
  have hK := hC.1
  have hS : va_S (fun q => B < q) s.heap s.heap [] := va_S.rf
  have hX0 : zX S0 S0 := zX.rf
  refine z_entry (vs := [.ref (B + a0), .int v1, .int v2]) (Nat.le_of_ble_eq_true rfl) (fun ls hl => ?_)
  have hl : lv_has ls 3 [(0, .ref (B + a0)), (1, .int v1), (2, .int v2)] := hl
  unfold f_X11_orderOdds at h
  refine lv_iload_n hx hb dX11_orderOdds_0 rfl (lv_at hl 1 rfl) ?_
  refine lv_bipush (v := (6 : Int32)) hx hb dX11_orderOdds_1 (by decide +kernel) ?_
  obtain ⟨r2, hr1, h⟩ := zlg h
  have hr1 := hr1.symm
  refine z_runi (va_runS (As := [.int v1, .int (6 : Int32)]) (rest := []) ⟨hx, hb, hml, hown, hg⟩ (c_X11_within l D cy B hr1) (z_cwS hg zw_290 zw_291 zw_2 zw_292 zh_X11_within.2 ⟨(Nat.le_of_ble_eq_true rfl), (Nat.le_of_ble_eq_true rfl)⟩) (zPS hC hM) rfl rfl hl.1 rfl (lv_room (Nat.le_of_ble_eq_true rfl)) dX11_orderOdds_3 ⟨(Nat.le_of_ble_eq_true rfl), (Nat.le_of_ble_eq_true rfl)⟩) hS (fun H locs hM hX3 hS => ?_)
  refine lv_if_eq (tgt := 17) hx hb dX11_orderOdds_6 (by decide) (fun hc5 => ?_) (fun hc5 => ?_)
  · have h := zt h hc5
    refine lv_iconst (v := (-1 : Int32)) hx hb dX11_orderOdds_17 (by decide +kernel) ?_
    exact z_iret hx hb hr hlk hM hX0 hS (zsp h) dX11_orderOdds_18
  · have h := zf h hc5
    refine lv_iload_n hx hb dX11_orderOdds_9 rfl (lv_at hl 2 rfl) ?_
    refine lv_iconst (v := (2 : Int32)) hx hb dX11_orderOdds_10 (by decide +kernel) ?_
    obtain ⟨r7, hr6, h⟩ := zlg h
    have hr6 := hr6.symm
    refine z_runi (va_runS (As := [.int v2, .int (2 : Int32)]) (rest := []) ⟨hx, hb, hml, hown, hg⟩ (c_X11_within l D cy B hr6) (z_cwS hg zw_290 zw_291 zw_2 zw_292 zh_X11_within.2 ⟨(Nat.le_of_ble_eq_true rfl), (Nat.le_of_ble_eq_true rfl)⟩) (zPS hC hM) rfl rfl hl.1 rfl (lv_room (Nat.le_of_ble_eq_true rfl)) dX11_orderOdds_11 ⟨(Nat.le_of_ble_eq_true rfl), (Nat.le_of_ble_eq_true rfl)⟩) hS (fun H locs hM hX8 hS => ?_)
    refine lv_if_ne (tgt := 19) hx hb dX11_orderOdds_14 (by decide) (fun hc10 => ?_) (fun hc10 => ?_)
    · have h := zf h hc10
      refine lv_aload_n hx hb dX11_orderOdds_19 rfl (lv_at hl 0 rfl) ?_
      obtain ⟨hq12, h⟩ := zk h
      refine z_getN hx hb hg zin_11 hown hK hM ha0 5 rfl (by decide) (hg _ zw_272) (fun _ h9 => h9) hq12 dX11_orderOdds_20 (fun h11 => ?_)
      refine lv_aload_n hx hb dX11_orderOdds_23 rfl (lv_at hl 0 rfl) ?_
      obtain ⟨hq14, h⟩ := zk h
      refine z_getN hx hb hg zin_11 hown hK hM ha0 0 rfl (by decide) (hg _ zw_267) (fun _ h9 => h9) hq14 dX11_orderOdds_24 (fun h13 => ?_)
      refine lv_iload_n hx hb dX11_orderOdds_27 rfl (lv_at hl 1 rfl) ?_
      obtain ⟨S16, hr15, h⟩ := zb1 h
      refine z_runv (va_runV (As := [.ref (B + (zr S0 a0 0)), .int v1]) (rest := []) ⟨hx, hb, hml, hown, hg⟩ (c_X4_takeFrom l D cy B h11 h13 hr15) (z_cwV hg zw_751 zw_752 zw_753 zw_9 zw_754 zh_X4_takeFrom ⟨(Nat.le_of_ble_eq_true rfl), (Nat.le_of_ble_eq_true rfl)⟩) (zPV hC hM h11 (by decide) rfl) rfl rfl hl.1 rfl (lv_room (Nat.le_of_ble_eq_true rfl)) dX11_orderOdds_28 ⟨(Nat.le_of_ble_eq_true rfl), (Nat.le_of_ble_eq_true rfl)⟩) hS (fun H locs hM hX17 hS => ?_)
      have h19 := ha0.mo hX17
      have hX20 := hX0.tr hX17
      refine lv_aload_n hx hb dX11_orderOdds_31 rfl (lv_at hl 0 rfl) ?_
      obtain ⟨hq22, h⟩ := zk h
      refine z_getN hx hb hg zin_11 hown hK hM h19 5 rfl (by decide) (hg _ zw_272) (fun _ h9 => h9) hq22 dX11_orderOdds_32 (fun h21 => ?_)
      refine z_getI hx hb hg zin_4 hown hK hM h21 2 rfl (by decide) (hg _ zw_201) (fun x9 h9 => u_same (hg _ zw_197) x9 h9) dX11_orderOdds_35 ?_
      refine lv_bipush (v := (7 : Int32)) hx hb dX11_orderOdds_38 (by decide +kernel) ?_
      refine lv_icmp_le (tgt := 46) hx hb dX11_orderOdds_40 (by decide) (fun hc23 => ?_) (fun hc23 => ?_)
      · have h := zt h hc23
        refine lv_iload_n hx hb dX11_orderOdds_46 rfl (lv_at hl 2 rfl) ?_
        refine lv_if_ne (tgt := 60) hx hb dX11_orderOdds_47 (by decide) (fun hc24 => ?_) (fun hc24 => ?_)
        · have h := zf h hc24
          refine lv_aload_n hx hb dX11_orderOdds_60 rfl (lv_at hl 0 rfl) ?_
          refine z_getN hx hb hg zin_11 hown hK hM h19 5 rfl (by decide) (hg _ zw_272) (fun _ h9 => h9) h21.ne dX11_orderOdds_61 (fun h25 => ?_)
          obtain ⟨r27, hr26, h⟩ := zb1 h
          refine z_runi (va_runU (As := []) (rest := []) ⟨hx, hb, hml, hown, hg⟩ (c_X0O_allWays l D cy B h25 hr26) (z_cwU (n := 0) (owner := "DiveChairs$Dealing") hg zw_767 zw_768 zw_769 zw_745 zw_8 zw_746 rfl (by decide +kernel) ⟨(Nat.le_of_ble_eq_true rfl), (Nat.le_of_ble_eq_true rfl)⟩) (zPV hC hM h25 (by decide) rfl) rfl rfl hl.1 rfl (lv_room (Nat.le_of_ble_eq_true rfl)) dX11_orderOdds_64 ⟨(Nat.le_of_ble_eq_true rfl), (Nat.le_of_ble_eq_true rfl)⟩) hS (fun H locs hM hX28 hS => ?_)
          exact z_iret hx hb hr hlk hM hX20 hS (zsp h) dX11_orderOdds_67
        · have h := zt h hc24
          refine lv_aload_n hx hb dX11_orderOdds_50 rfl (lv_at hl 0 rfl) ?_
          refine z_getN hx hb hg zin_11 hown hK hM h19 5 rfl (by decide) (hg _ zw_272) (fun _ h9 => h9) h21.ne dX11_orderOdds_51 (fun h30 => ?_)
          obtain ⟨r32, S33, hr31, h⟩ := zb2 h
          refine z_runi (va_runU (As := []) (rest := []) ⟨hx, hb, hml, hown, hg⟩ (c_X0O_waysAsGood l D cy B h30 hr31) (z_cwU (n := 0) (owner := "DiveChairs$Dealing") hg zw_764 zw_765 zw_766 zw_730 zw_8 zw_731 rfl (by decide +kernel) ⟨(Nat.le_of_ble_eq_true rfl), (Nat.le_of_ble_eq_true rfl)⟩) (zPV hC hM h30 (by decide) rfl) rfl rfl hl.1 rfl (lv_room (Nat.le_of_ble_eq_true rfl)) dX11_orderOdds_54 ⟨(Nat.le_of_ble_eq_true rfl), (Nat.le_of_ble_eq_true rfl)⟩) hS (fun H locs hM hX34 hS => ?_)
          have hX36 := hX20.tr hX34
          refine lv_goto (tgt := 67) hx hb dX11_orderOdds_57 (by decide) ?_
          exact z_iret hx hb hr hlk hM hX36 hS (zsp h) dX11_orderOdds_67
      · have h := zf h hc23
        refine lv_bipush (v := (-3 : Int32)) hx hb dX11_orderOdds_43 (by decide +kernel) ?_
        exact z_iret hx hb hr hlk hM hX20 hS (zsp h) dX11_orderOdds_45
    · have h := zt h hc10
      refine lv_iconst (v := (-1 : Int32)) hx hb dX11_orderOdds_17 (by decide +kernel) ?_
      exact z_iret hx hb hr hlk hM hX0 hS (zsp h) dX11_orderOdds_18
def f_X11_creep_L29b (n : Nat) (S0 : zM) (a0 : Nat) (v1 : Int32) (v2 : Int32) (K14 : Int32 → Int32 → Option (Int32)) (rec29 : Int32 → Int32 → Int32 → Option (Int32)) (x17 : Int32) (x18 : Int32) (x19 : Int32) : Option (Int32) :=
  zChk (¬ (zr S0 a0 0) = 0) (if (zi S0 (zr S0 a0 0) 6) ≤ x19 then K14 x17 x18 else zB1 (f_X9_meanOf n S0 (zr S0 a0 0) x19 v1) (fun r26 => zB1 (f_X9_meanOf n S0 (zr S0 a0 0) x19 v2) (fun r31 => if r26 < 0 then rec29 x17 x18 (x19 + (1 : Int32)) else if r31 < 0 then rec29 x17 x18 (x19 + (1 : Int32)) else rec29 (x17 + (r31 - r26)) (1 : Int32) (x19 + (1 : Int32)))))
def f_X11_creep_L29 (n : Nat) (S0 : zM) (a0 : Nat) (v1 : Int32) (v2 : Int32) (K14 : Int32 → Int32 → Option (Int32)) : Nat → Int32 → Int32 → Int32 → Option (Int32)
  | 0 => fun _ _ _ => none
  | k + 1 => fun x17 x18 x19 => f_X11_creep_L29b n S0 a0 v1 v2 K14 (f_X11_creep_L29 n S0 a0 v1 v2 K14 k) x17 x18 x19
def f_X11_creep (n : Nat) (S0 : zM) (a0 : Nat) (v1 : Int32) (v2 : Int32) : Option (Int32) :=
  zLet (f_X11_within v1 (41 : Int32)) (fun r2 => if r2 = 0 then some (-1000000001 : Int32) else zLet (f_X11_within v2 (41 : Int32)) (fun r7 => if r7 = 0 then some (-1000000001 : Int32) else zLet (fun (x11 : Int32) (x12 : Int32) => if x12 = 0 then some (-1000000004 : Int32) else some x11) (fun K14 => f_X11_creep_L29 n S0 a0 v1 v2 K14 n (0 : Int32) (0 : Int32) (0 : Int32))))
set_option maxHeartbeats 4000000 in
set_option maxRecDepth 100000 in
theorem c_X11_creep (l : Launch) (D : va_G) (cy : Nat → ClassId) (B : Nat) {n : Nat} {S0 : zM} {a0 : Nat} {v1 : Int32} {v2 : Int32} {r : Int32} (ha0 : zA S0 a0 11) (h : f_X11_creep n S0 a0 v1 v2 = some r) : Met l yX11_creep (zws yX11_creep cX11_creep 8 ((some .int))) { frames := 2, cells := 0, slots := 0, locals := 49 } (zPc D cy B S0 [.ref (B + a0), .int v1, .int v2]) (zQi D cy B S0 r S0) 0 0 (fun q => B < q) := by
  refine Met.ofW (cc := cX11_creep) (maxL := 8) (ret := ((some .int))) (by decide) rfl ?_
  intro p e s m args below meth c s₁ Bd hml hv
  obtain ⟨rfl, hC, hM⟩ := hv
  obtain ⟨hx, hb, hr, hg, hown, hlk⟩ := z_open Bd
  have hK := hC.1
  have hS : va_S (fun q => B < q) s.heap s.heap [] := va_S.rf
  have hX0 : zX S0 S0 := zX.rf
  refine z_entry (vs := [.ref (B + a0), .int v1, .int v2]) (Nat.le_of_ble_eq_true rfl) (fun ls hl => ?_)
  have hl : lv_has ls 8 [(0, .ref (B + a0)), (1, .int v1), (2, .int v2)] := hl
  unfold f_X11_creep at h
  refine lv_iload_n hx hb dX11_creep_0 rfl (lv_at hl 1 rfl) ?_
  refine lv_bipush (v := (41 : Int32)) hx hb dX11_creep_1 (by decide +kernel) ?_
  obtain ⟨r2, hr1, h⟩ := zlg h
  have hr1 := hr1.symm
  refine z_runi (va_runS (As := [.int v1, .int (41 : Int32)]) (rest := []) ⟨hx, hb, hml, hown, hg⟩ (c_X11_within l D cy B hr1) (z_cwS hg zw_290 zw_291 zw_2 zw_292 zh_X11_within.2 ⟨(Nat.le_of_ble_eq_true rfl), (Nat.le_of_ble_eq_true rfl)⟩) (zPS hC hM) rfl rfl hl.1 rfl (lv_room (Nat.le_of_ble_eq_true rfl)) dX11_creep_3 ⟨(Nat.le_of_ble_eq_true rfl), (Nat.le_of_ble_eq_true rfl)⟩) hS (fun H locs hM hX3 hS => ?_)
  refine lv_if_eq (tgt := 18) hx hb dX11_creep_6 (by decide) (fun hc5 => ?_) (fun hc5 => ?_)
  · have h := zt h hc5
    refine lv_ldc (v := (-1000000001 : Int32)) hx hb hown (hg _ zw_540) dX11_creep_18 ?_
    exact z_iret hx hb hr hlk hM hX0 hS ⟨zsm h, rfl⟩ dX11_creep_20
  · have h := zf h hc5
    refine lv_iload_n hx hb dX11_creep_9 rfl (lv_at hl 2 rfl) ?_
    refine lv_bipush (v := (41 : Int32)) hx hb dX11_creep_10 (by decide +kernel) ?_
    obtain ⟨r7, hr6, h⟩ := zlg h
    have hr6 := hr6.symm
    refine z_runi (va_runS (As := [.int v2, .int (41 : Int32)]) (rest := []) ⟨hx, hb, hml, hown, hg⟩ (c_X11_within l D cy B hr6) (z_cwS hg zw_290 zw_291 zw_2 zw_292 zh_X11_within.2 ⟨(Nat.le_of_ble_eq_true rfl), (Nat.le_of_ble_eq_true rfl)⟩) (zPS hC hM) rfl rfl hl.1 rfl (lv_room (Nat.le_of_ble_eq_true rfl)) dX11_creep_12 ⟨(Nat.le_of_ble_eq_true rfl), (Nat.le_of_ble_eq_true rfl)⟩) hS (fun H locs hM hX8 hS => ?_)
    refine lv_if_ne (tgt := 21) hx hb dX11_creep_15 (by decide) (fun hc10 => ?_) (fun hc10 => ?_)
    · have h := zf h hc10
      refine lv_iconst (v := (0 : Int32)) hx hb dX11_creep_21 (by decide +kernel) ?_
      refine lv_istore_n (i := 3) (lv' := [(3, .int (0 : Int32)), (0, .ref (B + a0)), (1, .int v1), (2, .int v2)]) hx hb dX11_creep_22 rfl hl (by decide) rfl (fun ls hl => ?_)
      refine lv_iconst (v := (0 : Int32)) hx hb dX11_creep_23 (by decide +kernel) ?_
      refine lv_istore (i := 4) (lv' := [(4, .int (0 : Int32)), (3, .int (0 : Int32)), (0, .ref (B + a0)), (1, .int v1), (2, .int v2)]) hx hb dX11_creep_24 hl (by decide) rfl (fun ls hl => ?_)
      refine lv_iconst (v := (0 : Int32)) hx hb dX11_creep_26 (by decide +kernel) ?_
      refine lv_istore (i := 5) (lv' := [(5, .int (0 : Int32)), (4, .int (0 : Int32)), (3, .int (0 : Int32)), (0, .ref (B + a0)), (1, .int v1), (2, .int v2)]) hx hb dX11_creep_27 hl (by decide) rfl (fun ls hl => ?_)
      obtain ⟨K14, eK14, h⟩ := zlg h
      have hK14 : ∀ (x11 : Int32) (x12 : Int32) (H : Heap) (locs : List Loc), zMR D cy B S0 H → zX S0 S0 → va_S (fun q => B < q) s.heap H locs → ∀ ls : Array Slot, lv_has ls 8 [(3, .int x11), (4, .int x12)] → K14 x11 x12 = some r → W p l e (headSpec (zws yX11_creep cX11_creep 8 ((some .int))) { frames := 2, cells := 0, slots := 0, locals := 49 }).room s m (([.ref (B + a0), .int v1, .int v2] : List Value).toArray) below meth c H locs 0 0 (MQ below (zQi D cy B S0 r S0) (([.ref (B + a0), .int v1, .int v2] : List Value).toArray) s 0 0 (fun q => B < q)) (F0 m 92 ls []) := by
        intro x11 x12 H locs hM hX13 hS ls hl h
        rw [eK14] at h
        refine lv_iload hx hb dX11_creep_92 (lv_at hl 1 rfl) ?_
        refine lv_if_eq (tgt := 101) hx hb dX11_creep_94 (by decide) (fun hc15 => ?_) (fun hc15 => ?_)
        · have h := zt h hc15
          refine lv_ldc (v := (-1000000004 : Int32)) hx hb hown (hg _ zw_681) dX11_creep_101 ?_
          exact z_iret hx hb hr hlk hM hX13 hS ⟨zsm h, rfl⟩ dX11_creep_103
        · have h := zf h hc15
          refine lv_iload_n hx hb dX11_creep_97 rfl (lv_at hl 0 rfl) ?_
          refine lv_goto (tgt := 103) hx hb dX11_creep_98 (by decide) ?_
          exact z_iret hx hb hr hlk hM hX13 hS ⟨zsm h, rfl⟩ dX11_creep_103
      have hL29 : ∀ (k : Nat) (x17 : Int32) (x18 : Int32) (x19 : Int32) (H : Heap) (locs : List Loc), zMR D cy B S0 H → zX S0 S0 → va_S (fun q => B < q) s.heap H locs → zA S0 a0 11 → ∀ ls : Array Slot, lv_has ls 8 [(0, .ref (B + a0)), (1, .int v1), (2, .int v2), (3, .int x17), (4, .int x18), (5, .int x19)] → f_X11_creep_L29 n S0 a0 v1 v2 K14 k x17 x18 x19 = some r → W p l e (headSpec (zws yX11_creep cX11_creep 8 ((some .int))) { frames := 2, cells := 0, slots := 0, locals := 49 }).room s m (([.ref (B + a0), .int v1, .int v2] : List Value).toArray) below meth c H locs 0 0 (MQ below (zQi D cy B S0 r S0) (([.ref (B + a0), .int v1, .int v2] : List Value).toArray) s 0 0 (fun q => B < q)) (F0 m 29 ls []) := by
        intro k
        induction k with
        | zero =>
          intro x17 x18 x19 H locs hM hX20 hS h16 ls hl h
          exact znone h
        | succ k ih29 =>
          intro x17 x18 x19 H locs hM hX20 hS h16 ls hl h
          replace h : f_X11_creep_L29b n S0 a0 v1 v2 K14 (f_X11_creep_L29 n S0 a0 v1 v2 K14 k) x17 x18 x19 = some r := h
          generalize f_X11_creep_L29 n S0 a0 v1 v2 K14 k = rec29 at ih29 h
          unfold f_X11_creep_L29b at h
          refine lv_iload hx hb dX11_creep_29 (lv_at hl 5 rfl) ?_
          refine lv_aload_n hx hb dX11_creep_31 rfl (lv_at hl 0 rfl) ?_
          obtain ⟨hq22, h⟩ := zk h
          refine z_getN hx hb hg zin_11 hown hK hM h16 0 rfl (by decide) (hg _ zw_267) (fun _ h9 => h9) hq22 dX11_creep_32 (fun h21 => ?_)
          refine z_getI hx hb hg zin_9 hown hK hM h21 6 rfl (by decide) (hg _ zw_136) (fun _ h9 => h9) dX11_creep_35 ?_
          refine lv_icmp_ge (tgt := 92) hx hb dX11_creep_38 (by decide) (fun hc23 => ?_) (fun hc23 => ?_)
          · have h := zt h hc23
            exact hK14 x17 x18 _ _ hM hX20 hS _ (lv_sub hl [3, 4] rfl) h
          · have h := zf h hc23
            refine lv_aload_n hx hb dX11_creep_41 rfl (lv_at hl 0 rfl) ?_
            refine z_getN hx hb hg zin_11 hown hK hM h16 0 rfl (by decide) (hg _ zw_267) (fun _ h9 => h9) h21.ne dX11_creep_42 (fun h24 => ?_)
            refine lv_iload hx hb dX11_creep_45 (lv_at hl 5 rfl) ?_
            refine lv_iload_n hx hb dX11_creep_47 rfl (lv_at hl 1 rfl) ?_
            obtain ⟨r26, hr25, h⟩ := zb1 h
            refine z_runi (va_runV (As := [.int x19, .int v1]) (rest := []) ⟨hx, hb, hml, hown, hg⟩ (c_X9_meanOf l D cy B h24 hr25) (z_cwV hg zw_774 zw_775 zw_776 zw_3 zw_777 zh_X9_meanOf ⟨(Nat.le_of_ble_eq_true rfl), (Nat.le_of_ble_eq_true rfl)⟩) (zPV hC hM h24 (by decide) rfl) rfl rfl hl.1 rfl (lv_room (Nat.le_of_ble_eq_true rfl)) dX11_creep_48 ⟨(Nat.le_of_ble_eq_true rfl), (Nat.le_of_ble_eq_true rfl)⟩) hS (fun H locs hM hX27 hS => ?_)
            refine lv_istore (i := 6) (lv' := [(6, .int r26), (0, .ref (B + a0)), (1, .int v1), (2, .int v2), (3, .int x17), (4, .int x18), (5, .int x19)]) hx hb dX11_creep_51 hl (by decide) rfl (fun ls hl => ?_)
            refine lv_aload_n hx hb dX11_creep_53 rfl (lv_at hl 1 rfl) ?_
            refine z_getN hx hb hg zin_11 hown hK hM h16 0 rfl (by decide) (hg _ zw_267) (fun _ h9 => h9) h24.ne dX11_creep_54 (fun h29 => ?_)
            refine lv_iload hx hb dX11_creep_57 (lv_at hl 6 rfl) ?_
            refine lv_iload_n hx hb dX11_creep_59 rfl (lv_at hl 3 rfl) ?_
            obtain ⟨r31, hr30, h⟩ := zb1 h
            refine z_runi (va_runV (As := [.int x19, .int v2]) (rest := []) ⟨hx, hb, hml, hown, hg⟩ (c_X9_meanOf l D cy B h29 hr30) (z_cwV hg zw_774 zw_775 zw_776 zw_3 zw_777 zh_X9_meanOf ⟨(Nat.le_of_ble_eq_true rfl), (Nat.le_of_ble_eq_true rfl)⟩) (zPV hC hM h29 (by decide) rfl) rfl rfl hl.1 rfl (lv_room (Nat.le_of_ble_eq_true rfl)) dX11_creep_60 ⟨(Nat.le_of_ble_eq_true rfl), (Nat.le_of_ble_eq_true rfl)⟩) hS (fun H locs hM hX32 hS => ?_)
            refine lv_istore (i := 7) (lv' := [(7, .int r31), (6, .int r26), (0, .ref (B + a0)), (1, .int v1), (2, .int v2), (3, .int x17), (4, .int x18), (5, .int x19)]) hx hb dX11_creep_63 hl (by decide) rfl (fun ls hl => ?_)
            refine lv_iload hx hb dX11_creep_65 (lv_at hl 1 rfl) ?_
            refine lv_if_lt (tgt := 86) hx hb dX11_creep_67 (by decide) (fun hc34 => ?_) (fun hc34 => ?_)
            · have h := zt h hc34
              refine lv_iinc (v := (x19 + (1 : Int32))) (lv' := [(5, .int (x19 + (1 : Int32))), (7, .int r31), (6, .int r26), (0, .ref (B + a0)), (1, .int v1), (2, .int v2), (3, .int x17), (4, .int x18)]) hx hb dX11_creep_86 hl (k := 7) rfl rfl (by decide) rfl (fun ls hl => ?_)
              refine lv_goto (tgt := 29) hx hb dX11_creep_89 (by decide) ?_
              exact ih29 x17 x18 (x19 + (1 : Int32)) _ _ hM hX20 hS h16 _ (lv_sub hl [3, 4, 5, 6, 7, 0] rfl) h
            · have h := zf h hc34
              refine lv_iload hx hb dX11_creep_70 (lv_at hl 0 rfl) ?_
              refine lv_if_lt (tgt := 86) hx hb dX11_creep_72 (by decide) (fun hc35 => ?_) (fun hc35 => ?_)
              · have h := zt h hc35
                refine lv_iinc (v := (x19 + (1 : Int32))) (lv' := [(5, .int (x19 + (1 : Int32))), (7, .int r31), (6, .int r26), (0, .ref (B + a0)), (1, .int v1), (2, .int v2), (3, .int x17), (4, .int x18)]) hx hb dX11_creep_86 hl (k := 7) rfl rfl (by decide) rfl (fun ls hl => ?_)
                refine lv_goto (tgt := 29) hx hb dX11_creep_89 (by decide) ?_
                exact ih29 x17 x18 (x19 + (1 : Int32)) _ _ hM hX20 hS h16 _ (lv_sub hl [3, 4, 5, 6, 7, 0] rfl) h
              · have h := zf h hc35
                refine lv_iload_n hx hb dX11_creep_75 rfl (lv_at hl 5 rfl) ?_
                refine lv_iload hx hb dX11_creep_76 (lv_at hl 0 rfl) ?_
                refine lv_iload hx hb dX11_creep_78 (lv_at hl 1 rfl) ?_
                refine lv_isub hx hb dX11_creep_80 ?_
                refine lv_iadd hx hb dX11_creep_81 ?_
                refine lv_istore_n (i := 3) (lv' := [(3, .int (x17 + (r31 - r26))), (7, .int r31), (6, .int r26), (0, .ref (B + a0)), (1, .int v1), (2, .int v2), (4, .int x18), (5, .int x19)]) hx hb dX11_creep_82 rfl hl (by decide) rfl (fun ls hl => ?_)
                refine lv_iconst (v := (1 : Int32)) hx hb dX11_creep_83 (by decide +kernel) ?_
                refine lv_istore (i := 4) (lv' := [(4, .int (1 : Int32)), (3, .int (x17 + (r31 - r26))), (7, .int r31), (6, .int r26), (0, .ref (B + a0)), (1, .int v1), (2, .int v2), (5, .int x19)]) hx hb dX11_creep_84 hl (by decide) rfl (fun ls hl => ?_)
                refine lv_iinc (v := (x19 + (1 : Int32))) (lv' := [(5, .int (x19 + (1 : Int32))), (4, .int (1 : Int32)), (3, .int (x17 + (r31 - r26))), (7, .int r31), (6, .int r26), (0, .ref (B + a0)), (1, .int v1), (2, .int v2)]) hx hb dX11_creep_86 hl (k := 7) rfl rfl (by decide) rfl (fun ls hl => ?_)
                refine lv_goto (tgt := 29) hx hb dX11_creep_89 (by decide) ?_
                exact ih29 (x17 + (r31 - r26)) (1 : Int32) (x19 + (1 : Int32)) _ _ hM hX20 hS h16 _ (lv_sub hl [5, 6, 7, 2, 1, 0] rfl) h
      exact hL29 n (0 : Int32) (0 : Int32) (0 : Int32) _ _ hM hX0 hS ha0 _ (lv_sub hl [3, 4, 5, 2, 1, 0] rfl) h
    · have h := zt h hc10
      refine lv_ldc (v := (-1000000001 : Int32)) hx hb hown (hg _ zw_540) dX11_creep_18 ?_
      exact z_iret hx hb hr hlk hM hX0 hS ⟨zsm h, rfl⟩ dX11_creep_20
