def f_X11_near (n : Nat) (S0 : zM) (a0 : Nat) (v1 : Int32) : Option (Int32 × zM) :=
  zChk (¬ (zr S0 a0 0) = 0) (zLet (f_X11_within v1 (zi S0 (zr S0 a0 0) 6)) (fun r4 => if r4 = 0 then some (((-1 : Int32), S0)) else zChk (¬ (zr S0 a0 7) = 0) (zB1 (f_X9_tallyUp n S0 (zr S0 a0 0) (zr S0 a0 7) v1 (-1 : Int32)) (fun S12 => zChk (¬ (zr S12 a0 7) = 0) (if (zi S12 (zr S12 a0 7) 1) = 0 then some (((-4 : Int32), S12)) else some (((zi S12 (zr S12 a0 7) 4), S12)))))))
set_option maxHeartbeats 4000000 in
set_option maxRecDepth 100000 in
theorem c_X11_near (l : Launch) (D : va_G) (cy : Nat → ClassId) (B : Nat) {n : Nat} {S0 : zM} {a0 : Nat} {v1 : Int32} {r : Int32} {S' : zM} (ha0 : zA S0 a0 11) (h : f_X11_near n S0 a0 v1 = some (r, S')) : Met l yX11_near (zws yX11_near cX11_near 2 ((some .int))) { frames := 4, cells := 0, slots := 0, locals := 90 } (zPc D cy B S0 [.ref (B + a0), .int v1]) (zQi D cy B S0 r S') 0 0 (fun q => B < q) := by
  refine Met.ofW (cc := cX11_near) (maxL := 2) (ret := ((some .int))) (by decide) rfl ?_
  intro p e s m args below meth c s₁ Bd hml hv
  obtain ⟨rfl, hC, hM⟩ := hv
  obtain ⟨hx, hb, hr, hg, hown, hlk⟩ := z_open Bd
  have hK := hC.1
  have hS : va_S (fun q => B < q) s.heap s.heap [] := va_S.rf
  have hX0 : zX S0 S0 := zX.rf
  refine z_entry (vs := [.ref (B + a0), .int v1]) (Nat.le_of_ble_eq_true rfl) (fun ls hl => ?_)
  have hl : lv_has ls 2 [(0, .ref (B + a0)), (1, .int v1)] := hl
  unfold f_X11_near at h
  refine lv_iload_n hx hb dX11_near_0 rfl (lv_at hl 1 rfl) ?_
  refine lv_aload_n hx hb dX11_near_1 rfl (lv_at hl 0 rfl) ?_
  obtain ⟨hq2, h⟩ := zk h
  refine z_getN hx hb hg zin_11 hown hK hM ha0 0 rfl (by decide) (hg _ zw_267) (fun _ h9 => h9) hq2 dX11_near_2 (fun h1 => ?_)
  refine z_getI hx hb hg zin_9 hown hK hM h1 6 rfl (by decide) (hg _ zw_136) (fun _ h9 => h9) dX11_near_5 ?_
  obtain ⟨r4, hr3, h⟩ := zlg h
  have hr3 := hr3.symm
  refine z_runi (va_runS (As := [.int v1, .int (zi S0 (zr S0 a0 0) 6)]) (rest := []) ⟨hx, hb, hml, hown, hg⟩ (c_X11_within l D cy B hr3) (z_cwS hg zw_290 zw_291 zw_2 zw_292 zh_X11_within.2 ⟨(Nat.le_of_ble_eq_true rfl), (Nat.le_of_ble_eq_true rfl)⟩) (zPS hC hM) rfl rfl hl.1 rfl (lv_room (Nat.le_of_ble_eq_true rfl)) dX11_near_8 ⟨(Nat.le_of_ble_eq_true rfl), (Nat.le_of_ble_eq_true rfl)⟩) hS (fun H locs hM hX5 hS => ?_)
  refine lv_if_ne (tgt := 16) hx hb dX11_near_11 (by decide) (fun hc7 => ?_) (fun hc7 => ?_)
  · have h := zf h hc7
    refine lv_aload_n hx hb dX11_near_16 rfl (lv_at hl 0 rfl) ?_
    refine z_getN hx hb hg zin_11 hown hK hM ha0 0 rfl (by decide) (hg _ zw_267) (fun _ h9 => h9) h1.ne dX11_near_17 (fun h8 => ?_)
    refine lv_aload_n hx hb dX11_near_20 rfl (lv_at hl 0 rfl) ?_
    obtain ⟨hq10, h⟩ := zk h
    refine z_getN hx hb hg zin_11 hown hK hM ha0 7 rfl (by decide) (hg _ zw_274) (fun _ h9 => h9) hq10 dX11_near_21 (fun h9 => ?_)
    refine lv_iload_n hx hb dX11_near_24 rfl (lv_at hl 1 rfl) ?_
    refine lv_iconst (v := (-1 : Int32)) hx hb dX11_near_25 (by decide +kernel) ?_
    obtain ⟨S12, hr11, h⟩ := zb1 h
    refine z_runv (va_runV (As := [.ref (B + (zr S0 a0 7)), .int v1, .int (-1 : Int32)]) (rest := []) ⟨hx, hb, hml, hown, hg⟩ (c_X9_tallyUp l D cy B h8 h9 hr11) (z_cwV hg zw_660 zw_661 zw_662 zw_3 zw_663 zh_X9_tallyUp ⟨(Nat.le_of_ble_eq_true rfl), (Nat.le_of_ble_eq_true rfl)⟩) (zPV hC hM h8 (by decide) rfl) rfl rfl hl.1 rfl (lv_room (Nat.le_of_ble_eq_true rfl)) dX11_near_26 ⟨(Nat.le_of_ble_eq_true rfl), (Nat.le_of_ble_eq_true rfl)⟩) hS (fun H locs hM hX13 hS => ?_)
    have h15 := ha0.mo hX13
    have hX16 := hX0.tr hX13
    refine lv_aload_n hx hb dX11_near_29 rfl (lv_at hl 0 rfl) ?_
    obtain ⟨hq18, h⟩ := zk h
    refine z_getN hx hb hg zin_11 hown hK hM h15 7 rfl (by decide) (hg _ zw_274) (fun _ h9 => h9) hq18 dX11_near_30 (fun h17 => ?_)
    refine z_getI hx hb hg zin_10 hown hK hM h17 1 rfl (by decide) (hg _ zw_232) (fun _ h9 => h9) dX11_near_33 ?_
    refine lv_if_ne (tgt := 44) hx hb dX11_near_36 (by decide) (fun hc19 => ?_) (fun hc19 => ?_)
    · have h := zf h hc19
      refine lv_aload_n hx hb dX11_near_44 rfl (lv_at hl 0 rfl) ?_
      refine z_getN hx hb hg zin_11 hown hK hM h15 7 rfl (by decide) (hg _ zw_274) (fun _ h9 => h9) h17.ne dX11_near_45 (fun h20 => ?_)
      refine z_getI hx hb hg zin_10 hown hK hM h20 4 rfl (by decide) (hg _ zw_238) (fun _ h9 => h9) dX11_near_48 ?_
      exact z_iret hx hb hr hlk hM hX16 hS (zsp h) dX11_near_51
    · have h := zt h hc19
      refine lv_bipush (v := (-4 : Int32)) hx hb dX11_near_39 (by decide +kernel) ?_
      refine lv_goto (tgt := 51) hx hb dX11_near_41 (by decide) ?_
      exact z_iret hx hb hr hlk hM hX16 hS (zsp h) dX11_near_51
  · have h := zt h hc7
    refine lv_iconst (v := (-1 : Int32)) hx hb dX11_near_14 (by decide +kernel) ?_
    exact z_iret hx hb hr hlk hM hX0 hS (zsp h) dX11_near_15
def f_X11_nearest_L10b (n : Nat) (a0 : Nat) (K4 : Int32 → zM → Option (Int32 × zM)) (rec10 : Int32 → Int32 → Int32 → Int32 → zM → Option (Int32 × zM)) (x6 : Int32) (x7 : Int32) (x8 : Int32) (x9 : Int32) (S10 : zM) : Option (Int32 × zM) :=
  zChk (¬ (zr S10 a0 0) = 0) (if (zi S10 (zr S10 a0 0) 6) ≤ x9 then K4 x6 S10 else zChk (¬ (zr S10 a0 7) = 0) (zB1 (f_X9_tallyUp n S10 (zr S10 a0 0) (zr S10 a0 7) x9 (-1 : Int32)) (fun S19 => zLet (fun (x25 : Int32) => zChk (¬ (zr S19 a0 7) = 0) (if (zi S19 (zr S19 a0 7) 1) ≤ 0 then rec10 x6 x7 x8 (x9 + (1 : Int32)) S19 else if x25 = 0 then rec10 x6 x7 x8 (x9 + (1 : Int32)) S19 else rec10 x9 (zi S19 (zr S19 a0 7) 4) (zi S19 (zr S19 a0 7) 1) (x9 + (1 : Int32)) S19)) (fun K27 => zLet (K27 (1 : Int32)) (fun K36 => if x6 < 0 then K36 else zChk (¬ (zr S19 a0 7) = 0) (if (x7 * (zi S19 (zr S19 a0 7) 1)) ≤ ((zi S19 (zr S19 a0 7) 4) * x8) then K27 (0 : Int32) else K36))))))
def f_X11_nearest_L10 (n : Nat) (a0 : Nat) (K4 : Int32 → zM → Option (Int32 × zM)) : Nat → Int32 → Int32 → Int32 → Int32 → zM → Option (Int32 × zM)
  | 0 => fun _ _ _ _ _ => none
  | k + 1 => fun x6 x7 x8 x9 S10 => f_X11_nearest_L10b n a0 K4 (f_X11_nearest_L10 n a0 K4 k) x6 x7 x8 x9 S10
def f_X11_nearest (n : Nat) (S0 : zM) (a0 : Nat) : Option (Int32 × zM) :=
  zLet (fun (x1 : Int32) (S2 : zM) => some ((x1, S2))) (fun K4 => f_X11_nearest_L10 n a0 K4 n (-4 : Int32) (0 : Int32) (0 : Int32) (0 : Int32) S0)
set_option maxHeartbeats 4000000 in
set_option maxRecDepth 100000 in
theorem c_X11_nearest (l : Launch) (D : va_G) (cy : Nat → ClassId) (B : Nat) {n : Nat} {S0 : zM} {a0 : Nat} {r : Int32} {S' : zM} (ha0 : zA S0 a0 11) (h : f_X11_nearest n S0 a0 = some (r, S')) : Met l yX11_nearest (zws yX11_nearest cX11_nearest 6 ((some .int))) { frames := 4, cells := 0, slots := 0, locals := 90 } (zPc D cy B S0 [.ref (B + a0)]) (zQi D cy B S0 r S') 0 0 (fun q => B < q) := by
  refine Met.ofW (cc := cX11_nearest) (maxL := 6) (ret := ((some .int))) (by decide) rfl ?_
  intro p e s m args below meth c s₁ Bd hml hv
  obtain ⟨rfl, hC, hM⟩ := hv
  obtain ⟨hx, hb, hr, hg, hown, hlk⟩ := z_open Bd
  have hK := hC.1
  have hS : va_S (fun q => B < q) s.heap s.heap [] := va_S.rf
  have hX0 : zX S0 S0 := zX.rf
  refine z_entry (vs := [.ref (B + a0)]) (Nat.le_of_ble_eq_true rfl) (fun ls hl => ?_)
  have hl : lv_has ls 6 [(0, .ref (B + a0))] := hl
  unfold f_X11_nearest at h
  refine lv_bipush (v := (-4 : Int32)) hx hb dX11_nearest_0 (by decide +kernel) ?_
  refine lv_istore_n (i := 1) (lv' := [(1, .int (-4 : Int32)), (0, .ref (B + a0))]) hx hb dX11_nearest_2 rfl hl (by decide) rfl (fun ls hl => ?_)
  refine lv_iconst (v := (0 : Int32)) hx hb dX11_nearest_3 (by decide +kernel) ?_
  refine lv_istore_n (i := 2) (lv' := [(2, .int (0 : Int32)), (1, .int (-4 : Int32)), (0, .ref (B + a0))]) hx hb dX11_nearest_4 rfl hl (by decide) rfl (fun ls hl => ?_)
  refine lv_iconst (v := (0 : Int32)) hx hb dX11_nearest_5 (by decide +kernel) ?_
  refine lv_istore_n (i := 3) (lv' := [(3, .int (0 : Int32)), (2, .int (0 : Int32)), (1, .int (-4 : Int32)), (0, .ref (B + a0))]) hx hb dX11_nearest_6 rfl hl (by decide) rfl (fun ls hl => ?_)
  refine lv_iconst (v := (0 : Int32)) hx hb dX11_nearest_7 (by decide +kernel) ?_
  refine lv_istore (i := 4) (lv' := [(4, .int (0 : Int32)), (3, .int (0 : Int32)), (2, .int (0 : Int32)), (1, .int (-4 : Int32)), (0, .ref (B + a0))]) hx hb dX11_nearest_8 hl (by decide) rfl (fun ls hl => ?_)
  obtain ⟨K4, eK4, h⟩ := zlg h
  have hK4 : ∀ (x1 : Int32) (S2 : zM) (H : Heap) (locs : List Loc), zMR D cy B S2 H → zX S0 S2 → va_S (fun q => B < q) s.heap H locs → ∀ ls : Array Slot, lv_has ls 6 [(1, .int x1)] → K4 x1 S2 = some (r, S') → W p l e (headSpec (zws yX11_nearest cX11_nearest 6 ((some .int))) { frames := 4, cells := 0, slots := 0, locals := 90 }).room s m (([.ref (B + a0)] : List Value).toArray) below meth c H locs 0 0 (MQ below (zQi D cy B S0 r S') (([.ref (B + a0)] : List Value).toArray) s 0 0 (fun q => B < q)) (F0 m 108 ls []) := by
    intro x1 S2 H locs hM hX3 hS ls hl h
    rw [eK4] at h
    refine lv_iload_n hx hb dX11_nearest_108 rfl (lv_at hl 0 rfl) ?_
    exact z_iret hx hb hr hlk hM hX3 hS (zsp h) dX11_nearest_109
  have hL10 : ∀ (k : Nat) (x6 : Int32) (x7 : Int32) (x8 : Int32) (x9 : Int32) (S10 : zM) (H : Heap) (locs : List Loc), zMR D cy B S10 H → zX S0 S10 → va_S (fun q => B < q) s.heap H locs → zA S10 a0 11 → ∀ ls : Array Slot, lv_has ls 6 [(0, .ref (B + a0)), (1, .int x6), (2, .int x7), (3, .int x8), (4, .int x9)] → f_X11_nearest_L10 n a0 K4 k x6 x7 x8 x9 S10 = some (r, S') → W p l e (headSpec (zws yX11_nearest cX11_nearest 6 ((some .int))) { frames := 4, cells := 0, slots := 0, locals := 90 }).room s m (([.ref (B + a0)] : List Value).toArray) below meth c H locs 0 0 (MQ below (zQi D cy B S0 r S') (([.ref (B + a0)] : List Value).toArray) s 0 0 (fun q => B < q)) (F0 m 10 ls []) := by
    intro k
    induction k with
    | zero =>
      intro x6 x7 x8 x9 S10 H locs hM hX11 hS h5 ls hl h
      exact znone h
    | succ k ih10 =>
      intro x6 x7 x8 x9 S10 H locs hM hX11 hS h5 ls hl h
      replace h : f_X11_nearest_L10b n a0 K4 (f_X11_nearest_L10 n a0 K4 k) x6 x7 x8 x9 S10 = some (r, S') := h
      generalize f_X11_nearest_L10 n a0 K4 k = rec10 at ih10 h
      unfold f_X11_nearest_L10b at h
      refine lv_iload hx hb dX11_nearest_10 (lv_at hl 4 rfl) ?_
      refine lv_aload_n hx hb dX11_nearest_12 rfl (lv_at hl 0 rfl) ?_
      obtain ⟨hq13, h⟩ := zk h
      refine z_getN hx hb hg zin_11 hown hK hM h5 0 rfl (by decide) (hg _ zw_267) (fun _ h9 => h9) hq13 dX11_nearest_13 (fun h12 => ?_)
      refine z_getI hx hb hg zin_9 hown hK hM h12 6 rfl (by decide) (hg _ zw_136) (fun _ h9 => h9) dX11_nearest_16 ?_
      refine lv_icmp_ge (tgt := 108) hx hb dX11_nearest_19 (by decide) (fun hc14 => ?_) (fun hc14 => ?_)
      · have h := zt h hc14
        exact hK4 x6 S10 _ _ hM hX11 hS _ (lv_sub hl [1] rfl) h
      · have h := zf h hc14
        refine lv_aload_n hx hb dX11_nearest_22 rfl (lv_at hl 0 rfl) ?_
        refine z_getN hx hb hg zin_11 hown hK hM h5 0 rfl (by decide) (hg _ zw_267) (fun _ h9 => h9) h12.ne dX11_nearest_23 (fun h15 => ?_)
        refine lv_aload_n hx hb dX11_nearest_26 rfl (lv_at hl 0 rfl) ?_
        obtain ⟨hq17, h⟩ := zk h
        refine z_getN hx hb hg zin_11 hown hK hM h5 7 rfl (by decide) (hg _ zw_274) (fun _ h9 => h9) hq17 dX11_nearest_27 (fun h16 => ?_)
        refine lv_iload hx hb dX11_nearest_30 (lv_at hl 4 rfl) ?_
        refine lv_iconst (v := (-1 : Int32)) hx hb dX11_nearest_32 (by decide +kernel) ?_
        obtain ⟨S19, hr18, h⟩ := zb1 h
        refine z_runv (va_runV (As := [.ref (B + (zr S10 a0 7)), .int x9, .int (-1 : Int32)]) (rest := []) ⟨hx, hb, hml, hown, hg⟩ (c_X9_tallyUp l D cy B h15 h16 hr18) (z_cwV hg zw_660 zw_661 zw_662 zw_3 zw_663 zh_X9_tallyUp ⟨(Nat.le_of_ble_eq_true rfl), (Nat.le_of_ble_eq_true rfl)⟩) (zPV hC hM h15 (by decide) rfl) rfl rfl hl.1 rfl (lv_room (Nat.le_of_ble_eq_true rfl)) dX11_nearest_33 ⟨(Nat.le_of_ble_eq_true rfl), (Nat.le_of_ble_eq_true rfl)⟩) hS (fun H locs hM hX20 hS => ?_)
        have h22 := h5.mo hX20
        have hX23 := hX11.tr hX20
        refine lv_iload_n hx hb dX11_nearest_36 rfl (lv_at hl 1 rfl) ?_
        obtain ⟨K27, eK27, h⟩ := zlg h
        have hK27 : ∀ (x25 : Int32) (H : Heap) (locs : List Loc), zMR D cy B S19 H → zX S0 S19 → va_S (fun q => B < q) s.heap H locs → zA S19 a0 11 → ∀ ls : Array Slot, lv_has ls 6 [(0, .ref (B + a0)), (1, .int x6), (2, .int x7), (3, .int x8), (4, .int x9)] → K27 x25 = some (r, S') → W p l e (headSpec (zws yX11_nearest cX11_nearest 6 ((some .int))) { frames := 4, cells := 0, slots := 0, locals := 90 }).room s m (([.ref (B + a0)] : List Value).toArray) below meth c H locs 0 0 (MQ below (zQi D cy B S0 r S') (([.ref (B + a0)] : List Value).toArray) s 0 0 (fun q => B < q)) (F0 m 66 ls [.int x25]) := by
          intro x25 H locs hM hX26 hS h24 ls hl h
          rw [eK27] at h
          refine lv_istore (i := 5) (lv' := [(5, .int x25), (0, .ref (B + a0)), (1, .int x6), (2, .int x7), (3, .int x8), (4, .int x9)]) hx hb dX11_nearest_66 hl (by decide) rfl (fun ls hl => ?_)
          refine lv_aload_n hx hb dX11_nearest_68 rfl (lv_at hl 1 rfl) ?_
          obtain ⟨hq29, h⟩ := zk h
          refine z_getN hx hb hg zin_11 hown hK hM h24 7 rfl (by decide) (hg _ zw_274) (fun _ h9 => h9) hq29 dX11_nearest_69 (fun h28 => ?_)
          refine z_getI hx hb hg zin_10 hown hK hM h28 1 rfl (by decide) (hg _ zw_232) (fun _ h9 => h9) dX11_nearest_72 ?_
          refine lv_if_le (tgt := 102) hx hb dX11_nearest_75 (by decide) (fun hc30 => ?_) (fun hc30 => ?_)
          · have h := zt h hc30
            refine lv_iinc (v := (x9 + (1 : Int32))) (lv' := [(4, .int (x9 + (1 : Int32))), (5, .int x25), (0, .ref (B + a0)), (1, .int x6), (2, .int x7), (3, .int x8)]) hx hb dX11_nearest_102 hl (k := 5) rfl rfl (by decide) rfl (fun ls hl => ?_)
            refine lv_goto (tgt := 10) hx hb dX11_nearest_105 (by decide) ?_
            exact ih10 x6 x7 x8 (x9 + (1 : Int32)) S19 _ _ hM hX26 hS h24 _ (lv_sub hl [2, 3, 4, 5, 0] rfl) h
          · have h := zf h hc30
            refine lv_iload hx hb dX11_nearest_78 (lv_at hl 0 rfl) ?_
            refine lv_if_eq (tgt := 102) hx hb dX11_nearest_80 (by decide) (fun hc31 => ?_) (fun hc31 => ?_)
            · have h := zt h hc31
              refine lv_iinc (v := (x9 + (1 : Int32))) (lv' := [(4, .int (x9 + (1 : Int32))), (5, .int x25), (0, .ref (B + a0)), (1, .int x6), (2, .int x7), (3, .int x8)]) hx hb dX11_nearest_102 hl (k := 5) rfl rfl (by decide) rfl (fun ls hl => ?_)
              refine lv_goto (tgt := 10) hx hb dX11_nearest_105 (by decide) ?_
              exact ih10 x6 x7 x8 (x9 + (1 : Int32)) S19 _ _ hM hX26 hS h24 _ (lv_sub hl [2, 3, 4, 5, 0] rfl) h
            · have h := zf h hc31
              refine lv_iload hx hb dX11_nearest_83 (lv_at hl 5 rfl) ?_
              refine lv_istore_n (i := 1) (lv' := [(1, .int x9), (5, .int x25), (0, .ref (B + a0)), (2, .int x7), (3, .int x8), (4, .int x9)]) hx hb dX11_nearest_85 rfl hl (by decide) rfl (fun ls hl => ?_)
              refine lv_aload_n hx hb dX11_nearest_86 rfl (lv_at hl 2 rfl) ?_
              refine z_getN hx hb hg zin_11 hown hK hM h24 7 rfl (by decide) (hg _ zw_274) (fun _ h9 => h9) h28.ne dX11_nearest_87 (fun h32 => ?_)
              refine z_getI hx hb hg zin_10 hown hK hM h32 4 rfl (by decide) (hg _ zw_238) (fun _ h9 => h9) dX11_nearest_90 ?_
              refine lv_istore_n (i := 2) (lv' := [(2, .int (zi S19 (zr S19 a0 7) 4)), (1, .int x9), (5, .int x25), (0, .ref (B + a0)), (3, .int x8), (4, .int x9)]) hx hb dX11_nearest_93 rfl hl (by decide) rfl (fun ls hl => ?_)
              refine lv_aload_n hx hb dX11_nearest_94 rfl (lv_at hl 3 rfl) ?_
              refine z_getN hx hb hg zin_11 hown hK hM h24 7 rfl (by decide) (hg _ zw_274) (fun _ h9 => h9) h32.ne dX11_nearest_95 (fun h33 => ?_)
              refine z_getI hx hb hg zin_10 hown hK hM h33 1 rfl (by decide) (hg _ zw_232) (fun _ h9 => h9) dX11_nearest_98 ?_
              refine lv_istore_n (i := 3) (lv' := [(3, .int (zi S19 (zr S19 a0 7) 1)), (2, .int (zi S19 (zr S19 a0 7) 4)), (1, .int x9), (5, .int x25), (0, .ref (B + a0)), (4, .int x9)]) hx hb dX11_nearest_101 rfl hl (by decide) rfl (fun ls hl => ?_)
              refine lv_iinc (v := (x9 + (1 : Int32))) (lv' := [(4, .int (x9 + (1 : Int32))), (3, .int (zi S19 (zr S19 a0 7) 1)), (2, .int (zi S19 (zr S19 a0 7) 4)), (1, .int x9), (5, .int x25), (0, .ref (B + a0))]) hx hb dX11_nearest_102 hl (k := 5) rfl rfl (by decide) rfl (fun ls hl => ?_)
              refine lv_goto (tgt := 10) hx hb dX11_nearest_105 (by decide) ?_
              exact ih10 x9 (zi S19 (zr S19 a0 7) 4) (zi S19 (zr S19 a0 7) 1) (x9 + (1 : Int32)) S19 _ _ hM hX26 hS h24 _ (lv_sub hl [5, 3, 2, 1, 0] rfl) h
        obtain ⟨K36, eK36, h⟩ := zlg h
        have hK36 : ∀ (H : Heap) (locs : List Loc), zMR D cy B S19 H → zX S0 S19 → va_S (fun q => B < q) s.heap H locs → zA S19 a0 11 → ∀ ls : Array Slot, lv_has ls 6 [(0, .ref (B + a0)), (1, .int x6), (2, .int x7), (3, .int x8), (4, .int x9)] → K36 = some (r, S') → W p l e (headSpec (zws yX11_nearest cX11_nearest 6 ((some .int))) { frames := 4, cells := 0, slots := 0, locals := 90 }).room s m (([.ref (B + a0)] : List Value).toArray) below meth c H locs 0 0 (MQ below (zQi D cy B S0 r S') (([.ref (B + a0)] : List Value).toArray) s 0 0 (fun q => B < q)) (F0 m 61 ls []) := by
          intro H locs hM hX35 hS h34 ls hl h
          rw [eK36] at h
          refine lv_iconst (v := (1 : Int32)) hx hb dX11_nearest_61 (by decide +kernel) ?_
          refine lv_goto (tgt := 66) hx hb dX11_nearest_62 (by decide) ?_
          exact hK27 (1 : Int32) _ _ hM hX35 hS h34 _ (lv_sub hl [0, 1, 2, 3, 4] rfl) h
        refine lv_if_lt (tgt := 61) hx hb dX11_nearest_37 (by decide) (fun hc37 => ?_) (fun hc37 => ?_)
        · have h := zt h hc37
          exact hK36 _ _ hM hX23 hS h22 _ (lv_sub hl [0, 1, 2, 3, 4] rfl) h
        · have h := zf h hc37
          refine lv_aload_n hx hb dX11_nearest_40 rfl (lv_at hl 0 rfl) ?_
          obtain ⟨hq39, h⟩ := zk h
          refine z_getN hx hb hg zin_11 hown hK hM h22 7 rfl (by decide) (hg _ zw_274) (fun _ h9 => h9) hq39 dX11_nearest_41 (fun h38 => ?_)
          refine z_getI hx hb hg zin_10 hown hK hM h38 4 rfl (by decide) (hg _ zw_238) (fun _ h9 => h9) dX11_nearest_44 ?_
          refine lv_iload_n hx hb dX11_nearest_47 rfl (lv_at hl 3 rfl) ?_
          refine lv_imul hx hb dX11_nearest_48 ?_
          refine lv_iload_n hx hb dX11_nearest_49 rfl (lv_at hl 2 rfl) ?_
          refine lv_aload_n hx hb dX11_nearest_50 rfl (lv_at hl 0 rfl) ?_
          refine z_getN hx hb hg zin_11 hown hK hM h22 7 rfl (by decide) (hg _ zw_274) (fun _ h9 => h9) h38.ne dX11_nearest_51 (fun h40 => ?_)
          refine z_getI hx hb hg zin_10 hown hK hM h40 1 rfl (by decide) (hg _ zw_232) (fun _ h9 => h9) dX11_nearest_54 ?_
          refine lv_imul hx hb dX11_nearest_57 ?_
          refine lv_icmp_ge (tgt := 65) hx hb dX11_nearest_58 (by decide) (fun hc41 => ?_) (fun hc41 => ?_)
          · have h := zt h hc41
            refine lv_iconst (v := (0 : Int32)) hx hb dX11_nearest_65 (by decide +kernel) ?_
            exact hK27 (0 : Int32) _ _ hM hX23 hS h22 _ (lv_sub hl [0, 1, 2, 3, 4] rfl) h
          · have h := zf h hc41
            exact hK36 _ _ hM hX23 hS h22 _ (lv_sub hl [0, 1, 2, 3, 4] rfl) h
  exact hL10 n (-4 : Int32) (0 : Int32) (0 : Int32) (0 : Int32) S0 _ _ hM hX0 hS ha0 _ (lv_sub hl [4, 3, 2, 1, 0] rfl) h
def f_X11_partsSeenFrom_L4b (n : Nat) (v0 : Int32) (v1 : Int32) (K3 : Int32 → Option (Int32)) (rec4 : Int32 → Int32 → Option (Int32)) (x8 : Int32) (x9 : Int32) : Option (Int32) :=
  if (7 : Int32) ≤ x9 then K3 x8 else zLet (f_X11_holds v0 x9) (fun r13 => if r13 = 0 then rec4 x8 (x9 + (1 : Int32)) else zB1 (f_X11_partsSeen n x9 v1) (fun r18 => rec4 (x8 ||| r18) (x9 + (1 : Int32))))
def f_X11_partsSeenFrom_L4 (n : Nat) (v0 : Int32) (v1 : Int32) (K3 : Int32 → Option (Int32)) : Nat → Int32 → Int32 → Option (Int32)
  | 0 => fun _ _ => none
  | k + 1 => fun x8 x9 => f_X11_partsSeenFrom_L4b n v0 v1 K3 (f_X11_partsSeenFrom_L4 n v0 v1 K3 k) x8 x9
def f_X11_partsSeenFrom (n : Nat) (v0 : Int32) (v1 : Int32) : Option (Int32) :=
  zLet (fun (x1 : Int32) => zLet (f_J6_bitCount_0f7a4 x1) (fun r5 => some r5)) (fun K3 => f_X11_partsSeenFrom_L4 n v0 v1 K3 n (0 : Int32) (0 : Int32))
set_option maxHeartbeats 4000000 in
set_option maxRecDepth 100000 in
theorem c_X11_partsSeenFrom (l : Launch) (D : va_G) (cy : Nat → ClassId) (B : Nat) {n : Nat} {S0 : zM} {v0 : Int32} {v1 : Int32} {r : Int32}  (h : f_X11_partsSeenFrom n v0 v1 = some r) : Met l yX11_partsSeenFrom (zws yX11_partsSeenFrom cX11_partsSeenFrom 4 ((some .int))) { frames := 1, cells := 0, slots := 0, locals := 24 } (zPc D cy B S0 [.int v0, .int v1]) (zQi D cy B S0 r S0) 0 0 (fun q => B < q) := by
  refine Met.ofW (cc := cX11_partsSeenFrom) (maxL := 4) (ret := ((some .int))) (by decide) rfl ?_
  intro p e s m args below meth c s₁ Bd hml hv
  obtain ⟨rfl, hC, hM⟩ := hv
  obtain ⟨hx, hb, hr, hg, hown, hlk⟩ := z_open Bd
  have hK := hC.1
  have hS : va_S (fun q => B < q) s.heap s.heap [] := va_S.rf
  have hX0 : zX S0 S0 := zX.rf
  refine z_entry (vs := [.int v0, .int v1]) (Nat.le_of_ble_eq_true rfl) (fun ls hl => ?_)
  have hl : lv_has ls 4 [(0, .int v0), (1, .int v1)] := hl
  unfold f_X11_partsSeenFrom at h
  refine lv_iconst (v := (0 : Int32)) hx hb dX11_partsSeenFrom_0 (by decide +kernel) ?_
  refine lv_istore_n (i := 2) (lv' := [(2, .int (0 : Int32)), (0, .int v0), (1, .int v1)]) hx hb dX11_partsSeenFrom_1 rfl hl (by decide) rfl (fun ls hl => ?_)
  refine lv_iconst (v := (0 : Int32)) hx hb dX11_partsSeenFrom_2 (by decide +kernel) ?_
  refine lv_istore_n (i := 3) (lv' := [(3, .int (0 : Int32)), (2, .int (0 : Int32)), (0, .int v0), (1, .int v1)]) hx hb dX11_partsSeenFrom_3 rfl hl (by decide) rfl (fun ls hl => ?_)
  obtain ⟨K3, eK3, h⟩ := zlg h
  have hK3 : ∀ (x1 : Int32) (H : Heap) (locs : List Loc), zMR D cy B S0 H → zX S0 S0 → va_S (fun q => B < q) s.heap H locs → ∀ ls : Array Slot, lv_has ls 4 [(2, .int x1)] → K3 x1 = some r → W p l e (headSpec (zws yX11_partsSeenFrom cX11_partsSeenFrom 4 ((some .int))) { frames := 1, cells := 0, slots := 0, locals := 24 }).room s m (([.int v0, .int v1] : List Value).toArray) below meth c H locs 0 0 (MQ below (zQi D cy B S0 r S0) (([.int v0, .int v1] : List Value).toArray) s 0 0 (fun q => B < q)) (F0 m 32 ls []) := by
    intro x1 H locs hM hX2 hS ls hl h
    rw [eK3] at h
    refine lv_iload_n hx hb dX11_partsSeenFrom_32 rfl (lv_at hl 0 rfl) ?_
    obtain ⟨r5, hr4, h⟩ := zlg h
    have hr4 := hr4.symm
    refine z_runi (va_runS (As := [.int x1]) (rest := []) ⟨hx, hb, hml, hown, hg⟩ (c_J6_bitCount_0f7a4 l D cy B hr4) (z_cwS hg zw_643 zw_644 zw_17 zw_645 zh_J6_bitCount_0f7a4.2 ⟨(Nat.le_of_ble_eq_true rfl), (Nat.le_of_ble_eq_true rfl)⟩) (zPS hC hM) rfl rfl hl.1 rfl (lv_room (Nat.le_of_ble_eq_true rfl)) dX11_partsSeenFrom_33 ⟨(Nat.le_of_ble_eq_true rfl), (Nat.le_of_ble_eq_true rfl)⟩) hS (fun H locs hM hX6 hS => ?_)
    exact z_iret hx hb hr hlk hM hX2 hS ⟨zsm h, rfl⟩ dX11_partsSeenFrom_36
  have hL4 : ∀ (k : Nat) (x8 : Int32) (x9 : Int32) (H : Heap) (locs : List Loc), zMR D cy B S0 H → zX S0 S0 → va_S (fun q => B < q) s.heap H locs → ∀ ls : Array Slot, lv_has ls 4 [(0, .int v0), (1, .int v1), (2, .int x8), (3, .int x9)] → f_X11_partsSeenFrom_L4 n v0 v1 K3 k x8 x9 = some r → W p l e (headSpec (zws yX11_partsSeenFrom cX11_partsSeenFrom 4 ((some .int))) { frames := 1, cells := 0, slots := 0, locals := 24 }).room s m (([.int v0, .int v1] : List Value).toArray) below meth c H locs 0 0 (MQ below (zQi D cy B S0 r S0) (([.int v0, .int v1] : List Value).toArray) s 0 0 (fun q => B < q)) (F0 m 4 ls []) := by
    intro k
    induction k with
    | zero =>
      intro x8 x9 H locs hM hX10 hS ls hl h
      exact znone h
    | succ k ih4 =>
      intro x8 x9 H locs hM hX10 hS ls hl h
      replace h : f_X11_partsSeenFrom_L4b n v0 v1 K3 (f_X11_partsSeenFrom_L4 n v0 v1 K3 k) x8 x9 = some r := h
      generalize f_X11_partsSeenFrom_L4 n v0 v1 K3 k = rec4 at ih4 h
      unfold f_X11_partsSeenFrom_L4b at h
      refine lv_iload_n hx hb dX11_partsSeenFrom_4 rfl (lv_at hl 3 rfl) ?_
      refine lv_bipush (v := (7 : Int32)) hx hb dX11_partsSeenFrom_5 (by decide +kernel) ?_
      refine lv_icmp_ge (tgt := 32) hx hb dX11_partsSeenFrom_7 (by decide) (fun hc11 => ?_) (fun hc11 => ?_)
      · have h := zt h hc11
        exact hK3 x8 _ _ hM hX10 hS _ (lv_sub hl [2] rfl) h
      · have h := zf h hc11
        refine lv_iload_n hx hb dX11_partsSeenFrom_10 rfl (lv_at hl 0 rfl) ?_
        refine lv_iload_n hx hb dX11_partsSeenFrom_11 rfl (lv_at hl 3 rfl) ?_
        obtain ⟨r13, hr12, h⟩ := zlg h
        have hr12 := hr12.symm
        refine z_runi (va_runS (As := [.int v0, .int x9]) (rest := []) ⟨hx, hb, hml, hown, hg⟩ (c_X11_holds l D cy B hr12) (z_cwS hg zw_590 zw_591 zw_2 zw_592 zh_X11_holds.2 ⟨(Nat.le_of_ble_eq_true rfl), (Nat.le_of_ble_eq_true rfl)⟩) (zPS hC hM) rfl rfl hl.1 rfl (lv_room (Nat.le_of_ble_eq_true rfl)) dX11_partsSeenFrom_12 ⟨(Nat.le_of_ble_eq_true rfl), (Nat.le_of_ble_eq_true rfl)⟩) hS (fun H locs hM hX14 hS => ?_)
        refine lv_if_eq (tgt := 26) hx hb dX11_partsSeenFrom_15 (by decide) (fun hc16 => ?_) (fun hc16 => ?_)
        · have h := zt h hc16
          refine lv_iinc (v := (x9 + (1 : Int32))) (lv' := [(3, .int (x9 + (1 : Int32))), (0, .int v0), (1, .int v1), (2, .int x8)]) hx hb dX11_partsSeenFrom_26 hl (k := 3) rfl rfl (by decide) rfl (fun ls hl => ?_)
          refine lv_goto (tgt := 4) hx hb dX11_partsSeenFrom_29 (by decide) ?_
          exact ih4 x8 (x9 + (1 : Int32)) _ _ hM hX10 hS _ (lv_sub hl [1, 2, 3, 0] rfl) h
        · have h := zf h hc16
          refine lv_iload_n hx hb dX11_partsSeenFrom_18 rfl (lv_at hl 2 rfl) ?_
          refine lv_iload_n hx hb dX11_partsSeenFrom_19 rfl (lv_at hl 3 rfl) ?_
          refine lv_iload_n hx hb dX11_partsSeenFrom_20 rfl (lv_at hl 1 rfl) ?_
          obtain ⟨r18, hr17, h⟩ := zb1 h
          refine z_runi (va_runS (As := [.int x9, .int v1]) (rest := [.int x8]) ⟨hx, hb, hml, hown, hg⟩ (c_X11_partsSeen l D cy B hr17) (z_cwS hg zw_385 zw_386 zw_2 zw_387 zh_X11_partsSeen.2 ⟨(Nat.le_of_ble_eq_true rfl), (Nat.le_of_ble_eq_true rfl)⟩) (zPS hC hM) rfl rfl hl.1 rfl (lv_room (Nat.le_of_ble_eq_true rfl)) dX11_partsSeenFrom_21 ⟨(Nat.le_of_ble_eq_true rfl), (Nat.le_of_ble_eq_true rfl)⟩) hS (fun H locs hM hX19 hS => ?_)
          refine lv_ior hx hb dX11_partsSeenFrom_24 ?_
          refine lv_istore_n (i := 2) (lv' := [(2, .int (x8 ||| r18)), (0, .int v0), (1, .int v1), (3, .int x9)]) hx hb dX11_partsSeenFrom_25 rfl hl (by decide) rfl (fun ls hl => ?_)
          refine lv_iinc (v := (x9 + (1 : Int32))) (lv' := [(3, .int (x9 + (1 : Int32))), (2, .int (x8 ||| r18)), (0, .int v0), (1, .int v1)]) hx hb dX11_partsSeenFrom_26 hl (k := 3) rfl rfl (by decide) rfl (fun ls hl => ?_)
          refine lv_goto (tgt := 4) hx hb dX11_partsSeenFrom_29 (by decide) ?_
          exact ih4 (x8 ||| r18) (x9 + (1 : Int32)) _ _ hM hX10 hS _ (lv_sub hl [2, 3, 1, 0] rfl) h
  exact hL4 n (0 : Int32) (0 : Int32) _ _ hM hX0 hS _ (lv_sub hl [2, 3, 1, 0] rfl) h
def f_X11_seeing_L38b (n : Nat) (v1 : Int32) (v2 : Int32) (K16 : Int32 → Int32 → Option (Int32)) (rec38 : Int32 → Int32 → Int32 → Option (Int32)) (x18 : Int32) (x19 : Int32) (x20 : Int32) : Option (Int32) :=
  if (128 : Int32) ≤ x20 then K16 x18 x19 else zLet (f_J6_bitCount_0f7a4 x20) (fun r24 => if r24 = v1 then zB1 (f_X11_partsSeenFrom n x20 v2) (fun r29 => if r29 ≤ x18 then rec38 x18 x19 (x20 + (1 : Int32)) else rec38 r29 x20 (x20 + (1 : Int32))) else rec38 x18 x19 (x20 + (1 : Int32)))
def f_X11_seeing_L38 (n : Nat) (v1 : Int32) (v2 : Int32) (K16 : Int32 → Int32 → Option (Int32)) : Nat → Int32 → Int32 → Int32 → Option (Int32)
  | 0 => fun _ _ _ => none
  | k + 1 => fun x18 x19 x20 => f_X11_seeing_L38b n v1 v2 K16 (f_X11_seeing_L38 n v1 v2 K16 k) x18 x19 x20
def f_X11_seeing (n : Nat) (a0 : Nat) (v1 : Int32) (v2 : Int32) (v3 : Int32) : Option (Int32) :=
  if v1 < 0 then some (-1 : Int32) else if (7 : Int32) < v1 then some (-1 : Int32) else zLet (f_X11_within v2 (10 : Int32)) (fun r4 => if r4 = 0 then some (-1 : Int32) else zLet (f_X11_within v3 (2 : Int32)) (fun r9 => if r9 = 0 then some (-1 : Int32) else zLet (fun (x13 : Int32) (x14 : Int32) => if v3 = 0 then some x13 else some x14) (fun K16 => f_X11_seeing_L38 n v1 v2 K16 n (-1 : Int32) (0 : Int32) (0 : Int32))))
set_option maxHeartbeats 4000000 in
set_option maxRecDepth 100000 in
theorem c_X11_seeing (l : Launch) (D : va_G) (cy : Nat → ClassId) (B : Nat) {n : Nat} {S0 : zM} {a0 : Nat} {v1 : Int32} {v2 : Int32} {v3 : Int32} {r : Int32} (ha0 : zA S0 a0 11) (h : f_X11_seeing n a0 v1 v2 v3 = some r) : Met l yX11_seeing (zws yX11_seeing cX11_seeing 8 ((some .int))) { frames := 2, cells := 0, slots := 0, locals := 47 } (zPc D cy B S0 [.ref (B + a0), .int v1, .int v2, .int v3]) (zQi D cy B S0 r S0) 0 0 (fun q => B < q) := by
  refine Met.ofW (cc := cX11_seeing) (maxL := 8) (ret := ((some .int))) (by decide) rfl ?_
  intro p e s m args below meth c s₁ Bd hml hv
  obtain ⟨rfl, hC, hM⟩ := hv
  obtain ⟨hx, hb, hr, hg, hown, hlk⟩ := z_open Bd
  have hK := hC.1
  have hS : va_S (fun q => B < q) s.heap s.heap [] := va_S.rf
  have hX0 : zX S0 S0 := zX.rf
  refine z_entry (vs := [.ref (B + a0), .int v1, .int v2, .int v3]) (Nat.le_of_ble_eq_true rfl) (fun ls hl => ?_)
  have hl : lv_has ls 8 [(0, .ref (B + a0)), (1, .int v1), (2, .int v2), (3, .int v3)] := hl
  unfold f_X11_seeing at h
  refine lv_iload_n hx hb dX11_seeing_0 rfl (lv_at hl 1 rfl) ?_
  refine lv_if_lt (tgt := 27) hx hb dX11_seeing_1 (by decide) (fun hc1 => ?_) (fun hc1 => ?_)
  · have h := zt h hc1
    refine lv_iconst (v := (-1 : Int32)) hx hb dX11_seeing_27 (by decide +kernel) ?_
    exact z_iret hx hb hr hlk hM hX0 hS ⟨zsm h, rfl⟩ dX11_seeing_28
  · have h := zf h hc1
    refine lv_iload_n hx hb dX11_seeing_4 rfl (lv_at hl 1 rfl) ?_
    refine lv_bipush (v := (7 : Int32)) hx hb dX11_seeing_5 (by decide +kernel) ?_
    refine lv_icmp_gt (tgt := 27) hx hb dX11_seeing_7 (by decide) (fun hc2 => ?_) (fun hc2 => ?_)
    · have h := zt h hc2
      refine lv_iconst (v := (-1 : Int32)) hx hb dX11_seeing_27 (by decide +kernel) ?_
      exact z_iret hx hb hr hlk hM hX0 hS ⟨zsm h, rfl⟩ dX11_seeing_28
    · have h := zf h hc2
      refine lv_iload_n hx hb dX11_seeing_10 rfl (lv_at hl 2 rfl) ?_
      refine lv_bipush (v := (10 : Int32)) hx hb dX11_seeing_11 (by decide +kernel) ?_
      obtain ⟨r4, hr3, h⟩ := zlg h
      have hr3 := hr3.symm
      refine z_runi (va_runS (As := [.int v2, .int (10 : Int32)]) (rest := []) ⟨hx, hb, hml, hown, hg⟩ (c_X11_within l D cy B hr3) (z_cwS hg zw_290 zw_291 zw_2 zw_292 zh_X11_within.2 ⟨(Nat.le_of_ble_eq_true rfl), (Nat.le_of_ble_eq_true rfl)⟩) (zPS hC hM) rfl rfl hl.1 rfl (lv_room (Nat.le_of_ble_eq_true rfl)) dX11_seeing_13 ⟨(Nat.le_of_ble_eq_true rfl), (Nat.le_of_ble_eq_true rfl)⟩) hS (fun H locs hM hX5 hS => ?_)
      refine lv_if_eq (tgt := 27) hx hb dX11_seeing_16 (by decide) (fun hc7 => ?_) (fun hc7 => ?_)
      · have h := zt h hc7
        refine lv_iconst (v := (-1 : Int32)) hx hb dX11_seeing_27 (by decide +kernel) ?_
        exact z_iret hx hb hr hlk hM hX0 hS ⟨zsm h, rfl⟩ dX11_seeing_28
      · have h := zf h hc7
        refine lv_iload_n hx hb dX11_seeing_19 rfl (lv_at hl 3 rfl) ?_
        refine lv_iconst (v := (2 : Int32)) hx hb dX11_seeing_20 (by decide +kernel) ?_
        obtain ⟨r9, hr8, h⟩ := zlg h
        have hr8 := hr8.symm
        refine z_runi (va_runS (As := [.int v3, .int (2 : Int32)]) (rest := []) ⟨hx, hb, hml, hown, hg⟩ (c_X11_within l D cy B hr8) (z_cwS hg zw_290 zw_291 zw_2 zw_292 zh_X11_within.2 ⟨(Nat.le_of_ble_eq_true rfl), (Nat.le_of_ble_eq_true rfl)⟩) (zPS hC hM) rfl rfl hl.1 rfl (lv_room (Nat.le_of_ble_eq_true rfl)) dX11_seeing_21 ⟨(Nat.le_of_ble_eq_true rfl), (Nat.le_of_ble_eq_true rfl)⟩) hS (fun H locs hM hX10 hS => ?_)
        refine lv_if_ne (tgt := 29) hx hb dX11_seeing_24 (by decide) (fun hc12 => ?_) (fun hc12 => ?_)
        · have h := zf h hc12
          refine lv_iconst (v := (-1 : Int32)) hx hb dX11_seeing_29 (by decide +kernel) ?_
          refine lv_istore (i := 4) (lv' := [(4, .int (-1 : Int32)), (0, .ref (B + a0)), (1, .int v1), (2, .int v2), (3, .int v3)]) hx hb dX11_seeing_30 hl (by decide) rfl (fun ls hl => ?_)
          refine lv_iconst (v := (0 : Int32)) hx hb dX11_seeing_32 (by decide +kernel) ?_
          refine lv_istore (i := 5) (lv' := [(5, .int (0 : Int32)), (4, .int (-1 : Int32)), (0, .ref (B + a0)), (1, .int v1), (2, .int v2), (3, .int v3)]) hx hb dX11_seeing_33 hl (by decide) rfl (fun ls hl => ?_)
          refine lv_iconst (v := (0 : Int32)) hx hb dX11_seeing_35 (by decide +kernel) ?_
          refine lv_istore (i := 6) (lv' := [(6, .int (0 : Int32)), (5, .int (0 : Int32)), (4, .int (-1 : Int32)), (0, .ref (B + a0)), (1, .int v1), (2, .int v2), (3, .int v3)]) hx hb dX11_seeing_36 hl (by decide) rfl (fun ls hl => ?_)
          obtain ⟨K16, eK16, h⟩ := zlg h
          have hK16 : ∀ (x13 : Int32) (x14 : Int32) (H : Heap) (locs : List Loc), zMR D cy B S0 H → zX S0 S0 → va_S (fun q => B < q) s.heap H locs → ∀ ls : Array Slot, lv_has ls 8 [(3, .int v3), (4, .int x13), (5, .int x14)] → K16 x13 x14 = some r → W p l e (headSpec (zws yX11_seeing cX11_seeing 8 ((some .int))) { frames := 2, cells := 0, slots := 0, locals := 47 }).room s m (([.ref (B + a0), .int v1, .int v2, .int v3] : List Value).toArray) below meth c H locs 0 0 (MQ below (zQi D cy B S0 r S0) (([.ref (B + a0), .int v1, .int v2, .int v3] : List Value).toArray) s 0 0 (fun q => B < q)) (F0 m 84 ls []) := by
            intro x13 x14 H locs hM hX15 hS ls hl h
            rw [eK16] at h
            refine lv_iload_n hx hb dX11_seeing_84 rfl (lv_at hl 0 rfl) ?_
            refine lv_if_ne (tgt := 93) hx hb dX11_seeing_85 (by decide) (fun hc17 => ?_) (fun hc17 => ?_)
            · have h := zf h hc17
              refine lv_iload hx hb dX11_seeing_93 (lv_at hl 2 rfl) ?_
              exact z_iret hx hb hr hlk hM hX15 hS ⟨zsm h, rfl⟩ dX11_seeing_95
            · have h := zt h hc17
              refine lv_iload hx hb dX11_seeing_88 (lv_at hl 1 rfl) ?_
              refine lv_goto (tgt := 95) hx hb dX11_seeing_90 (by decide) ?_
              exact z_iret hx hb hr hlk hM hX15 hS ⟨zsm h, rfl⟩ dX11_seeing_95
          have hL38 : ∀ (k : Nat) (x18 : Int32) (x19 : Int32) (x20 : Int32) (H : Heap) (locs : List Loc), zMR D cy B S0 H → zX S0 S0 → va_S (fun q => B < q) s.heap H locs → ∀ ls : Array Slot, lv_has ls 8 [(1, .int v1), (2, .int v2), (3, .int v3), (4, .int x18), (5, .int x19), (6, .int x20)] → f_X11_seeing_L38 n v1 v2 K16 k x18 x19 x20 = some r → W p l e (headSpec (zws yX11_seeing cX11_seeing 8 ((some .int))) { frames := 2, cells := 0, slots := 0, locals := 47 }).room s m (([.ref (B + a0), .int v1, .int v2, .int v3] : List Value).toArray) below meth c H locs 0 0 (MQ below (zQi D cy B S0 r S0) (([.ref (B + a0), .int v1, .int v2, .int v3] : List Value).toArray) s 0 0 (fun q => B < q)) (F0 m 38 ls []) := by
            intro k
            induction k with
            | zero =>
              intro x18 x19 x20 H locs hM hX21 hS ls hl h
              exact znone h
            | succ k ih38 =>
              intro x18 x19 x20 H locs hM hX21 hS ls hl h
              replace h : f_X11_seeing_L38b n v1 v2 K16 (f_X11_seeing_L38 n v1 v2 K16 k) x18 x19 x20 = some r := h
              generalize f_X11_seeing_L38 n v1 v2 K16 k = rec38 at ih38 h
              unfold f_X11_seeing_L38b at h
              refine lv_iload hx hb dX11_seeing_38 (lv_at hl 5 rfl) ?_
              refine lv_sipush (v := (128 : Int32)) hx hb dX11_seeing_40 (by decide +kernel) ?_
              refine lv_icmp_ge (tgt := 84) hx hb dX11_seeing_43 (by decide) (fun hc22 => ?_) (fun hc22 => ?_)
              · have h := zt h hc22
                exact hK16 x18 x19 _ _ hM hX21 hS _ (lv_sub hl [2, 3, 4] rfl) h
              · have h := zf h hc22
                refine lv_iload hx hb dX11_seeing_46 (lv_at hl 5 rfl) ?_
                obtain ⟨r24, hr23, h⟩ := zlg h
                have hr23 := hr23.symm
                refine z_runi (va_runS (As := [.int x20]) (rest := []) ⟨hx, hb, hml, hown, hg⟩ (c_J6_bitCount_0f7a4 l D cy B hr23) (z_cwS hg zw_643 zw_644 zw_17 zw_645 zh_J6_bitCount_0f7a4.2 ⟨(Nat.le_of_ble_eq_true rfl), (Nat.le_of_ble_eq_true rfl)⟩) (zPS hC hM) rfl rfl hl.1 rfl (lv_room (Nat.le_of_ble_eq_true rfl)) dX11_seeing_48 ⟨(Nat.le_of_ble_eq_true rfl), (Nat.le_of_ble_eq_true rfl)⟩) hS (fun H locs hM hX25 hS => ?_)
                refine lv_iload_n hx hb dX11_seeing_51 rfl (lv_at hl 0 rfl) ?_
                refine lv_icmp_ne (tgt := 78) hx hb dX11_seeing_52 (by decide) (fun hc27 => ?_) (fun hc27 => ?_)
                · have h := zf h hc27
                  refine lv_iinc (v := (x20 + (1 : Int32))) (lv' := [(6, .int (x20 + (1 : Int32))), (1, .int v1), (2, .int v2), (3, .int v3), (4, .int x18), (5, .int x19)]) hx hb dX11_seeing_78 hl (k := 5) rfl rfl (by decide) rfl (fun ls hl => ?_)
                  refine lv_goto (tgt := 38) hx hb dX11_seeing_81 (by decide) ?_
                  exact ih38 x18 x19 (x20 + (1 : Int32)) _ _ hM hX21 hS _ (lv_sub hl [1, 2, 3, 4, 5, 0] rfl) h
                · have h := zt h hc27
                  refine lv_iload hx hb dX11_seeing_55 (lv_at hl 5 rfl) ?_
                  refine lv_iload_n hx hb dX11_seeing_57 rfl (lv_at hl 1 rfl) ?_
                  obtain ⟨r29, hr28, h⟩ := zb1 h
                  refine z_runi (va_runS (As := [.int x20, .int v2]) (rest := []) ⟨hx, hb, hml, hown, hg⟩ (c_X11_partsSeenFrom l D cy B hr28) (z_cwS hg zw_790 zw_791 zw_2 zw_792 zh_X11_partsSeenFrom.2 ⟨(Nat.le_of_ble_eq_true rfl), (Nat.le_of_ble_eq_true rfl)⟩) (zPS hC hM) rfl rfl hl.1 rfl (lv_room (Nat.le_of_ble_eq_true rfl)) dX11_seeing_58 ⟨(Nat.le_of_ble_eq_true rfl), (Nat.le_of_ble_eq_true rfl)⟩) hS (fun H locs hM hX30 hS => ?_)
                  refine lv_istore (i := 7) (lv' := [(7, .int r29), (1, .int v1), (2, .int v2), (3, .int v3), (4, .int x18), (5, .int x19), (6, .int x20)]) hx hb dX11_seeing_61 hl (by decide) rfl (fun ls hl => ?_)
                  refine lv_iload hx hb dX11_seeing_63 (lv_at hl 0 rfl) ?_
                  refine lv_iload hx hb dX11_seeing_65 (lv_at hl 4 rfl) ?_
                  refine lv_icmp_le (tgt := 78) hx hb dX11_seeing_67 (by decide) (fun hc32 => ?_) (fun hc32 => ?_)
                  · have h := zt h hc32
                    refine lv_iinc (v := (x20 + (1 : Int32))) (lv' := [(6, .int (x20 + (1 : Int32))), (7, .int r29), (1, .int v1), (2, .int v2), (3, .int v3), (4, .int x18), (5, .int x19)]) hx hb dX11_seeing_78 hl (k := 6) rfl rfl (by decide) rfl (fun ls hl => ?_)
                    refine lv_goto (tgt := 38) hx hb dX11_seeing_81 (by decide) ?_
                    exact ih38 x18 x19 (x20 + (1 : Int32)) _ _ hM hX21 hS _ (lv_sub hl [2, 3, 4, 5, 6, 0] rfl) h
                  · have h := zf h hc32
                    refine lv_iload hx hb dX11_seeing_70 (lv_at hl 0 rfl) ?_
                    refine lv_istore (i := 4) (lv' := [(4, .int r29), (7, .int r29), (1, .int v1), (2, .int v2), (3, .int v3), (5, .int x19), (6, .int x20)]) hx hb dX11_seeing_72 hl (by decide) rfl (fun ls hl => ?_)
                    refine lv_iload hx hb dX11_seeing_74 (lv_at hl 6 rfl) ?_
                    refine lv_istore (i := 5) (lv' := [(5, .int x20), (4, .int r29), (7, .int r29), (1, .int v1), (2, .int v2), (3, .int v3), (6, .int x20)]) hx hb dX11_seeing_76 hl (by decide) rfl (fun ls hl => ?_)
                    refine lv_iinc (v := (x20 + (1 : Int32))) (lv' := [(6, .int (x20 + (1 : Int32))), (5, .int x20), (4, .int r29), (7, .int r29), (1, .int v1), (2, .int v2), (3, .int v3)]) hx hb dX11_seeing_78 hl (k := 6) rfl rfl (by decide) rfl (fun ls hl => ?_)
                    refine lv_goto (tgt := 38) hx hb dX11_seeing_81 (by decide) ?_
                    exact ih38 r29 x20 (x20 + (1 : Int32)) _ _ hM hX21 hS _ (lv_sub hl [4, 5, 6, 2, 1, 0] rfl) h
          exact hL38 n (-1 : Int32) (0 : Int32) (0 : Int32) _ _ hM hX0 hS _ (lv_sub hl [4, 5, 6, 2, 1, 0] rfl) h
        · have h := zt h hc12
          refine lv_iconst (v := (-1 : Int32)) hx hb dX11_seeing_27 (by decide +kernel) ?_
          exact z_iret hx hb hr hlk hM hX0 hS ⟨zsm h, rfl⟩ dX11_seeing_28
def f_X11_worlds_L58b (n : Nat) (a0 : Nat) (v1 : Int32) (v2 : Int32) (K31 : Int32 → zM → Option (Int32 × zM)) (rec58 : Int32 → Int32 → Int32 → zM → Option (Int32 × zM)) (x33 : Int32) (x34 : Int32) (x35 : Int32) (S36 : zM) : Option (Int32 × zM) :=
  if v2 ≤ x35 then K31 x34 S36 else zChk (¬ (zr S36 a0 2) = 0) (zB2 (f_X9_flawAnew n S36 (zr S36 a0 2) v1 x33) (fun r42 S43 => zChk (¬ (zr S43 a0 2) = 0) (zB2 (f_X9_isRight n S43 (zr S43 a0 2) v1) (fun r51 S52 => if r51 = 0 then rec58 r42 x34 (x35 + (1 : Int32)) S52 else rec58 r42 (x34 + (1 : Int32)) (x35 + (1 : Int32)) S52))))
def f_X11_worlds_L58 (n : Nat) (a0 : Nat) (v1 : Int32) (v2 : Int32) (K31 : Int32 → zM → Option (Int32 × zM)) : Nat → Int32 → Int32 → Int32 → zM → Option (Int32 × zM)
  | 0 => fun _ _ _ _ => none
  | k + 1 => fun x33 x34 x35 S36 => f_X11_worlds_L58b n a0 v1 v2 K31 (f_X11_worlds_L58 n a0 v1 v2 K31 k) x33 x34 x35 S36
def f_X11_worlds (n : Nat) (S0 : zM) (a0 : Nat) (v1 : Int32) (v2 : Int32) (v3 : Int32) : Option (Int32 × zM) :=
  zLet (f_X11_within v1 (6 : Int32)) (fun r2 => if r2 = 0 then some (((-1 : Int32), S0)) else if v2 < (1 : Int32) then some (((-1 : Int32), S0)) else if v2 ≤ (30 : Int32) then zChk (¬ (zr S0 a0 0) = 0) (zB2 (f_X9_winner n S0 (zr S0 a0 0) v1) (fun r11 S12 => if r11 = (-4 : Int32) then some (((-4 : Int32), S12)) else zChk (¬ (zr S12 a0 2) = 0) (zChk (¬ (zr S12 a0 0) = 0) (zB1 (f_X9_copyFrom n S12 (zr S12 a0 2) (zr S12 a0 0)) (fun S23 => zLet (fun (x28 : Int32) (S29 : zM) => some ((x28, S29))) (fun K31 => f_X11_worlds_L58 n a0 v1 v2 K31 n v3 (0 : Int32) (0 : Int32) S23)))))) else some (((-1 : Int32), S0)))
set_option maxHeartbeats 4000000 in
set_option maxRecDepth 100000 in
theorem c_X11_worlds (l : Launch) (D : va_G) (cy : Nat → ClassId) (B : Nat) {n : Nat} {S0 : zM} {a0 : Nat} {v1 : Int32} {v2 : Int32} {v3 : Int32} {r : Int32} {S' : zM} (ha0 : zA S0 a0 11) (h : f_X11_worlds n S0 a0 v1 v2 v3 = some (r, S')) : Met l yX11_worlds (zws yX11_worlds cX11_worlds 7 ((some .int))) { frames := 7, cells := 0, slots := 0, locals := 169 } (zPc D cy B S0 [.ref (B + a0), .int v1, .int v2, .int v3]) (zQi D cy B S0 r S') 0 0 (fun q => B < q) := by
  refine Met.ofW (cc := cX11_worlds) (maxL := 7) (ret := ((some .int))) (by decide) rfl ?_
  intro p e s m args below meth c s₁ Bd hml hv
  obtain ⟨rfl, hC, hM⟩ := hv
  obtain ⟨hx, hb, hr, hg, hown, hlk⟩ := z_open Bd
  have hK := hC.1
  have hS : va_S (fun q => B < q) s.heap s.heap [] := va_S.rf
  have hX0 : zX S0 S0 := zX.rf
  refine z_entry (vs := [.ref (B + a0), .int v1, .int v2, .int v3]) (Nat.le_of_ble_eq_true rfl) (fun ls hl => ?_)
  have hl : lv_has ls 7 [(0, .ref (B + a0)), (1, .int v1), (2, .int v2), (3, .int v3)] := hl
  unfold f_X11_worlds at h
  refine lv_iload_n hx hb dX11_worlds_0 rfl (lv_at hl 1 rfl) ?_
  refine lv_bipush (v := (6 : Int32)) hx hb dX11_worlds_1 (by decide +kernel) ?_
  obtain ⟨r2, hr1, h⟩ := zlg h
  have hr1 := hr1.symm
  refine z_runi (va_runS (As := [.int v1, .int (6 : Int32)]) (rest := []) ⟨hx, hb, hml, hown, hg⟩ (c_X11_within l D cy B hr1) (z_cwS hg zw_290 zw_291 zw_2 zw_292 zh_X11_within.2 ⟨(Nat.le_of_ble_eq_true rfl), (Nat.le_of_ble_eq_true rfl)⟩) (zPS hC hM) rfl rfl hl.1 rfl (lv_room (Nat.le_of_ble_eq_true rfl)) dX11_worlds_3 ⟨(Nat.le_of_ble_eq_true rfl), (Nat.le_of_ble_eq_true rfl)⟩) hS (fun H locs hM hX3 hS => ?_)
  refine lv_if_eq (tgt := 20) hx hb dX11_worlds_6 (by decide) (fun hc5 => ?_) (fun hc5 => ?_)
  · have h := zt h hc5
    refine lv_iconst (v := (-1 : Int32)) hx hb dX11_worlds_20 (by decide +kernel) ?_
    exact z_iret hx hb hr hlk hM hX0 hS (zsp h) dX11_worlds_21
  · have h := zf h hc5
    refine lv_iload_n hx hb dX11_worlds_9 rfl (lv_at hl 2 rfl) ?_
    refine lv_iconst (v := (1 : Int32)) hx hb dX11_worlds_10 (by decide +kernel) ?_
    refine lv_icmp_lt (tgt := 20) hx hb dX11_worlds_11 (by decide) (fun hc6 => ?_) (fun hc6 => ?_)
    · have h := zt h hc6
      refine lv_iconst (v := (-1 : Int32)) hx hb dX11_worlds_20 (by decide +kernel) ?_
      exact z_iret hx hb hr hlk hM hX0 hS (zsp h) dX11_worlds_21
    · have h := zf h hc6
      refine lv_iload_n hx hb dX11_worlds_14 rfl (lv_at hl 2 rfl) ?_
      refine lv_bipush (v := (30 : Int32)) hx hb dX11_worlds_15 (by decide +kernel) ?_
      refine lv_icmp_le (tgt := 22) hx hb dX11_worlds_17 (by decide) (fun hc7 => ?_) (fun hc7 => ?_)
      · have h := zt h hc7
        refine lv_aload_n hx hb dX11_worlds_22 rfl (lv_at hl 0 rfl) ?_
        obtain ⟨hq9, h⟩ := zk h
        refine z_getN hx hb hg zin_11 hown hK hM ha0 0 rfl (by decide) (hg _ zw_267) (fun _ h9 => h9) hq9 dX11_worlds_23 (fun h8 => ?_)
        refine lv_iload_n hx hb dX11_worlds_26 rfl (lv_at hl 1 rfl) ?_
        obtain ⟨r11, S12, hr10, h⟩ := zb2 h
        refine z_runi (va_runV (As := [.int v1]) (rest := []) ⟨hx, hb, hml, hown, hg⟩ (c_X9_winner l D cy B h8 hr10) (z_cwV hg zw_607 zw_608 zw_609 zw_3 zw_610 zh_X9_winner ⟨(Nat.le_of_ble_eq_true rfl), (Nat.le_of_ble_eq_true rfl)⟩) (zPV hC hM h8 (by decide) rfl) rfl rfl hl.1 rfl (lv_room (Nat.le_of_ble_eq_true rfl)) dX11_worlds_27 ⟨(Nat.le_of_ble_eq_true rfl), (Nat.le_of_ble_eq_true rfl)⟩) hS (fun H locs hM hX13 hS => ?_)
        have h15 := ha0.mo hX13
        have hX16 := hX0.tr hX13
        refine lv_bipush (v := (-4 : Int32)) hx hb dX11_worlds_30 (by decide +kernel) ?_
        refine lv_icmp_ne (tgt := 38) hx hb dX11_worlds_32 (by decide) (fun hc17 => ?_) (fun hc17 => ?_)
        · have h := zf h hc17
          refine lv_aload_n hx hb dX11_worlds_38 rfl (lv_at hl 0 rfl) ?_
          obtain ⟨hq19, h⟩ := zk h
          refine z_getN hx hb hg zin_11 hown hK hM h15 2 rfl (by decide) (hg _ zw_269) (fun _ h9 => h9) hq19 dX11_worlds_39 (fun h18 => ?_)
          refine lv_aload_n hx hb dX11_worlds_42 rfl (lv_at hl 0 rfl) ?_
          obtain ⟨hq21, h⟩ := zk h
          refine z_getN hx hb hg zin_11 hown hK hM h15 0 rfl (by decide) (hg _ zw_267) (fun _ h9 => h9) hq21 dX11_worlds_43 (fun h20 => ?_)
          obtain ⟨S23, hr22, h⟩ := zb1 h
          refine z_runv (va_runV (As := [.ref (B + (zr S12 a0 0))]) (rest := []) ⟨hx, hb, hml, hown, hg⟩ (c_X9_copyFrom l D cy B h18 h20 hr22) (z_cwV hg zw_618 zw_619 zw_620 zw_3 zw_621 zh_X9_copyFrom ⟨(Nat.le_of_ble_eq_true rfl), (Nat.le_of_ble_eq_true rfl)⟩) (zPV hC hM h18 (by decide) rfl) rfl rfl hl.1 rfl (lv_room (Nat.le_of_ble_eq_true rfl)) dX11_worlds_46 ⟨(Nat.le_of_ble_eq_true rfl), (Nat.le_of_ble_eq_true rfl)⟩) hS (fun H locs hM hX24 hS => ?_)
          have h26 := h15.mo hX24
          have hX27 := hX16.tr hX24
          refine lv_iload_n hx hb dX11_worlds_49 rfl (lv_at hl 3 rfl) ?_
          refine lv_istore (i := 4) (lv' := [(4, .int v3), (0, .ref (B + a0)), (1, .int v1), (2, .int v2), (3, .int v3)]) hx hb dX11_worlds_50 hl (by decide) rfl (fun ls hl => ?_)
          refine lv_iconst (v := (0 : Int32)) hx hb dX11_worlds_52 (by decide +kernel) ?_
          refine lv_istore (i := 5) (lv' := [(5, .int (0 : Int32)), (4, .int v3), (0, .ref (B + a0)), (1, .int v1), (2, .int v2), (3, .int v3)]) hx hb dX11_worlds_53 hl (by decide) rfl (fun ls hl => ?_)
          refine lv_iconst (v := (0 : Int32)) hx hb dX11_worlds_55 (by decide +kernel) ?_
          refine lv_istore (i := 6) (lv' := [(6, .int (0 : Int32)), (5, .int (0 : Int32)), (4, .int v3), (0, .ref (B + a0)), (1, .int v1), (2, .int v2), (3, .int v3)]) hx hb dX11_worlds_56 hl (by decide) rfl (fun ls hl => ?_)
          obtain ⟨K31, eK31, h⟩ := zlg h
          have hK31 : ∀ (x28 : Int32) (S29 : zM) (H : Heap) (locs : List Loc), zMR D cy B S29 H → zX S0 S29 → va_S (fun q => B < q) s.heap H locs → ∀ ls : Array Slot, lv_has ls 7 [(5, .int x28)] → K31 x28 S29 = some (r, S') → W p l e (headSpec (zws yX11_worlds cX11_worlds 7 ((some .int))) { frames := 7, cells := 0, slots := 0, locals := 169 }).room s m (([.ref (B + a0), .int v1, .int v2, .int v3] : List Value).toArray) below meth c H locs 0 0 (MQ below (zQi D cy B S0 r S') (([.ref (B + a0), .int v1, .int v2, .int v3] : List Value).toArray) s 0 0 (fun q => B < q)) (F0 m 96 ls []) := by
            intro x28 S29 H locs hM hX30 hS ls hl h
            rw [eK31] at h
            refine lv_iload hx hb dX11_worlds_96 (lv_at hl 0 rfl) ?_
            exact z_iret hx hb hr hlk hM hX30 hS (zsp h) dX11_worlds_98
          have hL58 : ∀ (k : Nat) (x33 : Int32) (x34 : Int32) (x35 : Int32) (S36 : zM) (H : Heap) (locs : List Loc), zMR D cy B S36 H → zX S0 S36 → va_S (fun q => B < q) s.heap H locs → zA S36 a0 11 → ∀ ls : Array Slot, lv_has ls 7 [(0, .ref (B + a0)), (1, .int v1), (2, .int v2), (4, .int x33), (5, .int x34), (6, .int x35)] → f_X11_worlds_L58 n a0 v1 v2 K31 k x33 x34 x35 S36 = some (r, S') → W p l e (headSpec (zws yX11_worlds cX11_worlds 7 ((some .int))) { frames := 7, cells := 0, slots := 0, locals := 169 }).room s m (([.ref (B + a0), .int v1, .int v2, .int v3] : List Value).toArray) below meth c H locs 0 0 (MQ below (zQi D cy B S0 r S') (([.ref (B + a0), .int v1, .int v2, .int v3] : List Value).toArray) s 0 0 (fun q => B < q)) (F0 m 58 ls []) := by
            intro k
            induction k with
            | zero =>
              intro x33 x34 x35 S36 H locs hM hX37 hS h32 ls hl h
              exact znone h
            | succ k ih58 =>
              intro x33 x34 x35 S36 H locs hM hX37 hS h32 ls hl h
              replace h : f_X11_worlds_L58b n a0 v1 v2 K31 (f_X11_worlds_L58 n a0 v1 v2 K31 k) x33 x34 x35 S36 = some (r, S') := h
              generalize f_X11_worlds_L58 n a0 v1 v2 K31 k = rec58 at ih58 h
              unfold f_X11_worlds_L58b at h
              refine lv_iload hx hb dX11_worlds_58 (lv_at hl 5 rfl) ?_
              refine lv_iload_n hx hb dX11_worlds_60 rfl (lv_at hl 2 rfl) ?_
              refine lv_icmp_ge (tgt := 96) hx hb dX11_worlds_61 (by decide) (fun hc38 => ?_) (fun hc38 => ?_)
              · have h := zt h hc38
                exact hK31 x34 S36 _ _ hM hX37 hS _ (lv_sub hl [4] rfl) h
              · have h := zf h hc38
                refine lv_aload_n hx hb dX11_worlds_64 rfl (lv_at hl 0 rfl) ?_
                obtain ⟨hq40, h⟩ := zk h
                refine z_getN hx hb hg zin_11 hown hK hM h32 2 rfl (by decide) (hg _ zw_269) (fun _ h9 => h9) hq40 dX11_worlds_65 (fun h39 => ?_)
                refine lv_iload_n hx hb dX11_worlds_68 rfl (lv_at hl 1 rfl) ?_
                refine lv_iload hx hb dX11_worlds_69 (lv_at hl 3 rfl) ?_
                obtain ⟨r42, S43, hr41, h⟩ := zb2 h
                refine z_runi (va_runV (As := [.int v1, .int x33]) (rest := []) ⟨hx, hb, hml, hown, hg⟩ (c_X9_flawAnew l D cy B h39 hr41) (z_cwV hg zw_797 zw_798 zw_799 zw_3 zw_800 zh_X9_flawAnew ⟨(Nat.le_of_ble_eq_true rfl), (Nat.le_of_ble_eq_true rfl)⟩) (zPV hC hM h39 (by decide) rfl) rfl rfl hl.1 rfl (lv_room (Nat.le_of_ble_eq_true rfl)) dX11_worlds_71 ⟨(Nat.le_of_ble_eq_true rfl), (Nat.le_of_ble_eq_true rfl)⟩) hS (fun H locs hM hX44 hS => ?_)
                have h46 := h32.mo hX44
                have hX47 := hX37.tr hX44
                refine lv_istore (i := 4) (lv' := [(4, .int r42), (0, .ref (B + a0)), (1, .int v1), (2, .int v2), (5, .int x34), (6, .int x35)]) hx hb dX11_worlds_74 hl (by decide) rfl (fun ls hl => ?_)
                refine lv_aload_n hx hb dX11_worlds_76 rfl (lv_at hl 1 rfl) ?_
                obtain ⟨hq49, h⟩ := zk h
                refine z_getN hx hb hg zin_11 hown hK hM h46 2 rfl (by decide) (hg _ zw_269) (fun _ h9 => h9) hq49 dX11_worlds_77 (fun h48 => ?_)
                refine lv_iload_n hx hb dX11_worlds_80 rfl (lv_at hl 2 rfl) ?_
                obtain ⟨r51, S52, hr50, h⟩ := zb2 h
                refine z_runi (va_runV (As := [.int v1]) (rest := []) ⟨hx, hb, hml, hown, hg⟩ (c_X9_isRight l D cy B h48 hr50) (z_cwV hg zw_804 zw_805 zw_806 zw_3 zw_807 zh_X9_isRight ⟨(Nat.le_of_ble_eq_true rfl), (Nat.le_of_ble_eq_true rfl)⟩) (zPV hC hM h48 (by decide) rfl) rfl rfl hl.1 rfl (lv_room (Nat.le_of_ble_eq_true rfl)) dX11_worlds_81 ⟨(Nat.le_of_ble_eq_true rfl), (Nat.le_of_ble_eq_true rfl)⟩) hS (fun H locs hM hX53 hS => ?_)
                have h55 := h46.mo hX53
                have hX56 := hX47.tr hX53
                refine lv_if_eq (tgt := 90) hx hb dX11_worlds_84 (by decide) (fun hc57 => ?_) (fun hc57 => ?_)
                · have h := zt h hc57
                  refine lv_iinc (v := (x35 + (1 : Int32))) (lv' := [(6, .int (x35 + (1 : Int32))), (4, .int r42), (0, .ref (B + a0)), (1, .int v1), (2, .int v2), (5, .int x34)]) hx hb dX11_worlds_90 hl (k := 5) rfl rfl (by decide) rfl (fun ls hl => ?_)
                  refine lv_goto (tgt := 58) hx hb dX11_worlds_93 (by decide) ?_
                  exact ih58 r42 x34 (x35 + (1 : Int32)) S52 _ _ hM hX56 hS h55 _ (lv_sub hl [2, 3, 4, 1, 5, 0] rfl) h
                · have h := zf h hc57
                  refine lv_iinc (v := (x34 + (1 : Int32))) (lv' := [(5, .int (x34 + (1 : Int32))), (4, .int r42), (0, .ref (B + a0)), (1, .int v1), (2, .int v2), (6, .int x35)]) hx hb dX11_worlds_87 hl (k := 4) rfl rfl (by decide) rfl (fun ls hl => ?_)
                  refine lv_iinc (v := (x35 + (1 : Int32))) (lv' := [(6, .int (x35 + (1 : Int32))), (5, .int (x34 + (1 : Int32))), (4, .int r42), (0, .ref (B + a0)), (1, .int v1), (2, .int v2)]) hx hb dX11_worlds_90 hl (k := 5) rfl rfl (by decide) rfl (fun ls hl => ?_)
                  refine lv_goto (tgt := 58) hx hb dX11_worlds_93 (by decide) ?_
                  exact ih58 r42 (x34 + (1 : Int32)) (x35 + (1 : Int32)) S52 _ _ hM hX56 hS h55 _ (lv_sub hl [3, 4, 5, 2, 1, 0] rfl) h
          exact hL58 n v3 (0 : Int32) (0 : Int32) S23 _ _ hM hX27 hS h26 _ (lv_sub hl [3, 4, 5, 2, 1, 0] rfl) h
        · have h := zt h hc17
          refine lv_bipush (v := (-4 : Int32)) hx hb dX11_worlds_35 (by decide +kernel) ?_
          exact z_iret hx hb hr hlk hM hX16 hS (zsp h) dX11_worlds_37
      · have h := zf h hc7
        refine lv_iconst (v := (-1 : Int32)) hx hb dX11_worlds_20 (by decide +kernel) ?_
        exact z_iret hx hb hr hlk hM hX0 hS (zsp h) dX11_worlds_21
def f_X11_image (n : Nat) (S0 : zM) (a0 : Nat) : Option (Int32 × zM) :=
  zChk (¬ (zr S0 a0 1) = 0) (zChk (¬ (zr S0 a0 0) = 0) (zB1 (f_X9_copyFrom n S0 (zr S0 a0 1) (zr S0 a0 0)) (fun S6 => zLet (zpI S6 a0 8 (1 : Int32)) (fun S11 => zChk (¬ (zr S11 a0 0) = 0) (some (((zi S11 (zr S11 a0 0) 7), S11)))))))
set_option maxHeartbeats 4000000 in
set_option maxRecDepth 100000 in
theorem c_X11_image (l : Launch) (D : va_G) (cy : Nat → ClassId) (B : Nat) {n : Nat} {S0 : zM} {a0 : Nat} {r : Int32} {S' : zM} (ha0 : zA S0 a0 11) (h : f_X11_image n S0 a0 = some (r, S')) : Met l yX11_image (zws yX11_image cX11_image 1 ((some .int))) { frames := 3, cells := 0, slots := 0, locals := 123 } (zPc D cy B S0 [.ref (B + a0)]) (zQi D cy B S0 r S') 0 0 (fun q => B < q) := by
  refine Met.ofW (cc := cX11_image) (maxL := 1) (ret := ((some .int))) (by decide) rfl ?_
  intro p e s m args below meth c s₁ Bd hml hv
  obtain ⟨rfl, hC, hM⟩ := hv
  obtain ⟨hx, hb, hr, hg, hown, hlk⟩ := z_open Bd
  have hK := hC.1
  have hS : va_S (fun q => B < q) s.heap s.heap [] := va_S.rf
  have hX0 : zX S0 S0 := zX.rf
  refine z_entry (vs := [.ref (B + a0)]) (Nat.le_of_ble_eq_true rfl) (fun ls hl => ?_)
  have hl : lv_has ls 1 [(0, .ref (B + a0))] := hl
  unfold f_X11_image at h
  refine lv_aload_n hx hb dX11_image_0 rfl (lv_at hl 0 rfl) ?_
  obtain ⟨hq2, h⟩ := zk h
  refine z_getN hx hb hg zin_11 hown hK hM ha0 1 rfl (by decide) (hg _ zw_268) (fun _ h9 => h9) hq2 dX11_image_1 (fun h1 => ?_)
  refine lv_aload_n hx hb dX11_image_4 rfl (lv_at hl 0 rfl) ?_
  obtain ⟨hq4, h⟩ := zk h
  refine z_getN hx hb hg zin_11 hown hK hM ha0 0 rfl (by decide) (hg _ zw_267) (fun _ h9 => h9) hq4 dX11_image_5 (fun h3 => ?_)
  obtain ⟨S6, hr5, h⟩ := zb1 h
  refine z_runv (va_runV (As := [.ref (B + (zr S0 a0 0))]) (rest := []) ⟨hx, hb, hml, hown, hg⟩ (c_X9_copyFrom l D cy B h1 h3 hr5) (z_cwV hg zw_618 zw_619 zw_620 zw_3 zw_621 zh_X9_copyFrom ⟨(Nat.le_of_ble_eq_true rfl), (Nat.le_of_ble_eq_true rfl)⟩) (zPV hC hM h1 (by decide) rfl) rfl rfl hl.1 rfl (lv_room (Nat.le_of_ble_eq_true rfl)) dX11_image_8 ⟨(Nat.le_of_ble_eq_true rfl), (Nat.le_of_ble_eq_true rfl)⟩) hS (fun H locs hM hX7 hS => ?_)
  have h9 := ha0.mo hX7
  have hX10 := hX0.tr hX7
  refine lv_aload_n hx hb dX11_image_11 rfl (lv_at hl 0 rfl) ?_
  refine lv_iconst (v := (1 : Int32)) hx hb dX11_image_12 (by decide +kernel) ?_
  refine z_putI hx hb hg zin_11 tyX11 tyX11_ok nmX11 hown hK hM hS h9 8 rfl (by decide) (hg _ zw_275) (fun _ h9 => h9) (Or.inl rfl) (tyX11_ok 8 (by decide)) (by decide +kernel) (by decide +kernel) dX11_image_13 (fun H locs hM hS => ?_)
  obtain ⟨S11, e12, h⟩ := zlg h
  rw [← e12] at hM
  have hX13 : zX S6 S11 := by rw [e12]; exact zX_pI
  have h14 := h9.mo hX13
  have hX15 := hX10.tr hX13
  refine lv_aload_n hx hb dX11_image_16 rfl (lv_at hl 0 rfl) ?_
  obtain ⟨hq17, h⟩ := zk h
  refine z_getN hx hb hg zin_11 hown hK hM h14 0 rfl (by decide) (hg _ zw_267) (fun _ h9 => h9) hq17 dX11_image_17 (fun h16 => ?_)
  refine z_getI hx hb hg zin_9 hown hK hM h16 7 rfl (by decide) (hg _ zw_140) (fun _ h9 => h9) dX11_image_20 ?_
  exact z_iret hx hb hr hlk hM hX15 hS (zsp h) dX11_image_23
def f_X11_restore (n : Nat) (S0 : zM) (a0 : Nat) : Option (Int32 × zM) :=
  if (zi S0 a0 8) = 0 then some (((-3 : Int32), S0)) else zChk (¬ (zr S0 a0 0) = 0) (zChk (¬ (zr S0 a0 1) = 0) (zB1 (f_X9_copyFrom n S0 (zr S0 a0 0) (zr S0 a0 1)) (fun S7 => zChk (¬ (zr S7 a0 0) = 0) (some (((zi S7 (zr S7 a0 0) 7), S7))))))
set_option maxHeartbeats 4000000 in
set_option maxRecDepth 100000 in
theorem c_X11_restore (l : Launch) (D : va_G) (cy : Nat → ClassId) (B : Nat) {n : Nat} {S0 : zM} {a0 : Nat} {r : Int32} {S' : zM} (ha0 : zA S0 a0 11) (h : f_X11_restore n S0 a0 = some (r, S')) : Met l yX11_restore (zws yX11_restore cX11_restore 1 ((some .int))) { frames := 3, cells := 0, slots := 0, locals := 123 } (zPc D cy B S0 [.ref (B + a0)]) (zQi D cy B S0 r S') 0 0 (fun q => B < q) := by
  refine Met.ofW (cc := cX11_restore) (maxL := 1) (ret := ((some .int))) (by decide) rfl ?_
  intro p e s m args below meth c s₁ Bd hml hv
  obtain ⟨rfl, hC, hM⟩ := hv
  obtain ⟨hx, hb, hr, hg, hown, hlk⟩ := z_open Bd
  have hK := hC.1
  have hS : va_S (fun q => B < q) s.heap s.heap [] := va_S.rf
  have hX0 : zX S0 S0 := zX.rf
  refine z_entry (vs := [.ref (B + a0)]) (Nat.le_of_ble_eq_true rfl) (fun ls hl => ?_)
  have hl : lv_has ls 1 [(0, .ref (B + a0))] := hl
  unfold f_X11_restore at h
  refine lv_aload_n hx hb dX11_restore_0 rfl (lv_at hl 0 rfl) ?_
  refine z_getI hx hb hg zin_11 hown hK hM ha0 8 rfl (by decide) (hg _ zw_275) (fun _ h9 => h9) dX11_restore_1 ?_
  refine lv_if_ne (tgt := 10) hx hb dX11_restore_4 (by decide) (fun hc1 => ?_) (fun hc1 => ?_)
  · have h := zf h hc1
    refine lv_aload_n hx hb dX11_restore_10 rfl (lv_at hl 0 rfl) ?_
    obtain ⟨hq3, h⟩ := zk h
    refine z_getN hx hb hg zin_11 hown hK hM ha0 0 rfl (by decide) (hg _ zw_267) (fun _ h9 => h9) hq3 dX11_restore_11 (fun h2 => ?_)
    refine lv_aload_n hx hb dX11_restore_14 rfl (lv_at hl 0 rfl) ?_
    obtain ⟨hq5, h⟩ := zk h
    refine z_getN hx hb hg zin_11 hown hK hM ha0 1 rfl (by decide) (hg _ zw_268) (fun _ h9 => h9) hq5 dX11_restore_15 (fun h4 => ?_)
    obtain ⟨S7, hr6, h⟩ := zb1 h
    refine z_runv (va_runV (As := [.ref (B + (zr S0 a0 1))]) (rest := []) ⟨hx, hb, hml, hown, hg⟩ (c_X9_copyFrom l D cy B h2 h4 hr6) (z_cwV hg zw_618 zw_619 zw_620 zw_3 zw_621 zh_X9_copyFrom ⟨(Nat.le_of_ble_eq_true rfl), (Nat.le_of_ble_eq_true rfl)⟩) (zPV hC hM h2 (by decide) rfl) rfl rfl hl.1 rfl (lv_room (Nat.le_of_ble_eq_true rfl)) dX11_restore_18 ⟨(Nat.le_of_ble_eq_true rfl), (Nat.le_of_ble_eq_true rfl)⟩) hS (fun H locs hM hX8 hS => ?_)
    have h10 := ha0.mo hX8
    have hX11 := hX0.tr hX8
    refine lv_aload_n hx hb dX11_restore_21 rfl (lv_at hl 0 rfl) ?_
    obtain ⟨hq13, h⟩ := zk h
    refine z_getN hx hb hg zin_11 hown hK hM h10 0 rfl (by decide) (hg _ zw_267) (fun _ h9 => h9) hq13 dX11_restore_22 (fun h12 => ?_)
    refine z_getI hx hb hg zin_9 hown hK hM h12 7 rfl (by decide) (hg _ zw_140) (fun _ h9 => h9) dX11_restore_25 ?_
    exact z_iret hx hb hr hlk hM hX11 hS (zsp h) dX11_restore_28
  · have h := zt h hc1
    refine lv_bipush (v := (-3 : Int32)) hx hb dX11_restore_7 (by decide +kernel) ?_
    exact z_iret hx hb hr hlk hM hX0 hS (zsp h) dX11_restore_9
def f_X11_count (n : Nat) (S0 : zM) (a0 : Nat) (v1 : Int32) : Option (Int32 × zM) :=
  if v1 = (0 : Int32) then zChk (¬ (zr S0 a0 0) = 0) (some (((zi S0 (zr S0 a0 0) 5), S0))) else if v1 = (1 : Int32) then zChk (¬ (zr S0 a0 0) = 0) (some (((zi S0 (zr S0 a0 0) 6), S0))) else if v1 = (2 : Int32) then zChk (¬ (zr S0 a0 0) = 0) (some (((zi S0 (zr S0 a0 0) 7), S0))) else if v1 = (3 : Int32) then zChk (¬ (zr S0 a0 0) = 0) (zB1 (f_X9_marksThere n S0 (zr S0 a0 0)) (fun r14 => some ((r14, S0)))) else if v1 = (4 : Int32) then zChk (¬ (zr S0 a0 0) = 0) (zB2 (f_X9_sumOfMarks n S0 (zr S0 a0 0)) (fun r21 S22 => some ((r21, S22)))) else if v1 = (5 : Int32) then zChk (¬ (zr S0 a0 0) = 0) (zB1 (f_X9_seatsTaken n S0 (zr S0 a0 0)) (fun r30 => some ((r30, S0)))) else if v1 = (6 : Int32) then zLet (f_X11_within (v1 - (6 : Int32)) (6 : Int32)) (fun r35 => if r35 = 0 then some (((-1 : Int32), S0)) else zChk (¬ (zr S0 a0 0) = 0) (zChk (¬ (zr S0 (zr S0 a0 0) 4) = 0) (zChk (¬ (zr S0 (zr S0 (zr S0 a0 0) 4) 0) = 0) (zChk (¬ ((v1 - (6 : Int32)) < 0 ∨ zln S0 (zr S0 (zr S0 (zr S0 a0 0) 4) 0) ≤ ((v1 - (6 : Int32))).toNatClampNeg)) (some (((zi S0 (zr S0 (zr S0 (zr S0 a0 0) 4) 0) (Int32.toNatClampNeg (v1 - (6 : Int32)))), S0))))))) else if v1 = (7 : Int32) then zLet (f_X11_within (v1 - (6 : Int32)) (6 : Int32)) (fun r48 => if r48 = 0 then some (((-1 : Int32), S0)) else zChk (¬ (zr S0 a0 0) = 0) (zChk (¬ (zr S0 (zr S0 a0 0) 4) = 0) (zChk (¬ (zr S0 (zr S0 (zr S0 a0 0) 4) 0) = 0) (zChk (¬ ((v1 - (6 : Int32)) < 0 ∨ zln S0 (zr S0 (zr S0 (zr S0 a0 0) 4) 0) ≤ ((v1 - (6 : Int32))).toNatClampNeg)) (some (((zi S0 (zr S0 (zr S0 (zr S0 a0 0) 4) 0) (Int32.toNatClampNeg (v1 - (6 : Int32)))), S0))))))) else if v1 = (8 : Int32) then zLet (f_X11_within (v1 - (6 : Int32)) (6 : Int32)) (fun r61 => if r61 = 0 then some (((-1 : Int32), S0)) else zChk (¬ (zr S0 a0 0) = 0) (zChk (¬ (zr S0 (zr S0 a0 0) 4) = 0) (zChk (¬ (zr S0 (zr S0 (zr S0 a0 0) 4) 0) = 0) (zChk (¬ ((v1 - (6 : Int32)) < 0 ∨ zln S0 (zr S0 (zr S0 (zr S0 a0 0) 4) 0) ≤ ((v1 - (6 : Int32))).toNatClampNeg)) (some (((zi S0 (zr S0 (zr S0 (zr S0 a0 0) 4) 0) (Int32.toNatClampNeg (v1 - (6 : Int32)))), S0))))))) else if v1 = (9 : Int32) then zLet (f_X11_within (v1 - (6 : Int32)) (6 : Int32)) (fun r74 => if r74 = 0 then some (((-1 : Int32), S0)) else zChk (¬ (zr S0 a0 0) = 0) (zChk (¬ (zr S0 (zr S0 a0 0) 4) = 0) (zChk (¬ (zr S0 (zr S0 (zr S0 a0 0) 4) 0) = 0) (zChk (¬ ((v1 - (6 : Int32)) < 0 ∨ zln S0 (zr S0 (zr S0 (zr S0 a0 0) 4) 0) ≤ ((v1 - (6 : Int32))).toNatClampNeg)) (some (((zi S0 (zr S0 (zr S0 (zr S0 a0 0) 4) 0) (Int32.toNatClampNeg (v1 - (6 : Int32)))), S0))))))) else if v1 = (10 : Int32) then zLet (f_X11_within (v1 - (6 : Int32)) (6 : Int32)) (fun r87 => if r87 = 0 then some (((-1 : Int32), S0)) else zChk (¬ (zr S0 a0 0) = 0) (zChk (¬ (zr S0 (zr S0 a0 0) 4) = 0) (zChk (¬ (zr S0 (zr S0 (zr S0 a0 0) 4) 0) = 0) (zChk (¬ ((v1 - (6 : Int32)) < 0 ∨ zln S0 (zr S0 (zr S0 (zr S0 a0 0) 4) 0) ≤ ((v1 - (6 : Int32))).toNatClampNeg)) (some (((zi S0 (zr S0 (zr S0 (zr S0 a0 0) 4) 0) (Int32.toNatClampNeg (v1 - (6 : Int32)))), S0))))))) else if v1 = (11 : Int32) then zLet (f_X11_within (v1 - (6 : Int32)) (6 : Int32)) (fun r100 => if r100 = 0 then some (((-1 : Int32), S0)) else zChk (¬ (zr S0 a0 0) = 0) (zChk (¬ (zr S0 (zr S0 a0 0) 4) = 0) (zChk (¬ (zr S0 (zr S0 (zr S0 a0 0) 4) 0) = 0) (zChk (¬ ((v1 - (6 : Int32)) < 0 ∨ zln S0 (zr S0 (zr S0 (zr S0 a0 0) 4) 0) ≤ ((v1 - (6 : Int32))).toNatClampNeg)) (some (((zi S0 (zr S0 (zr S0 (zr S0 a0 0) 4) 0) (Int32.toNatClampNeg (v1 - (6 : Int32)))), S0))))))) else if v1 = (12 : Int32) then zChk (¬ (zr S0 a0 0) = 0) (zChk (¬ (zr S0 (zr S0 a0 0) 4) = 0) (some (((zi S0 (zr S0 (zr S0 a0 0) 4) 1), S0)))) else if v1 = (13 : Int32) then zChk (¬ (zr S0 a0 0) = 0) (zChk (¬ (zr S0 (zr S0 a0 0) 4) = 0) (some (((zi S0 (zr S0 (zr S0 a0 0) 4) 2), S0)))) else zLet (f_X11_within (v1 - (6 : Int32)) (6 : Int32)) (fun r122 => if r122 = 0 then some (((-1 : Int32), S0)) else zChk (¬ (zr S0 a0 0) = 0) (zChk (¬ (zr S0 (zr S0 a0 0) 4) = 0) (zChk (¬ (zr S0 (zr S0 (zr S0 a0 0) 4) 0) = 0) (zChk (¬ ((v1 - (6 : Int32)) < 0 ∨ zln S0 (zr S0 (zr S0 (zr S0 a0 0) 4) 0) ≤ ((v1 - (6 : Int32))).toNatClampNeg)) (some (((zi S0 (zr S0 (zr S0 (zr S0 a0 0) 4) 0) (Int32.toNatClampNeg (v1 - (6 : Int32)))), S0)))))))
set_option maxHeartbeats 4000000 in
set_option maxRecDepth 100000 in
theorem c_X11_count (l : Launch) (D : va_G) (cy : Nat → ClassId) (B : Nat) {n : Nat} {S0 : zM} {a0 : Nat} {v1 : Int32} {r : Int32} {S' : zM} (ha0 : zA S0 a0 11) (h : f_X11_count n S0 a0 v1 = some (r, S')) : Met l yX11_count (zws yX11_count cX11_count 2 ((some .int))) { frames := 4, cells := 0, slots := 0, locals := 86 } (zPc D cy B S0 [.ref (B + a0), .int v1]) (zQi D cy B S0 r S') 0 0 (fun q => B < q) := by
  refine Met.ofW (cc := cX11_count) (maxL := 2) (ret := ((some .int))) (by decide) rfl ?_
  intro p e s m args below meth c s₁ Bd hml hv
  obtain ⟨rfl, hC, hM⟩ := hv
  obtain ⟨hx, hb, hr, hg, hown, hlk⟩ := z_open Bd
  have hK := hC.1
  have hS : va_S (fun q => B < q) s.heap s.heap [] := va_S.rf
  have hX0 : zX S0 S0 := zX.rf
  refine z_entry (vs := [.ref (B + a0), .int v1]) (Nat.le_of_ble_eq_true rfl) (fun ls hl => ?_)
  have hl : lv_has ls 2 [(0, .ref (B + a0)), (1, .int v1)] := hl
  unfold f_X11_count at h
  refine lv_iload_n hx hb dX11_count_0 rfl (lv_at hl 1 rfl) ?_
  by_cases hc1 : v1 = (0 : Int32)
  · refine z_tin (off := 71) hx hb hc1 dX11_count_1 (by decide +kernel) (tgt := 72) (by decide) ?_
    have h := zt h hc1
    refine lv_aload_n hx hb dX11_count_72 rfl (lv_at hl 0 rfl) ?_
    obtain ⟨hq3, h⟩ := zk h
    refine z_getN hx hb hg zin_11 hown hK hM ha0 0 rfl (by decide) (hg _ zw_267) (fun _ h9 => h9) hq3 dX11_count_73 (fun h2 => ?_)
    refine z_getI hx hb hg zin_9 hown hK hM h2 5 rfl (by decide) (hg _ zw_133) (fun _ h9 => h9) dX11_count_76 ?_
    exact z_iret hx hb hr hlk hM hX0 hS (zsp h) dX11_count_79
  · have h := zf h hc1
    by_cases hc4 : v1 = (1 : Int32)
    · refine z_tin (off := 79) hx hb hc4 dX11_count_1 (by decide +kernel) (tgt := 80) (by decide) ?_
      have h := zt h hc4
      refine lv_aload_n hx hb dX11_count_80 rfl (lv_at hl 0 rfl) ?_
      obtain ⟨hq6, h⟩ := zk h
      refine z_getN hx hb hg zin_11 hown hK hM ha0 0 rfl (by decide) (hg _ zw_267) (fun _ h9 => h9) hq6 dX11_count_81 (fun h5 => ?_)
      refine z_getI hx hb hg zin_9 hown hK hM h5 6 rfl (by decide) (hg _ zw_136) (fun _ h9 => h9) dX11_count_84 ?_
      exact z_iret hx hb hr hlk hM hX0 hS (zsp h) dX11_count_87
    · have h := zf h hc4
      by_cases hc7 : v1 = (2 : Int32)
      · refine z_tin (off := 87) hx hb hc7 dX11_count_1 (by decide +kernel) (tgt := 88) (by decide) ?_
        have h := zt h hc7
        refine lv_aload_n hx hb dX11_count_88 rfl (lv_at hl 0 rfl) ?_
        obtain ⟨hq9, h⟩ := zk h
        refine z_getN hx hb hg zin_11 hown hK hM ha0 0 rfl (by decide) (hg _ zw_267) (fun _ h9 => h9) hq9 dX11_count_89 (fun h8 => ?_)
        refine z_getI hx hb hg zin_9 hown hK hM h8 7 rfl (by decide) (hg _ zw_140) (fun _ h9 => h9) dX11_count_92 ?_
        exact z_iret hx hb hr hlk hM hX0 hS (zsp h) dX11_count_95
      · have h := zf h hc7
        by_cases hc10 : v1 = (3 : Int32)
        · refine z_tin (off := 95) hx hb hc10 dX11_count_1 (by decide +kernel) (tgt := 96) (by decide) ?_
          have h := zt h hc10
          refine lv_aload_n hx hb dX11_count_96 rfl (lv_at hl 0 rfl) ?_
          obtain ⟨hq12, h⟩ := zk h
          refine z_getN hx hb hg zin_11 hown hK hM ha0 0 rfl (by decide) (hg _ zw_267) (fun _ h9 => h9) hq12 dX11_count_97 (fun h11 => ?_)
          obtain ⟨r14, hr13, h⟩ := zb1 h
          refine z_runi (va_runV (As := []) (rest := []) ⟨hx, hb, hml, hown, hg⟩ (c_X9_marksThere l D cy B h11 hr13) (z_cwV hg zw_823 zw_824 zw_825 zw_3 zw_826 zh_X9_marksThere ⟨(Nat.le_of_ble_eq_true rfl), (Nat.le_of_ble_eq_true rfl)⟩) (zPV hC hM h11 (by decide) rfl) rfl rfl hl.1 rfl (lv_room (Nat.le_of_ble_eq_true rfl)) dX11_count_100 ⟨(Nat.le_of_ble_eq_true rfl), (Nat.le_of_ble_eq_true rfl)⟩) hS (fun H locs hM hX15 hS => ?_)
          exact z_iret hx hb hr hlk hM hX0 hS (zsp h) dX11_count_103
        · have h := zf h hc10
          by_cases hc17 : v1 = (4 : Int32)
          · refine z_tin (off := 103) hx hb hc17 dX11_count_1 (by decide +kernel) (tgt := 104) (by decide) ?_
            have h := zt h hc17
            refine lv_aload_n hx hb dX11_count_104 rfl (lv_at hl 0 rfl) ?_
            obtain ⟨hq19, h⟩ := zk h
            refine z_getN hx hb hg zin_11 hown hK hM ha0 0 rfl (by decide) (hg _ zw_267) (fun _ h9 => h9) hq19 dX11_count_105 (fun h18 => ?_)
            obtain ⟨r21, S22, hr20, h⟩ := zb2 h
            refine z_runi (va_runV (As := []) (rest := []) ⟨hx, hb, hml, hown, hg⟩ (c_X9_sumOfMarks l D cy B h18 hr20) (z_cwV hg zw_827 zw_828 zw_829 zw_3 zw_830 zh_X9_sumOfMarks ⟨(Nat.le_of_ble_eq_true rfl), (Nat.le_of_ble_eq_true rfl)⟩) (zPV hC hM h18 (by decide) rfl) rfl rfl hl.1 rfl (lv_room (Nat.le_of_ble_eq_true rfl)) dX11_count_108 ⟨(Nat.le_of_ble_eq_true rfl), (Nat.le_of_ble_eq_true rfl)⟩) hS (fun H locs hM hX23 hS => ?_)
            have hX25 := hX0.tr hX23
            exact z_iret hx hb hr hlk hM hX25 hS (zsp h) dX11_count_111
          · have h := zf h hc17
            by_cases hc26 : v1 = (5 : Int32)
            · refine z_tin (off := 111) hx hb hc26 dX11_count_1 (by decide +kernel) (tgt := 112) (by decide) ?_
              have h := zt h hc26
              refine lv_aload_n hx hb dX11_count_112 rfl (lv_at hl 0 rfl) ?_
              obtain ⟨hq28, h⟩ := zk h
              refine z_getN hx hb hg zin_11 hown hK hM ha0 0 rfl (by decide) (hg _ zw_267) (fun _ h9 => h9) hq28 dX11_count_113 (fun h27 => ?_)
              obtain ⟨r30, hr29, h⟩ := zb1 h
              refine z_runi (va_runV (As := []) (rest := []) ⟨hx, hb, hml, hown, hg⟩ (c_X9_seatsTaken l D cy B h27 hr29) (z_cwV hg zw_832 zw_833 zw_834 zw_3 zw_835 zh_X9_seatsTaken ⟨(Nat.le_of_ble_eq_true rfl), (Nat.le_of_ble_eq_true rfl)⟩) (zPV hC hM h27 (by decide) rfl) rfl rfl hl.1 rfl (lv_room (Nat.le_of_ble_eq_true rfl)) dX11_count_116 ⟨(Nat.le_of_ble_eq_true rfl), (Nat.le_of_ble_eq_true rfl)⟩) hS (fun H locs hM hX31 hS => ?_)
              exact z_iret hx hb hr hlk hM hX0 hS (zsp h) dX11_count_119
            · have h := zf h hc26
              by_cases hc33 : v1 = (6 : Int32)
              · refine z_tin (off := 141) hx hb hc33 dX11_count_1 (by decide +kernel) (tgt := 142) (by decide) ?_
                have h := zt h hc33
                refine lv_iload_n hx hb dX11_count_142 rfl (lv_at hl 1 rfl) ?_
                refine lv_bipush (v := (6 : Int32)) hx hb dX11_count_143 (by decide +kernel) ?_
                refine lv_isub hx hb dX11_count_145 ?_
                refine lv_bipush (v := (6 : Int32)) hx hb dX11_count_146 (by decide +kernel) ?_
                obtain ⟨r35, hr34, h⟩ := zlg h
                have hr34 := hr34.symm
                refine z_runi (va_runS (As := [.int (v1 - (6 : Int32)), .int (6 : Int32)]) (rest := []) ⟨hx, hb, hml, hown, hg⟩ (c_X11_within l D cy B hr34) (z_cwS hg zw_290 zw_291 zw_2 zw_292 zh_X11_within.2 ⟨(Nat.le_of_ble_eq_true rfl), (Nat.le_of_ble_eq_true rfl)⟩) (zPS hC hM) rfl rfl hl.1 rfl (lv_room (Nat.le_of_ble_eq_true rfl)) dX11_count_148 ⟨(Nat.le_of_ble_eq_true rfl), (Nat.le_of_ble_eq_true rfl)⟩) hS (fun H locs hM hX36 hS => ?_)
                refine lv_if_eq (tgt := 172) hx hb dX11_count_151 (by decide) (fun hc38 => ?_) (fun hc38 => ?_)
                · have h := zt h hc38
                  refine lv_iconst (v := (-1 : Int32)) hx hb dX11_count_172 (by decide +kernel) ?_
                  exact z_iret hx hb hr hlk hM hX0 hS (zsp h) dX11_count_173
                · have h := zf h hc38
                  refine lv_aload_n hx hb dX11_count_154 rfl (lv_at hl 0 rfl) ?_
                  obtain ⟨hq40, h⟩ := zk h
                  refine z_getN hx hb hg zin_11 hown hK hM ha0 0 rfl (by decide) (hg _ zw_267) (fun _ h9 => h9) hq40 dX11_count_155 (fun h39 => ?_)
                  obtain ⟨hq42, h⟩ := zk h
                  refine z_getN hx hb hg zin_9 hown hK hM h39 4 rfl (by decide) (hg _ zw_131) (fun _ h9 => h9) hq42 dX11_count_158 (fun h41 => ?_)
                  obtain ⟨hq44, h⟩ := zk h
                  refine z_getN hx hb hg zin_6 hown hK hM h41 0 rfl (by decide) (hg _ zw_49) (fun _ h9 => h9) hq44 dX11_count_161 (fun h43 => ?_)
                  refine lv_iload_n hx hb dX11_count_164 rfl (lv_at hl 1 rfl) ?_
                  refine lv_bipush (v := (6 : Int32)) hx hb dX11_count_165 (by decide +kernel) ?_
                  refine lv_isub hx hb dX11_count_167 ?_
                  obtain ⟨hq45, h⟩ := zk h
                  refine z_iald hx hb hK hM h43 hq45 dX11_count_168 ?_
                  refine lv_goto (tgt := 173) hx hb dX11_count_169 (by decide) ?_
                  exact z_iret hx hb hr hlk hM hX0 hS (zsp h) dX11_count_173
              · have h := zf h hc33
                by_cases hc46 : v1 = (7 : Int32)
                · refine z_tin (off := 141) hx hb hc46 dX11_count_1 (by decide +kernel) (tgt := 142) (by decide) ?_
                  have h := zt h hc46
                  refine lv_iload_n hx hb dX11_count_142 rfl (lv_at hl 1 rfl) ?_
                  refine lv_bipush (v := (6 : Int32)) hx hb dX11_count_143 (by decide +kernel) ?_
                  refine lv_isub hx hb dX11_count_145 ?_
                  refine lv_bipush (v := (6 : Int32)) hx hb dX11_count_146 (by decide +kernel) ?_
                  obtain ⟨r48, hr47, h⟩ := zlg h
                  have hr47 := hr47.symm
                  refine z_runi (va_runS (As := [.int (v1 - (6 : Int32)), .int (6 : Int32)]) (rest := []) ⟨hx, hb, hml, hown, hg⟩ (c_X11_within l D cy B hr47) (z_cwS hg zw_290 zw_291 zw_2 zw_292 zh_X11_within.2 ⟨(Nat.le_of_ble_eq_true rfl), (Nat.le_of_ble_eq_true rfl)⟩) (zPS hC hM) rfl rfl hl.1 rfl (lv_room (Nat.le_of_ble_eq_true rfl)) dX11_count_148 ⟨(Nat.le_of_ble_eq_true rfl), (Nat.le_of_ble_eq_true rfl)⟩) hS (fun H locs hM hX49 hS => ?_)
                  refine lv_if_eq (tgt := 172) hx hb dX11_count_151 (by decide) (fun hc51 => ?_) (fun hc51 => ?_)
                  · have h := zt h hc51
                    refine lv_iconst (v := (-1 : Int32)) hx hb dX11_count_172 (by decide +kernel) ?_
                    exact z_iret hx hb hr hlk hM hX0 hS (zsp h) dX11_count_173
                  · have h := zf h hc51
                    refine lv_aload_n hx hb dX11_count_154 rfl (lv_at hl 0 rfl) ?_
                    obtain ⟨hq53, h⟩ := zk h
                    refine z_getN hx hb hg zin_11 hown hK hM ha0 0 rfl (by decide) (hg _ zw_267) (fun _ h9 => h9) hq53 dX11_count_155 (fun h52 => ?_)
                    obtain ⟨hq55, h⟩ := zk h
                    refine z_getN hx hb hg zin_9 hown hK hM h52 4 rfl (by decide) (hg _ zw_131) (fun _ h9 => h9) hq55 dX11_count_158 (fun h54 => ?_)
                    obtain ⟨hq57, h⟩ := zk h
                    refine z_getN hx hb hg zin_6 hown hK hM h54 0 rfl (by decide) (hg _ zw_49) (fun _ h9 => h9) hq57 dX11_count_161 (fun h56 => ?_)
                    refine lv_iload_n hx hb dX11_count_164 rfl (lv_at hl 1 rfl) ?_
                    refine lv_bipush (v := (6 : Int32)) hx hb dX11_count_165 (by decide +kernel) ?_
                    refine lv_isub hx hb dX11_count_167 ?_
                    obtain ⟨hq58, h⟩ := zk h
                    refine z_iald hx hb hK hM h56 hq58 dX11_count_168 ?_
                    refine lv_goto (tgt := 173) hx hb dX11_count_169 (by decide) ?_
                    exact z_iret hx hb hr hlk hM hX0 hS (zsp h) dX11_count_173
                · have h := zf h hc46
                  by_cases hc59 : v1 = (8 : Int32)
                  · refine z_tin (off := 141) hx hb hc59 dX11_count_1 (by decide +kernel) (tgt := 142) (by decide) ?_
                    have h := zt h hc59
                    refine lv_iload_n hx hb dX11_count_142 rfl (lv_at hl 1 rfl) ?_
                    refine lv_bipush (v := (6 : Int32)) hx hb dX11_count_143 (by decide +kernel) ?_
                    refine lv_isub hx hb dX11_count_145 ?_
                    refine lv_bipush (v := (6 : Int32)) hx hb dX11_count_146 (by decide +kernel) ?_
                    obtain ⟨r61, hr60, h⟩ := zlg h
                    have hr60 := hr60.symm
                    refine z_runi (va_runS (As := [.int (v1 - (6 : Int32)), .int (6 : Int32)]) (rest := []) ⟨hx, hb, hml, hown, hg⟩ (c_X11_within l D cy B hr60) (z_cwS hg zw_290 zw_291 zw_2 zw_292 zh_X11_within.2 ⟨(Nat.le_of_ble_eq_true rfl), (Nat.le_of_ble_eq_true rfl)⟩) (zPS hC hM) rfl rfl hl.1 rfl (lv_room (Nat.le_of_ble_eq_true rfl)) dX11_count_148 ⟨(Nat.le_of_ble_eq_true rfl), (Nat.le_of_ble_eq_true rfl)⟩) hS (fun H locs hM hX62 hS => ?_)
                    refine lv_if_eq (tgt := 172) hx hb dX11_count_151 (by decide) (fun hc64 => ?_) (fun hc64 => ?_)
                    · have h := zt h hc64
                      refine lv_iconst (v := (-1 : Int32)) hx hb dX11_count_172 (by decide +kernel) ?_
                      exact z_iret hx hb hr hlk hM hX0 hS (zsp h) dX11_count_173
                    · have h := zf h hc64
                      refine lv_aload_n hx hb dX11_count_154 rfl (lv_at hl 0 rfl) ?_
                      obtain ⟨hq66, h⟩ := zk h
                      refine z_getN hx hb hg zin_11 hown hK hM ha0 0 rfl (by decide) (hg _ zw_267) (fun _ h9 => h9) hq66 dX11_count_155 (fun h65 => ?_)
                      obtain ⟨hq68, h⟩ := zk h
                      refine z_getN hx hb hg zin_9 hown hK hM h65 4 rfl (by decide) (hg _ zw_131) (fun _ h9 => h9) hq68 dX11_count_158 (fun h67 => ?_)
                      obtain ⟨hq70, h⟩ := zk h
                      refine z_getN hx hb hg zin_6 hown hK hM h67 0 rfl (by decide) (hg _ zw_49) (fun _ h9 => h9) hq70 dX11_count_161 (fun h69 => ?_)
                      refine lv_iload_n hx hb dX11_count_164 rfl (lv_at hl 1 rfl) ?_
                      refine lv_bipush (v := (6 : Int32)) hx hb dX11_count_165 (by decide +kernel) ?_
                      refine lv_isub hx hb dX11_count_167 ?_
                      obtain ⟨hq71, h⟩ := zk h
                      refine z_iald hx hb hK hM h69 hq71 dX11_count_168 ?_
                      refine lv_goto (tgt := 173) hx hb dX11_count_169 (by decide) ?_
                      exact z_iret hx hb hr hlk hM hX0 hS (zsp h) dX11_count_173
                  · have h := zf h hc59
                    by_cases hc72 : v1 = (9 : Int32)
                    · refine z_tin (off := 141) hx hb hc72 dX11_count_1 (by decide +kernel) (tgt := 142) (by decide) ?_
                      have h := zt h hc72
                      refine lv_iload_n hx hb dX11_count_142 rfl (lv_at hl 1 rfl) ?_
                      refine lv_bipush (v := (6 : Int32)) hx hb dX11_count_143 (by decide +kernel) ?_
                      refine lv_isub hx hb dX11_count_145 ?_
                      refine lv_bipush (v := (6 : Int32)) hx hb dX11_count_146 (by decide +kernel) ?_
                      obtain ⟨r74, hr73, h⟩ := zlg h
                      have hr73 := hr73.symm
                      refine z_runi (va_runS (As := [.int (v1 - (6 : Int32)), .int (6 : Int32)]) (rest := []) ⟨hx, hb, hml, hown, hg⟩ (c_X11_within l D cy B hr73) (z_cwS hg zw_290 zw_291 zw_2 zw_292 zh_X11_within.2 ⟨(Nat.le_of_ble_eq_true rfl), (Nat.le_of_ble_eq_true rfl)⟩) (zPS hC hM) rfl rfl hl.1 rfl (lv_room (Nat.le_of_ble_eq_true rfl)) dX11_count_148 ⟨(Nat.le_of_ble_eq_true rfl), (Nat.le_of_ble_eq_true rfl)⟩) hS (fun H locs hM hX75 hS => ?_)
                      refine lv_if_eq (tgt := 172) hx hb dX11_count_151 (by decide) (fun hc77 => ?_) (fun hc77 => ?_)
                      · have h := zt h hc77
                        refine lv_iconst (v := (-1 : Int32)) hx hb dX11_count_172 (by decide +kernel) ?_
                        exact z_iret hx hb hr hlk hM hX0 hS (zsp h) dX11_count_173
                      · have h := zf h hc77
                        refine lv_aload_n hx hb dX11_count_154 rfl (lv_at hl 0 rfl) ?_
                        obtain ⟨hq79, h⟩ := zk h
                        refine z_getN hx hb hg zin_11 hown hK hM ha0 0 rfl (by decide) (hg _ zw_267) (fun _ h9 => h9) hq79 dX11_count_155 (fun h78 => ?_)
                        obtain ⟨hq81, h⟩ := zk h
                        refine z_getN hx hb hg zin_9 hown hK hM h78 4 rfl (by decide) (hg _ zw_131) (fun _ h9 => h9) hq81 dX11_count_158 (fun h80 => ?_)
                        obtain ⟨hq83, h⟩ := zk h
                        refine z_getN hx hb hg zin_6 hown hK hM h80 0 rfl (by decide) (hg _ zw_49) (fun _ h9 => h9) hq83 dX11_count_161 (fun h82 => ?_)
                        refine lv_iload_n hx hb dX11_count_164 rfl (lv_at hl 1 rfl) ?_
                        refine lv_bipush (v := (6 : Int32)) hx hb dX11_count_165 (by decide +kernel) ?_
                        refine lv_isub hx hb dX11_count_167 ?_
                        obtain ⟨hq84, h⟩ := zk h
                        refine z_iald hx hb hK hM h82 hq84 dX11_count_168 ?_
                        refine lv_goto (tgt := 173) hx hb dX11_count_169 (by decide) ?_
                        exact z_iret hx hb hr hlk hM hX0 hS (zsp h) dX11_count_173
                    · have h := zf h hc72
                      by_cases hc85 : v1 = (10 : Int32)
                      · refine z_tin (off := 141) hx hb hc85 dX11_count_1 (by decide +kernel) (tgt := 142) (by decide) ?_
                        have h := zt h hc85
                        refine lv_iload_n hx hb dX11_count_142 rfl (lv_at hl 1 rfl) ?_
                        refine lv_bipush (v := (6 : Int32)) hx hb dX11_count_143 (by decide +kernel) ?_
                        refine lv_isub hx hb dX11_count_145 ?_
                        refine lv_bipush (v := (6 : Int32)) hx hb dX11_count_146 (by decide +kernel) ?_
                        obtain ⟨r87, hr86, h⟩ := zlg h
                        have hr86 := hr86.symm
                        refine z_runi (va_runS (As := [.int (v1 - (6 : Int32)), .int (6 : Int32)]) (rest := []) ⟨hx, hb, hml, hown, hg⟩ (c_X11_within l D cy B hr86) (z_cwS hg zw_290 zw_291 zw_2 zw_292 zh_X11_within.2 ⟨(Nat.le_of_ble_eq_true rfl), (Nat.le_of_ble_eq_true rfl)⟩) (zPS hC hM) rfl rfl hl.1 rfl (lv_room (Nat.le_of_ble_eq_true rfl)) dX11_count_148 ⟨(Nat.le_of_ble_eq_true rfl), (Nat.le_of_ble_eq_true rfl)⟩) hS (fun H locs hM hX88 hS => ?_)
                        refine lv_if_eq (tgt := 172) hx hb dX11_count_151 (by decide) (fun hc90 => ?_) (fun hc90 => ?_)
                        · have h := zt h hc90
                          refine lv_iconst (v := (-1 : Int32)) hx hb dX11_count_172 (by decide +kernel) ?_
                          exact z_iret hx hb hr hlk hM hX0 hS (zsp h) dX11_count_173
                        · have h := zf h hc90
                          refine lv_aload_n hx hb dX11_count_154 rfl (lv_at hl 0 rfl) ?_
                          obtain ⟨hq92, h⟩ := zk h
                          refine z_getN hx hb hg zin_11 hown hK hM ha0 0 rfl (by decide) (hg _ zw_267) (fun _ h9 => h9) hq92 dX11_count_155 (fun h91 => ?_)
                          obtain ⟨hq94, h⟩ := zk h
                          refine z_getN hx hb hg zin_9 hown hK hM h91 4 rfl (by decide) (hg _ zw_131) (fun _ h9 => h9) hq94 dX11_count_158 (fun h93 => ?_)
                          obtain ⟨hq96, h⟩ := zk h
                          refine z_getN hx hb hg zin_6 hown hK hM h93 0 rfl (by decide) (hg _ zw_49) (fun _ h9 => h9) hq96 dX11_count_161 (fun h95 => ?_)
                          refine lv_iload_n hx hb dX11_count_164 rfl (lv_at hl 1 rfl) ?_
                          refine lv_bipush (v := (6 : Int32)) hx hb dX11_count_165 (by decide +kernel) ?_
                          refine lv_isub hx hb dX11_count_167 ?_
                          obtain ⟨hq97, h⟩ := zk h
                          refine z_iald hx hb hK hM h95 hq97 dX11_count_168 ?_
                          refine lv_goto (tgt := 173) hx hb dX11_count_169 (by decide) ?_
                          exact z_iret hx hb hr hlk hM hX0 hS (zsp h) dX11_count_173
                      · have h := zf h hc85
                        by_cases hc98 : v1 = (11 : Int32)
                        · refine z_tin (off := 141) hx hb hc98 dX11_count_1 (by decide +kernel) (tgt := 142) (by decide) ?_
                          have h := zt h hc98
                          refine lv_iload_n hx hb dX11_count_142 rfl (lv_at hl 1 rfl) ?_
                          refine lv_bipush (v := (6 : Int32)) hx hb dX11_count_143 (by decide +kernel) ?_
                          refine lv_isub hx hb dX11_count_145 ?_
                          refine lv_bipush (v := (6 : Int32)) hx hb dX11_count_146 (by decide +kernel) ?_
                          obtain ⟨r100, hr99, h⟩ := zlg h
                          have hr99 := hr99.symm
                          refine z_runi (va_runS (As := [.int (v1 - (6 : Int32)), .int (6 : Int32)]) (rest := []) ⟨hx, hb, hml, hown, hg⟩ (c_X11_within l D cy B hr99) (z_cwS hg zw_290 zw_291 zw_2 zw_292 zh_X11_within.2 ⟨(Nat.le_of_ble_eq_true rfl), (Nat.le_of_ble_eq_true rfl)⟩) (zPS hC hM) rfl rfl hl.1 rfl (lv_room (Nat.le_of_ble_eq_true rfl)) dX11_count_148 ⟨(Nat.le_of_ble_eq_true rfl), (Nat.le_of_ble_eq_true rfl)⟩) hS (fun H locs hM hX101 hS => ?_)
                          refine lv_if_eq (tgt := 172) hx hb dX11_count_151 (by decide) (fun hc103 => ?_) (fun hc103 => ?_)
                          · have h := zt h hc103
                            refine lv_iconst (v := (-1 : Int32)) hx hb dX11_count_172 (by decide +kernel) ?_
                            exact z_iret hx hb hr hlk hM hX0 hS (zsp h) dX11_count_173
                          · have h := zf h hc103
                            refine lv_aload_n hx hb dX11_count_154 rfl (lv_at hl 0 rfl) ?_
                            obtain ⟨hq105, h⟩ := zk h
                            refine z_getN hx hb hg zin_11 hown hK hM ha0 0 rfl (by decide) (hg _ zw_267) (fun _ h9 => h9) hq105 dX11_count_155 (fun h104 => ?_)
                            obtain ⟨hq107, h⟩ := zk h
                            refine z_getN hx hb hg zin_9 hown hK hM h104 4 rfl (by decide) (hg _ zw_131) (fun _ h9 => h9) hq107 dX11_count_158 (fun h106 => ?_)
                            obtain ⟨hq109, h⟩ := zk h
                            refine z_getN hx hb hg zin_6 hown hK hM h106 0 rfl (by decide) (hg _ zw_49) (fun _ h9 => h9) hq109 dX11_count_161 (fun h108 => ?_)
                            refine lv_iload_n hx hb dX11_count_164 rfl (lv_at hl 1 rfl) ?_
                            refine lv_bipush (v := (6 : Int32)) hx hb dX11_count_165 (by decide +kernel) ?_
                            refine lv_isub hx hb dX11_count_167 ?_
                            obtain ⟨hq110, h⟩ := zk h
                            refine z_iald hx hb hK hM h108 hq110 dX11_count_168 ?_
                            refine lv_goto (tgt := 173) hx hb dX11_count_169 (by decide) ?_
                            exact z_iret hx hb hr hlk hM hX0 hS (zsp h) dX11_count_173
                        · have h := zf h hc98
                          by_cases hc111 : v1 = (12 : Int32)
                          · refine z_tin (off := 119) hx hb hc111 dX11_count_1 (by decide +kernel) (tgt := 120) (by decide) ?_
                            have h := zt h hc111
                            refine lv_aload_n hx hb dX11_count_120 rfl (lv_at hl 0 rfl) ?_
                            obtain ⟨hq113, h⟩ := zk h
                            refine z_getN hx hb hg zin_11 hown hK hM ha0 0 rfl (by decide) (hg _ zw_267) (fun _ h9 => h9) hq113 dX11_count_121 (fun h112 => ?_)
                            obtain ⟨hq115, h⟩ := zk h
                            refine z_getN hx hb hg zin_9 hown hK hM h112 4 rfl (by decide) (hg _ zw_131) (fun _ h9 => h9) hq115 dX11_count_124 (fun h114 => ?_)
                            refine z_getI hx hb hg zin_6 hown hK hM h114 1 rfl (by decide) (hg _ zw_52) (fun _ h9 => h9) dX11_count_127 ?_
                            exact z_iret hx hb hr hlk hM hX0 hS (zsp h) dX11_count_130
                          · have h := zf h hc111
                            by_cases hc116 : v1 = (13 : Int32)
                            · refine z_tin (off := 130) hx hb hc116 dX11_count_1 (by decide +kernel) (tgt := 131) (by decide) ?_
                              have h := zt h hc116
                              refine lv_aload_n hx hb dX11_count_131 rfl (lv_at hl 0 rfl) ?_
                              obtain ⟨hq118, h⟩ := zk h
                              refine z_getN hx hb hg zin_11 hown hK hM ha0 0 rfl (by decide) (hg _ zw_267) (fun _ h9 => h9) hq118 dX11_count_132 (fun h117 => ?_)
                              obtain ⟨hq120, h⟩ := zk h
                              refine z_getN hx hb hg zin_9 hown hK hM h117 4 rfl (by decide) (hg _ zw_131) (fun _ h9 => h9) hq120 dX11_count_135 (fun h119 => ?_)
                              refine z_getI hx hb hg zin_6 hown hK hM h119 2 rfl (by decide) (hg _ zw_55) (fun _ h9 => h9) dX11_count_138 ?_
                              exact z_iret hx hb hr hlk hM hX0 hS (zsp h) dX11_count_141
                            · have h := zf h hc116
                              refine lv_tableOut hx hb dX11_count_1 (by have := lv_neT hc1 (a := 0) (by decide +kernel); have := lv_neT hc4 (a := 1) (by decide +kernel); have := lv_neT hc7 (a := 2) (by decide +kernel); have := lv_neT hc10 (a := 3) (by decide +kernel); have := lv_neT hc17 (a := 4) (by decide +kernel); have := lv_neT hc26 (a := 5) (by decide +kernel); have := lv_neT hc33 (a := 6) (by decide +kernel); have := lv_neT hc46 (a := 7) (by decide +kernel); have := lv_neT hc59 (a := 8) (by decide +kernel); have := lv_neT hc72 (a := 9) (by decide +kernel); have := lv_neT hc85 (a := 10) (by decide +kernel); have := lv_neT hc98 (a := 11) (by decide +kernel); have := lv_neT hc111 (a := 12) (by decide +kernel); have := lv_neT hc116 (a := 13) (by decide +kernel); omega) (tgt := 142) (by decide) ?_
                              refine lv_iload_n hx hb dX11_count_142 rfl (lv_at hl 1 rfl) ?_
                              refine lv_bipush (v := (6 : Int32)) hx hb dX11_count_143 (by decide +kernel) ?_
                              refine lv_isub hx hb dX11_count_145 ?_
                              refine lv_bipush (v := (6 : Int32)) hx hb dX11_count_146 (by decide +kernel) ?_
                              obtain ⟨r122, hr121, h⟩ := zlg h
                              have hr121 := hr121.symm
                              refine z_runi (va_runS (As := [.int (v1 - (6 : Int32)), .int (6 : Int32)]) (rest := []) ⟨hx, hb, hml, hown, hg⟩ (c_X11_within l D cy B hr121) (z_cwS hg zw_290 zw_291 zw_2 zw_292 zh_X11_within.2 ⟨(Nat.le_of_ble_eq_true rfl), (Nat.le_of_ble_eq_true rfl)⟩) (zPS hC hM) rfl rfl hl.1 rfl (lv_room (Nat.le_of_ble_eq_true rfl)) dX11_count_148 ⟨(Nat.le_of_ble_eq_true rfl), (Nat.le_of_ble_eq_true rfl)⟩) hS (fun H locs hM hX123 hS => ?_)
                              refine lv_if_eq (tgt := 172) hx hb dX11_count_151 (by decide) (fun hc125 => ?_) (fun hc125 => ?_)
                              · have h := zt h hc125
                                refine lv_iconst (v := (-1 : Int32)) hx hb dX11_count_172 (by decide +kernel) ?_
                                exact z_iret hx hb hr hlk hM hX0 hS (zsp h) dX11_count_173
                              · have h := zf h hc125
                                refine lv_aload_n hx hb dX11_count_154 rfl (lv_at hl 0 rfl) ?_
                                obtain ⟨hq127, h⟩ := zk h
                                refine z_getN hx hb hg zin_11 hown hK hM ha0 0 rfl (by decide) (hg _ zw_267) (fun _ h9 => h9) hq127 dX11_count_155 (fun h126 => ?_)
                                obtain ⟨hq129, h⟩ := zk h
                                refine z_getN hx hb hg zin_9 hown hK hM h126 4 rfl (by decide) (hg _ zw_131) (fun _ h9 => h9) hq129 dX11_count_158 (fun h128 => ?_)
                                obtain ⟨hq131, h⟩ := zk h
                                refine z_getN hx hb hg zin_6 hown hK hM h128 0 rfl (by decide) (hg _ zw_49) (fun _ h9 => h9) hq131 dX11_count_161 (fun h130 => ?_)
                                refine lv_iload_n hx hb dX11_count_164 rfl (lv_at hl 1 rfl) ?_
                                refine lv_bipush (v := (6 : Int32)) hx hb dX11_count_165 (by decide +kernel) ?_
                                refine lv_isub hx hb dX11_count_167 ?_
                                obtain ⟨hq132, h⟩ := zk h
                                refine z_iald hx hb hK hM h130 hq132 dX11_count_168 ?_
                                refine lv_goto (tgt := 173) hx hb dX11_count_169 (by decide) ?_
                                exact z_iret hx hb hr hlk hM hX0 hS (zsp h) dX11_count_173
def f_X11_keep (S0 : zM) (a0 : Nat) (v1 : Int32) (v2 : Int32) (v3 : Int32) : Option (Int32 × zM) :=
  zB1 (f_X11_shelfAt S0 a0 v1) (fun r2 => if r2 = 0 then some (((-1 : Int32), S0)) else zLet (f_X11_within v2 (2 : Int32)) (fun r8 => if r8 = 0 then some (((-1 : Int32), S0)) else if v2 = 0 then zLet (f_X8_clear S0 r2) (fun S27 => some (((0 : Int32), S27))) else zChk (¬ (zr S0 a0 0) = 0) (zB1 (f_X9_judgeAt S0 (zr S0 a0 0) v3) (fun r16 => if r16 = 0 then some (((-1 : Int32), S0)) else zLet (f_X8_holdJudge S0 r2 r16) (fun S22 => some (((0 : Int32), S22)))))))
set_option maxHeartbeats 4000000 in
set_option maxRecDepth 100000 in
theorem c_X11_keep (l : Launch) (D : va_G) (cy : Nat → ClassId) (B : Nat) {S0 : zM} {a0 : Nat} {v1 : Int32} {v2 : Int32} {v3 : Int32} {r : Int32} {S' : zM} (ha0 : zA S0 a0 11) (h : f_X11_keep S0 a0 v1 v2 v3 = some (r, S')) : Met l yX11_keep (zws yX11_keep cX11_keep 6 ((some .int))) { frames := 2, cells := 0, slots := 0, locals := 42 } (zPc D cy B S0 [.ref (B + a0), .int v1, .int v2, .int v3]) (zQi D cy B S0 r S') 0 0 (fun q => B < q) := by
  refine Met.ofW (cc := cX11_keep) (maxL := 6) (ret := ((some .int))) (by decide) rfl ?_
  intro p e s m args below meth c s₁ Bd hml hv
  obtain ⟨rfl, hC, hM⟩ := hv
  obtain ⟨hx, hb, hr, hg, hown, hlk⟩ := z_open Bd
  have hK := hC.1
  have hS : va_S (fun q => B < q) s.heap s.heap [] := va_S.rf
  have hX0 : zX S0 S0 := zX.rf
  refine z_entry (vs := [.ref (B + a0), .int v1, .int v2, .int v3]) (Nat.le_of_ble_eq_true rfl) (fun ls hl => ?_)
  have hl : lv_has ls 6 [(0, .ref (B + a0)), (1, .int v1), (2, .int v2), (3, .int v3)] := hl
  unfold f_X11_keep at h
  refine lv_aload_n hx hb dX11_keep_0 rfl (lv_at hl 0 rfl) ?_
  refine lv_iload_n hx hb dX11_keep_1 rfl (lv_at hl 1 rfl) ?_
  obtain ⟨r2, hr1, h⟩ := zb1 h
  refine z_runr (va_runV (As := [.int v1]) (rest := []) ⟨hx, hb, hml, hown, hg⟩ (c_X11_shelfAt l D cy B ha0 hr1) (z_cwV hg zw_452 zw_453 zw_1464 zw_2 zw_454 zh_X11_shelfAt ⟨(Nat.le_of_ble_eq_true rfl), (Nat.le_of_ble_eq_true rfl)⟩) (zPV hC hM ha0 (by decide) rfl) rfl rfl hl.1 rfl (lv_room (Nat.le_of_ble_eq_true rfl)) dX11_keep_2 ⟨(Nat.le_of_ble_eq_true rfl), (Nat.le_of_ble_eq_true rfl)⟩) hS (fun H locs hM hX3 h4 hS => ?_)
  refine z_astore (i := 4) (lv' := [(4, zv B r2), (0, .ref (B + a0)), (1, .int v1), (2, .int v2), (3, .int v3)]) hx hb dX11_keep_5 hl (by decide) rfl (fun ls hl => ?_)
  refine z_aload hx hb dX11_keep_7 (lv_at hl 0 rfl) ?_
  refine z_ifnull (tgt := 20) hx hb dX11_keep_9 (by decide) (fun hc5 => ?_) (fun hc5 => ?_)
  · have h := zt h hc5
    refine lv_iconst (v := (-1 : Int32)) hx hb dX11_keep_20 (by decide +kernel) ?_
    exact z_iret hx hb hr hlk hM hX0 hS (zsp h) dX11_keep_21
  · have h6 := h4.nn hc5
    have h := zf h hc5
    refine lv_iload_n hx hb dX11_keep_12 rfl (lv_at hl 3 rfl) ?_
    refine lv_iconst (v := (2 : Int32)) hx hb dX11_keep_13 (by decide +kernel) ?_
    obtain ⟨r8, hr7, h⟩ := zlg h
    have hr7 := hr7.symm
    refine z_runi (va_runS (As := [.int v2, .int (2 : Int32)]) (rest := []) ⟨hx, hb, hml, hown, hg⟩ (c_X11_within l D cy B hr7) (z_cwS hg zw_290 zw_291 zw_2 zw_292 zh_X11_within.2 ⟨(Nat.le_of_ble_eq_true rfl), (Nat.le_of_ble_eq_true rfl)⟩) (zPS hC hM) rfl rfl hl.1 rfl (lv_room (Nat.le_of_ble_eq_true rfl)) dX11_keep_14 ⟨(Nat.le_of_ble_eq_true rfl), (Nat.le_of_ble_eq_true rfl)⟩) hS (fun H locs hM hX9 hS => ?_)
    refine lv_if_ne (tgt := 22) hx hb dX11_keep_17 (by decide) (fun hc11 => ?_) (fun hc11 => ?_)
    · have h := zf h hc11
      refine lv_iload_n hx hb dX11_keep_22 rfl (lv_at hl 3 rfl) ?_
      refine lv_if_ne (tgt := 33) hx hb dX11_keep_23 (by decide) (fun hc12 => ?_) (fun hc12 => ?_)
      · have h := zf h hc12
        refine lv_aload_n hx hb dX11_keep_33 rfl (lv_at hl 1 rfl) ?_
        obtain ⟨hq14, h⟩ := zk h
        refine z_getN hx hb hg zin_11 hown hK hM ha0 0 rfl (by decide) (hg _ zw_267) (fun _ h9 => h9) hq14 dX11_keep_34 (fun h13 => ?_)
        refine lv_iload_n hx hb dX11_keep_37 rfl (lv_at hl 4 rfl) ?_
        obtain ⟨r16, hr15, h⟩ := zb1 h
        refine z_runr (va_runV (As := [.int v3]) (rest := []) ⟨hx, hb, hml, hown, hg⟩ (c_X9_judgeAt l D cy B h13 hr15) (z_cwV hg zw_844 zw_398 zw_399 zw_3 zw_400 zh_X9_judgeAt ⟨(Nat.le_of_ble_eq_true rfl), (Nat.le_of_ble_eq_true rfl)⟩) (zPV hC hM h13 (by decide) rfl) rfl rfl hl.1 rfl (lv_room (Nat.le_of_ble_eq_true rfl)) dX11_keep_38 ⟨(Nat.le_of_ble_eq_true rfl), (Nat.le_of_ble_eq_true rfl)⟩) hS (fun H locs hM hX17 h18 hS => ?_)
        refine z_astore (i := 5) (lv' := [(5, zv B r16), (4, zv B r2), (0, .ref (B + a0)), (1, .int v1), (2, .int v2), (3, .int v3)]) hx hb dX11_keep_41 hl (by decide) (by simp [zv_cat]) (fun ls hl => ?_)
        refine z_aload hx hb dX11_keep_43 (lv_at hl 0 rfl) ?_
        refine z_ifnonnull (tgt := 50) hx hb dX11_keep_45 (by decide) (fun hc19 => ?_) (fun hc19 => ?_)
        · have h20 := h18.nn hc19
          have h := zf h hc19
          refine z_aloadR hx hb dX11_keep_50 (lv_at hl 1 rfl) h6.1 ?_
          refine z_aloadR hx hb dX11_keep_52 (lv_at hl 0 rfl) h20.1 ?_
          obtain ⟨S22, hr21, h⟩ := zlg h
          have hr21 := hr21.symm
          refine z_runv (va_runV (As := [.ref (B + r16)]) (rest := []) ⟨hx, hb, hml, hown, hg⟩ (c_X8_holdJudge l D cy B h6 h20 hr21) (z_cwV hg zw_845 zw_846 zw_847 zw_12 zw_848 zh_X8_holdJudge ⟨(Nat.le_of_ble_eq_true rfl), (Nat.le_of_ble_eq_true rfl)⟩) (zPV hC hM h6 (by decide) rfl) rfl rfl hl.1 rfl (lv_room (Nat.le_of_ble_eq_true rfl)) dX11_keep_54 ⟨(Nat.le_of_ble_eq_true rfl), (Nat.le_of_ble_eq_true rfl)⟩) hS (fun H locs hM hX23 hS => ?_)
          have hX25 := hX0.tr hX23
          refine lv_iconst (v := (0 : Int32)) hx hb dX11_keep_57 (by decide +kernel) ?_
          exact z_iret hx hb hr hlk hM hX25 hS (zsp h) dX11_keep_58
        · have h := zt h hc19
          refine lv_iconst (v := (-1 : Int32)) hx hb dX11_keep_48 (by decide +kernel) ?_
          exact z_iret hx hb hr hlk hM hX0 hS (zsp h) dX11_keep_49
      · have h := zt h hc12
        refine z_aloadR hx hb dX11_keep_26 (lv_at hl 0 rfl) h6.1 ?_
        obtain ⟨S27, hr26, h⟩ := zlg h
        have hr26 := hr26.symm
        refine z_runv (va_runV (As := []) (rest := []) ⟨hx, hb, hml, hown, hg⟩ (c_X8_clear l D cy B h6 hr26) (z_cwV hg zw_840 zw_841 zw_842 zw_12 zw_843 zh_X8_clear ⟨(Nat.le_of_ble_eq_true rfl), (Nat.le_of_ble_eq_true rfl)⟩) (zPV hC hM h6 (by decide) rfl) rfl rfl hl.1 rfl (lv_room (Nat.le_of_ble_eq_true rfl)) dX11_keep_28 ⟨(Nat.le_of_ble_eq_true rfl), (Nat.le_of_ble_eq_true rfl)⟩) hS (fun H locs hM hX28 hS => ?_)
        have hX30 := hX0.tr hX28
        refine lv_iconst (v := (0 : Int32)) hx hb dX11_keep_31 (by decide +kernel) ?_
        exact z_iret hx hb hr hlk hM hX30 hS (zsp h) dX11_keep_32
    · have h := zt h hc11
      refine lv_iconst (v := (-1 : Int32)) hx hb dX11_keep_20 (by decide +kernel) ?_
      exact z_iret hx hb hr hlk hM hX0 hS (zsp h) dX11_keep_21
def f_X11_row (n : Nat) (S0 : zM) (a0 : Nat) (v1 : Int32) (v2 : Int32) (v3 : Int32) : Option (Int32 × zM) :=
  zB1 (f_X11_shelfAt S0 a0 v1) (fun r2 => if r2 = 0 then some (((-1 : Int32), S0)) else zLet (f_X11_within v2 (3 : Int32)) (fun r8 => if r8 = 0 then some (((-1 : Int32), S0)) else if v3 ≤ (120 : Int32) then if 0 ≤ v3 then zB1 (f_X8_holdRow n S0 r2 v2 v3) (fun S15 => some (((0 : Int32), S15))) else some (((-14 : Int32), S0)) else some (((-1 : Int32), S0))))
set_option maxHeartbeats 4000000 in
set_option maxRecDepth 100000 in
theorem c_X11_row (l : Launch) (D : va_G) (cy : Nat → ClassId) (B : Nat) {n : Nat} {S0 : zM} {a0 : Nat} {v1 : Int32} {v2 : Int32} {v3 : Int32} {r : Int32} {S' : zM} (ha0 : zA S0 a0 11) (h : f_X11_row n S0 a0 v1 v2 v3 = some (r, S')) : Met l yX11_row (zws yX11_row cX11_row 5 ((some .int))) { frames := 2, cells := 0, slots := 0, locals := 43 } (zPc D cy B S0 [.ref (B + a0), .int v1, .int v2, .int v3]) (zQi D cy B S0 r S') 0 0 (fun q => B < q) := by
  refine Met.ofW (cc := cX11_row) (maxL := 5) (ret := ((some .int))) (by decide) rfl ?_
  intro p e s m args below meth c s₁ Bd hml hv
  obtain ⟨rfl, hC, hM⟩ := hv
  obtain ⟨hx, hb, hr, hg, hown, hlk⟩ := z_open Bd
  have hK := hC.1
  have hS : va_S (fun q => B < q) s.heap s.heap [] := va_S.rf
  have hX0 : zX S0 S0 := zX.rf
  refine z_entry (vs := [.ref (B + a0), .int v1, .int v2, .int v3]) (Nat.le_of_ble_eq_true rfl) (fun ls hl => ?_)
  have hl : lv_has ls 5 [(0, .ref (B + a0)), (1, .int v1), (2, .int v2), (3, .int v3)] := hl
  unfold f_X11_row at h
  refine lv_aload_n hx hb dX11_row_0 rfl (lv_at hl 0 rfl) ?_
  refine lv_iload_n hx hb dX11_row_1 rfl (lv_at hl 1 rfl) ?_
  obtain ⟨r2, hr1, h⟩ := zb1 h
  refine z_runr (va_runV (As := [.int v1]) (rest := []) ⟨hx, hb, hml, hown, hg⟩ (c_X11_shelfAt l D cy B ha0 hr1) (z_cwV hg zw_452 zw_453 zw_1464 zw_2 zw_454 zh_X11_shelfAt ⟨(Nat.le_of_ble_eq_true rfl), (Nat.le_of_ble_eq_true rfl)⟩) (zPV hC hM ha0 (by decide) rfl) rfl rfl hl.1 rfl (lv_room (Nat.le_of_ble_eq_true rfl)) dX11_row_2 ⟨(Nat.le_of_ble_eq_true rfl), (Nat.le_of_ble_eq_true rfl)⟩) hS (fun H locs hM hX3 h4 hS => ?_)
  refine z_astore (i := 4) (lv' := [(4, zv B r2), (0, .ref (B + a0)), (1, .int v1), (2, .int v2), (3, .int v3)]) hx hb dX11_row_5 hl (by decide) rfl (fun ls hl => ?_)
  refine z_aload hx hb dX11_row_7 (lv_at hl 0 rfl) ?_
  refine z_ifnull (tgt := 26) hx hb dX11_row_9 (by decide) (fun hc5 => ?_) (fun hc5 => ?_)
  · have h := zt h hc5
    refine lv_iconst (v := (-1 : Int32)) hx hb dX11_row_26 (by decide +kernel) ?_
    exact z_iret hx hb hr hlk hM hX0 hS (zsp h) dX11_row_27
  · have h6 := h4.nn hc5
    have h := zf h hc5
    refine lv_iload_n hx hb dX11_row_12 rfl (lv_at hl 3 rfl) ?_
    refine lv_iconst (v := (3 : Int32)) hx hb dX11_row_13 (by decide +kernel) ?_
    obtain ⟨r8, hr7, h⟩ := zlg h
    have hr7 := hr7.symm
    refine z_runi (va_runS (As := [.int v2, .int (3 : Int32)]) (rest := []) ⟨hx, hb, hml, hown, hg⟩ (c_X11_within l D cy B hr7) (z_cwS hg zw_290 zw_291 zw_2 zw_292 zh_X11_within.2 ⟨(Nat.le_of_ble_eq_true rfl), (Nat.le_of_ble_eq_true rfl)⟩) (zPS hC hM) rfl rfl hl.1 rfl (lv_room (Nat.le_of_ble_eq_true rfl)) dX11_row_14 ⟨(Nat.le_of_ble_eq_true rfl), (Nat.le_of_ble_eq_true rfl)⟩) hS (fun H locs hM hX9 hS => ?_)
    refine lv_if_eq (tgt := 26) hx hb dX11_row_17 (by decide) (fun hc11 => ?_) (fun hc11 => ?_)
    · have h := zt h hc11
      refine lv_iconst (v := (-1 : Int32)) hx hb dX11_row_26 (by decide +kernel) ?_
      exact z_iret hx hb hr hlk hM hX0 hS (zsp h) dX11_row_27
    · have h := zf h hc11
      refine lv_iload_n hx hb dX11_row_20 rfl (lv_at hl 4 rfl) ?_
      refine lv_bipush (v := (120 : Int32)) hx hb dX11_row_21 (by decide +kernel) ?_
      refine lv_icmp_le (tgt := 28) hx hb dX11_row_23 (by decide) (fun hc12 => ?_) (fun hc12 => ?_)
      · have h := zt h hc12
        refine lv_iload_n hx hb dX11_row_28 rfl (lv_at hl 4 rfl) ?_
        refine lv_if_ge (tgt := 35) hx hb dX11_row_29 (by decide) (fun hc13 => ?_) (fun hc13 => ?_)
        · have h := zt h hc13
          refine z_aloadR hx hb dX11_row_35 (lv_at hl 0 rfl) h6.1 ?_
          refine lv_iload_n hx hb dX11_row_37 rfl (lv_at hl 3 rfl) ?_
          refine lv_iload_n hx hb dX11_row_38 rfl (lv_at hl 4 rfl) ?_
          obtain ⟨S15, hr14, h⟩ := zb1 h
          refine z_runv (va_runV (As := [.int v2, .int v3]) (rest := []) ⟨hx, hb, hml, hown, hg⟩ (c_X8_holdRow l D cy B h6 hr14) (z_cwV hg zw_854 zw_855 zw_856 zw_12 zw_857 zh_X8_holdRow ⟨(Nat.le_of_ble_eq_true rfl), (Nat.le_of_ble_eq_true rfl)⟩) (zPV hC hM h6 (by decide) rfl) rfl rfl hl.1 rfl (lv_room (Nat.le_of_ble_eq_true rfl)) dX11_row_39 ⟨(Nat.le_of_ble_eq_true rfl), (Nat.le_of_ble_eq_true rfl)⟩) hS (fun H locs hM hX16 hS => ?_)
          have hX18 := hX0.tr hX16
          refine lv_iconst (v := (0 : Int32)) hx hb dX11_row_42 (by decide +kernel) ?_
          exact z_iret hx hb hr hlk hM hX18 hS (zsp h) dX11_row_43
        · have h := zf h hc13
          refine lv_bipush (v := (-14 : Int32)) hx hb dX11_row_32 (by decide +kernel) ?_
          exact z_iret hx hb hr hlk hM hX0 hS (zsp h) dX11_row_34
      · have h := zf h hc12
        refine lv_iconst (v := (-1 : Int32)) hx hb dX11_row_26 (by decide +kernel) ?_
        exact z_iret hx hb hr hlk hM hX0 hS (zsp h) dX11_row_27
def f_X11_put (S0 : zM) (a0 : Nat) (v1 : Int32) (v2 : Int32) (v3 : Int32) : Option (Int32 × zM) :=
  zB1 (f_X11_shelfAt S0 a0 v1) (fun r2 => if r2 = 0 then some (((-1 : Int32), S0)) else zB1 (f_X8_refusalAsRow S0 r2) (fun r8 => if r8 = 0 then zLet (f_X11_within v2 (zi S0 r2 3)) (fun r13 => if r13 = 0 then some (((-13 : Int32), S0)) else zChk (¬ (zr S0 r2 0) = 0) (zLet (f_X8_lowestBits S0 r2 v3) (fun r20 => zChk (¬ (v2 < 0 ∨ zln S0 (zr S0 r2 0) ≤ (v2).toNatClampNeg)) (zLet (zpI S0 (zr S0 r2 0) (Int32.toNatClampNeg v2) r20) (fun S24 => some (((0 : Int32), S24))))))) else some ((r8, S0))))
set_option maxHeartbeats 4000000 in
set_option maxRecDepth 100000 in
theorem c_X11_put (l : Launch) (D : va_G) (cy : Nat → ClassId) (B : Nat) {S0 : zM} {a0 : Nat} {v1 : Int32} {v2 : Int32} {v3 : Int32} {r : Int32} {S' : zM} (ha0 : zA S0 a0 11) (h : f_X11_put S0 a0 v1 v2 v3 = some (r, S')) : Met l yX11_put (zws yX11_put cX11_put 6 ((some .int))) { frames := 2, cells := 0, slots := 0, locals := 42 } (zPc D cy B S0 [.ref (B + a0), .int v1, .int v2, .int v3]) (zQi D cy B S0 r S') 0 0 (fun q => B < q) := by
  refine Met.ofW (cc := cX11_put) (maxL := 6) (ret := ((some .int))) (by decide) rfl ?_
  intro p e s m args below meth c s₁ Bd hml hv
  obtain ⟨rfl, hC, hM⟩ := hv
  obtain ⟨hx, hb, hr, hg, hown, hlk⟩ := z_open Bd
  have hK := hC.1
  have hS : va_S (fun q => B < q) s.heap s.heap [] := va_S.rf
  have hX0 : zX S0 S0 := zX.rf
  refine z_entry (vs := [.ref (B + a0), .int v1, .int v2, .int v3]) (Nat.le_of_ble_eq_true rfl) (fun ls hl => ?_)
  have hl : lv_has ls 6 [(0, .ref (B + a0)), (1, .int v1), (2, .int v2), (3, .int v3)] := hl
  unfold f_X11_put at h
  refine lv_aload_n hx hb dX11_put_0 rfl (lv_at hl 0 rfl) ?_
  refine lv_iload_n hx hb dX11_put_1 rfl (lv_at hl 1 rfl) ?_
  obtain ⟨r2, hr1, h⟩ := zb1 h
  refine z_runr (va_runV (As := [.int v1]) (rest := []) ⟨hx, hb, hml, hown, hg⟩ (c_X11_shelfAt l D cy B ha0 hr1) (z_cwV hg zw_452 zw_453 zw_1464 zw_2 zw_454 zh_X11_shelfAt ⟨(Nat.le_of_ble_eq_true rfl), (Nat.le_of_ble_eq_true rfl)⟩) (zPV hC hM ha0 (by decide) rfl) rfl rfl hl.1 rfl (lv_room (Nat.le_of_ble_eq_true rfl)) dX11_put_2 ⟨(Nat.le_of_ble_eq_true rfl), (Nat.le_of_ble_eq_true rfl)⟩) hS (fun H locs hM hX3 h4 hS => ?_)
  refine z_astore (i := 4) (lv' := [(4, zv B r2), (0, .ref (B + a0)), (1, .int v1), (2, .int v2), (3, .int v3)]) hx hb dX11_put_5 hl (by decide) rfl (fun ls hl => ?_)
  refine z_aload hx hb dX11_put_7 (lv_at hl 0 rfl) ?_
  refine z_ifnonnull (tgt := 14) hx hb dX11_put_9 (by decide) (fun hc5 => ?_) (fun hc5 => ?_)
  · have h6 := h4.nn hc5
    have h := zf h hc5
    refine z_aloadR hx hb dX11_put_14 (lv_at hl 0 rfl) h6.1 ?_
    obtain ⟨r8, hr7, h⟩ := zb1 h
    refine z_runi (va_runV (As := []) (rest := []) ⟨hx, hb, hml, hown, hg⟩ (c_X8_refusalAsRow l D cy B h6 hr7) (z_cwV hg zw_862 zw_460 zw_461 zw_12 zw_462 zh_X8_refusalAsRow ⟨(Nat.le_of_ble_eq_true rfl), (Nat.le_of_ble_eq_true rfl)⟩) (zPV hC hM h6 (by decide) rfl) rfl rfl hl.1 rfl (lv_room (Nat.le_of_ble_eq_true rfl)) dX11_put_16 ⟨(Nat.le_of_ble_eq_true rfl), (Nat.le_of_ble_eq_true rfl)⟩) hS (fun H locs hM hX9 hS => ?_)
    refine lv_istore (i := 5) (lv' := [(5, .int r8), (4, zv B r2), (0, .ref (B + a0)), (1, .int v1), (2, .int v2), (3, .int v3)]) hx hb dX11_put_19 hl (by decide) (by simp [zv_cat]) (fun ls hl => ?_)
    refine lv_iload hx hb dX11_put_21 (lv_at hl 0 rfl) ?_
    refine lv_if_eq (tgt := 29) hx hb dX11_put_23 (by decide) (fun hc11 => ?_) (fun hc11 => ?_)
    · have h := zt h hc11
      refine lv_iload_n hx hb dX11_put_29 rfl (lv_at hl 4 rfl) ?_
      refine z_aloadR hx hb dX11_put_30 (lv_at hl 1 rfl) h6.1 ?_
      refine z_getI hx hb hg zin_8 hown hK hM h6 3 rfl (by decide) (hg _ zw_259) (fun _ h9 => h9) dX11_put_32 ?_
      obtain ⟨r13, hr12, h⟩ := zlg h
      have hr12 := hr12.symm
      refine z_runi (va_runS (As := [.int v2, .int (zi S0 r2 3)]) (rest := []) ⟨hx, hb, hml, hown, hg⟩ (c_X11_within l D cy B hr12) (z_cwS hg zw_290 zw_291 zw_2 zw_292 zh_X11_within.2 ⟨(Nat.le_of_ble_eq_true rfl), (Nat.le_of_ble_eq_true rfl)⟩) (zPS hC hM) rfl rfl hl.1 rfl (lv_room (Nat.le_of_ble_eq_true rfl)) dX11_put_35 ⟨(Nat.le_of_ble_eq_true rfl), (Nat.le_of_ble_eq_true rfl)⟩) hS (fun H locs hM hX14 hS => ?_)
      refine lv_if_ne (tgt := 44) hx hb dX11_put_38 (by decide) (fun hc16 => ?_) (fun hc16 => ?_)
      · have h := zf h hc16
        refine z_aloadR hx hb dX11_put_44 (lv_at hl 1 rfl) h6.1 ?_
        obtain ⟨hq18, h⟩ := zk h
        refine z_getN hx hb hg zin_8 hown hK hM h6 0 rfl (by decide) (hg _ zw_252) (fun _ h9 => h9) hq18 dX11_put_46 (fun h17 => ?_)
        refine lv_iload_n hx hb dX11_put_49 rfl (lv_at hl 4 rfl) ?_
        refine z_aloadR hx hb dX11_put_50 (lv_at hl 1 rfl) h6.1 ?_
        refine lv_iload_n hx hb dX11_put_52 rfl (lv_at hl 5 rfl) ?_
        obtain ⟨r20, hr19, h⟩ := zlg h
        have hr19 := hr19.symm
        refine z_runi (va_runV (As := [.int v3]) (rest := [.int v2, .ref (B + (zr S0 r2 0))]) ⟨hx, hb, hml, hown, hg⟩ (c_X8_lowestBits l D cy B h6 hr19) (z_cwV hg zw_863 zw_864 zw_865 zw_12 zw_866 zh_X8_lowestBits ⟨(Nat.le_of_ble_eq_true rfl), (Nat.le_of_ble_eq_true rfl)⟩) (zPV hC hM h6 (by decide) rfl) rfl rfl hl.1 rfl (lv_room (Nat.le_of_ble_eq_true rfl)) dX11_put_53 ⟨(Nat.le_of_ble_eq_true rfl), (Nat.le_of_ble_eq_true rfl)⟩) hS (fun H locs hM hX21 hS => ?_)
        obtain ⟨hq23, h⟩ := zk h
        refine z_iast hx hb hK hM hS h17 hq23 dX11_put_56 (fun H locs hM hS => ?_)
        obtain ⟨S24, e25, h⟩ := zlg h
        rw [← e25] at hM
        have hX26 : zX S0 S24 := by rw [e25]; exact zX_pI
        have hX27 := hX0.tr hX26
        refine lv_iconst (v := (0 : Int32)) hx hb dX11_put_57 (by decide +kernel) ?_
        exact z_iret hx hb hr hlk hM hX27 hS (zsp h) dX11_put_58
      · have h := zt h hc16
        refine lv_bipush (v := (-13 : Int32)) hx hb dX11_put_41 (by decide +kernel) ?_
        exact z_iret hx hb hr hlk hM hX0 hS (zsp h) dX11_put_43
    · have h := zf h hc11
      refine lv_iload hx hb dX11_put_26 (lv_at hl 0 rfl) ?_
      exact z_iret hx hb hr hlk hM hX0 hS (zsp h) dX11_put_28
  · have h := zt h hc5
    refine lv_iconst (v := (-1 : Int32)) hx hb dX11_put_12 (by decide +kernel) ?_
    exact z_iret hx hb hr hlk hM hX0 hS (zsp h) dX11_put_13
def f_X11_copy (S0 : zM) (a0 : Nat) (v1 : Int32) (v2 : Int32) (v3 : Int32) (v4 : Int32) (v5 : Int32) : Option (Int32 × zM) :=
  zB1 (f_X11_shelfAt S0 a0 v1) (fun r2 => zB1 (f_X11_shelfAt S0 a0 v3) (fun r6 => if r2 = 0 then some (((-1 : Int32), S0)) else if r6 = 0 then some (((-1 : Int32), S0)) else zB1 (f_X8_holdsNothing S0 r2) (fun r14 => if r14 = 0 then zB1 (f_X8_holdsNothing S0 r6) (fun r19 => if r19 = 0 then zB1 (f_X8_refusalAsRow S0 r2) (fun r24 => if r24 = 0 then zB1 (f_X8_refusalAsRow S0 r6) (fun r29 => if r29 = 0 then if (zi S0 r2 2) = (zi S0 r6 2) then zLet (f_X8_hasPlaces S0 r2 v2 v5) (fun r35 => if r35 = 0 then some (((-13 : Int32), S0)) else zLet (f_X8_hasPlaces S0 r6 v4 v5) (fun r40 => if r40 = 0 then some (((-13 : Int32), S0)) else zChk (¬ (zr S0 r2 0) = 0) (zChk (¬ (zr S0 r6 0) = 0) (zChk (¬ v2 < 0 ∧ ¬ v4 < 0 ∧ ¬ v5 < 0 ∧ (Int32.toNatClampNeg v2) + (Int32.toNatClampNeg v5) ≤ zln S0 (zr S0 r2 0) ∧ (Int32.toNatClampNeg v4) + (Int32.toNatClampNeg v5) ≤ zln S0 (zr S0 r6 0)) (zLet (zcp S0 (zr S0 r2 0) (Int32.toNatClampNeg v2) (zr S0 r6 0) (Int32.toNatClampNeg v4) (Int32.toNatClampNeg v5)) (fun S49 => some ((v5, S49)))))))) else some (((-12 : Int32), S0)) else some (((-12 : Int32), S0))) else some (((-12 : Int32), S0))) else some (((-11 : Int32), S0))) else some (((-11 : Int32), S0)))))
set_option maxHeartbeats 4000000 in
set_option maxRecDepth 100000 in
theorem c_X11_copy (l : Launch) (D : va_G) (cy : Nat → ClassId) (B : Nat) {S0 : zM} {a0 : Nat} {v1 : Int32} {v2 : Int32} {v3 : Int32} {v4 : Int32} {v5 : Int32} {r : Int32} {S' : zM} (ha0 : zA S0 a0 11) (h : f_X11_copy S0 a0 v1 v2 v3 v4 v5 = some (r, S')) : Met l yX11_copy (zws yX11_copy cX11_copy 8 ((some .int))) { frames := 2, cells := 0, slots := 0, locals := 80 } (zPc D cy B S0 [.ref (B + a0), .int v1, .int v2, .int v3, .int v4, .int v5]) (zQi D cy B S0 r S') 0 0 (fun q => B < q) := by
  refine Met.ofW (cc := cX11_copy) (maxL := 8) (ret := ((some .int))) (by decide) rfl ?_
  intro p e s m args below meth c s₁ Bd hml hv
  obtain ⟨rfl, hC, hM⟩ := hv
  obtain ⟨hx, hb, hr, hg, hown, hlk⟩ := z_open Bd
  have hK := hC.1
  have hS : va_S (fun q => B < q) s.heap s.heap [] := va_S.rf
  have hX0 : zX S0 S0 := zX.rf
  refine z_entry (vs := [.ref (B + a0), .int v1, .int v2, .int v3, .int v4, .int v5]) (Nat.le_of_ble_eq_true rfl) (fun ls hl => ?_)
  have hl : lv_has ls 8 [(0, .ref (B + a0)), (1, .int v1), (2, .int v2), (3, .int v3), (4, .int v4), (5, .int v5)] := hl
  unfold f_X11_copy at h
  refine lv_aload_n hx hb dX11_copy_0 rfl (lv_at hl 0 rfl) ?_
  refine lv_iload_n hx hb dX11_copy_1 rfl (lv_at hl 1 rfl) ?_
  obtain ⟨r2, hr1, h⟩ := zb1 h
  refine z_runr (va_runV (As := [.int v1]) (rest := []) ⟨hx, hb, hml, hown, hg⟩ (c_X11_shelfAt l D cy B ha0 hr1) (z_cwV hg zw_452 zw_453 zw_1464 zw_2 zw_454 zh_X11_shelfAt ⟨(Nat.le_of_ble_eq_true rfl), (Nat.le_of_ble_eq_true rfl)⟩) (zPV hC hM ha0 (by decide) rfl) rfl rfl hl.1 rfl (lv_room (Nat.le_of_ble_eq_true rfl)) dX11_copy_2 ⟨(Nat.le_of_ble_eq_true rfl), (Nat.le_of_ble_eq_true rfl)⟩) hS (fun H locs hM hX3 h4 hS => ?_)
  refine z_astore (i := 6) (lv' := [(6, zv B r2), (0, .ref (B + a0)), (1, .int v1), (2, .int v2), (3, .int v3), (4, .int v4), (5, .int v5)]) hx hb dX11_copy_5 hl (by decide) rfl (fun ls hl => ?_)
  refine lv_aload_n hx hb dX11_copy_7 rfl (lv_at hl 1 rfl) ?_
  refine lv_iload_n hx hb dX11_copy_8 rfl (lv_at hl 4 rfl) ?_
  obtain ⟨r6, hr5, h⟩ := zb1 h
  refine z_runr (va_runV (As := [.int v3]) (rest := []) ⟨hx, hb, hml, hown, hg⟩ (c_X11_shelfAt l D cy B ha0 hr5) (z_cwV hg zw_452 zw_453 zw_1464 zw_2 zw_454 zh_X11_shelfAt ⟨(Nat.le_of_ble_eq_true rfl), (Nat.le_of_ble_eq_true rfl)⟩) (zPV hC hM ha0 (by decide) rfl) rfl rfl hl.1 rfl (lv_room (Nat.le_of_ble_eq_true rfl)) dX11_copy_9 ⟨(Nat.le_of_ble_eq_true rfl), (Nat.le_of_ble_eq_true rfl)⟩) hS (fun H locs hM hX7 h8 hS => ?_)
  refine z_astore (i := 7) (lv' := [(7, zv B r6), (6, zv B r2), (0, .ref (B + a0)), (1, .int v1), (2, .int v2), (3, .int v3), (4, .int v4), (5, .int v5)]) hx hb dX11_copy_12 hl (by decide) (by simp [zv_cat]) (fun ls hl => ?_)
  refine z_aload hx hb dX11_copy_14 (lv_at hl 1 rfl) ?_
  refine z_ifnull (tgt := 24) hx hb dX11_copy_16 (by decide) (fun hc9 => ?_) (fun hc9 => ?_)
  · have h := zt h hc9
    refine lv_iconst (v := (-1 : Int32)) hx hb dX11_copy_24 (by decide +kernel) ?_
    exact z_iret hx hb hr hlk hM hX0 hS (zsp h) dX11_copy_25
  · have h10 := h4.nn hc9
    have h := zf h hc9
    refine z_aload hx hb dX11_copy_19 (lv_at hl 0 rfl) ?_
    refine z_ifnonnull (tgt := 26) hx hb dX11_copy_21 (by decide) (fun hc11 => ?_) (fun hc11 => ?_)
    · have h12 := h8.nn hc11
      have h := zf h hc11
      refine z_aloadR hx hb dX11_copy_26 (lv_at hl 1 rfl) h10.1 ?_
      obtain ⟨r14, hr13, h⟩ := zb1 h
      refine z_runi (va_runV (As := []) (rest := []) ⟨hx, hb, hml, hown, hg⟩ (c_X8_holdsNothing l D cy B h10 hr13) (z_cwV hg zw_871 zw_872 zw_873 zw_12 zw_874 zh_X8_holdsNothing ⟨(Nat.le_of_ble_eq_true rfl), (Nat.le_of_ble_eq_true rfl)⟩) (zPV hC hM h10 (by decide) rfl) rfl rfl hl.1 rfl (lv_room (Nat.le_of_ble_eq_true rfl)) dX11_copy_28 ⟨(Nat.le_of_ble_eq_true rfl), (Nat.le_of_ble_eq_true rfl)⟩) hS (fun H locs hM hX15 hS => ?_)
      refine lv_if_ne (tgt := 42) hx hb dX11_copy_31 (by decide) (fun hc17 => ?_) (fun hc17 => ?_)
      · have h := zf h hc17
        refine lv_bipush (v := (-11 : Int32)) hx hb dX11_copy_42 (by decide +kernel) ?_
        exact z_iret hx hb hr hlk hM hX0 hS (zsp h) dX11_copy_44
      · have h := zt h hc17
        refine z_aloadR hx hb dX11_copy_34 (lv_at hl 0 rfl) h12.1 ?_
        obtain ⟨r19, hr18, h⟩ := zb1 h
        refine z_runi (va_runV (As := []) (rest := []) ⟨hx, hb, hml, hown, hg⟩ (c_X8_holdsNothing l D cy B h12 hr18) (z_cwV hg zw_871 zw_872 zw_873 zw_12 zw_874 zh_X8_holdsNothing ⟨(Nat.le_of_ble_eq_true rfl), (Nat.le_of_ble_eq_true rfl)⟩) (zPV hC hM h12 (by decide) rfl) rfl rfl hl.1 rfl (lv_room (Nat.le_of_ble_eq_true rfl)) dX11_copy_36 ⟨(Nat.le_of_ble_eq_true rfl), (Nat.le_of_ble_eq_true rfl)⟩) hS (fun H locs hM hX20 hS => ?_)
        refine lv_if_eq (tgt := 45) hx hb dX11_copy_39 (by decide) (fun hc22 => ?_) (fun hc22 => ?_)
        · have h := zt h hc22
          refine z_aloadR hx hb dX11_copy_45 (lv_at hl 1 rfl) h10.1 ?_
          obtain ⟨r24, hr23, h⟩ := zb1 h
          refine z_runi (va_runV (As := []) (rest := []) ⟨hx, hb, hml, hown, hg⟩ (c_X8_refusalAsRow l D cy B h10 hr23) (z_cwV hg zw_862 zw_460 zw_461 zw_12 zw_462 zh_X8_refusalAsRow ⟨(Nat.le_of_ble_eq_true rfl), (Nat.le_of_ble_eq_true rfl)⟩) (zPV hC hM h10 (by decide) rfl) rfl rfl hl.1 rfl (lv_room (Nat.le_of_ble_eq_true rfl)) dX11_copy_47 ⟨(Nat.le_of_ble_eq_true rfl), (Nat.le_of_ble_eq_true rfl)⟩) hS (fun H locs hM hX25 hS => ?_)
          refine lv_if_ne (tgt := 74) hx hb dX11_copy_50 (by decide) (fun hc27 => ?_) (fun hc27 => ?_)
          · have h := zf h hc27
            refine lv_bipush (v := (-12 : Int32)) hx hb dX11_copy_74 (by decide +kernel) ?_
            exact z_iret hx hb hr hlk hM hX0 hS (zsp h) dX11_copy_76
          · have h := zt h hc27
            refine z_aloadR hx hb dX11_copy_53 (lv_at hl 0 rfl) h12.1 ?_
            obtain ⟨r29, hr28, h⟩ := zb1 h
            refine z_runi (va_runV (As := []) (rest := []) ⟨hx, hb, hml, hown, hg⟩ (c_X8_refusalAsRow l D cy B h12 hr28) (z_cwV hg zw_862 zw_460 zw_461 zw_12 zw_462 zh_X8_refusalAsRow ⟨(Nat.le_of_ble_eq_true rfl), (Nat.le_of_ble_eq_true rfl)⟩) (zPV hC hM h12 (by decide) rfl) rfl rfl hl.1 rfl (lv_room (Nat.le_of_ble_eq_true rfl)) dX11_copy_55 ⟨(Nat.le_of_ble_eq_true rfl), (Nat.le_of_ble_eq_true rfl)⟩) hS (fun H locs hM hX30 hS => ?_)
            refine lv_if_ne (tgt := 74) hx hb dX11_copy_58 (by decide) (fun hc32 => ?_) (fun hc32 => ?_)
            · have h := zf h hc32
              refine lv_bipush (v := (-12 : Int32)) hx hb dX11_copy_74 (by decide +kernel) ?_
              exact z_iret hx hb hr hlk hM hX0 hS (zsp h) dX11_copy_76
            · have h := zt h hc32
              refine z_aloadR hx hb dX11_copy_61 (lv_at hl 1 rfl) h10.1 ?_
              refine z_getI hx hb hg zin_8 hown hK hM h10 2 rfl (by decide) (hg _ zw_256) (fun _ h9 => h9) dX11_copy_63 ?_
              refine z_aloadR hx hb dX11_copy_66 (lv_at hl 0 rfl) h12.1 ?_
              refine z_getI hx hb hg zin_8 hown hK hM h12 2 rfl (by decide) (hg _ zw_256) (fun _ h9 => h9) dX11_copy_68 ?_
              refine lv_icmp_eq (tgt := 77) hx hb dX11_copy_71 (by decide) (fun hc33 => ?_) (fun hc33 => ?_)
              · have h := zt h hc33
                refine z_aloadR hx hb dX11_copy_77 (lv_at hl 1 rfl) h10.1 ?_
                refine lv_iload_n hx hb dX11_copy_79 rfl (lv_at hl 4 rfl) ?_
                refine lv_iload hx hb dX11_copy_80 (lv_at hl 7 rfl) ?_
                obtain ⟨r35, hr34, h⟩ := zlg h
                have hr34 := hr34.symm
                refine z_runi (va_runV (As := [.int v2, .int v5]) (rest := []) ⟨hx, hb, hml, hown, hg⟩ (c_X8_hasPlaces l D cy B h10 hr34) (z_cwV hg zw_875 zw_876 zw_877 zw_12 zw_878 zh_X8_hasPlaces ⟨(Nat.le_of_ble_eq_true rfl), (Nat.le_of_ble_eq_true rfl)⟩) (zPV hC hM h10 (by decide) rfl) rfl rfl hl.1 rfl (lv_room (Nat.le_of_ble_eq_true rfl)) dX11_copy_82 ⟨(Nat.le_of_ble_eq_true rfl), (Nat.le_of_ble_eq_true rfl)⟩) hS (fun H locs hM hX36 hS => ?_)
                refine lv_if_eq (tgt := 100) hx hb dX11_copy_85 (by decide) (fun hc38 => ?_) (fun hc38 => ?_)
                · have h := zt h hc38
                  refine lv_bipush (v := (-13 : Int32)) hx hb dX11_copy_100 (by decide +kernel) ?_
                  exact z_iret hx hb hr hlk hM hX0 hS (zsp h) dX11_copy_102
                · have h := zf h hc38
                  refine z_aloadR hx hb dX11_copy_88 (lv_at hl 0 rfl) h12.1 ?_
                  refine lv_iload hx hb dX11_copy_90 (lv_at hl 6 rfl) ?_
                  refine lv_iload hx hb dX11_copy_92 (lv_at hl 7 rfl) ?_
                  obtain ⟨r40, hr39, h⟩ := zlg h
                  have hr39 := hr39.symm
                  refine z_runi (va_runV (As := [.int v4, .int v5]) (rest := []) ⟨hx, hb, hml, hown, hg⟩ (c_X8_hasPlaces l D cy B h12 hr39) (z_cwV hg zw_875 zw_876 zw_877 zw_12 zw_878 zh_X8_hasPlaces ⟨(Nat.le_of_ble_eq_true rfl), (Nat.le_of_ble_eq_true rfl)⟩) (zPV hC hM h12 (by decide) rfl) rfl rfl hl.1 rfl (lv_room (Nat.le_of_ble_eq_true rfl)) dX11_copy_94 ⟨(Nat.le_of_ble_eq_true rfl), (Nat.le_of_ble_eq_true rfl)⟩) hS (fun H locs hM hX41 hS => ?_)
                  refine lv_if_ne (tgt := 103) hx hb dX11_copy_97 (by decide) (fun hc43 => ?_) (fun hc43 => ?_)
                  · have h := zf h hc43
                    refine z_aloadR hx hb dX11_copy_103 (lv_at hl 1 rfl) h10.1 ?_
                    obtain ⟨hq45, h⟩ := zk h
                    refine z_getN hx hb hg zin_8 hown hK hM h10 0 rfl (by decide) (hg _ zw_252) (fun _ h9 => h9) hq45 dX11_copy_105 (fun h44 => ?_)
                    refine lv_iload_n hx hb dX11_copy_108 rfl (lv_at hl 4 rfl) ?_
                    refine z_aloadR hx hb dX11_copy_109 (lv_at hl 0 rfl) h12.1 ?_
                    obtain ⟨hq47, h⟩ := zk h
                    refine z_getN hx hb hg zin_8 hown hK hM h12 0 rfl (by decide) (hg _ zw_252) (fun _ h9 => h9) hq47 dX11_copy_111 (fun h46 => ?_)
                    refine lv_iload hx hb dX11_copy_114 (lv_at hl 6 rfl) ?_
                    refine lv_iload hx hb dX11_copy_116 (lv_at hl 7 rfl) ?_
                    obtain ⟨hq48, h⟩ := zk h
                    refine z_copy hx hb (hml.trans hl.1.symm) hown (hg _ zw_879) (hg _ zw_491) (hg _ zw_490) (hg _ zw_16) hK hM hS h44 h46 hq48 (Nat.le_of_ble_eq_true rfl) (Nat.le_of_ble_eq_true rfl) dX11_copy_118 (fun H locs hM hS => ?_)
                    obtain ⟨S49, e50, h⟩ := zlg h
                    rw [← e50] at hM
                    have hX51 : zX S0 S49 := by rw [e50]; exact zX_cp
                    have hX52 := hX0.tr hX51
                    refine lv_iload hx hb dX11_copy_121 (lv_at hl 7 rfl) ?_
                    exact z_iret hx hb hr hlk hM hX52 hS (zsp h) dX11_copy_123
                  · have h := zt h hc43
                    refine lv_bipush (v := (-13 : Int32)) hx hb dX11_copy_100 (by decide +kernel) ?_
                    exact z_iret hx hb hr hlk hM hX0 hS (zsp h) dX11_copy_102
              · have h := zf h hc33
                refine lv_bipush (v := (-12 : Int32)) hx hb dX11_copy_74 (by decide +kernel) ?_
                exact z_iret hx hb hr hlk hM hX0 hS (zsp h) dX11_copy_76
        · have h := zf h hc22
          refine lv_bipush (v := (-11 : Int32)) hx hb dX11_copy_42 (by decide +kernel) ?_
          exact z_iret hx hb hr hlk hM hX0 hS (zsp h) dX11_copy_44
    · have h := zt h hc11
      refine lv_iconst (v := (-1 : Int32)) hx hb dX11_copy_24 (by decide +kernel) ?_
      exact z_iret hx hb hr hlk hM hX0 hS (zsp h) dX11_copy_25
def f_X11_weight (S0 : zM) (a0 : Nat) (v1 : Int32) : Option (Int32) :=
  zB1 (f_X11_shelfAt S0 a0 v1) (fun r2 => if r2 = 0 then some (-1 : Int32) else if (zr S0 r2 1) = 0 then zLet (f_X8_refusalAsJudge S0 r2) (fun r16 => some r16) else zLet (f_X2_heft S0 (zr S0 r2 1)) (fun r12 => some r12))
set_option maxHeartbeats 4000000 in
set_option maxRecDepth 100000 in
theorem c_X11_weight (l : Launch) (D : va_G) (cy : Nat → ClassId) (B : Nat) {S0 : zM} {a0 : Nat} {v1 : Int32} {r : Int32} (ha0 : zA S0 a0 11) (h : f_X11_weight S0 a0 v1 = some r) : Met l yX11_weight (zws yX11_weight cX11_weight 3 ((some .int))) { frames := 2, cells := 0, slots := 0, locals := 42 } (zPc D cy B S0 [.ref (B + a0), .int v1]) (zQi D cy B S0 r S0) 0 0 (fun q => B < q) := by
  refine Met.ofW (cc := cX11_weight) (maxL := 3) (ret := ((some .int))) (by decide) rfl ?_
  intro p e s m args below meth c s₁ Bd hml hv
  obtain ⟨rfl, hC, hM⟩ := hv
  obtain ⟨hx, hb, hr, hg, hown, hlk⟩ := z_open Bd
  have hK := hC.1
  have hS : va_S (fun q => B < q) s.heap s.heap [] := va_S.rf
  have hX0 : zX S0 S0 := zX.rf
  refine z_entry (vs := [.ref (B + a0), .int v1]) (Nat.le_of_ble_eq_true rfl) (fun ls hl => ?_)
  have hl : lv_has ls 3 [(0, .ref (B + a0)), (1, .int v1)] := hl
  unfold f_X11_weight at h
  refine lv_aload_n hx hb dX11_weight_0 rfl (lv_at hl 0 rfl) ?_
  refine lv_iload_n hx hb dX11_weight_1 rfl (lv_at hl 1 rfl) ?_
  obtain ⟨r2, hr1, h⟩ := zb1 h
  refine z_runr (va_runV (As := [.int v1]) (rest := []) ⟨hx, hb, hml, hown, hg⟩ (c_X11_shelfAt l D cy B ha0 hr1) (z_cwV hg zw_452 zw_453 zw_1464 zw_2 zw_454 zh_X11_shelfAt ⟨(Nat.le_of_ble_eq_true rfl), (Nat.le_of_ble_eq_true rfl)⟩) (zPV hC hM ha0 (by decide) rfl) rfl rfl hl.1 rfl (lv_room (Nat.le_of_ble_eq_true rfl)) dX11_weight_2 ⟨(Nat.le_of_ble_eq_true rfl), (Nat.le_of_ble_eq_true rfl)⟩) hS (fun H locs hM hX3 h4 hS => ?_)
  refine z_astore_n (i := 2) (lv' := [(2, zv B r2), (0, .ref (B + a0)), (1, .int v1)]) hx hb dX11_weight_5 rfl hl (by decide) rfl (fun ls hl => ?_)
  refine z_aload_n hx hb dX11_weight_6 rfl (lv_at hl 0 rfl) ?_
  refine z_ifnonnull (tgt := 12) hx hb dX11_weight_7 (by decide) (fun hc5 => ?_) (fun hc5 => ?_)
  · have h6 := h4.nn hc5
    have h := zf h hc5
    refine z_aloadR_n hx hb dX11_weight_12 rfl (lv_at hl 0 rfl) h6.1 ?_
    refine z_getR hx hb hg zin_8 hown hK hM h6 1 rfl (by decide) (hg _ zw_254) (fun _ h9 => h9) dX11_weight_13 (fun h7 => ?_)
    refine z_ifnonnull (tgt := 26) hx hb dX11_weight_16 (by decide) (fun hc8 => ?_) (fun hc8 => ?_)
    · have h9 := h7.nn hc8
      have h := zf h hc8
      refine z_aloadR_n hx hb dX11_weight_26 rfl (lv_at hl 0 rfl) h6.1 ?_
      refine z_getN hx hb hg zin_8 hown hK hM h6 1 rfl (by decide) (hg _ zw_254) (fun _ h9 => h9) h9.ne dX11_weight_27 (fun h10 => ?_)
      obtain ⟨r12, hr11, h⟩ := zlg h
      have hr11 := hr11.symm
      refine z_runi (va_runV (As := []) (rest := []) ⟨hx, hb, hml, hown, hg⟩ (c_X2_heft l D cy B h10 hr11) (z_cwV hg zw_888 zw_889 zw_890 zw_14 zw_891 zh_X2_heft ⟨(Nat.le_of_ble_eq_true rfl), (Nat.le_of_ble_eq_true rfl)⟩) (zPV hC hM h10 (by decide) rfl) rfl rfl hl.1 rfl (lv_room (Nat.le_of_ble_eq_true rfl)) dX11_weight_30 ⟨(Nat.le_of_ble_eq_true rfl), (Nat.le_of_ble_eq_true rfl)⟩) hS (fun H locs hM hX13 hS => ?_)
      exact z_iret hx hb hr hlk hM hX0 hS ⟨zsm h, rfl⟩ dX11_weight_33
    · have h := zt h hc8
      refine z_aloadR_n hx hb dX11_weight_19 rfl (lv_at hl 0 rfl) h6.1 ?_
      obtain ⟨r16, hr15, h⟩ := zlg h
      have hr15 := hr15.symm
      refine z_runi (va_runV (As := []) (rest := []) ⟨hx, hb, hml, hown, hg⟩ (c_X8_refusalAsJudge l D cy B h6 hr15) (z_cwV hg zw_884 zw_885 zw_886 zw_12 zw_887 zh_X8_refusalAsJudge ⟨(Nat.le_of_ble_eq_true rfl), (Nat.le_of_ble_eq_true rfl)⟩) (zPV hC hM h6 (by decide) rfl) rfl rfl hl.1 rfl (lv_room (Nat.le_of_ble_eq_true rfl)) dX11_weight_20 ⟨(Nat.le_of_ble_eq_true rfl), (Nat.le_of_ble_eq_true rfl)⟩) hS (fun H locs hM hX17 hS => ?_)
      refine lv_goto (tgt := 33) hx hb dX11_weight_23 (by decide) ?_
      exact z_iret hx hb hr hlk hM hX0 hS ⟨zsm h, rfl⟩ dX11_weight_33
  · have h := zt h hc5
    refine lv_iconst (v := (-1 : Int32)) hx hb dX11_weight_10 (by decide +kernel) ?_
    exact z_iret hx hb hr hlk hM hX0 hS ⟨zsm h, rfl⟩ dX11_weight_11
def f_X12_init_L149b (a0 : Nat) (K185 : zM → Option (zM)) (rec149 : Int32 → zM → Option (zM)) (x258 : Int32) (S259 : zM) : Option (zM) :=
  if (6 : Int32) ≤ x258 then K185 S259 else zChk (¬ (zr S259 a0 0) = 0) (zChk (¬ (((872 : Int32) + x258) < 0 ∨ zln S259 (zr S259 a0 0) ≤ (((872 : Int32) + x258)).toNatClampNeg)) (zLet (zpI S259 (zr S259 a0 0) (Int32.toNatClampNeg ((872 : Int32) + x258)) (2 : Int32)) (fun S265 => rec149 (x258 + (1 : Int32)) S265)))
def f_X12_init_L149 (a0 : Nat) (K185 : zM → Option (zM)) : Nat → Int32 → zM → Option (zM)
  | 0 => fun _ _ => none
  | k + 1 => fun x258 S259 => f_X12_init_L149b a0 K185 (f_X12_init_L149 a0 K185 k) x258 S259
def f_X12_init (n : Nat) (S0 : zM) (a0 : Nat) : Option (zM) :=
  zLet (znw S0 20 1004) (fun S1 => zLet (zpR S1 a0 0 (zsz S0)) (fun S7 => zLet (znw S7 20 1004) (fun S12 => zLet (zpR S12 a0 1 (zsz S7)) (fun S18 => zLet (znw S18 20 8) (fun S23 => zLet (zpR S23 a0 2 (zsz S18)) (fun S29 => zLet (znw S29 20 8) (fun S34 => zLet (zpR S34 a0 3 (zsz S29)) (fun S40 => zLet (znw S40 20 8) (fun S45 => zLet (zpR S45 a0 4 (zsz S40)) (fun S51 => zLet (znw S51 20 960) (fun S56 => zLet (zpR S56 a0 5 (zsz S51)) (fun S62 => zLet (znw S62 20 8) (fun S67 => zLet (zpR S67 a0 6 (zsz S62)) (fun S73 => zLet (znw S73 20 8) (fun S78 => zLet (zpR S78 a0 7 (zsz S73)) (fun S84 => zLet (znw S84 20 7) (fun S89 => zLet (zpR S89 a0 10 (zsz S84)) (fun S95 => zLet (zpR S95 a0 17 (zr S95 a0 5)) (fun S101 => zLet (zpI S101 a0 29 (-1 : Int32)) (fun S106 => zLet (zpI S106 a0 34 (-1 : Int32)) (fun S111 => zLet (znw S111 20 72) (fun S116 => zLet (zpR S116 a0 39 (zsz S111)) (fun S122 => zLet (znw S122 20 12) (fun S127 => zLet (zpR S127 a0 40 (zsz S122)) (fun S133 => zLet (znw S133 22 144) (fun S138 => zLet (zpR S138 a0 41 (zsz S133)) (fun S144 => zLet (znw S144 20 40) (fun S149 => zLet (zpR S149 a0 44 (zsz S144)) (fun S155 => zLet (znw S155 20 40) (fun S160 => zLet (zpR S160 a0 45 (zsz S155)) (fun S166 => zLet (znw S166 20 1004) (fun S171 => zLet (zpR S171 a0 49 (zsz S166)) (fun S177 => zLet (fun (S183 : zM) => zChk (¬ (zr S183 a0 0) = 0) (zChk (¬ ((878 : Int32) < 0 ∨ zln S183 (zr S183 a0 0) ≤ ((878 : Int32)).toNatClampNeg)) (zLet (zpI S183 (zr S183 a0 0) (Int32.toNatClampNeg (878 : Int32)) (1 : Int32)) (fun S189 => zChk (¬ (zr S189 a0 0) = 0) (zChk (¬ ((879 : Int32) < 0 ∨ zln S189 (zr S189 a0 0) ≤ ((879 : Int32)).toNatClampNeg)) (zLet (zpI S189 (zr S189 a0 0) (Int32.toNatClampNeg (879 : Int32)) (1 : Int32)) (fun S197 => zChk (¬ (zr S197 a0 0) = 0) (zChk (¬ ((880 : Int32) < 0 ∨ zln S197 (zr S197 a0 0) ≤ ((880 : Int32)).toNatClampNeg)) (zLet (zpI S197 (zr S197 a0 0) (Int32.toNatClampNeg (880 : Int32)) (115 : Int32)) (fun S205 => zChk (¬ (zr S205 a0 0) = 0) (zChk (¬ ((881 : Int32) < 0 ∨ zln S205 (zr S205 a0 0) ≤ ((881 : Int32)).toNatClampNeg)) (zLet (zpI S205 (zr S205 a0 0) (Int32.toNatClampNeg (881 : Int32)) (42 : Int32)) (fun S213 => zChk (¬ (zr S213 a0 0) = 0) (zChk (¬ ((882 : Int32) < 0 ∨ zln S213 (zr S213 a0 0) ≤ ((882 : Int32)).toNatClampNeg)) (zLet (zpI S213 (zr S213 a0 0) (Int32.toNatClampNeg (882 : Int32)) (104 : Int32)) (fun S221 => zChk (¬ (zr S221 a0 0) = 0) (zChk (¬ ((883 : Int32) < 0 ∨ zln S221 (zr S221 a0 0) ≤ ((883 : Int32)).toNatClampNeg)) (zLet (zpI S221 (zr S221 a0 0) (Int32.toNatClampNeg (883 : Int32)) (47 : Int32)) (fun S229 => zChk (¬ (zr S229 a0 0) = 0) (zChk (¬ ((884 : Int32) < 0 ∨ zln S229 (zr S229 a0 0) ≤ ((884 : Int32)).toNatClampNeg)) (zLet (zpI S229 (zr S229 a0 0) (Int32.toNatClampNeg (884 : Int32)) (49 : Int32)) (fun S237 => zChk (¬ (zr S237 a0 0) = 0) (zChk (¬ ((885 : Int32) < 0 ∨ zln S237 (zr S237 a0 0) ≤ ((885 : Int32)).toNatClampNeg)) (zLet (zpI S237 (zr S237 a0 0) (Int32.toNatClampNeg (885 : Int32)) (48 : Int32)) (fun S245 => zChk (¬ (zr S245 a0 0) = 0) (zChk (¬ ((1000 : Int32) < 0 ∨ zln S245 (zr S245 a0 0) ≤ ((1000 : Int32)).toNatClampNeg)) (zLet (zpI S245 (zr S245 a0 0) (Int32.toNatClampNeg (1000 : Int32)) (6 : Int32)) (fun S253 => some S253)))))))))))))))))))))))))))) (fun K185 => f_X12_init_L149 a0 K185 n (0 : Int32) S177))))))))))))))))))))))))))))))))))
set_option maxHeartbeats 4000000 in
set_option maxRecDepth 100000 in
theorem c_X12_init (l : Launch) (D : va_G) (cy : Nat → ClassId) (B : Nat) {n : Nat} {S0 : zM} {a0 : Nat} {S' : zM} (ha0 : zA S0 a0 12) (h : f_X12_init n S0 a0 = some S') : Met l yX12_init (zws yX12_init cX12_init 2 none) { frames := 1, cells := 15, slots := 4327, locals := 20 } (zPc D cy B S0 [.ref (B + a0)]) (zQv D cy B S0 S') 15 4327 (fun q => B < q) := by
  refine Met.ofW (cc := cX12_init) (maxL := 2) (ret := none) (by decide) rfl ?_
  intro p e s m args below meth c s₁ Bd hml hv
  obtain ⟨rfl, hC, hM⟩ := hv
  obtain ⟨hx, hb, hr, hg, hown, hlk⟩ := z_open Bd
  have hK := hC.1
  have hin : meth.name = "<init>" := (name_of_methodNamed Bd.named Bd.method).1
  have hS : va_S (fun q => B < q) s.heap s.heap [] := va_S.rf
  have hX0 : zX S0 S0 := zX.rf
  refine z_entry (vs := [.ref (B + a0)]) (Nat.le_of_ble_eq_true rfl) (fun ls hl => ?_)
  have hl : lv_has ls 2 [(0, .ref (B + a0))] := hl
  unfold f_X12_init at h
  refine lv_aload_n hx hb dX12_init_0 rfl (lv_at hl 0 rfl) ?_
  refine W.objInit hx hb hown (hg _ zw_999) (hg _ zw_29) (hg _ zw_30) rfl (by rw [hml]; exact hl.1) rfl dX12_init_1 (Nat.le_of_ble_eq_true rfl) (Nat.le_of_ble_eq_true rfl) ?_
  refine W.eq (g2 := F0 m 4 ls []) rfl ?_
  refine lv_aload_n hx hb dX12_init_4 rfl (lv_at hl 0 rfl) ?_
  refine lv_sipush (v := (1004 : Int32)) hx hb dX12_init_5 (by decide +kernel) ?_
  refine z_newa (atype := .int) hx hb (hg _ zw_66) hK hM hS 20 (by decide) rfl (N := 1004) (by decide +kernel) (by decide +kernel) (by decide +kernel) (Nat.le_of_ble_eq_true rfl) (Nat.le_of_ble_eq_true rfl) dX12_init_8 (fun H hM hA hX hS => ?_)
  obtain ⟨S1, e2, h⟩ := zlg h
  rw [← e2] at hM hA hX
  have hX3 := hX
  have h4 := hA
  have h5 := ha0.mo hX3
  have hX6 := hX0.tr hX3
  refine W.widen (k := 1) (n := 1004) (Nat.le_refl _) (Nat.le_refl _) ?_
  refine z_putR (r := (zsz S0)) hx hb hg zin_12 tyX12 tyX12_ok nmX12 hown hK hM hS h5 0 rfl (by decide) (hg _ zw_1000) (fun _ h9 => h9) (Or.inr ⟨rfl, hin, rfl⟩) (zv_ref h4.1).symm (tyX12_ok 0 (by decide)) (Or.inr ⟨_, rfl⟩) (h4.q) dX12_init_10 (fun H locs hM hS => ?_)
  obtain ⟨S7, e8, h⟩ := zlg h
  rw [← e8] at hM
  have hX9 : zX S1 S7 := by rw [e8]; exact zX_pR
  have h10 := h5.mo hX9
  have hX11 := hX6.tr hX9
  refine lv_aload_n hx hb dX12_init_13 rfl (lv_at hl 0 rfl) ?_
  refine lv_sipush (v := (1004 : Int32)) hx hb dX12_init_14 (by decide +kernel) ?_
  refine z_newa (atype := .int) hx hb (hg _ zw_66) hK hM hS 20 (by decide) rfl (N := 1004) (by decide +kernel) (by decide +kernel) (by decide +kernel) (Nat.le_of_ble_eq_true rfl) (Nat.le_of_ble_eq_true rfl) dX12_init_17 (fun H hM hA hX hS => ?_)
  obtain ⟨S12, e13, h⟩ := zlg h
  rw [← e13] at hM hA hX
  have hX14 := hX
  have h15 := hA
  have h16 := h10.mo hX14
  have hX17 := hX11.tr hX14
  refine W.widen (k := 2) (n := 2008) (Nat.le_refl _) (Nat.le_refl _) ?_
  refine z_putR (r := (zsz S7)) hx hb hg zin_12 tyX12 tyX12_ok nmX12 hown hK hM hS h16 1 rfl (by decide) (hg _ zw_1001) (fun _ h9 => h9) (Or.inr ⟨rfl, hin, rfl⟩) (zv_ref h15.1).symm (tyX12_ok 1 (by decide)) (Or.inr ⟨_, rfl⟩) (h15.q) dX12_init_19 (fun H locs hM hS => ?_)
  obtain ⟨S18, e19, h⟩ := zlg h
  rw [← e19] at hM
  have hX20 : zX S12 S18 := by rw [e19]; exact zX_pR
  have h21 := h16.mo hX20
  have hX22 := hX17.tr hX20
  refine lv_aload_n hx hb dX12_init_22 rfl (lv_at hl 0 rfl) ?_
  refine lv_bipush (v := (8 : Int32)) hx hb dX12_init_23 (by decide +kernel) ?_
  refine z_newa (atype := .int) hx hb (hg _ zw_66) hK hM hS 20 (by decide) rfl (N := 8) (by decide +kernel) (by decide +kernel) (by decide +kernel) (Nat.le_of_ble_eq_true rfl) (Nat.le_of_ble_eq_true rfl) dX12_init_25 (fun H hM hA hX hS => ?_)
  obtain ⟨S23, e24, h⟩ := zlg h
  rw [← e24] at hM hA hX
  have hX25 := hX
  have h26 := hA
  have h27 := h21.mo hX25
  have hX28 := hX22.tr hX25
  refine W.widen (k := 3) (n := 2016) (Nat.le_refl _) (Nat.le_refl _) ?_
  refine z_putR (r := (zsz S18)) hx hb hg zin_12 tyX12 tyX12_ok nmX12 hown hK hM hS h27 2 rfl (by decide) (hg _ zw_1002) (fun _ h9 => h9) (Or.inr ⟨rfl, hin, rfl⟩) (zv_ref h26.1).symm (tyX12_ok 2 (by decide)) (Or.inr ⟨_, rfl⟩) (h26.q) dX12_init_27 (fun H locs hM hS => ?_)
  obtain ⟨S29, e30, h⟩ := zlg h
  rw [← e30] at hM
  have hX31 : zX S23 S29 := by rw [e30]; exact zX_pR
  have h32 := h27.mo hX31
  have hX33 := hX28.tr hX31
  refine lv_aload_n hx hb dX12_init_30 rfl (lv_at hl 0 rfl) ?_
  refine lv_bipush (v := (8 : Int32)) hx hb dX12_init_31 (by decide +kernel) ?_
  refine z_newa (atype := .int) hx hb (hg _ zw_66) hK hM hS 20 (by decide) rfl (N := 8) (by decide +kernel) (by decide +kernel) (by decide +kernel) (Nat.le_of_ble_eq_true rfl) (Nat.le_of_ble_eq_true rfl) dX12_init_33 (fun H hM hA hX hS => ?_)
  obtain ⟨S34, e35, h⟩ := zlg h
  rw [← e35] at hM hA hX
  have hX36 := hX
  have h37 := hA
  have h38 := h32.mo hX36
  have hX39 := hX33.tr hX36
  refine W.widen (k := 4) (n := 2024) (Nat.le_refl _) (Nat.le_refl _) ?_
  refine z_putR (r := (zsz S29)) hx hb hg zin_12 tyX12 tyX12_ok nmX12 hown hK hM hS h38 3 rfl (by decide) (hg _ zw_1003) (fun _ h9 => h9) (Or.inr ⟨rfl, hin, rfl⟩) (zv_ref h37.1).symm (tyX12_ok 3 (by decide)) (Or.inr ⟨_, rfl⟩) (h37.q) dX12_init_35 (fun H locs hM hS => ?_)
  obtain ⟨S40, e41, h⟩ := zlg h
  rw [← e41] at hM
  have hX42 : zX S34 S40 := by rw [e41]; exact zX_pR
  have h43 := h38.mo hX42
  have hX44 := hX39.tr hX42
  refine lv_aload_n hx hb dX12_init_38 rfl (lv_at hl 0 rfl) ?_
  refine lv_bipush (v := (8 : Int32)) hx hb dX12_init_39 (by decide +kernel) ?_
  refine z_newa (atype := .int) hx hb (hg _ zw_66) hK hM hS 20 (by decide) rfl (N := 8) (by decide +kernel) (by decide +kernel) (by decide +kernel) (Nat.le_of_ble_eq_true rfl) (Nat.le_of_ble_eq_true rfl) dX12_init_41 (fun H hM hA hX hS => ?_)
  obtain ⟨S45, e46, h⟩ := zlg h
  rw [← e46] at hM hA hX
  have hX47 := hX
  have h48 := hA
  have h49 := h43.mo hX47
  have hX50 := hX44.tr hX47
  refine W.widen (k := 5) (n := 2032) (Nat.le_refl _) (Nat.le_refl _) ?_
  refine z_putR (r := (zsz S40)) hx hb hg zin_12 tyX12 tyX12_ok nmX12 hown hK hM hS h49 4 rfl (by decide) (hg _ zw_1004) (fun _ h9 => h9) (Or.inr ⟨rfl, hin, rfl⟩) (zv_ref h48.1).symm (tyX12_ok 4 (by decide)) (Or.inr ⟨_, rfl⟩) (h48.q) dX12_init_43 (fun H locs hM hS => ?_)
  obtain ⟨S51, e52, h⟩ := zlg h
  rw [← e52] at hM
  have hX53 : zX S45 S51 := by rw [e52]; exact zX_pR
  have h54 := h49.mo hX53
  have hX55 := hX50.tr hX53
  refine lv_aload_n hx hb dX12_init_46 rfl (lv_at hl 0 rfl) ?_
  refine lv_sipush (v := (960 : Int32)) hx hb dX12_init_47 (by decide +kernel) ?_
  refine z_newa (atype := .int) hx hb (hg _ zw_66) hK hM hS 20 (by decide) rfl (N := 960) (by decide +kernel) (by decide +kernel) (by decide +kernel) (Nat.le_of_ble_eq_true rfl) (Nat.le_of_ble_eq_true rfl) dX12_init_50 (fun H hM hA hX hS => ?_)
  obtain ⟨S56, e57, h⟩ := zlg h
  rw [← e57] at hM hA hX
  have hX58 := hX
  have h59 := hA
  have h60 := h54.mo hX58
  have hX61 := hX55.tr hX58
  refine W.widen (k := 6) (n := 2992) (Nat.le_refl _) (Nat.le_refl _) ?_
  refine z_putR (r := (zsz S51)) hx hb hg zin_12 tyX12 tyX12_ok nmX12 hown hK hM hS h60 5 rfl (by decide) (hg _ zw_1005) (fun _ h9 => h9) (Or.inr ⟨rfl, hin, rfl⟩) (zv_ref h59.1).symm (tyX12_ok 5 (by decide)) (Or.inr ⟨_, rfl⟩) (h59.q) dX12_init_52 (fun H locs hM hS => ?_)
  obtain ⟨S62, e63, h⟩ := zlg h
  rw [← e63] at hM
  have hX64 : zX S56 S62 := by rw [e63]; exact zX_pR
  have h65 := h60.mo hX64
  have hX66 := hX61.tr hX64
  refine lv_aload_n hx hb dX12_init_55 rfl (lv_at hl 0 rfl) ?_
  refine lv_bipush (v := (8 : Int32)) hx hb dX12_init_56 (by decide +kernel) ?_
  refine z_newa (atype := .int) hx hb (hg _ zw_66) hK hM hS 20 (by decide) rfl (N := 8) (by decide +kernel) (by decide +kernel) (by decide +kernel) (Nat.le_of_ble_eq_true rfl) (Nat.le_of_ble_eq_true rfl) dX12_init_58 (fun H hM hA hX hS => ?_)
  obtain ⟨S67, e68, h⟩ := zlg h
  rw [← e68] at hM hA hX
  have hX69 := hX
  have h70 := hA
  have h71 := h65.mo hX69
  have hX72 := hX66.tr hX69
  refine W.widen (k := 7) (n := 3000) (Nat.le_refl _) (Nat.le_refl _) ?_
  refine z_putR (r := (zsz S62)) hx hb hg zin_12 tyX12 tyX12_ok nmX12 hown hK hM hS h71 6 rfl (by decide) (hg _ zw_1006) (fun _ h9 => h9) (Or.inr ⟨rfl, hin, rfl⟩) (zv_ref h70.1).symm (tyX12_ok 6 (by decide)) (Or.inr ⟨_, rfl⟩) (h70.q) dX12_init_60 (fun H locs hM hS => ?_)
  obtain ⟨S73, e74, h⟩ := zlg h
  rw [← e74] at hM
  have hX75 : zX S67 S73 := by rw [e74]; exact zX_pR
  have h76 := h71.mo hX75
  have hX77 := hX72.tr hX75
  refine lv_aload_n hx hb dX12_init_63 rfl (lv_at hl 0 rfl) ?_
  refine lv_bipush (v := (8 : Int32)) hx hb dX12_init_64 (by decide +kernel) ?_
  refine z_newa (atype := .int) hx hb (hg _ zw_66) hK hM hS 20 (by decide) rfl (N := 8) (by decide +kernel) (by decide +kernel) (by decide +kernel) (Nat.le_of_ble_eq_true rfl) (Nat.le_of_ble_eq_true rfl) dX12_init_66 (fun H hM hA hX hS => ?_)
  obtain ⟨S78, e79, h⟩ := zlg h
  rw [← e79] at hM hA hX
  have hX80 := hX
  have h81 := hA
  have h82 := h76.mo hX80
  have hX83 := hX77.tr hX80
  refine W.widen (k := 8) (n := 3008) (Nat.le_refl _) (Nat.le_refl _) ?_
  refine z_putR (r := (zsz S73)) hx hb hg zin_12 tyX12 tyX12_ok nmX12 hown hK hM hS h82 7 rfl (by decide) (hg _ zw_1007) (fun _ h9 => h9) (Or.inr ⟨rfl, hin, rfl⟩) (zv_ref h81.1).symm (tyX12_ok 7 (by decide)) (Or.inr ⟨_, rfl⟩) (h81.q) dX12_init_68 (fun H locs hM hS => ?_)
  obtain ⟨S84, e85, h⟩ := zlg h
  rw [← e85] at hM
  have hX86 : zX S78 S84 := by rw [e85]; exact zX_pR
  have h87 := h82.mo hX86
  have hX88 := hX83.tr hX86
  refine lv_aload_n hx hb dX12_init_71 rfl (lv_at hl 0 rfl) ?_
  refine lv_bipush (v := (7 : Int32)) hx hb dX12_init_72 (by decide +kernel) ?_
  refine z_newa (atype := .int) hx hb (hg _ zw_66) hK hM hS 20 (by decide) rfl (N := 7) (by decide +kernel) (by decide +kernel) (by decide +kernel) (Nat.le_of_ble_eq_true rfl) (Nat.le_of_ble_eq_true rfl) dX12_init_74 (fun H hM hA hX hS => ?_)
  obtain ⟨S89, e90, h⟩ := zlg h
  rw [← e90] at hM hA hX
  have hX91 := hX
  have h92 := hA
  have h93 := h87.mo hX91
  have hX94 := hX88.tr hX91
  refine W.widen (k := 9) (n := 3015) (Nat.le_refl _) (Nat.le_refl _) ?_
  refine z_putR (r := (zsz S84)) hx hb hg zin_12 tyX12 tyX12_ok nmX12 hown hK hM hS h93 10 rfl (by decide) (hg _ zw_1010) (fun _ h9 => h9) (Or.inr ⟨rfl, hin, rfl⟩) (zv_ref h92.1).symm (tyX12_ok 10 (by decide)) (Or.inr ⟨_, rfl⟩) (h92.q) dX12_init_76 (fun H locs hM hS => ?_)
  obtain ⟨S95, e96, h⟩ := zlg h
  rw [← e96] at hM
  have hX97 : zX S89 S95 := by rw [e96]; exact zX_pR
  have h98 := h93.mo hX97
  have hX99 := hX94.tr hX97
  refine lv_aload_n hx hb dX12_init_79 rfl (lv_at hl 0 rfl) ?_
  refine lv_aload_n hx hb dX12_init_80 rfl (lv_at hl 0 rfl) ?_
  refine z_getR hx hb hg zin_12 hown hK hM h98 5 rfl (by decide) (hg _ zw_1005) (fun _ h9 => h9) dX12_init_81 (fun h100 => ?_)
  refine z_putR (r := (zr S95 a0 5)) hx hb hg zin_12 tyX12 tyX12_ok nmX12 hown hK hM hS h98 17 rfl (by decide) (hg _ zw_1017) (fun _ h9 => h9) (Or.inl rfl) rfl (tyX12_ok 17 (by decide)) (Or.inr ⟨_, rfl⟩) (h100) dX12_init_84 (fun H locs hM hS => ?_)
  obtain ⟨S101, e102, h⟩ := zlg h
  rw [← e102] at hM
  have hX103 : zX S95 S101 := by rw [e102]; exact zX_pR
  have h104 := h98.mo hX103
  have hX105 := hX99.tr hX103
  refine lv_aload_n hx hb dX12_init_87 rfl (lv_at hl 0 rfl) ?_
  refine lv_iconst (v := (-1 : Int32)) hx hb dX12_init_88 (by decide +kernel) ?_
  refine z_putI hx hb hg zin_12 tyX12 tyX12_ok nmX12 hown hK hM hS h104 29 rfl (by decide) (hg _ zw_1029) (fun _ h9 => h9) (Or.inl rfl) (tyX12_ok 29 (by decide)) rfl rfl dX12_init_89 (fun H locs hM hS => ?_)
  obtain ⟨S106, e107, h⟩ := zlg h
  rw [← e107] at hM
  have hX108 : zX S101 S106 := by rw [e107]; exact zX_pI
  have h109 := h104.mo hX108
  have hX110 := hX105.tr hX108
  refine lv_aload_n hx hb dX12_init_92 rfl (lv_at hl 0 rfl) ?_
  refine lv_iconst (v := (-1 : Int32)) hx hb dX12_init_93 (by decide +kernel) ?_
  refine z_putI hx hb hg zin_12 tyX12 tyX12_ok nmX12 hown hK hM hS h109 34 rfl (by decide) (hg _ zw_1034) (fun _ h9 => h9) (Or.inl rfl) (tyX12_ok 34 (by decide)) rfl rfl dX12_init_94 (fun H locs hM hS => ?_)
  obtain ⟨S111, e112, h⟩ := zlg h
  rw [← e112] at hM
  have hX113 : zX S106 S111 := by rw [e112]; exact zX_pI
  have h114 := h109.mo hX113
  have hX115 := hX110.tr hX113
  refine lv_aload_n hx hb dX12_init_97 rfl (lv_at hl 0 rfl) ?_
  refine lv_bipush (v := (72 : Int32)) hx hb dX12_init_98 (by decide +kernel) ?_
  refine z_newa (atype := .int) hx hb (hg _ zw_66) hK hM hS 20 (by decide) rfl (N := 72) (by decide +kernel) (by decide +kernel) (by decide +kernel) (Nat.le_of_ble_eq_true rfl) (Nat.le_of_ble_eq_true rfl) dX12_init_100 (fun H hM hA hX hS => ?_)
  obtain ⟨S116, e117, h⟩ := zlg h
  rw [← e117] at hM hA hX
  have hX118 := hX
  have h119 := hA
  have h120 := h114.mo hX118
  have hX121 := hX115.tr hX118
  refine W.widen (k := 10) (n := 3087) (Nat.le_refl _) (Nat.le_refl _) ?_
  refine z_putR (r := (zsz S111)) hx hb hg zin_12 tyX12 tyX12_ok nmX12 hown hK hM hS h120 39 rfl (by decide) (hg _ zw_1039) (fun _ h9 => h9) (Or.inr ⟨rfl, hin, rfl⟩) (zv_ref h119.1).symm (tyX12_ok 39 (by decide)) (Or.inr ⟨_, rfl⟩) (h119.q) dX12_init_102 (fun H locs hM hS => ?_)
  obtain ⟨S122, e123, h⟩ := zlg h
  rw [← e123] at hM
  have hX124 : zX S116 S122 := by rw [e123]; exact zX_pR
  have h125 := h120.mo hX124
  have hX126 := hX121.tr hX124
  refine lv_aload_n hx hb dX12_init_105 rfl (lv_at hl 0 rfl) ?_
  refine lv_bipush (v := (12 : Int32)) hx hb dX12_init_106 (by decide +kernel) ?_
  refine z_newa (atype := .int) hx hb (hg _ zw_66) hK hM hS 20 (by decide) rfl (N := 12) (by decide +kernel) (by decide +kernel) (by decide +kernel) (Nat.le_of_ble_eq_true rfl) (Nat.le_of_ble_eq_true rfl) dX12_init_108 (fun H hM hA hX hS => ?_)
  obtain ⟨S127, e128, h⟩ := zlg h
  rw [← e128] at hM hA hX
  have hX129 := hX
  have h130 := hA
  have h131 := h125.mo hX129
  have hX132 := hX126.tr hX129
  refine W.widen (k := 11) (n := 3099) (Nat.le_refl _) (Nat.le_refl _) ?_
  refine z_putR (r := (zsz S122)) hx hb hg zin_12 tyX12 tyX12_ok nmX12 hown hK hM hS h131 40 rfl (by decide) (hg _ zw_1040) (fun _ h9 => h9) (Or.inr ⟨rfl, hin, rfl⟩) (zv_ref h130.1).symm (tyX12_ok 40 (by decide)) (Or.inr ⟨_, rfl⟩) (h130.q) dX12_init_110 (fun H locs hM hS => ?_)
  obtain ⟨S133, e134, h⟩ := zlg h
  rw [← e134] at hM
  have hX135 : zX S127 S133 := by rw [e134]; exact zX_pR
  have h136 := h131.mo hX135
  have hX137 := hX132.tr hX135
  refine lv_aload_n hx hb dX12_init_113 rfl (lv_at hl 0 rfl) ?_
  refine lv_sipush (v := (144 : Int32)) hx hb dX12_init_114 (by decide +kernel) ?_
  refine z_newa (atype := .boolean) hx hb (hg _ zw_1101) hK hM hS 22 (by decide) rfl (N := 144) (by decide +kernel) (by decide +kernel) (by decide +kernel) (Nat.le_of_ble_eq_true rfl) (Nat.le_of_ble_eq_true rfl) dX12_init_117 (fun H hM hA hX hS => ?_)
  obtain ⟨S138, e139, h⟩ := zlg h
  rw [← e139] at hM hA hX
  have hX140 := hX
  have h141 := hA
  have h142 := h136.mo hX140
  have hX143 := hX137.tr hX140
  refine W.widen (k := 12) (n := 3243) (Nat.le_refl _) (Nat.le_refl _) ?_
  refine z_putR (r := (zsz S133)) hx hb hg zin_12 tyX12 tyX12_ok nmX12 hown hK hM hS h142 41 rfl (by decide) (hg _ zw_1041) (fun _ h9 => h9) (Or.inr ⟨rfl, hin, rfl⟩) (zv_ref h141.1).symm (tyX12_ok 41 (by decide)) (Or.inr ⟨_, rfl⟩) (h141.q) dX12_init_119 (fun H locs hM hS => ?_)
  obtain ⟨S144, e145, h⟩ := zlg h
  rw [← e145] at hM
  have hX146 : zX S138 S144 := by rw [e145]; exact zX_pR
  have h147 := h142.mo hX146
  have hX148 := hX143.tr hX146
  refine lv_aload_n hx hb dX12_init_122 rfl (lv_at hl 0 rfl) ?_
  refine lv_bipush (v := (40 : Int32)) hx hb dX12_init_123 (by decide +kernel) ?_
  refine z_newa (atype := .int) hx hb (hg _ zw_66) hK hM hS 20 (by decide) rfl (N := 40) (by decide +kernel) (by decide +kernel) (by decide +kernel) (Nat.le_of_ble_eq_true rfl) (Nat.le_of_ble_eq_true rfl) dX12_init_125 (fun H hM hA hX hS => ?_)
  obtain ⟨S149, e150, h⟩ := zlg h
  rw [← e150] at hM hA hX
  have hX151 := hX
  have h152 := hA
  have h153 := h147.mo hX151
  have hX154 := hX148.tr hX151
  refine W.widen (k := 13) (n := 3283) (Nat.le_refl _) (Nat.le_refl _) ?_
  refine z_putR (r := (zsz S144)) hx hb hg zin_12 tyX12 tyX12_ok nmX12 hown hK hM hS h153 44 rfl (by decide) (hg _ zw_1044) (fun _ h9 => h9) (Or.inr ⟨rfl, hin, rfl⟩) (zv_ref h152.1).symm (tyX12_ok 44 (by decide)) (Or.inr ⟨_, rfl⟩) (h152.q) dX12_init_127 (fun H locs hM hS => ?_)
  obtain ⟨S155, e156, h⟩ := zlg h
  rw [← e156] at hM
  have hX157 : zX S149 S155 := by rw [e156]; exact zX_pR
  have h158 := h153.mo hX157
  have hX159 := hX154.tr hX157
  refine lv_aload_n hx hb dX12_init_130 rfl (lv_at hl 0 rfl) ?_
  refine lv_bipush (v := (40 : Int32)) hx hb dX12_init_131 (by decide +kernel) ?_
  refine z_newa (atype := .int) hx hb (hg _ zw_66) hK hM hS 20 (by decide) rfl (N := 40) (by decide +kernel) (by decide +kernel) (by decide +kernel) (Nat.le_of_ble_eq_true rfl) (Nat.le_of_ble_eq_true rfl) dX12_init_133 (fun H hM hA hX hS => ?_)
  obtain ⟨S160, e161, h⟩ := zlg h
  rw [← e161] at hM hA hX
  have hX162 := hX
  have h163 := hA
  have h164 := h158.mo hX162
  have hX165 := hX159.tr hX162
  refine W.widen (k := 14) (n := 3323) (Nat.le_refl _) (Nat.le_refl _) ?_
  refine z_putR (r := (zsz S155)) hx hb hg zin_12 tyX12 tyX12_ok nmX12 hown hK hM hS h164 45 rfl (by decide) (hg _ zw_1045) (fun _ h9 => h9) (Or.inr ⟨rfl, hin, rfl⟩) (zv_ref h163.1).symm (tyX12_ok 45 (by decide)) (Or.inr ⟨_, rfl⟩) (h163.q) dX12_init_135 (fun H locs hM hS => ?_)
  obtain ⟨S166, e167, h⟩ := zlg h
  rw [← e167] at hM
  have hX168 : zX S160 S166 := by rw [e167]; exact zX_pR
  have h169 := h164.mo hX168
  have hX170 := hX165.tr hX168
  refine lv_aload_n hx hb dX12_init_138 rfl (lv_at hl 0 rfl) ?_
  refine lv_sipush (v := (1004 : Int32)) hx hb dX12_init_139 (by decide +kernel) ?_
  refine z_newa (atype := .int) hx hb (hg _ zw_66) hK hM hS 20 (by decide) rfl (N := 1004) (by decide +kernel) (by decide +kernel) (by decide +kernel) (Nat.le_of_ble_eq_true rfl) (Nat.le_of_ble_eq_true rfl) dX12_init_142 (fun H hM hA hX hS => ?_)
  obtain ⟨S171, e172, h⟩ := zlg h
  rw [← e172] at hM hA hX
  have hX173 := hX
  have h174 := hA
  have h175 := h169.mo hX173
  have hX176 := hX170.tr hX173
  refine W.widen (k := 15) (n := 4327) (Nat.le_refl _) (Nat.le_refl _) ?_
  refine z_putR (r := (zsz S166)) hx hb hg zin_12 tyX12 tyX12_ok nmX12 hown hK hM hS h175 49 rfl (by decide) (hg _ zw_1049) (fun _ h9 => h9) (Or.inr ⟨rfl, hin, rfl⟩) (zv_ref h174.1).symm (tyX12_ok 49 (by decide)) (Or.inr ⟨_, rfl⟩) (h174.q) dX12_init_144 (fun H locs hM hS => ?_)
  obtain ⟨S177, e178, h⟩ := zlg h
  rw [← e178] at hM
  have hX179 : zX S171 S177 := by rw [e178]; exact zX_pR
  have h180 := h175.mo hX179
  have hX181 := hX176.tr hX179
  refine lv_iconst (v := (0 : Int32)) hx hb dX12_init_147 (by decide +kernel) ?_
  refine lv_istore_n (i := 1) (lv' := [(1, .int (0 : Int32)), (0, .ref (B + a0))]) hx hb dX12_init_148 rfl hl (by decide) rfl (fun ls hl => ?_)
  obtain ⟨K185, eK185, h⟩ := zlg h
  have hK185 : ∀ (S183 : zM) (H : Heap) (locs : List Loc), zMR D cy B S183 H → zX S0 S183 → va_S (fun q => B < q) s.heap H locs → zA S183 a0 12 → ∀ ls : Array Slot, lv_has ls 2 [(0, .ref (B + a0))] → K185 S183 = some S' → W p l e (headSpec (zws yX12_init cX12_init 2 none) { frames := 1, cells := 15, slots := 4327, locals := 20 }).room s m (([.ref (B + a0)] : List Value).toArray) below meth c H locs 15 4327 (MQ below (zQv D cy B S0 S') (([.ref (B + a0)] : List Value).toArray) s 15 4327 (fun q => B < q)) (F0 m 172 ls []) := by
    intro S183 H locs hM hX184 hS h182 ls hl h
    rw [eK185] at h
    refine lv_aload_n hx hb dX12_init_172 rfl (lv_at hl 0 rfl) ?_
    obtain ⟨hq187, h⟩ := zk h
    refine z_getN hx hb hg zin_12 hown hK hM h182 0 rfl (by decide) (hg _ zw_1000) (fun _ h9 => h9) hq187 dX12_init_173 (fun h186 => ?_)
    refine lv_sipush (v := (878 : Int32)) hx hb dX12_init_176 (by decide +kernel) ?_
    refine lv_iconst (v := (1 : Int32)) hx hb dX12_init_179 (by decide +kernel) ?_
    obtain ⟨hq188, h⟩ := zk h
    refine z_iast hx hb hK hM hS h186 hq188 dX12_init_180 (fun H locs hM hS => ?_)
    obtain ⟨S189, e190, h⟩ := zlg h
    rw [← e190] at hM
    have hX191 : zX S183 S189 := by rw [e190]; exact zX_pI
    have h192 := h182.mo hX191
    have hX193 := hX184.tr hX191
    refine lv_aload_n hx hb dX12_init_181 rfl (lv_at hl 0 rfl) ?_
    obtain ⟨hq195, h⟩ := zk h
    refine z_getN hx hb hg zin_12 hown hK hM h192 0 rfl (by decide) (hg _ zw_1000) (fun _ h9 => h9) hq195 dX12_init_182 (fun h194 => ?_)
    refine lv_sipush (v := (879 : Int32)) hx hb dX12_init_185 (by decide +kernel) ?_
    refine lv_iconst (v := (1 : Int32)) hx hb dX12_init_188 (by decide +kernel) ?_
    obtain ⟨hq196, h⟩ := zk h
    refine z_iast hx hb hK hM hS h194 hq196 dX12_init_189 (fun H locs hM hS => ?_)
    obtain ⟨S197, e198, h⟩ := zlg h
    rw [← e198] at hM
    have hX199 : zX S189 S197 := by rw [e198]; exact zX_pI
    have h200 := h192.mo hX199
    have hX201 := hX193.tr hX199
    refine lv_aload_n hx hb dX12_init_190 rfl (lv_at hl 0 rfl) ?_
    obtain ⟨hq203, h⟩ := zk h
    refine z_getN hx hb hg zin_12 hown hK hM h200 0 rfl (by decide) (hg _ zw_1000) (fun _ h9 => h9) hq203 dX12_init_191 (fun h202 => ?_)
    refine lv_sipush (v := (880 : Int32)) hx hb dX12_init_194 (by decide +kernel) ?_
    refine lv_bipush (v := (115 : Int32)) hx hb dX12_init_197 (by decide +kernel) ?_
    obtain ⟨hq204, h⟩ := zk h
    refine z_iast hx hb hK hM hS h202 hq204 dX12_init_199 (fun H locs hM hS => ?_)
    obtain ⟨S205, e206, h⟩ := zlg h
    rw [← e206] at hM
    have hX207 : zX S197 S205 := by rw [e206]; exact zX_pI
    have h208 := h200.mo hX207
    have hX209 := hX201.tr hX207
    refine lv_aload_n hx hb dX12_init_200 rfl (lv_at hl 0 rfl) ?_
    obtain ⟨hq211, h⟩ := zk h
    refine z_getN hx hb hg zin_12 hown hK hM h208 0 rfl (by decide) (hg _ zw_1000) (fun _ h9 => h9) hq211 dX12_init_201 (fun h210 => ?_)
    refine lv_sipush (v := (881 : Int32)) hx hb dX12_init_204 (by decide +kernel) ?_
    refine lv_bipush (v := (42 : Int32)) hx hb dX12_init_207 (by decide +kernel) ?_
    obtain ⟨hq212, h⟩ := zk h
    refine z_iast hx hb hK hM hS h210 hq212 dX12_init_209 (fun H locs hM hS => ?_)
    obtain ⟨S213, e214, h⟩ := zlg h
    rw [← e214] at hM
    have hX215 : zX S205 S213 := by rw [e214]; exact zX_pI
    have h216 := h208.mo hX215
    have hX217 := hX209.tr hX215
    refine lv_aload_n hx hb dX12_init_210 rfl (lv_at hl 0 rfl) ?_
    obtain ⟨hq219, h⟩ := zk h
    refine z_getN hx hb hg zin_12 hown hK hM h216 0 rfl (by decide) (hg _ zw_1000) (fun _ h9 => h9) hq219 dX12_init_211 (fun h218 => ?_)
    refine lv_sipush (v := (882 : Int32)) hx hb dX12_init_214 (by decide +kernel) ?_
    refine lv_bipush (v := (104 : Int32)) hx hb dX12_init_217 (by decide +kernel) ?_
    obtain ⟨hq220, h⟩ := zk h
    refine z_iast hx hb hK hM hS h218 hq220 dX12_init_219 (fun H locs hM hS => ?_)
    obtain ⟨S221, e222, h⟩ := zlg h
    rw [← e222] at hM
    have hX223 : zX S213 S221 := by rw [e222]; exact zX_pI
    have h224 := h216.mo hX223
    have hX225 := hX217.tr hX223
    refine lv_aload_n hx hb dX12_init_220 rfl (lv_at hl 0 rfl) ?_
    obtain ⟨hq227, h⟩ := zk h
    refine z_getN hx hb hg zin_12 hown hK hM h224 0 rfl (by decide) (hg _ zw_1000) (fun _ h9 => h9) hq227 dX12_init_221 (fun h226 => ?_)
    refine lv_sipush (v := (883 : Int32)) hx hb dX12_init_224 (by decide +kernel) ?_
    refine lv_bipush (v := (47 : Int32)) hx hb dX12_init_227 (by decide +kernel) ?_
    obtain ⟨hq228, h⟩ := zk h
    refine z_iast hx hb hK hM hS h226 hq228 dX12_init_229 (fun H locs hM hS => ?_)
    obtain ⟨S229, e230, h⟩ := zlg h
    rw [← e230] at hM
    have hX231 : zX S221 S229 := by rw [e230]; exact zX_pI
    have h232 := h224.mo hX231
    have hX233 := hX225.tr hX231
    refine lv_aload_n hx hb dX12_init_230 rfl (lv_at hl 0 rfl) ?_
    obtain ⟨hq235, h⟩ := zk h
    refine z_getN hx hb hg zin_12 hown hK hM h232 0 rfl (by decide) (hg _ zw_1000) (fun _ h9 => h9) hq235 dX12_init_231 (fun h234 => ?_)
    refine lv_sipush (v := (884 : Int32)) hx hb dX12_init_234 (by decide +kernel) ?_
    refine lv_bipush (v := (49 : Int32)) hx hb dX12_init_237 (by decide +kernel) ?_
    obtain ⟨hq236, h⟩ := zk h
    refine z_iast hx hb hK hM hS h234 hq236 dX12_init_239 (fun H locs hM hS => ?_)
    obtain ⟨S237, e238, h⟩ := zlg h
    rw [← e238] at hM
    have hX239 : zX S229 S237 := by rw [e238]; exact zX_pI
    have h240 := h232.mo hX239
    have hX241 := hX233.tr hX239
    refine lv_aload_n hx hb dX12_init_240 rfl (lv_at hl 0 rfl) ?_
    obtain ⟨hq243, h⟩ := zk h
    refine z_getN hx hb hg zin_12 hown hK hM h240 0 rfl (by decide) (hg _ zw_1000) (fun _ h9 => h9) hq243 dX12_init_241 (fun h242 => ?_)
    refine lv_sipush (v := (885 : Int32)) hx hb dX12_init_244 (by decide +kernel) ?_
    refine lv_bipush (v := (48 : Int32)) hx hb dX12_init_247 (by decide +kernel) ?_
    obtain ⟨hq244, h⟩ := zk h
    refine z_iast hx hb hK hM hS h242 hq244 dX12_init_249 (fun H locs hM hS => ?_)
    obtain ⟨S245, e246, h⟩ := zlg h
    rw [← e246] at hM
    have hX247 : zX S237 S245 := by rw [e246]; exact zX_pI
    have h248 := h240.mo hX247
    have hX249 := hX241.tr hX247
    refine lv_aload_n hx hb dX12_init_250 rfl (lv_at hl 0 rfl) ?_
    obtain ⟨hq251, h⟩ := zk h
    refine z_getN hx hb hg zin_12 hown hK hM h248 0 rfl (by decide) (hg _ zw_1000) (fun _ h9 => h9) hq251 dX12_init_251 (fun h250 => ?_)
    refine lv_sipush (v := (1000 : Int32)) hx hb dX12_init_254 (by decide +kernel) ?_
    refine lv_bipush (v := (6 : Int32)) hx hb dX12_init_257 (by decide +kernel) ?_
    obtain ⟨hq252, h⟩ := zk h
    refine z_iast hx hb hK hM hS h250 hq252 dX12_init_259 (fun H locs hM hS => ?_)
    obtain ⟨S253, e254, h⟩ := zlg h
    rw [← e254] at hM
    have hX255 : zX S245 S253 := by rw [e254]; exact zX_pI
    have hX256 := hX249.tr hX255
    refine W.widen (k := 15) (n := 4327) (by omega) (by omega) ?_
    exact z_vret hx hb hr hlk hM hX256 hS (zsm h) dX12_init_260
  have hL149 : ∀ (k : Nat) (x258 : Int32) (S259 : zM) (H : Heap) (locs : List Loc), zMR D cy B S259 H → zX S0 S259 → va_S (fun q => B < q) s.heap H locs → zA S259 a0 12 → ∀ ls : Array Slot, lv_has ls 2 [(0, .ref (B + a0)), (1, .int x258)] → f_X12_init_L149 a0 K185 k x258 S259 = some S' → W p l e (headSpec (zws yX12_init cX12_init 2 none) { frames := 1, cells := 15, slots := 4327, locals := 20 }).room s m (([.ref (B + a0)] : List Value).toArray) below meth c H locs 15 4327 (MQ below (zQv D cy B S0 S') (([.ref (B + a0)] : List Value).toArray) s 15 4327 (fun q => B < q)) (F0 m 149 ls []) := by
    intro k
    induction k with
    | zero =>
      intro x258 S259 H locs hM hX260 hS h257 ls hl h
      exact znone h
    | succ k ih149 =>
      intro x258 S259 H locs hM hX260 hS h257 ls hl h
      replace h : f_X12_init_L149b a0 K185 (f_X12_init_L149 a0 K185 k) x258 S259 = some S' := h
      generalize f_X12_init_L149 a0 K185 k = rec149 at ih149 h
      unfold f_X12_init_L149b at h
      refine lv_iload_n hx hb dX12_init_149 rfl (lv_at hl 1 rfl) ?_
      refine lv_bipush (v := (6 : Int32)) hx hb dX12_init_150 (by decide +kernel) ?_
      refine lv_icmp_ge (tgt := 172) hx hb dX12_init_152 (by decide) (fun hc261 => ?_) (fun hc261 => ?_)
      · have h := zt h hc261
        exact hK185 S259 _ _ hM hX260 hS h257 _ (lv_sub hl [0] rfl) h
      · have h := zf h hc261
        refine lv_aload_n hx hb dX12_init_155 rfl (lv_at hl 0 rfl) ?_
        obtain ⟨hq263, h⟩ := zk h
        refine z_getN hx hb hg zin_12 hown hK hM h257 0 rfl (by decide) (hg _ zw_1000) (fun _ h9 => h9) hq263 dX12_init_156 (fun h262 => ?_)
        refine lv_sipush (v := (872 : Int32)) hx hb dX12_init_159 (by decide +kernel) ?_
        refine lv_iload_n hx hb dX12_init_162 rfl (lv_at hl 1 rfl) ?_
        refine lv_iadd hx hb dX12_init_163 ?_
        refine lv_iconst (v := (2 : Int32)) hx hb dX12_init_164 (by decide +kernel) ?_
        obtain ⟨hq264, h⟩ := zk h
        refine z_iast hx hb hK hM hS h262 hq264 dX12_init_165 (fun H locs hM hS => ?_)
        obtain ⟨S265, e266, h⟩ := zlg h
        rw [← e266] at hM
        have hX267 : zX S259 S265 := by rw [e266]; exact zX_pI
        have h268 := h257.mo hX267
        have hX269 := hX260.tr hX267
        refine lv_iinc (v := (x258 + (1 : Int32))) (lv' := [(1, .int (x258 + (1 : Int32))), (0, .ref (B + a0))]) hx hb dX12_init_166 hl (k := 1) rfl rfl (by decide) rfl (fun ls hl => ?_)
        refine lv_goto (tgt := 149) hx hb dX12_init_169 (by decide) ?_
        exact ih149 (x258 + (1 : Int32)) S265 _ _ hM hX269 hS h268 _ (lv_sub hl [1, 0] rfl) h
  exact hL149 n (0 : Int32) S177 _ _ hM hX181 hS h180 _ (lv_sub hl [1, 0] rfl) h
def f_X12_thrown (S0 : zM) (a0 : Nat) : Int32 :=
  (zi S0 a0 9)
set_option maxHeartbeats 4000000 in
set_option maxRecDepth 100000 in
theorem c_X12_thrown (l : Launch) (D : va_G) (cy : Nat → ClassId) (B : Nat) {S0 : zM} {a0 : Nat} {r : Int32} (ha0 : zA S0 a0 12) (h : f_X12_thrown S0 a0 = r) : Met l yX12_thrown (zws yX12_thrown cX12_thrown 1 ((some .int))) { frames := 0, cells := 0, slots := 0, locals := 0 } (zPc D cy B S0 [.ref (B + a0)]) (zQi D cy B S0 r S0) 0 0 (fun q => B < q) := by
  refine Met.ofW (cc := cX12_thrown) (maxL := 1) (ret := ((some .int))) (by decide) rfl ?_
  intro p e s m args below meth c s₁ Bd hml hv
  obtain ⟨rfl, hC, hM⟩ := hv
  obtain ⟨hx, hb, hr, hg, hown, hlk⟩ := z_open Bd
  have hK := hC.1
  have hS : va_S (fun q => B < q) s.heap s.heap [] := va_S.rf
  have hX0 : zX S0 S0 := zX.rf
  refine z_entry (vs := [.ref (B + a0)]) (Nat.le_of_ble_eq_true rfl) (fun ls hl => ?_)
  have hl : lv_has ls 1 [(0, .ref (B + a0))] := hl
  unfold f_X12_thrown at h
  refine lv_aload_n hx hb dX12_thrown_0 rfl (lv_at hl 0 rfl) ?_
  refine z_getI hx hb hg zin_12 hown hK hM ha0 9 rfl (by decide) (hg _ zw_1009) (fun _ h9 => h9) dX12_thrown_1 ?_
  exact z_iret hx hb hr hlk hM hX0 hS ⟨h, rfl⟩ dX12_thrown_4
def f_X12_isIn (v0 : Int64) (v2 : Int64) (v4 : Int64) : Int32 :=
  if (lg_cmp v0 v2) < 0 then (0 : Int32) else if 0 < (lg_cmp v0 v4) then (0 : Int32) else (1 : Int32)
set_option maxHeartbeats 4000000 in
set_option maxRecDepth 100000 in
theorem c_X12_isIn (l : Launch) (D : va_G) (cy : Nat → ClassId) (B : Nat) {S0 : zM} {v0 : Int64} {v2 : Int64} {v4 : Int64} {r : Int32}  (h : f_X12_isIn v0 v2 v4 = r) : Met l yX12_isIn (zws yX12_isIn cX12_isIn 6 ((some .boolean))) { frames := 0, cells := 0, slots := 0, locals := 0 } (zPc D cy B S0 [.long v0, .long v2, .long v4]) (zQi D cy B S0 r S0) 0 0 (fun q => B < q) := by
  refine Met.ofW (cc := cX12_isIn) (maxL := 6) (ret := ((some .boolean))) (by decide) rfl ?_
  intro p e s m args below meth c s₁ Bd hml hv
  obtain ⟨rfl, hC, hM⟩ := hv
  obtain ⟨hx, hb, hr, hg, hown, hlk⟩ := z_open Bd
  have hK := hC.1
  have hS : va_S (fun q => B < q) s.heap s.heap [] := va_S.rf
  have hX0 : zX S0 S0 := zX.rf
  refine z_entry (vs := [.long v0, .long v2, .long v4]) (Nat.le_of_ble_eq_true rfl) (fun ls hl => ?_)
  have hl : lv_has ls 6 [(0, .long v0), (2, .long v2), (4, .long v4)] := hl
  unfold f_X12_isIn at h
  refine lv_lload_n hx hb dX12_isIn_0 rfl (lv_at hl 0 rfl) ?_
  refine lv_lload_n hx hb dX12_isIn_1 rfl (lv_at hl 1 rfl) ?_
  refine W.lcmp hx hb dX12_isIn_2 ?_
  refine lv_if_lt (tgt := 17) hx hb dX12_isIn_3 (by decide) (fun hc1 => ?_) (fun hc1 => ?_)
  · have h := zt h hc1
    refine lv_iconst (v := (0 : Int32)) hx hb dX12_isIn_17 (by decide +kernel) ?_
    exact z_zret (by decide +kernel) hx hb hr hlk hM hX0 hS ⟨h, rfl⟩ dX12_isIn_18
  · have h := zf h hc1
    refine lv_lload_n hx hb dX12_isIn_6 rfl (lv_at hl 0 rfl) ?_
    refine lv_lload hx hb dX12_isIn_7 (lv_at hl 2 rfl) ?_
    refine W.lcmp hx hb dX12_isIn_9 ?_
    refine lv_if_gt (tgt := 17) hx hb dX12_isIn_10 (by decide) (fun hc2 => ?_) (fun hc2 => ?_)
    · have h := zt h hc2
      refine lv_iconst (v := (0 : Int32)) hx hb dX12_isIn_17 (by decide +kernel) ?_
      exact z_zret (by decide +kernel) hx hb hr hlk hM hX0 hS ⟨h, rfl⟩ dX12_isIn_18
    · have h := zf h hc2
      refine lv_iconst (v := (1 : Int32)) hx hb dX12_isIn_13 (by decide +kernel) ?_
      refine lv_goto (tgt := 18) hx hb dX12_isIn_14 (by decide) ?_
      exact z_zret (by decide +kernel) hx hb hr hlk hM hX0 hS ⟨h, rfl⟩ dX12_isIn_18
def f_X12_isDiver (S0 : zM) (a0 : Nat) (v1 : Int32) : Option (Int32) :=
  zChk (¬ (zr S0 a0 0) = 0) (zChk (¬ ((1001 : Int32) < 0 ∨ zln S0 (zr S0 a0 0) ≤ ((1001 : Int32)).toNatClampNeg)) (zLet (f_X12_isIn (Int32.toInt64 v1) (0 : Int64) (Int32.toInt64 ((zi S0 (zr S0 a0 0) (Int32.toNatClampNeg (1001 : Int32))) - (1 : Int32)))) (fun r5 => zChk (r5 = 0 ∨ r5 = 1) (some r5))))
set_option maxHeartbeats 4000000 in
set_option maxRecDepth 100000 in
theorem c_X12_isDiver (l : Launch) (D : va_G) (cy : Nat → ClassId) (B : Nat) {S0 : zM} {a0 : Nat} {v1 : Int32} {r : Int32} (ha0 : zA S0 a0 12) (h : f_X12_isDiver S0 a0 v1 = some r) : Met l yX12_isDiver (zws yX12_isDiver cX12_isDiver 2 ((some .boolean))) { frames := 1, cells := 0, slots := 0, locals := 25 } (zPc D cy B S0 [.ref (B + a0), .int v1]) (zQi D cy B S0 r S0) 0 0 (fun q => B < q) := by
  refine Met.ofW (cc := cX12_isDiver) (maxL := 2) (ret := ((some .boolean))) (by decide) rfl ?_
  intro p e s m args below meth c s₁ Bd hml hv
  obtain ⟨rfl, hC, hM⟩ := hv
  obtain ⟨hx, hb, hr, hg, hown, hlk⟩ := z_open Bd
  have hK := hC.1
  have hS : va_S (fun q => B < q) s.heap s.heap [] := va_S.rf
  have hX0 : zX S0 S0 := zX.rf
  refine z_entry (vs := [.ref (B + a0), .int v1]) (Nat.le_of_ble_eq_true rfl) (fun ls hl => ?_)
  have hl : lv_has ls 2 [(0, .ref (B + a0)), (1, .int v1)] := hl
  unfold f_X12_isDiver at h
  refine lv_iload_n hx hb dX12_isDiver_0 rfl (lv_at hl 1 rfl) ?_
  refine lv_i2l hx hb dX12_isDiver_1 rfl ?_
  refine lv_lconst (v := (0 : Int64)) hx hb dX12_isDiver_2 (by decide +kernel) ?_
  refine lv_aload_n hx hb dX12_isDiver_3 rfl (lv_at hl 0 rfl) ?_
  obtain ⟨hq2, h⟩ := zk h
  refine z_getN hx hb hg zin_12 hown hK hM ha0 0 rfl (by decide) (hg _ zw_1000) (fun _ h9 => h9) hq2 dX12_isDiver_4 (fun h1 => ?_)
  refine lv_sipush (v := (1001 : Int32)) hx hb dX12_isDiver_7 (by decide +kernel) ?_
  obtain ⟨hq3, h⟩ := zk h
  refine z_iald hx hb hK hM h1 hq3 dX12_isDiver_10 ?_
  refine lv_iconst (v := (1 : Int32)) hx hb dX12_isDiver_11 (by decide +kernel) ?_
  refine lv_isub hx hb dX12_isDiver_12 ?_
  refine lv_i2l hx hb dX12_isDiver_13 rfl ?_
  obtain ⟨r5, hr4, h⟩ := zlg h
  have hr4 := hr4.symm
  refine z_runi (va_runS (As := [.long (Int32.toInt64 v1), .long (0 : Int64), .long (Int32.toInt64 ((zi S0 (zr S0 a0 0) (Int32.toNatClampNeg (1001 : Int32))) - (1 : Int32)))]) (rest := []) ⟨hx, hb, hml, hown, hg⟩ (c_X12_isIn l D cy B hr4) (z_cwS hg zw_1111 zw_1112 zw_13 zw_1113 zh_X12_isIn.2 ⟨(Nat.le_of_ble_eq_true rfl), (Nat.le_of_ble_eq_true rfl)⟩) (zPS hC hM) rfl rfl hl.1 rfl (lv_room (Nat.le_of_ble_eq_true rfl)) dX12_isDiver_14 ⟨(Nat.le_of_ble_eq_true rfl), (Nat.le_of_ble_eq_true rfl)⟩) hS (fun H locs hM hX6 hS => ?_)
  obtain ⟨hb8, h⟩ := zk h
  exact z_zret (z_bit hb8).1 hx hb hr hlk hM hX0 hS ⟨zsm h, rfl⟩ dX12_isDiver_17
def f_X12_isJudge (S0 : zM) (a0 : Nat) (v1 : Int32) : Option (Int32) :=
  zChk (¬ (zr S0 a0 0) = 0) (zChk (¬ ((1002 : Int32) < 0 ∨ zln S0 (zr S0 a0 0) ≤ ((1002 : Int32)).toNatClampNeg)) (zLet (f_X12_isIn (Int32.toInt64 v1) (0 : Int64) (Int32.toInt64 ((zi S0 (zr S0 a0 0) (Int32.toNatClampNeg (1002 : Int32))) - (1 : Int32)))) (fun r5 => zChk (r5 = 0 ∨ r5 = 1) (some r5))))
set_option maxHeartbeats 4000000 in
set_option maxRecDepth 100000 in
theorem c_X12_isJudge (l : Launch) (D : va_G) (cy : Nat → ClassId) (B : Nat) {S0 : zM} {a0 : Nat} {v1 : Int32} {r : Int32} (ha0 : zA S0 a0 12) (h : f_X12_isJudge S0 a0 v1 = some r) : Met l yX12_isJudge (zws yX12_isJudge cX12_isJudge 2 ((some .boolean))) { frames := 1, cells := 0, slots := 0, locals := 25 } (zPc D cy B S0 [.ref (B + a0), .int v1]) (zQi D cy B S0 r S0) 0 0 (fun q => B < q) := by
  refine Met.ofW (cc := cX12_isJudge) (maxL := 2) (ret := ((some .boolean))) (by decide) rfl ?_
  intro p e s m args below meth c s₁ Bd hml hv
  obtain ⟨rfl, hC, hM⟩ := hv
  obtain ⟨hx, hb, hr, hg, hown, hlk⟩ := z_open Bd
  have hK := hC.1
  have hS : va_S (fun q => B < q) s.heap s.heap [] := va_S.rf
  have hX0 : zX S0 S0 := zX.rf
  refine z_entry (vs := [.ref (B + a0), .int v1]) (Nat.le_of_ble_eq_true rfl) (fun ls hl => ?_)
  have hl : lv_has ls 2 [(0, .ref (B + a0)), (1, .int v1)] := hl
  unfold f_X12_isJudge at h
  refine lv_iload_n hx hb dX12_isJudge_0 rfl (lv_at hl 1 rfl) ?_
  refine lv_i2l hx hb dX12_isJudge_1 rfl ?_
  refine lv_lconst (v := (0 : Int64)) hx hb dX12_isJudge_2 (by decide +kernel) ?_
  refine lv_aload_n hx hb dX12_isJudge_3 rfl (lv_at hl 0 rfl) ?_
  obtain ⟨hq2, h⟩ := zk h
  refine z_getN hx hb hg zin_12 hown hK hM ha0 0 rfl (by decide) (hg _ zw_1000) (fun _ h9 => h9) hq2 dX12_isJudge_4 (fun h1 => ?_)
  refine lv_sipush (v := (1002 : Int32)) hx hb dX12_isJudge_7 (by decide +kernel) ?_
  obtain ⟨hq3, h⟩ := zk h
  refine z_iald hx hb hK hM h1 hq3 dX12_isJudge_10 ?_
  refine lv_iconst (v := (1 : Int32)) hx hb dX12_isJudge_11 (by decide +kernel) ?_
  refine lv_isub hx hb dX12_isJudge_12 ?_
  refine lv_i2l hx hb dX12_isJudge_13 rfl ?_
  obtain ⟨r5, hr4, h⟩ := zlg h
  have hr4 := hr4.symm
  refine z_runi (va_runS (As := [.long (Int32.toInt64 v1), .long (0 : Int64), .long (Int32.toInt64 ((zi S0 (zr S0 a0 0) (Int32.toNatClampNeg (1002 : Int32))) - (1 : Int32)))]) (rest := []) ⟨hx, hb, hml, hown, hg⟩ (c_X12_isIn l D cy B hr4) (z_cwS hg zw_1111 zw_1112 zw_13 zw_1113 zh_X12_isIn.2 ⟨(Nat.le_of_ble_eq_true rfl), (Nat.le_of_ble_eq_true rfl)⟩) (zPS hC hM) rfl rfl hl.1 rfl (lv_room (Nat.le_of_ble_eq_true rfl)) dX12_isJudge_14 ⟨(Nat.le_of_ble_eq_true rfl), (Nat.le_of_ble_eq_true rfl)⟩) hS (fun H locs hM hX6 hS => ?_)
  obtain ⟨hb8, h⟩ := zk h
  exact z_zret (z_bit hb8).1 hx hb hr hlk hM hX0 hS ⟨zsm h, rfl⟩ dX12_isJudge_17
def f_X12_isDive (S0 : zM) (a0 : Nat) (v1 : Int32) : Option (Int32) :=
  zChk (¬ (zr S0 a0 0) = 0) (zChk (¬ ((1003 : Int32) < 0 ∨ zln S0 (zr S0 a0 0) ≤ ((1003 : Int32)).toNatClampNeg)) (zLet (f_X12_isIn (Int32.toInt64 v1) (0 : Int64) (Int32.toInt64 ((zi S0 (zr S0 a0 0) (Int32.toNatClampNeg (1003 : Int32))) - (1 : Int32)))) (fun r5 => zChk (r5 = 0 ∨ r5 = 1) (some r5))))
set_option maxHeartbeats 4000000 in
set_option maxRecDepth 100000 in
theorem c_X12_isDive (l : Launch) (D : va_G) (cy : Nat → ClassId) (B : Nat) {S0 : zM} {a0 : Nat} {v1 : Int32} {r : Int32} (ha0 : zA S0 a0 12) (h : f_X12_isDive S0 a0 v1 = some r) : Met l yX12_isDive (zws yX12_isDive cX12_isDive 2 ((some .boolean))) { frames := 1, cells := 0, slots := 0, locals := 25 } (zPc D cy B S0 [.ref (B + a0), .int v1]) (zQi D cy B S0 r S0) 0 0 (fun q => B < q) := by
  refine Met.ofW (cc := cX12_isDive) (maxL := 2) (ret := ((some .boolean))) (by decide) rfl ?_
  intro p e s m args below meth c s₁ Bd hml hv
  obtain ⟨rfl, hC, hM⟩ := hv
  obtain ⟨hx, hb, hr, hg, hown, hlk⟩ := z_open Bd
  have hK := hC.1
  have hS : va_S (fun q => B < q) s.heap s.heap [] := va_S.rf
  have hX0 : zX S0 S0 := zX.rf
  refine z_entry (vs := [.ref (B + a0), .int v1]) (Nat.le_of_ble_eq_true rfl) (fun ls hl => ?_)
  have hl : lv_has ls 2 [(0, .ref (B + a0)), (1, .int v1)] := hl
  unfold f_X12_isDive at h
  refine lv_iload_n hx hb dX12_isDive_0 rfl (lv_at hl 1 rfl) ?_
  refine lv_i2l hx hb dX12_isDive_1 rfl ?_
  refine lv_lconst (v := (0 : Int64)) hx hb dX12_isDive_2 (by decide +kernel) ?_
  refine lv_aload_n hx hb dX12_isDive_3 rfl (lv_at hl 0 rfl) ?_
  obtain ⟨hq2, h⟩ := zk h
  refine z_getN hx hb hg zin_12 hown hK hM ha0 0 rfl (by decide) (hg _ zw_1000) (fun _ h9 => h9) hq2 dX12_isDive_4 (fun h1 => ?_)
  refine lv_sipush (v := (1003 : Int32)) hx hb dX12_isDive_7 (by decide +kernel) ?_
  obtain ⟨hq3, h⟩ := zk h
  refine z_iald hx hb hK hM h1 hq3 dX12_isDive_10 ?_
  refine lv_iconst (v := (1 : Int32)) hx hb dX12_isDive_11 (by decide +kernel) ?_
  refine lv_isub hx hb dX12_isDive_12 ?_
  refine lv_i2l hx hb dX12_isDive_13 rfl ?_
  obtain ⟨r5, hr4, h⟩ := zlg h
  have hr4 := hr4.symm
  refine z_runi (va_runS (As := [.long (Int32.toInt64 v1), .long (0 : Int64), .long (Int32.toInt64 ((zi S0 (zr S0 a0 0) (Int32.toNatClampNeg (1003 : Int32))) - (1 : Int32)))]) (rest := []) ⟨hx, hb, hml, hown, hg⟩ (c_X12_isIn l D cy B hr4) (z_cwS hg zw_1111 zw_1112 zw_13 zw_1113 zh_X12_isIn.2 ⟨(Nat.le_of_ble_eq_true rfl), (Nat.le_of_ble_eq_true rfl)⟩) (zPS hC hM) rfl rfl hl.1 rfl (lv_room (Nat.le_of_ble_eq_true rfl)) dX12_isDive_14 ⟨(Nat.le_of_ble_eq_true rfl), (Nat.le_of_ble_eq_true rfl)⟩) hS (fun H locs hM hX6 hS => ?_)
  obtain ⟨hb8, h⟩ := zk h
  exact z_zret (z_bit hb8).1 hx hb hr hlk hM hX0 hS ⟨zsm h, rfl⟩ dX12_isDive_17
def f_X12_isHall (v0 : Int32) : Option (Int32) :=
  zLet (f_X12_isIn (Int32.toInt64 v0) (0 : Int64) (5 : Int64)) (fun r2 => zChk (r2 = 0 ∨ r2 = 1) (some r2))
set_option maxHeartbeats 4000000 in
set_option maxRecDepth 100000 in
theorem c_X12_isHall (l : Launch) (D : va_G) (cy : Nat → ClassId) (B : Nat) {S0 : zM} {v0 : Int32} {r : Int32}  (h : f_X12_isHall v0 = some r) : Met l yX12_isHall (zws yX12_isHall cX12_isHall 1 ((some .boolean))) { frames := 1, cells := 0, slots := 0, locals := 25 } (zPc D cy B S0 [.int v0]) (zQi D cy B S0 r S0) 0 0 (fun q => B < q) := by
  refine Met.ofW (cc := cX12_isHall) (maxL := 1) (ret := ((some .boolean))) (by decide) rfl ?_
  intro p e s m args below meth c s₁ Bd hml hv
  obtain ⟨rfl, hC, hM⟩ := hv
  obtain ⟨hx, hb, hr, hg, hown, hlk⟩ := z_open Bd
  have hK := hC.1
  have hS : va_S (fun q => B < q) s.heap s.heap [] := va_S.rf
  have hX0 : zX S0 S0 := zX.rf
  refine z_entry (vs := [.int v0]) (Nat.le_of_ble_eq_true rfl) (fun ls hl => ?_)
  have hl : lv_has ls 1 [(0, .int v0)] := hl
  unfold f_X12_isHall at h
  refine lv_iload_n hx hb dX12_isHall_0 rfl (lv_at hl 0 rfl) ?_
  refine lv_i2l hx hb dX12_isHall_1 rfl ?_
  refine lv_lconst (v := (0 : Int64)) hx hb dX12_isHall_2 (by decide +kernel) ?_
  refine lv_ldc2 (v := (5 : Int64)) hx hb hown (hg _ zw_1110) dX12_isHall_3 ?_
  obtain ⟨r2, hr1, h⟩ := zlg h
  have hr1 := hr1.symm
  refine z_runi (va_runS (As := [.long (Int32.toInt64 v0), .long (0 : Int64), .long (5 : Int64)]) (rest := []) ⟨hx, hb, hml, hown, hg⟩ (c_X12_isIn l D cy B hr1) (z_cwS hg zw_1111 zw_1112 zw_13 zw_1113 zh_X12_isIn.2 ⟨(Nat.le_of_ble_eq_true rfl), (Nat.le_of_ble_eq_true rfl)⟩) (zPS hC hM) rfl rfl hl.1 rfl (lv_room (Nat.le_of_ble_eq_true rfl)) dX12_isHall_6 ⟨(Nat.le_of_ble_eq_true rfl), (Nat.le_of_ble_eq_true rfl)⟩) hS (fun H locs hM hX3 hS => ?_)
  obtain ⟨hb5, h⟩ := zk h
  exact z_zret (z_bit hb5).1 hx hb hr hlk hM hX0 hS ⟨zsm h, rfl⟩ dX12_isHall_9
def f_X12_isChair (v0 : Int32) : Option (Int32) :=
  zLet (f_X12_isIn (Int32.toInt64 v0) (0 : Int64) (6 : Int64)) (fun r2 => zChk (r2 = 0 ∨ r2 = 1) (some r2))
set_option maxHeartbeats 4000000 in
set_option maxRecDepth 100000 in
theorem c_X12_isChair (l : Launch) (D : va_G) (cy : Nat → ClassId) (B : Nat) {S0 : zM} {v0 : Int32} {r : Int32}  (h : f_X12_isChair v0 = some r) : Met l yX12_isChair (zws yX12_isChair cX12_isChair 1 ((some .boolean))) { frames := 1, cells := 0, slots := 0, locals := 25 } (zPc D cy B S0 [.int v0]) (zQi D cy B S0 r S0) 0 0 (fun q => B < q) := by
  refine Met.ofW (cc := cX12_isChair) (maxL := 1) (ret := ((some .boolean))) (by decide) rfl ?_
  intro p e s m args below meth c s₁ Bd hml hv
  obtain ⟨rfl, hC, hM⟩ := hv
  obtain ⟨hx, hb, hr, hg, hown, hlk⟩ := z_open Bd
  have hK := hC.1
  have hS : va_S (fun q => B < q) s.heap s.heap [] := va_S.rf
  have hX0 : zX S0 S0 := zX.rf
  refine z_entry (vs := [.int v0]) (Nat.le_of_ble_eq_true rfl) (fun ls hl => ?_)
  have hl : lv_has ls 1 [(0, .int v0)] := hl
  unfold f_X12_isChair at h
  refine lv_iload_n hx hb dX12_isChair_0 rfl (lv_at hl 0 rfl) ?_
  refine lv_i2l hx hb dX12_isChair_1 rfl ?_
  refine lv_lconst (v := (0 : Int64)) hx hb dX12_isChair_2 (by decide +kernel) ?_
  refine lv_ldc2 (v := (6 : Int64)) hx hb hown (hg _ zw_1139) dX12_isChair_3 ?_
  obtain ⟨r2, hr1, h⟩ := zlg h
  have hr1 := hr1.symm
  refine z_runi (va_runS (As := [.long (Int32.toInt64 v0), .long (0 : Int64), .long (6 : Int64)]) (rest := []) ⟨hx, hb, hml, hown, hg⟩ (c_X12_isIn l D cy B hr1) (z_cwS hg zw_1111 zw_1112 zw_13 zw_1113 zh_X12_isIn.2 ⟨(Nat.le_of_ble_eq_true rfl), (Nat.le_of_ble_eq_true rfl)⟩) (zPS hC hM) rfl rfl hl.1 rfl (lv_room (Nat.le_of_ble_eq_true rfl)) dX12_isChair_6 ⟨(Nat.le_of_ble_eq_true rfl), (Nat.le_of_ble_eq_true rfl)⟩) hS (fun H locs hM hX3 hS => ?_)
  obtain ⟨hb5, h⟩ := zk h
  exact z_zret (z_bit hb5).1 hx hb hr hlk hM hX0 hS ⟨zsm h, rfl⟩ dX12_isChair_9
def f_X12_isShelf (v0 : Int32) : Option (Int32) :=
  zLet (f_X12_isIn (Int32.toInt64 v0) (0 : Int64) (7 : Int64)) (fun r2 => zChk (r2 = 0 ∨ r2 = 1) (some r2))
set_option maxHeartbeats 4000000 in
set_option maxRecDepth 100000 in
theorem c_X12_isShelf (l : Launch) (D : va_G) (cy : Nat → ClassId) (B : Nat) {S0 : zM} {v0 : Int32} {r : Int32}  (h : f_X12_isShelf v0 = some r) : Met l yX12_isShelf (zws yX12_isShelf cX12_isShelf 1 ((some .boolean))) { frames := 1, cells := 0, slots := 0, locals := 25 } (zPc D cy B S0 [.int v0]) (zQi D cy B S0 r S0) 0 0 (fun q => B < q) := by
  refine Met.ofW (cc := cX12_isShelf) (maxL := 1) (ret := ((some .boolean))) (by decide) rfl ?_
  intro p e s m args below meth c s₁ Bd hml hv
  obtain ⟨rfl, hC, hM⟩ := hv
  obtain ⟨hx, hb, hr, hg, hown, hlk⟩ := z_open Bd
  have hK := hC.1
  have hS : va_S (fun q => B < q) s.heap s.heap [] := va_S.rf
  have hX0 : zX S0 S0 := zX.rf
  refine z_entry (vs := [.int v0]) (Nat.le_of_ble_eq_true rfl) (fun ls hl => ?_)
  have hl : lv_has ls 1 [(0, .int v0)] := hl
  unfold f_X12_isShelf at h
  refine lv_iload_n hx hb dX12_isShelf_0 rfl (lv_at hl 0 rfl) ?_
  refine lv_i2l hx hb dX12_isShelf_1 rfl ?_
  refine lv_lconst (v := (0 : Int64)) hx hb dX12_isShelf_2 (by decide +kernel) ?_
  refine lv_ldc2 (v := (7 : Int64)) hx hb hown (hg _ zw_1119) dX12_isShelf_3 ?_
  obtain ⟨r2, hr1, h⟩ := zlg h
  have hr1 := hr1.symm
  refine z_runi (va_runS (As := [.long (Int32.toInt64 v0), .long (0 : Int64), .long (7 : Int64)]) (rest := []) ⟨hx, hb, hml, hown, hg⟩ (c_X12_isIn l D cy B hr1) (z_cwS hg zw_1111 zw_1112 zw_13 zw_1113 zh_X12_isIn.2 ⟨(Nat.le_of_ble_eq_true rfl), (Nat.le_of_ble_eq_true rfl)⟩) (zPS hC hM) rfl rfl hl.1 rfl (lv_room (Nat.le_of_ble_eq_true rfl)) dX12_isShelf_6 ⟨(Nat.le_of_ble_eq_true rfl), (Nat.le_of_ble_eq_true rfl)⟩) hS (fun H locs hM hX3 hS => ?_)
  obtain ⟨hb5, h⟩ := zk h
  exact z_zret (z_bit hb5).1 hx hb hr hlk hM hX0 hS ⟨zsm h, rfl⟩ dX12_isShelf_9
def f_X12_get (S0 : zM) (a0 : Nat) (v1 : Int32) (v2 : Int32) : Option (Int32) :=
  zChk (¬ (zr S0 a0 0) = 0) (zChk (¬ ((((112 : Int32) + ((19 : Int32) * v1)) + v2) < 0 ∨ zln S0 (zr S0 a0 0) ≤ ((((112 : Int32) + ((19 : Int32) * v1)) + v2)).toNatClampNeg)) (some (zi S0 (zr S0 a0 0) (Int32.toNatClampNeg (((112 : Int32) + ((19 : Int32) * v1)) + v2)))))
set_option maxHeartbeats 4000000 in
set_option maxRecDepth 100000 in
theorem c_X12_get (l : Launch) (D : va_G) (cy : Nat → ClassId) (B : Nat) {S0 : zM} {a0 : Nat} {v1 : Int32} {v2 : Int32} {r : Int32} (ha0 : zA S0 a0 12) (h : f_X12_get S0 a0 v1 v2 = some r) : Met l yX12_get (zws yX12_get cX12_get 3 ((some .int))) { frames := 0, cells := 0, slots := 0, locals := 0 } (zPc D cy B S0 [.ref (B + a0), .int v1, .int v2]) (zQi D cy B S0 r S0) 0 0 (fun q => B < q) := by
  refine Met.ofW (cc := cX12_get) (maxL := 3) (ret := ((some .int))) (by decide) rfl ?_
  intro p e s m args below meth c s₁ Bd hml hv
  obtain ⟨rfl, hC, hM⟩ := hv
  obtain ⟨hx, hb, hr, hg, hown, hlk⟩ := z_open Bd
  have hK := hC.1
  have hS : va_S (fun q => B < q) s.heap s.heap [] := va_S.rf
  have hX0 : zX S0 S0 := zX.rf
  refine z_entry (vs := [.ref (B + a0), .int v1, .int v2]) (Nat.le_of_ble_eq_true rfl) (fun ls hl => ?_)
  have hl : lv_has ls 3 [(0, .ref (B + a0)), (1, .int v1), (2, .int v2)] := hl
  unfold f_X12_get at h
  refine lv_aload_n hx hb dX12_get_0 rfl (lv_at hl 0 rfl) ?_
  obtain ⟨hq2, h⟩ := zk h
  refine z_getN hx hb hg zin_12 hown hK hM ha0 0 rfl (by decide) (hg _ zw_1000) (fun _ h9 => h9) hq2 dX12_get_1 (fun h1 => ?_)
  refine lv_bipush (v := (112 : Int32)) hx hb dX12_get_4 (by decide +kernel) ?_
  refine lv_bipush (v := (19 : Int32)) hx hb dX12_get_6 (by decide +kernel) ?_
  refine lv_iload_n hx hb dX12_get_8 rfl (lv_at hl 1 rfl) ?_
  refine lv_imul hx hb dX12_get_9 ?_
  refine lv_iadd hx hb dX12_get_10 ?_
  refine lv_iload_n hx hb dX12_get_11 rfl (lv_at hl 2 rfl) ?_
  refine lv_iadd hx hb dX12_get_12 ?_
  obtain ⟨hq3, h⟩ := zk h
  refine z_iald hx hb hK hM h1 hq3 dX12_get_13 ?_
  exact z_iret hx hb hr hlk hM hX0 hS ⟨zsm h, rfl⟩ dX12_get_14
def f_X12_becomes (S0 : zM) (a0 : Nat) (v1 : Int32) (v2 : Int32) : Option (Int32 × zM) :=
  zChk (¬ (zr S0 a0 0) = 0) (zChk (¬ (v1 < 0 ∨ zln S0 (zr S0 a0 0) ≤ (v1).toNatClampNeg)) (zChk (¬ (v1 < 0 ∨ zln S0 (zr S0 a0 0) ≤ (v1).toNatClampNeg)) (zLet (zpI S0 (zr S0 a0 0) (Int32.toNatClampNeg v1) v2) (fun S6 => some (((zi S0 (zr S0 a0 0) (Int32.toNatClampNeg v1)), S6))))))
set_option maxHeartbeats 4000000 in
set_option maxRecDepth 100000 in
theorem c_X12_becomes (l : Launch) (D : va_G) (cy : Nat → ClassId) (B : Nat) {S0 : zM} {a0 : Nat} {v1 : Int32} {v2 : Int32} {r : Int32} {S' : zM} (ha0 : zA S0 a0 12) (h : f_X12_becomes S0 a0 v1 v2 = some (r, S')) : Met l yX12_becomes (zws yX12_becomes cX12_becomes 4 ((some .int))) { frames := 0, cells := 0, slots := 0, locals := 0 } (zPc D cy B S0 [.ref (B + a0), .int v1, .int v2]) (zQi D cy B S0 r S') 0 0 (fun q => B < q) := by
  refine Met.ofW (cc := cX12_becomes) (maxL := 4) (ret := ((some .int))) (by decide) rfl ?_
  intro p e s m args below meth c s₁ Bd hml hv
  obtain ⟨rfl, hC, hM⟩ := hv
  obtain ⟨hx, hb, hr, hg, hown, hlk⟩ := z_open Bd
  have hK := hC.1
  have hS : va_S (fun q => B < q) s.heap s.heap [] := va_S.rf
  have hX0 : zX S0 S0 := zX.rf
  refine z_entry (vs := [.ref (B + a0), .int v1, .int v2]) (Nat.le_of_ble_eq_true rfl) (fun ls hl => ?_)
  have hl : lv_has ls 4 [(0, .ref (B + a0)), (1, .int v1), (2, .int v2)] := hl
  unfold f_X12_becomes at h
  refine lv_aload_n hx hb dX12_becomes_0 rfl (lv_at hl 0 rfl) ?_
  obtain ⟨hq2, h⟩ := zk h
  refine z_getN hx hb hg zin_12 hown hK hM ha0 0 rfl (by decide) (hg _ zw_1000) (fun _ h9 => h9) hq2 dX12_becomes_1 (fun h1 => ?_)
  refine lv_iload_n hx hb dX12_becomes_4 rfl (lv_at hl 1 rfl) ?_
  obtain ⟨hq3, h⟩ := zk h
  refine z_iald hx hb hK hM h1 hq3 dX12_becomes_5 ?_
  refine lv_istore_n (i := 3) (lv' := [(3, .int (zi S0 (zr S0 a0 0) (Int32.toNatClampNeg v1))), (0, .ref (B + a0)), (1, .int v1), (2, .int v2)]) hx hb dX12_becomes_6 rfl hl (by decide) rfl (fun ls hl => ?_)
  refine lv_aload_n hx hb dX12_becomes_7 rfl (lv_at hl 1 rfl) ?_
  refine z_getN hx hb hg zin_12 hown hK hM ha0 0 rfl (by decide) (hg _ zw_1000) (fun _ h9 => h9) h1.ne dX12_becomes_8 (fun h4 => ?_)
  refine lv_iload_n hx hb dX12_becomes_11 rfl (lv_at hl 2 rfl) ?_
  refine lv_iload_n hx hb dX12_becomes_12 rfl (lv_at hl 3 rfl) ?_
  obtain ⟨hq5, h⟩ := zk h
  refine z_iast hx hb hK hM hS h4 hq5 dX12_becomes_13 (fun H locs hM hS => ?_)
  obtain ⟨S6, e7, h⟩ := zlg h
  rw [← e7] at hM
  have hX8 : zX S0 S6 := by rw [e7]; exact zX_pI
  have hX9 := hX0.tr hX8
  refine lv_iload_n hx hb dX12_becomes_14 rfl (lv_at hl 0 rfl) ?_
  exact z_iret hx hb hr hlk hM hX9 hS (zsp h) dX12_becomes_15
def f_X12_diver (S0 : zM) (a0 : Nat) (v1 : Int32) (v2 : Int32) : Option (Int32 × zM) :=
  zLet (f_X12_isIn (Int32.toInt64 v1) (0 : Int64) (5 : Int64)) (fun r2 => if r2 = 0 then some (((-1 : Int32), S0)) else zLet (f_X12_isIn (Int32.toInt64 v2) (0 : Int64) (9 : Int64)) (fun r7 => if r7 = 0 then some (((-1 : Int32), S0)) else zChk (¬ (zr S0 a0 0) = 0) (zChk (¬ ((1001 : Int32) < 0 ∨ zln S0 (zr S0 a0 0) ≤ ((1001 : Int32)).toNatClampNeg)) (if (zi S0 (zr S0 a0 0) (Int32.toNatClampNeg (1001 : Int32))) = (8 : Int32) then some (((-2 : Int32), S0)) else zChk (¬ ((1001 : Int32) < 0 ∨ zln S0 (zr S0 a0 0) ≤ ((1001 : Int32)).toNatClampNeg)) (zChk (¬ (((2 : Int32) * (zi S0 (zr S0 a0 0) (Int32.toNatClampNeg (1001 : Int32)))) < 0 ∨ zln S0 (zr S0 a0 0) ≤ (((2 : Int32) * (zi S0 (zr S0 a0 0) (Int32.toNatClampNeg (1001 : Int32))))).toNatClampNeg)) (zLet (zpI S0 (zr S0 a0 0) (Int32.toNatClampNeg ((2 : Int32) * (zi S0 (zr S0 a0 0) (Int32.toNatClampNeg (1001 : Int32))))) v1) (fun S19 => zChk (¬ (zr S19 a0 0) = 0) (zChk (¬ ((1001 : Int32) < 0 ∨ zln S19 (zr S19 a0 0) ≤ ((1001 : Int32)).toNatClampNeg)) (zChk (¬ ((((2 : Int32) * (zi S19 (zr S19 a0 0) (Int32.toNatClampNeg (1001 : Int32)))) + (1 : Int32)) < 0 ∨ zln S19 (zr S19 a0 0) ≤ ((((2 : Int32) * (zi S19 (zr S19 a0 0) (Int32.toNatClampNeg (1001 : Int32)))) + (1 : Int32))).toNatClampNeg)) (zLet (zpI S19 (zr S19 a0 0) (Int32.toNatClampNeg (((2 : Int32) * (zi S19 (zr S19 a0 0) (Int32.toNatClampNeg (1001 : Int32)))) + (1 : Int32))) v2) (fun S29 => zChk (¬ (zr S29 a0 0) = 0) (zChk (¬ ((1001 : Int32) < 0 ∨ zln S29 (zr S29 a0 0) ≤ ((1001 : Int32)).toNatClampNeg)) (zChk (¬ ((1001 : Int32) < 0 ∨ zln S29 (zr S29 a0 0) ≤ ((1001 : Int32)).toNatClampNeg)) (zLet (zpI S29 (zr S29 a0 0) (Int32.toNatClampNeg (1001 : Int32)) ((zi S29 (zr S29 a0 0) (Int32.toNatClampNeg (1001 : Int32))) + (1 : Int32))) (fun S38 => zChk (¬ (zr S38 a0 0) = 0) (zChk (¬ ((1001 : Int32) < 0 ∨ zln S38 (zr S38 a0 0) ≤ ((1001 : Int32)).toNatClampNeg)) (some ((((zi S38 (zr S38 a0 0) (Int32.toNatClampNeg (1001 : Int32))) - (1 : Int32)), S38)))))))))))))))))))
set_option maxHeartbeats 4000000 in
set_option maxRecDepth 100000 in
theorem c_X12_diver (l : Launch) (D : va_G) (cy : Nat → ClassId) (B : Nat) {S0 : zM} {a0 : Nat} {v1 : Int32} {v2 : Int32} {r : Int32} {S' : zM} (ha0 : zA S0 a0 12) (h : f_X12_diver S0 a0 v1 v2 = some (r, S')) : Met l yX12_diver (zws yX12_diver cX12_diver 3 ((some .int))) { frames := 1, cells := 0, slots := 0, locals := 25 } (zPc D cy B S0 [.ref (B + a0), .int v1, .int v2]) (zQi D cy B S0 r S') 0 0 (fun q => B < q) := by
  refine Met.ofW (cc := cX12_diver) (maxL := 3) (ret := ((some .int))) (by decide) rfl ?_
  intro p e s m args below meth c s₁ Bd hml hv
  obtain ⟨rfl, hC, hM⟩ := hv
  obtain ⟨hx, hb, hr, hg, hown, hlk⟩ := z_open Bd
  have hK := hC.1
  have hS : va_S (fun q => B < q) s.heap s.heap [] := va_S.rf
  have hX0 : zX S0 S0 := zX.rf
  refine z_entry (vs := [.ref (B + a0), .int v1, .int v2]) (Nat.le_of_ble_eq_true rfl) (fun ls hl => ?_)
  have hl : lv_has ls 3 [(0, .ref (B + a0)), (1, .int v1), (2, .int v2)] := hl
  unfold f_X12_diver at h
  refine lv_iload_n hx hb dX12_diver_0 rfl (lv_at hl 1 rfl) ?_
  refine lv_i2l hx hb dX12_diver_1 rfl ?_
  refine lv_lconst (v := (0 : Int64)) hx hb dX12_diver_2 (by decide +kernel) ?_
  refine lv_ldc2 (v := (5 : Int64)) hx hb hown (hg _ zw_1110) dX12_diver_3 ?_
  obtain ⟨r2, hr1, h⟩ := zlg h
  have hr1 := hr1.symm
  refine z_runi (va_runS (As := [.long (Int32.toInt64 v1), .long (0 : Int64), .long (5 : Int64)]) (rest := []) ⟨hx, hb, hml, hown, hg⟩ (c_X12_isIn l D cy B hr1) (z_cwS hg zw_1111 zw_1112 zw_13 zw_1113 zh_X12_isIn.2 ⟨(Nat.le_of_ble_eq_true rfl), (Nat.le_of_ble_eq_true rfl)⟩) (zPS hC hM) rfl rfl hl.1 rfl (lv_room (Nat.le_of_ble_eq_true rfl)) dX12_diver_6 ⟨(Nat.le_of_ble_eq_true rfl), (Nat.le_of_ble_eq_true rfl)⟩) hS (fun H locs hM hX3 hS => ?_)
  refine lv_if_eq (tgt := 24) hx hb dX12_diver_9 (by decide) (fun hc5 => ?_) (fun hc5 => ?_)
  · have h := zt h hc5
    refine lv_iconst (v := (-1 : Int32)) hx hb dX12_diver_24 (by decide +kernel) ?_
    exact z_iret hx hb hr hlk hM hX0 hS (zsp h) dX12_diver_25
  · have h := zf h hc5
    refine lv_iload_n hx hb dX12_diver_12 rfl (lv_at hl 2 rfl) ?_
    refine lv_i2l hx hb dX12_diver_13 rfl ?_
    refine lv_lconst (v := (0 : Int64)) hx hb dX12_diver_14 (by decide +kernel) ?_
    refine lv_ldc2 (v := (9 : Int64)) hx hb hown (hg _ zw_1114) dX12_diver_15 ?_
    obtain ⟨r7, hr6, h⟩ := zlg h
    have hr6 := hr6.symm
    refine z_runi (va_runS (As := [.long (Int32.toInt64 v2), .long (0 : Int64), .long (9 : Int64)]) (rest := []) ⟨hx, hb, hml, hown, hg⟩ (c_X12_isIn l D cy B hr6) (z_cwS hg zw_1111 zw_1112 zw_13 zw_1113 zh_X12_isIn.2 ⟨(Nat.le_of_ble_eq_true rfl), (Nat.le_of_ble_eq_true rfl)⟩) (zPS hC hM) rfl rfl hl.1 rfl (lv_room (Nat.le_of_ble_eq_true rfl)) dX12_diver_18 ⟨(Nat.le_of_ble_eq_true rfl), (Nat.le_of_ble_eq_true rfl)⟩) hS (fun H locs hM hX8 hS => ?_)
    refine lv_if_ne (tgt := 26) hx hb dX12_diver_21 (by decide) (fun hc10 => ?_) (fun hc10 => ?_)
    · have h := zf h hc10
      refine lv_aload_n hx hb dX12_diver_26 rfl (lv_at hl 0 rfl) ?_
      obtain ⟨hq12, h⟩ := zk h
      refine z_getN hx hb hg zin_12 hown hK hM ha0 0 rfl (by decide) (hg _ zw_1000) (fun _ h9 => h9) hq12 dX12_diver_27 (fun h11 => ?_)
      refine lv_sipush (v := (1001 : Int32)) hx hb dX12_diver_30 (by decide +kernel) ?_
      obtain ⟨hq13, h⟩ := zk h
      refine z_iald hx hb hK hM h11 hq13 dX12_diver_33 ?_
      refine lv_bipush (v := (8 : Int32)) hx hb dX12_diver_34 (by decide +kernel) ?_
      refine lv_icmp_ne (tgt := 42) hx hb dX12_diver_36 (by decide) (fun hc14 => ?_) (fun hc14 => ?_)
      · have h := zf h hc14
        refine lv_aload_n hx hb dX12_diver_42 rfl (lv_at hl 0 rfl) ?_
        refine z_getN hx hb hg zin_12 hown hK hM ha0 0 rfl (by decide) (hg _ zw_1000) (fun _ h9 => h9) h11.ne dX12_diver_43 (fun h15 => ?_)
        refine lv_iconst (v := (2 : Int32)) hx hb dX12_diver_46 (by decide +kernel) ?_
        refine lv_aload_n hx hb dX12_diver_47 rfl (lv_at hl 0 rfl) ?_
        refine z_getN hx hb hg zin_12 hown hK hM ha0 0 rfl (by decide) (hg _ zw_1000) (fun _ h9 => h9) h15.ne dX12_diver_48 (fun h16 => ?_)
        refine lv_sipush (v := (1001 : Int32)) hx hb dX12_diver_51 (by decide +kernel) ?_
        obtain ⟨hq17, h⟩ := zk h
        refine z_iald hx hb hK hM h16 hq17 dX12_diver_54 ?_
        refine lv_imul hx hb dX12_diver_55 ?_
        refine lv_iload_n hx hb dX12_diver_56 rfl (lv_at hl 1 rfl) ?_
        obtain ⟨hq18, h⟩ := zk h
        refine z_iast hx hb hK hM hS h16 hq18 dX12_diver_57 (fun H locs hM hS => ?_)
        obtain ⟨S19, e20, h⟩ := zlg h
        rw [← e20] at hM
        have hX21 : zX S0 S19 := by rw [e20]; exact zX_pI
        have h22 := ha0.mo hX21
        have hX23 := hX0.tr hX21
        refine lv_aload_n hx hb dX12_diver_58 rfl (lv_at hl 0 rfl) ?_
        obtain ⟨hq25, h⟩ := zk h
        refine z_getN hx hb hg zin_12 hown hK hM h22 0 rfl (by decide) (hg _ zw_1000) (fun _ h9 => h9) hq25 dX12_diver_59 (fun h24 => ?_)
        refine lv_iconst (v := (2 : Int32)) hx hb dX12_diver_62 (by decide +kernel) ?_
        refine lv_aload_n hx hb dX12_diver_63 rfl (lv_at hl 0 rfl) ?_
        refine z_getN hx hb hg zin_12 hown hK hM h22 0 rfl (by decide) (hg _ zw_1000) (fun _ h9 => h9) h24.ne dX12_diver_64 (fun h26 => ?_)
        refine lv_sipush (v := (1001 : Int32)) hx hb dX12_diver_67 (by decide +kernel) ?_
        obtain ⟨hq27, h⟩ := zk h
        refine z_iald hx hb hK hM h26 hq27 dX12_diver_70 ?_
        refine lv_imul hx hb dX12_diver_71 ?_
        refine lv_iconst (v := (1 : Int32)) hx hb dX12_diver_72 (by decide +kernel) ?_
        refine lv_iadd hx hb dX12_diver_73 ?_
        refine lv_iload_n hx hb dX12_diver_74 rfl (lv_at hl 2 rfl) ?_
        obtain ⟨hq28, h⟩ := zk h
        refine z_iast hx hb hK hM hS h26 hq28 dX12_diver_75 (fun H locs hM hS => ?_)
        obtain ⟨S29, e30, h⟩ := zlg h
        rw [← e30] at hM
        have hX31 : zX S19 S29 := by rw [e30]; exact zX_pI
        have h32 := h22.mo hX31
        have hX33 := hX23.tr hX31
        refine lv_aload_n hx hb dX12_diver_76 rfl (lv_at hl 0 rfl) ?_
        obtain ⟨hq35, h⟩ := zk h
        refine z_getN hx hb hg zin_12 hown hK hM h32 0 rfl (by decide) (hg _ zw_1000) (fun _ h9 => h9) hq35 dX12_diver_77 (fun h34 => ?_)
        refine lv_sipush (v := (1001 : Int32)) hx hb dX12_diver_80 (by decide +kernel) ?_
        refine lv_dup2_11 hx hb dX12_diver_83 rfl rfl ?_
        obtain ⟨hq36, h⟩ := zk h
        refine z_iald hx hb hK hM h34 hq36 dX12_diver_84 ?_
        refine lv_iconst (v := (1 : Int32)) hx hb dX12_diver_85 (by decide +kernel) ?_
        refine lv_iadd hx hb dX12_diver_86 ?_
        obtain ⟨hq37, h⟩ := zk h
        refine z_iast hx hb hK hM hS h34 hq37 dX12_diver_87 (fun H locs hM hS => ?_)
        obtain ⟨S38, e39, h⟩ := zlg h
        rw [← e39] at hM
        have hX40 : zX S29 S38 := by rw [e39]; exact zX_pI
        have h41 := h32.mo hX40
        have hX42 := hX33.tr hX40
        refine lv_aload_n hx hb dX12_diver_88 rfl (lv_at hl 0 rfl) ?_
        obtain ⟨hq44, h⟩ := zk h
        refine z_getN hx hb hg zin_12 hown hK hM h41 0 rfl (by decide) (hg _ zw_1000) (fun _ h9 => h9) hq44 dX12_diver_89 (fun h43 => ?_)
        refine lv_sipush (v := (1001 : Int32)) hx hb dX12_diver_92 (by decide +kernel) ?_
        obtain ⟨hq45, h⟩ := zk h
        refine z_iald hx hb hK hM h43 hq45 dX12_diver_95 ?_
        refine lv_iconst (v := (1 : Int32)) hx hb dX12_diver_96 (by decide +kernel) ?_
        refine lv_isub hx hb dX12_diver_97 ?_
        exact z_iret hx hb hr hlk hM hX42 hS (zsp h) dX12_diver_98
      · have h := zt h hc14
        refine lv_bipush (v := (-2 : Int32)) hx hb dX12_diver_39 (by decide +kernel) ?_
        exact z_iret hx hb hr hlk hM hX0 hS (zsp h) dX12_diver_41
    · have h := zt h hc10
      refine lv_iconst (v := (-1 : Int32)) hx hb dX12_diver_24 (by decide +kernel) ?_
      exact z_iret hx hb hr hlk hM hX0 hS (zsp h) dX12_diver_25
def f_X12_judge (S0 : zM) (a0 : Nat) (v1 : Int32) (v2 : Int32) : Option (Int32 × zM) :=
  zLet (f_X12_isIn (Int32.toInt64 v1) (0 : Int64) (7 : Int64)) (fun r2 => if r2 = 0 then some (((-1 : Int32), S0)) else zLet (f_X12_isIn (Int32.toInt64 v2) (0 : Int64) (599 : Int64)) (fun r7 => if r7 = 0 then some (((-1 : Int32), S0)) else if (v2 - v2 / (10 : Int32) * (10 : Int32)) ≤ (5 : Int32) then zChk (¬ (zr S0 a0 0) = 0) (zChk (¬ ((1002 : Int32) < 0 ∨ zln S0 (zr S0 a0 0) ≤ ((1002 : Int32)).toNatClampNeg)) (if (zi S0 (zr S0 a0 0) (Int32.toNatClampNeg (1002 : Int32))) = (12 : Int32) then some (((-2 : Int32), S0)) else zChk (¬ ((1002 : Int32) < 0 ∨ zln S0 (zr S0 a0 0) ≤ ((1002 : Int32)).toNatClampNeg)) (zChk (¬ (((16 : Int32) + ((4 : Int32) * (zi S0 (zr S0 a0 0) (Int32.toNatClampNeg (1002 : Int32))))) < 0 ∨ zln S0 (zr S0 a0 0) ≤ (((16 : Int32) + ((4 : Int32) * (zi S0 (zr S0 a0 0) (Int32.toNatClampNeg (1002 : Int32)))))).toNatClampNeg)) (zLet (zpI S0 (zr S0 a0 0) (Int32.toNatClampNeg ((16 : Int32) + ((4 : Int32) * (zi S0 (zr S0 a0 0) (Int32.toNatClampNeg (1002 : Int32)))))) v1) (fun S20 => zChk (¬ (zr S20 a0 0) = 0) (zChk (¬ ((((16 : Int32) + ((4 : Int32) * (zi S0 (zr S0 a0 0) (Int32.toNatClampNeg (1002 : Int32))))) + (1 : Int32)) < 0 ∨ zln S20 (zr S20 a0 0) ≤ ((((16 : Int32) + ((4 : Int32) * (zi S0 (zr S0 a0 0) (Int32.toNatClampNeg (1002 : Int32))))) + (1 : Int32))).toNatClampNeg)) (zLet (zpI S20 (zr S20 a0 0) (Int32.toNatClampNeg (((16 : Int32) + ((4 : Int32) * (zi S0 (zr S0 a0 0) (Int32.toNatClampNeg (1002 : Int32))))) + (1 : Int32))) (v2 / (100 : Int32))) (fun S28 => zChk (¬ (zr S28 a0 0) = 0) (zChk (¬ ((((16 : Int32) + ((4 : Int32) * (zi S0 (zr S0 a0 0) (Int32.toNatClampNeg (1002 : Int32))))) + (2 : Int32)) < 0 ∨ zln S28 (zr S28 a0 0) ≤ ((((16 : Int32) + ((4 : Int32) * (zi S0 (zr S0 a0 0) (Int32.toNatClampNeg (1002 : Int32))))) + (2 : Int32))).toNatClampNeg)) (zLet (zpI S28 (zr S28 a0 0) (Int32.toNatClampNeg (((16 : Int32) + ((4 : Int32) * (zi S0 (zr S0 a0 0) (Int32.toNatClampNeg (1002 : Int32))))) + (2 : Int32))) ((v2 / (10 : Int32)) - (v2 / (10 : Int32)) / (10 : Int32) * (10 : Int32))) (fun S36 => zChk (¬ (zr S36 a0 0) = 0) (zChk (¬ ((((16 : Int32) + ((4 : Int32) * (zi S0 (zr S0 a0 0) (Int32.toNatClampNeg (1002 : Int32))))) + (3 : Int32)) < 0 ∨ zln S36 (zr S36 a0 0) ≤ ((((16 : Int32) + ((4 : Int32) * (zi S0 (zr S0 a0 0) (Int32.toNatClampNeg (1002 : Int32))))) + (3 : Int32))).toNatClampNeg)) (zLet (zpI S36 (zr S36 a0 0) (Int32.toNatClampNeg (((16 : Int32) + ((4 : Int32) * (zi S0 (zr S0 a0 0) (Int32.toNatClampNeg (1002 : Int32))))) + (3 : Int32))) (v2 - v2 / (10 : Int32) * (10 : Int32))) (fun S44 => zChk (¬ (zr S44 a0 0) = 0) (zChk (¬ ((1002 : Int32) < 0 ∨ zln S44 (zr S44 a0 0) ≤ ((1002 : Int32)).toNatClampNeg)) (zChk (¬ ((1002 : Int32) < 0 ∨ zln S44 (zr S44 a0 0) ≤ ((1002 : Int32)).toNatClampNeg)) (zLet (zpI S44 (zr S44 a0 0) (Int32.toNatClampNeg (1002 : Int32)) ((zi S44 (zr S44 a0 0) (Int32.toNatClampNeg (1002 : Int32))) + (1 : Int32))) (fun S53 => zChk (¬ (zr S53 a0 0) = 0) (zChk (¬ ((1002 : Int32) < 0 ∨ zln S53 (zr S53 a0 0) ≤ ((1002 : Int32)).toNatClampNeg)) (some ((((zi S53 (zr S53 a0 0) (Int32.toNatClampNeg (1002 : Int32))) - (1 : Int32)), S53)))))))))))))))))))))) else some (((-1 : Int32), S0))))
set_option maxHeartbeats 4000000 in
set_option maxRecDepth 100000 in
theorem c_X12_judge (l : Launch) (D : va_G) (cy : Nat → ClassId) (B : Nat) {S0 : zM} {a0 : Nat} {v1 : Int32} {v2 : Int32} {r : Int32} {S' : zM} (ha0 : zA S0 a0 12) (h : f_X12_judge S0 a0 v1 v2 = some (r, S')) : Met l yX12_judge (zws yX12_judge cX12_judge 4 ((some .int))) { frames := 1, cells := 0, slots := 0, locals := 25 } (zPc D cy B S0 [.ref (B + a0), .int v1, .int v2]) (zQi D cy B S0 r S') 0 0 (fun q => B < q) := by
  refine Met.ofW (cc := cX12_judge) (maxL := 4) (ret := ((some .int))) (by decide) rfl ?_
  intro p e s m args below meth c s₁ Bd hml hv
  obtain ⟨rfl, hC, hM⟩ := hv
  obtain ⟨hx, hb, hr, hg, hown, hlk⟩ := z_open Bd
  have hK := hC.1
  have hS : va_S (fun q => B < q) s.heap s.heap [] := va_S.rf
  have hX0 : zX S0 S0 := zX.rf
  refine z_entry (vs := [.ref (B + a0), .int v1, .int v2]) (Nat.le_of_ble_eq_true rfl) (fun ls hl => ?_)
  have hl : lv_has ls 4 [(0, .ref (B + a0)), (1, .int v1), (2, .int v2)] := hl
  unfold f_X12_judge at h
  refine lv_iload_n hx hb dX12_judge_0 rfl (lv_at hl 1 rfl) ?_
  refine lv_i2l hx hb dX12_judge_1 rfl ?_
  refine lv_lconst (v := (0 : Int64)) hx hb dX12_judge_2 (by decide +kernel) ?_
  refine lv_ldc2 (v := (7 : Int64)) hx hb hown (hg _ zw_1119) dX12_judge_3 ?_
  obtain ⟨r2, hr1, h⟩ := zlg h
  have hr1 := hr1.symm
  refine z_runi (va_runS (As := [.long (Int32.toInt64 v1), .long (0 : Int64), .long (7 : Int64)]) (rest := []) ⟨hx, hb, hml, hown, hg⟩ (c_X12_isIn l D cy B hr1) (z_cwS hg zw_1111 zw_1112 zw_13 zw_1113 zh_X12_isIn.2 ⟨(Nat.le_of_ble_eq_true rfl), (Nat.le_of_ble_eq_true rfl)⟩) (zPS hC hM) rfl rfl hl.1 rfl (lv_room (Nat.le_of_ble_eq_true rfl)) dX12_judge_6 ⟨(Nat.le_of_ble_eq_true rfl), (Nat.le_of_ble_eq_true rfl)⟩) hS (fun H locs hM hX3 hS => ?_)
  refine lv_if_eq (tgt := 32) hx hb dX12_judge_9 (by decide) (fun hc5 => ?_) (fun hc5 => ?_)
  · have h := zt h hc5
    refine lv_iconst (v := (-1 : Int32)) hx hb dX12_judge_32 (by decide +kernel) ?_
    exact z_iret hx hb hr hlk hM hX0 hS (zsp h) dX12_judge_33
  · have h := zf h hc5
    refine lv_iload_n hx hb dX12_judge_12 rfl (lv_at hl 2 rfl) ?_
    refine lv_i2l hx hb dX12_judge_13 rfl ?_
    refine lv_lconst (v := (0 : Int64)) hx hb dX12_judge_14 (by decide +kernel) ?_
    refine lv_ldc2 (v := (599 : Int64)) hx hb hown (hg _ zw_1120) dX12_judge_15 ?_
    obtain ⟨r7, hr6, h⟩ := zlg h
    have hr6 := hr6.symm
    refine z_runi (va_runS (As := [.long (Int32.toInt64 v2), .long (0 : Int64), .long (599 : Int64)]) (rest := []) ⟨hx, hb, hml, hown, hg⟩ (c_X12_isIn l D cy B hr6) (z_cwS hg zw_1111 zw_1112 zw_13 zw_1113 zh_X12_isIn.2 ⟨(Nat.le_of_ble_eq_true rfl), (Nat.le_of_ble_eq_true rfl)⟩) (zPS hC hM) rfl rfl hl.1 rfl (lv_room (Nat.le_of_ble_eq_true rfl)) dX12_judge_18 ⟨(Nat.le_of_ble_eq_true rfl), (Nat.le_of_ble_eq_true rfl)⟩) hS (fun H locs hM hX8 hS => ?_)
    refine lv_if_eq (tgt := 32) hx hb dX12_judge_21 (by decide) (fun hc10 => ?_) (fun hc10 => ?_)
    · have h := zt h hc10
      refine lv_iconst (v := (-1 : Int32)) hx hb dX12_judge_32 (by decide +kernel) ?_
      exact z_iret hx hb hr hlk hM hX0 hS (zsp h) dX12_judge_33
    · have h := zf h hc10
      refine lv_iload_n hx hb dX12_judge_24 rfl (lv_at hl 2 rfl) ?_
      refine lv_bipush (v := (10 : Int32)) hx hb dX12_judge_25 (by decide +kernel) ?_
      refine lv_irem hx hb dX12_judge_27 (by decide +kernel) ?_
      refine lv_iconst (v := (5 : Int32)) hx hb dX12_judge_28 (by decide +kernel) ?_
      refine lv_icmp_le (tgt := 34) hx hb dX12_judge_29 (by decide) (fun hc11 => ?_) (fun hc11 => ?_)
      · have h := zt h hc11
        refine lv_aload_n hx hb dX12_judge_34 rfl (lv_at hl 0 rfl) ?_
        obtain ⟨hq13, h⟩ := zk h
        refine z_getN hx hb hg zin_12 hown hK hM ha0 0 rfl (by decide) (hg _ zw_1000) (fun _ h9 => h9) hq13 dX12_judge_35 (fun h12 => ?_)
        refine lv_sipush (v := (1002 : Int32)) hx hb dX12_judge_38 (by decide +kernel) ?_
        obtain ⟨hq14, h⟩ := zk h
        refine z_iald hx hb hK hM h12 hq14 dX12_judge_41 ?_
        refine lv_bipush (v := (12 : Int32)) hx hb dX12_judge_42 (by decide +kernel) ?_
        refine lv_icmp_ne (tgt := 50) hx hb dX12_judge_44 (by decide) (fun hc15 => ?_) (fun hc15 => ?_)
        · have h := zf h hc15
          refine lv_bipush (v := (16 : Int32)) hx hb dX12_judge_50 (by decide +kernel) ?_
          refine lv_iconst (v := (4 : Int32)) hx hb dX12_judge_52 (by decide +kernel) ?_
          refine lv_aload_n hx hb dX12_judge_53 rfl (lv_at hl 0 rfl) ?_
          refine z_getN hx hb hg zin_12 hown hK hM ha0 0 rfl (by decide) (hg _ zw_1000) (fun _ h9 => h9) h12.ne dX12_judge_54 (fun h16 => ?_)
          refine lv_sipush (v := (1002 : Int32)) hx hb dX12_judge_57 (by decide +kernel) ?_
          obtain ⟨hq17, h⟩ := zk h
          refine z_iald hx hb hK hM h16 hq17 dX12_judge_60 ?_
          refine lv_imul hx hb dX12_judge_61 ?_
          refine lv_iadd hx hb dX12_judge_62 ?_
          refine lv_istore_n (i := 3) (lv' := [(3, .int ((16 : Int32) + ((4 : Int32) * (zi S0 (zr S0 a0 0) (Int32.toNatClampNeg (1002 : Int32)))))), (0, .ref (B + a0)), (1, .int v1), (2, .int v2)]) hx hb dX12_judge_63 rfl hl (by decide) rfl (fun ls hl => ?_)
          refine lv_aload_n hx hb dX12_judge_64 rfl (lv_at hl 1 rfl) ?_
          refine z_getN hx hb hg zin_12 hown hK hM ha0 0 rfl (by decide) (hg _ zw_1000) (fun _ h9 => h9) h16.ne dX12_judge_65 (fun h18 => ?_)
          refine lv_iload_n hx hb dX12_judge_68 rfl (lv_at hl 0 rfl) ?_
          refine lv_iload_n hx hb dX12_judge_69 rfl (lv_at hl 2 rfl) ?_
          obtain ⟨hq19, h⟩ := zk h
          refine z_iast hx hb hK hM hS h18 hq19 dX12_judge_70 (fun H locs hM hS => ?_)
          obtain ⟨S20, e21, h⟩ := zlg h
          rw [← e21] at hM
          have hX22 : zX S0 S20 := by rw [e21]; exact zX_pI
          have h23 := ha0.mo hX22
          have hX24 := hX0.tr hX22
          refine lv_aload_n hx hb dX12_judge_71 rfl (lv_at hl 1 rfl) ?_
          obtain ⟨hq26, h⟩ := zk h
          refine z_getN hx hb hg zin_12 hown hK hM h23 0 rfl (by decide) (hg _ zw_1000) (fun _ h9 => h9) hq26 dX12_judge_72 (fun h25 => ?_)
          refine lv_iload_n hx hb dX12_judge_75 rfl (lv_at hl 0 rfl) ?_
          refine lv_iconst (v := (1 : Int32)) hx hb dX12_judge_76 (by decide +kernel) ?_
          refine lv_iadd hx hb dX12_judge_77 ?_
          refine lv_iload_n hx hb dX12_judge_78 rfl (lv_at hl 3 rfl) ?_
          refine lv_bipush (v := (100 : Int32)) hx hb dX12_judge_79 (by decide +kernel) ?_
          refine lv_idiv hx hb dX12_judge_81 (by decide +kernel) ?_
          obtain ⟨hq27, h⟩ := zk h
          refine z_iast hx hb hK hM hS h25 hq27 dX12_judge_82 (fun H locs hM hS => ?_)
          obtain ⟨S28, e29, h⟩ := zlg h
          rw [← e29] at hM
          have hX30 : zX S20 S28 := by rw [e29]; exact zX_pI
          have h31 := h23.mo hX30
          have hX32 := hX24.tr hX30
          refine lv_aload_n hx hb dX12_judge_83 rfl (lv_at hl 1 rfl) ?_
          obtain ⟨hq34, h⟩ := zk h
          refine z_getN hx hb hg zin_12 hown hK hM h31 0 rfl (by decide) (hg _ zw_1000) (fun _ h9 => h9) hq34 dX12_judge_84 (fun h33 => ?_)
          refine lv_iload_n hx hb dX12_judge_87 rfl (lv_at hl 0 rfl) ?_
          refine lv_iconst (v := (2 : Int32)) hx hb dX12_judge_88 (by decide +kernel) ?_
          refine lv_iadd hx hb dX12_judge_89 ?_
          refine lv_iload_n hx hb dX12_judge_90 rfl (lv_at hl 3 rfl) ?_
          refine lv_bipush (v := (10 : Int32)) hx hb dX12_judge_91 (by decide +kernel) ?_
          refine lv_idiv hx hb dX12_judge_93 (by decide +kernel) ?_
          refine lv_bipush (v := (10 : Int32)) hx hb dX12_judge_94 (by decide +kernel) ?_
          refine lv_irem hx hb dX12_judge_96 (by decide +kernel) ?_
          obtain ⟨hq35, h⟩ := zk h
          refine z_iast hx hb hK hM hS h33 hq35 dX12_judge_97 (fun H locs hM hS => ?_)
          obtain ⟨S36, e37, h⟩ := zlg h
          rw [← e37] at hM
          have hX38 : zX S28 S36 := by rw [e37]; exact zX_pI
          have h39 := h31.mo hX38
          have hX40 := hX32.tr hX38
          refine lv_aload_n hx hb dX12_judge_98 rfl (lv_at hl 1 rfl) ?_
          obtain ⟨hq42, h⟩ := zk h
          refine z_getN hx hb hg zin_12 hown hK hM h39 0 rfl (by decide) (hg _ zw_1000) (fun _ h9 => h9) hq42 dX12_judge_99 (fun h41 => ?_)
          refine lv_iload_n hx hb dX12_judge_102 rfl (lv_at hl 0 rfl) ?_
          refine lv_iconst (v := (3 : Int32)) hx hb dX12_judge_103 (by decide +kernel) ?_
          refine lv_iadd hx hb dX12_judge_104 ?_
          refine lv_iload_n hx hb dX12_judge_105 rfl (lv_at hl 3 rfl) ?_
          refine lv_bipush (v := (10 : Int32)) hx hb dX12_judge_106 (by decide +kernel) ?_
          refine lv_irem hx hb dX12_judge_108 (by decide +kernel) ?_
          obtain ⟨hq43, h⟩ := zk h
          refine z_iast hx hb hK hM hS h41 hq43 dX12_judge_109 (fun H locs hM hS => ?_)
          obtain ⟨S44, e45, h⟩ := zlg h
          rw [← e45] at hM
          have hX46 : zX S36 S44 := by rw [e45]; exact zX_pI
          have h47 := h39.mo hX46
          have hX48 := hX40.tr hX46
          refine lv_aload_n hx hb dX12_judge_110 rfl (lv_at hl 1 rfl) ?_
          obtain ⟨hq50, h⟩ := zk h
          refine z_getN hx hb hg zin_12 hown hK hM h47 0 rfl (by decide) (hg _ zw_1000) (fun _ h9 => h9) hq50 dX12_judge_111 (fun h49 => ?_)
          refine lv_sipush (v := (1002 : Int32)) hx hb dX12_judge_114 (by decide +kernel) ?_
          refine lv_dup2_11 hx hb dX12_judge_117 rfl rfl ?_
          obtain ⟨hq51, h⟩ := zk h
          refine z_iald hx hb hK hM h49 hq51 dX12_judge_118 ?_
          refine lv_iconst (v := (1 : Int32)) hx hb dX12_judge_119 (by decide +kernel) ?_
          refine lv_iadd hx hb dX12_judge_120 ?_
          obtain ⟨hq52, h⟩ := zk h
          refine z_iast hx hb hK hM hS h49 hq52 dX12_judge_121 (fun H locs hM hS => ?_)
          obtain ⟨S53, e54, h⟩ := zlg h
          rw [← e54] at hM
          have hX55 : zX S44 S53 := by rw [e54]; exact zX_pI
          have h56 := h47.mo hX55
          have hX57 := hX48.tr hX55
          refine lv_aload_n hx hb dX12_judge_122 rfl (lv_at hl 1 rfl) ?_
          obtain ⟨hq59, h⟩ := zk h
          refine z_getN hx hb hg zin_12 hown hK hM h56 0 rfl (by decide) (hg _ zw_1000) (fun _ h9 => h9) hq59 dX12_judge_123 (fun h58 => ?_)
          refine lv_sipush (v := (1002 : Int32)) hx hb dX12_judge_126 (by decide +kernel) ?_
          obtain ⟨hq60, h⟩ := zk h
          refine z_iald hx hb hK hM h58 hq60 dX12_judge_129 ?_
          refine lv_iconst (v := (1 : Int32)) hx hb dX12_judge_130 (by decide +kernel) ?_
          refine lv_isub hx hb dX12_judge_131 ?_
          exact z_iret hx hb hr hlk hM hX57 hS (zsp h) dX12_judge_132
        · have h := zt h hc15
          refine lv_bipush (v := (-2 : Int32)) hx hb dX12_judge_47 (by decide +kernel) ?_
          exact z_iret hx hb hr hlk hM hX0 hS (zsp h) dX12_judge_49
      · have h := zf h hc11
        refine lv_iconst (v := (-1 : Int32)) hx hb dX12_judge_32 (by decide +kernel) ?_
        exact z_iret hx hb hr hlk hM hX0 hS (zsp h) dX12_judge_33
def f_X12_year (S0 : zM) (a0 : Nat) (v1 : Int32) (v2 : Int32) : Option (Int32 × zM) :=
  zB1 (f_X12_isHall v1) (fun r2 => if r2 = 0 then some (((-1 : Int32), S0)) else zLet (f_X12_isIn (Int32.toInt64 v2) (0 : Int64) (40 : Int64)) (fun r7 => if r7 = 0 then some (((-1 : Int32), S0)) else zB2 (f_X12_becomes S0 a0 ((64 : Int32) + v1) v2) (fun r12 S13 => some ((r12, S13)))))
set_option maxHeartbeats 4000000 in
set_option maxRecDepth 100000 in
theorem c_X12_year (l : Launch) (D : va_G) (cy : Nat → ClassId) (B : Nat) {S0 : zM} {a0 : Nat} {v1 : Int32} {v2 : Int32} {r : Int32} {S' : zM} (ha0 : zA S0 a0 12) (h : f_X12_year S0 a0 v1 v2 = some (r, S')) : Met l yX12_year (zws yX12_year cX12_year 3 ((some .int))) { frames := 2, cells := 0, slots := 0, locals := 45 } (zPc D cy B S0 [.ref (B + a0), .int v1, .int v2]) (zQi D cy B S0 r S') 0 0 (fun q => B < q) := by
  refine Met.ofW (cc := cX12_year) (maxL := 3) (ret := ((some .int))) (by decide) rfl ?_
  intro p e s m args below meth c s₁ Bd hml hv
  obtain ⟨rfl, hC, hM⟩ := hv
  obtain ⟨hx, hb, hr, hg, hown, hlk⟩ := z_open Bd
  have hK := hC.1
  have hS : va_S (fun q => B < q) s.heap s.heap [] := va_S.rf
  have hX0 : zX S0 S0 := zX.rf
  refine z_entry (vs := [.ref (B + a0), .int v1, .int v2]) (Nat.le_of_ble_eq_true rfl) (fun ls hl => ?_)
  have hl : lv_has ls 3 [(0, .ref (B + a0)), (1, .int v1), (2, .int v2)] := hl
  unfold f_X12_year at h
  refine lv_iload_n hx hb dX12_year_0 rfl (lv_at hl 1 rfl) ?_
  obtain ⟨r2, hr1, h⟩ := zb1 h
  refine z_runi (va_runS (As := [.int v1]) (rest := []) ⟨hx, hb, hml, hown, hg⟩ (c_X12_isHall l D cy B hr1) (z_cwS hg zw_1125 zw_1126 zw_13 zw_1127 zh_X12_isHall.2 ⟨(Nat.le_of_ble_eq_true rfl), (Nat.le_of_ble_eq_true rfl)⟩) (zPS hC hM) rfl rfl hl.1 rfl (lv_room (Nat.le_of_ble_eq_true rfl)) dX12_year_1 ⟨(Nat.le_of_ble_eq_true rfl), (Nat.le_of_ble_eq_true rfl)⟩) hS (fun H locs hM hX3 hS => ?_)
  refine lv_if_eq (tgt := 31) hx hb dX12_year_4 (by decide) (fun hc5 => ?_) (fun hc5 => ?_)
  · have h := zt h hc5
    refine lv_iconst (v := (-1 : Int32)) hx hb dX12_year_31 (by decide +kernel) ?_
    exact z_iret hx hb hr hlk hM hX0 hS (zsp h) dX12_year_32
  · have h := zf h hc5
    refine lv_iload_n hx hb dX12_year_7 rfl (lv_at hl 2 rfl) ?_
    refine lv_i2l hx hb dX12_year_8 rfl ?_
    refine lv_lconst (v := (0 : Int64)) hx hb dX12_year_9 (by decide +kernel) ?_
    refine lv_ldc2 (v := (40 : Int64)) hx hb hown (hg _ zw_1128) dX12_year_10 ?_
    obtain ⟨r7, hr6, h⟩ := zlg h
    have hr6 := hr6.symm
    refine z_runi (va_runS (As := [.long (Int32.toInt64 v2), .long (0 : Int64), .long (40 : Int64)]) (rest := []) ⟨hx, hb, hml, hown, hg⟩ (c_X12_isIn l D cy B hr6) (z_cwS hg zw_1111 zw_1112 zw_13 zw_1113 zh_X12_isIn.2 ⟨(Nat.le_of_ble_eq_true rfl), (Nat.le_of_ble_eq_true rfl)⟩) (zPS hC hM) rfl rfl hl.1 rfl (lv_room (Nat.le_of_ble_eq_true rfl)) dX12_year_13 ⟨(Nat.le_of_ble_eq_true rfl), (Nat.le_of_ble_eq_true rfl)⟩) hS (fun H locs hM hX8 hS => ?_)
    refine lv_if_eq (tgt := 31) hx hb dX12_year_16 (by decide) (fun hc10 => ?_) (fun hc10 => ?_)
    · have h := zt h hc10
      refine lv_iconst (v := (-1 : Int32)) hx hb dX12_year_31 (by decide +kernel) ?_
      exact z_iret hx hb hr hlk hM hX0 hS (zsp h) dX12_year_32
    · have h := zf h hc10
      refine lv_aload_n hx hb dX12_year_19 rfl (lv_at hl 0 rfl) ?_
      refine lv_bipush (v := (64 : Int32)) hx hb dX12_year_20 (by decide +kernel) ?_
      refine lv_iload_n hx hb dX12_year_22 rfl (lv_at hl 1 rfl) ?_
      refine lv_iadd hx hb dX12_year_23 ?_
      refine lv_iload_n hx hb dX12_year_24 rfl (lv_at hl 2 rfl) ?_
      obtain ⟨r12, S13, hr11, h⟩ := zb2 h
      refine z_runi (va_runV (As := [.int ((64 : Int32) + v1), .int v2]) (rest := []) ⟨hx, hb, hml, hown, hg⟩ (c_X12_becomes l D cy B ha0 hr11) (z_cwV hg zw_1129 zw_1130 zw_1482 zw_13 zw_1131 zh_X12_becomes ⟨(Nat.le_of_ble_eq_true rfl), (Nat.le_of_ble_eq_true rfl)⟩) (zPV hC hM ha0 (by decide) rfl) rfl rfl hl.1 rfl (lv_room (Nat.le_of_ble_eq_true rfl)) dX12_year_25 ⟨(Nat.le_of_ble_eq_true rfl), (Nat.le_of_ble_eq_true rfl)⟩) hS (fun H locs hM hX14 hS => ?_)
      have hX16 := hX0.tr hX14
      refine lv_goto (tgt := 32) hx hb dX12_year_28 (by decide) ?_
      exact z_iret hx hb hr hlk hM hX16 hS (zsp h) dX12_year_32
def f_X12_onChair (S0 : zM) (a0 : Nat) (v1 : Int32) (v2 : Int32) : Option (Int32) :=
  zChk (¬ (zr S0 a0 0) = 0) (zChk (¬ ((((70 : Int32) + ((7 : Int32) * v1)) + v2) < 0 ∨ zln S0 (zr S0 a0 0) ≤ ((((70 : Int32) + ((7 : Int32) * v1)) + v2)).toNatClampNeg)) (some ((zi S0 (zr S0 a0 0) (Int32.toNatClampNeg (((70 : Int32) + ((7 : Int32) * v1)) + v2))) - (1 : Int32))))
set_option maxHeartbeats 4000000 in
set_option maxRecDepth 100000 in
theorem c_X12_onChair (l : Launch) (D : va_G) (cy : Nat → ClassId) (B : Nat) {S0 : zM} {a0 : Nat} {v1 : Int32} {v2 : Int32} {r : Int32} (ha0 : zA S0 a0 12) (h : f_X12_onChair S0 a0 v1 v2 = some r) : Met l yX12_onChair (zws yX12_onChair cX12_onChair 3 ((some .int))) { frames := 0, cells := 0, slots := 0, locals := 0 } (zPc D cy B S0 [.ref (B + a0), .int v1, .int v2]) (zQi D cy B S0 r S0) 0 0 (fun q => B < q) := by
  refine Met.ofW (cc := cX12_onChair) (maxL := 3) (ret := ((some .int))) (by decide) rfl ?_
  intro p e s m args below meth c s₁ Bd hml hv
  obtain ⟨rfl, hC, hM⟩ := hv
  obtain ⟨hx, hb, hr, hg, hown, hlk⟩ := z_open Bd
  have hK := hC.1
  have hS : va_S (fun q => B < q) s.heap s.heap [] := va_S.rf
  have hX0 : zX S0 S0 := zX.rf
  refine z_entry (vs := [.ref (B + a0), .int v1, .int v2]) (Nat.le_of_ble_eq_true rfl) (fun ls hl => ?_)
  have hl : lv_has ls 3 [(0, .ref (B + a0)), (1, .int v1), (2, .int v2)] := hl
  unfold f_X12_onChair at h
  refine lv_aload_n hx hb dX12_onChair_0 rfl (lv_at hl 0 rfl) ?_
  obtain ⟨hq2, h⟩ := zk h
  refine z_getN hx hb hg zin_12 hown hK hM ha0 0 rfl (by decide) (hg _ zw_1000) (fun _ h9 => h9) hq2 dX12_onChair_1 (fun h1 => ?_)
  refine lv_bipush (v := (70 : Int32)) hx hb dX12_onChair_4 (by decide +kernel) ?_
  refine lv_bipush (v := (7 : Int32)) hx hb dX12_onChair_6 (by decide +kernel) ?_
  refine lv_iload_n hx hb dX12_onChair_8 rfl (lv_at hl 1 rfl) ?_
  refine lv_imul hx hb dX12_onChair_9 ?_
  refine lv_iadd hx hb dX12_onChair_10 ?_
  refine lv_iload_n hx hb dX12_onChair_11 rfl (lv_at hl 2 rfl) ?_
  refine lv_iadd hx hb dX12_onChair_12 ?_
  obtain ⟨hq3, h⟩ := zk h
  refine z_iald hx hb hK hM h1 hq3 dX12_onChair_13 ?_
  refine lv_iconst (v := (1 : Int32)) hx hb dX12_onChair_14 (by decide +kernel) ?_
  refine lv_isub hx hb dX12_onChair_15 ?_
  exact z_iret hx hb hr hlk hM hX0 hS ⟨zsm h, rfl⟩ dX12_onChair_16
