def f_X7_init (n : Nat) (S0 : zM) (a0 : Nat) : Option (zM) :=
  zLet (znw S0 6 0) (fun S1 => zB1 (f_X6_init n S1 (zsz S0)) (fun S8 => zLet (zpR S8 a0 0 (zsz S0)) (fun S14 => zLet (znw S14 20 0) (fun S19 => zLet (zpR S19 a0 1 (zsz S14)) (fun S25 => some S25)))))
set_option maxHeartbeats 4000000 in
set_option maxRecDepth 100000 in
theorem c_X7_init (l : Launch) (D : va_G) (cy : Nat → ClassId) (B : Nat) {n : Nat} {S0 : zM} {a0 : Nat} {S' : zM} (ha0 : zA S0 a0 7) (h : f_X7_init n S0 a0 = some S') : Met l yX7_init (zws yX7_init cX7_init 1 none) { frames := 2, cells := 5, slots := 252, locals := 42 } (zPc D cy B S0 [.ref (B + a0)]) (zQv D cy B S0 S') 5 252 (fun q => B < q) := by
  refine Met.ofW (cc := cX7_init) (maxL := 1) (ret := none) (by decide) rfl ?_
  intro p e s m args below meth c s₁ Bd hml hv
  obtain ⟨rfl, hC, hM⟩ := hv
  obtain ⟨hx, hb, hr, hg, hown, hlk⟩ := z_open Bd
  have hK := hC.1
  have hin : meth.name = "<init>" := (name_of_methodNamed Bd.named Bd.method).1
  have hS : va_S (fun q => B < q) s.heap s.heap [] := va_S.rf
  have hX0 : zX S0 S0 := zX.rf
  refine z_entry (vs := [.ref (B + a0)]) (Nat.le_of_ble_eq_true rfl) (fun ls hl => ?_)
  have hl : lv_has ls 1 [(0, .ref (B + a0))] := hl
  unfold f_X7_init at h
  refine lv_aload_n hx hb dX7_init_0 rfl (lv_at hl 0 rfl) ?_
  refine W.objInit hx hb hown (hg _ zw_167) (hg _ zw_29) (hg _ zw_30) rfl (by rw [hml]; exact hl.1) rfl dX7_init_1 (Nat.le_of_ble_eq_true rfl) (Nat.le_of_ble_eq_true rfl) ?_
  refine W.eq (g2 := F0 m 4 ls []) rfl ?_
  refine lv_aload_n hx hb dX7_init_4 rfl (lv_at hl 0 rfl) ?_
  refine z_new hx hb hg zin_6 tyX6 tyX6_ok hown (hg _ zw_168) (hg _ zw_38) (hg _ zw_4) hK hM hS 6 rfl (by decide) zdf_6 (Nat.le_of_ble_eq_true rfl) (Nat.le_of_ble_eq_true rfl) dX7_init_5 (fun H hM hA hX hS => ?_)
  obtain ⟨S1, e2, h⟩ := zlg h
  rw [← e2] at hM hA hX
  have hX3 := hX
  have h4 := hA
  have h5 := ha0.mo hX3
  have hX6 := hX0.tr hX3
  refine W.widen (k := 1) (n := 6) (Nat.le_refl _) (Nat.le_refl _) ?_
  refine lv_dup hx hb dX7_init_8 rfl ?_
  obtain ⟨S8, hr7, h⟩ := zb1 h
  refine z_runv (va_runI (As := []) (rest := [.ref (B + (zsz S0)), .ref (B + a0)]) ⟨hx, hb, hml, hown, hg⟩ (c_X6_init l D cy B h4 hr7) (z_cwI hg zw_169 zw_40 zw_4 zw_41 rfl zh_X6_init.2 ⟨(Nat.le_of_ble_eq_true rfl), (Nat.le_of_ble_eq_true rfl)⟩) (zPS hC hM) rfl rfl hl.1 rfl (lv_room (Nat.le_of_ble_eq_true rfl)) dX7_init_9 ⟨(Nat.le_of_ble_eq_true rfl), (Nat.le_of_ble_eq_true rfl)⟩) hS (fun H locs hM hX9 hS => ?_)
  refine W.widen (k := 4) (n := 252) (Nat.le_refl _) (Nat.le_refl _) ?_
  have h11 := h5.mo hX9
  have h12 := h4.mo hX9
  have hX13 := hX6.tr hX9
  refine z_putR (r := (zsz S0)) hx hb hg zin_7 tyX7 tyX7_ok nmX7 hown hK hM hS h11 0 rfl (by decide) (hg _ zw_170) (fun _ h9 => h9) (Or.inr ⟨rfl, hin, rfl⟩) (zv_ref h12.1).symm (tyX7_ok 0 (by decide)) (Or.inl ⟨_, rfl⟩) (h12.q) dX7_init_12 (fun H locs hM hS => ?_)
  obtain ⟨S14, e15, h⟩ := zlg h
  rw [← e15] at hM
  have hX16 : zX S8 S14 := by rw [e15]; exact zX_pR
  have h17 := h11.mo hX16
  have hX18 := hX13.tr hX16
  refine lv_aload_n hx hb dX7_init_15 rfl (lv_at hl 0 rfl) ?_
  refine lv_iconst (v := (0 : Int32)) hx hb dX7_init_16 (by decide +kernel) ?_
  refine z_newa (atype := .int) hx hb (hg _ zw_66) hK hM hS 20 (by decide) rfl (N := 0) (by decide +kernel) (by decide +kernel) (by decide +kernel) (Nat.le_of_ble_eq_true rfl) (Nat.le_of_ble_eq_true rfl) dX7_init_17 (fun H hM hA hX hS => ?_)
  obtain ⟨S19, e20, h⟩ := zlg h
  rw [← e20] at hM hA hX
  have hX21 := hX
  have h22 := hA
  have h23 := h17.mo hX21
  have hX24 := hX18.tr hX21
  refine W.widen (k := 5) (n := 252) (Nat.le_refl _) (Nat.le_refl _) ?_
  refine z_putR (r := (zsz S14)) hx hb hg zin_7 tyX7 tyX7_ok nmX7 hown hK hM hS h23 1 rfl (by decide) (hg _ zw_172) (fun _ h9 => h9) (Or.inl rfl) (zv_ref h22.1).symm (tyX7_ok 1 (by decide)) (Or.inr ⟨_, rfl⟩) (h22.q) dX7_init_19 (fun H locs hM hS => ?_)
  obtain ⟨S25, e26, h⟩ := zlg h
  rw [← e26] at hM
  have hX27 : zX S19 S25 := by rw [e26]; exact zX_pR
  have hX28 := hX24.tr hX27
  refine W.widen (k := 5) (n := 252) (by omega) (by omega) ?_
  exact z_vret hx hb hr hlk hM hX28 hS (zsm h) dX7_init_22
def f_X7_next (S0 : zM) (a0 : Nat) : Option (Int32) :=
  if (zi S0 a0 2) ≤ (zi S0 a0 3) then some (1000 : Int32) else zChk (¬ (zr S0 a0 1) = 0) (zChk (¬ ((zi S0 a0 3) < 0 ∨ zln S0 (zr S0 a0 1) ≤ ((zi S0 a0 3)).toNatClampNeg)) (some (zi S0 (zr S0 a0 1) (Int32.toNatClampNeg (zi S0 a0 3)))))
set_option maxHeartbeats 4000000 in
set_option maxRecDepth 100000 in
theorem c_X7_next (l : Launch) (D : va_G) (cy : Nat → ClassId) (B : Nat) {S0 : zM} {a0 : Nat} {r : Int32} (ha0 : zA S0 a0 7) (h : f_X7_next S0 a0 = some r) : Met l yX7_next (zws yX7_next cX7_next 1 ((some .int))) { frames := 0, cells := 0, slots := 0, locals := 0 } (zPc D cy B S0 [.ref (B + a0)]) (zQi D cy B S0 r S0) 0 0 (fun q => B < q) := by
  refine Met.ofW (cc := cX7_next) (maxL := 1) (ret := ((some .int))) (by decide) rfl ?_
  intro p e s m args below meth c s₁ Bd hml hv
  obtain ⟨rfl, hC, hM⟩ := hv
  obtain ⟨hx, hb, hr, hg, hown, hlk⟩ := z_open Bd
  have hK := hC.1
  have hS : va_S (fun q => B < q) s.heap s.heap [] := va_S.rf
  have hX0 : zX S0 S0 := zX.rf
  refine z_entry (vs := [.ref (B + a0)]) (Nat.le_of_ble_eq_true rfl) (fun ls hl => ?_)
  have hl : lv_has ls 1 [(0, .ref (B + a0))] := hl
  unfold f_X7_next at h
  refine lv_aload_n hx hb dX7_next_0 rfl (lv_at hl 0 rfl) ?_
  refine z_getI hx hb hg zin_7 hown hK hM ha0 3 rfl (by decide) (hg _ zw_174) (fun _ h9 => h9) dX7_next_1 ?_
  refine lv_aload_n hx hb dX7_next_4 rfl (lv_at hl 0 rfl) ?_
  refine z_getI hx hb hg zin_7 hown hK hM ha0 2 rfl (by decide) (hg _ zw_173) (fun _ h9 => h9) dX7_next_5 ?_
  refine lv_icmp_ge (tgt := 23) hx hb dX7_next_8 (by decide) (fun hc1 => ?_) (fun hc1 => ?_)
  · have h := zt h hc1
    refine lv_sipush (v := (1000 : Int32)) hx hb dX7_next_23 (by decide +kernel) ?_
    exact z_iret hx hb hr hlk hM hX0 hS ⟨zsm h, rfl⟩ dX7_next_26
  · have h := zf h hc1
    refine lv_aload_n hx hb dX7_next_11 rfl (lv_at hl 0 rfl) ?_
    obtain ⟨hq3, h⟩ := zk h
    refine z_getN hx hb hg zin_7 hown hK hM ha0 1 rfl (by decide) (hg _ zw_172) (fun _ h9 => h9) hq3 dX7_next_12 (fun h2 => ?_)
    refine lv_aload_n hx hb dX7_next_15 rfl (lv_at hl 0 rfl) ?_
    refine z_getI hx hb hg zin_7 hown hK hM ha0 3 rfl (by decide) (hg _ zw_174) (fun _ h9 => h9) dX7_next_16 ?_
    obtain ⟨hq4, h⟩ := zk h
    refine z_iald hx hb hK hM h2 hq4 dX7_next_19 ?_
    refine lv_goto (tgt := 26) hx hb dX7_next_20 (by decide) ?_
    exact z_iret hx hb hr hlk hM hX0 hS ⟨zsm h, rfl⟩ dX7_next_26
def f_X7_isAtDigit (S0 : zM) (a0 : Nat) : Option (Int32) :=
  if (zi S0 a0 4) = 0 then if (zi S0 a0 2) ≤ (zi S0 a0 3) then some (0 : Int32) else zChk (¬ (zr S0 a0 1) = 0) (zChk (¬ ((zi S0 a0 3) < 0 ∨ zln S0 (zr S0 a0 1) ≤ ((zi S0 a0 3)).toNatClampNeg)) (if (zi S0 (zr S0 a0 1) (Int32.toNatClampNeg (zi S0 a0 3))) < (48 : Int32) then some (0 : Int32) else zChk (¬ ((zi S0 a0 3) < 0 ∨ zln S0 (zr S0 a0 1) ≤ ((zi S0 a0 3)).toNatClampNeg)) (if (57 : Int32) < (zi S0 (zr S0 a0 1) (Int32.toNatClampNeg (zi S0 a0 3))) then some (0 : Int32) else some (1 : Int32)))) else some (0 : Int32)
set_option maxHeartbeats 4000000 in
set_option maxRecDepth 100000 in
theorem c_X7_isAtDigit (l : Launch) (D : va_G) (cy : Nat → ClassId) (B : Nat) {S0 : zM} {a0 : Nat} {r : Int32} (ha0 : zA S0 a0 7) (h : f_X7_isAtDigit S0 a0 = some r) : Met l yX7_isAtDigit (zws yX7_isAtDigit cX7_isAtDigit 1 ((some .boolean))) { frames := 0, cells := 0, slots := 0, locals := 0 } (zPc D cy B S0 [.ref (B + a0)]) (zQi D cy B S0 r S0) 0 0 (fun q => B < q) := by
  refine Met.ofW (cc := cX7_isAtDigit) (maxL := 1) (ret := ((some .boolean))) (by decide) rfl ?_
  intro p e s m args below meth c s₁ Bd hml hv
  obtain ⟨rfl, hC, hM⟩ := hv
  obtain ⟨hx, hb, hr, hg, hown, hlk⟩ := z_open Bd
  have hK := hC.1
  have hS : va_S (fun q => B < q) s.heap s.heap [] := va_S.rf
  have hX0 : zX S0 S0 := zX.rf
  refine z_entry (vs := [.ref (B + a0)]) (Nat.le_of_ble_eq_true rfl) (fun ls hl => ?_)
  have hl : lv_has ls 1 [(0, .ref (B + a0))] := hl
  unfold f_X7_isAtDigit at h
  refine lv_aload_n hx hb dX7_isAtDigit_0 rfl (lv_at hl 0 rfl) ?_
  refine z_getI hx hb hg zin_7 hown hK hM ha0 4 rfl (by decide) (hg _ zw_175) (fun _ h9 => h9) dX7_isAtDigit_1 ?_
  refine lv_if_ne (tgt := 50) hx hb dX7_isAtDigit_4 (by decide) (fun hc1 => ?_) (fun hc1 => ?_)
  · have h := zf h hc1
    refine lv_iconst (v := (0 : Int32)) hx hb dX7_isAtDigit_50 (by decide +kernel) ?_
    exact z_zret (by decide +kernel) hx hb hr hlk hM hX0 hS ⟨zsm h, rfl⟩ dX7_isAtDigit_51
  · have h := zt h hc1
    refine lv_aload_n hx hb dX7_isAtDigit_7 rfl (lv_at hl 0 rfl) ?_
    refine z_getI hx hb hg zin_7 hown hK hM ha0 3 rfl (by decide) (hg _ zw_174) (fun _ h9 => h9) dX7_isAtDigit_8 ?_
    refine lv_aload_n hx hb dX7_isAtDigit_11 rfl (lv_at hl 0 rfl) ?_
    refine z_getI hx hb hg zin_7 hown hK hM ha0 2 rfl (by decide) (hg _ zw_173) (fun _ h9 => h9) dX7_isAtDigit_12 ?_
    refine lv_icmp_ge (tgt := 50) hx hb dX7_isAtDigit_15 (by decide) (fun hc2 => ?_) (fun hc2 => ?_)
    · have h := zt h hc2
      refine lv_iconst (v := (0 : Int32)) hx hb dX7_isAtDigit_50 (by decide +kernel) ?_
      exact z_zret (by decide +kernel) hx hb hr hlk hM hX0 hS ⟨zsm h, rfl⟩ dX7_isAtDigit_51
    · have h := zf h hc2
      refine lv_aload_n hx hb dX7_isAtDigit_18 rfl (lv_at hl 0 rfl) ?_
      obtain ⟨hq4, h⟩ := zk h
      refine z_getN hx hb hg zin_7 hown hK hM ha0 1 rfl (by decide) (hg _ zw_172) (fun _ h9 => h9) hq4 dX7_isAtDigit_19 (fun h3 => ?_)
      refine lv_aload_n hx hb dX7_isAtDigit_22 rfl (lv_at hl 0 rfl) ?_
      refine z_getI hx hb hg zin_7 hown hK hM ha0 3 rfl (by decide) (hg _ zw_174) (fun _ h9 => h9) dX7_isAtDigit_23 ?_
      obtain ⟨hq5, h⟩ := zk h
      refine z_iald hx hb hK hM h3 hq5 dX7_isAtDigit_26 ?_
      refine lv_bipush (v := (48 : Int32)) hx hb dX7_isAtDigit_27 (by decide +kernel) ?_
      refine lv_icmp_lt (tgt := 50) hx hb dX7_isAtDigit_29 (by decide) (fun hc6 => ?_) (fun hc6 => ?_)
      · have h := zt h hc6
        refine lv_iconst (v := (0 : Int32)) hx hb dX7_isAtDigit_50 (by decide +kernel) ?_
        exact z_zret (by decide +kernel) hx hb hr hlk hM hX0 hS ⟨zsm h, rfl⟩ dX7_isAtDigit_51
      · have h := zf h hc6
        refine lv_aload_n hx hb dX7_isAtDigit_32 rfl (lv_at hl 0 rfl) ?_
        refine z_getN hx hb hg zin_7 hown hK hM ha0 1 rfl (by decide) (hg _ zw_172) (fun _ h9 => h9) h3.ne dX7_isAtDigit_33 (fun h7 => ?_)
        refine lv_aload_n hx hb dX7_isAtDigit_36 rfl (lv_at hl 0 rfl) ?_
        refine z_getI hx hb hg zin_7 hown hK hM ha0 3 rfl (by decide) (hg _ zw_174) (fun _ h9 => h9) dX7_isAtDigit_37 ?_
        obtain ⟨hq8, h⟩ := zk h
        refine z_iald hx hb hK hM h7 hq8 dX7_isAtDigit_40 ?_
        refine lv_bipush (v := (57 : Int32)) hx hb dX7_isAtDigit_41 (by decide +kernel) ?_
        refine lv_icmp_gt (tgt := 50) hx hb dX7_isAtDigit_43 (by decide) (fun hc9 => ?_) (fun hc9 => ?_)
        · have h := zt h hc9
          refine lv_iconst (v := (0 : Int32)) hx hb dX7_isAtDigit_50 (by decide +kernel) ?_
          exact z_zret (by decide +kernel) hx hb hr hlk hM hX0 hS ⟨zsm h, rfl⟩ dX7_isAtDigit_51
        · have h := zf h hc9
          refine lv_iconst (v := (1 : Int32)) hx hb dX7_isAtDigit_46 (by decide +kernel) ?_
          refine lv_goto (tgt := 51) hx hb dX7_isAtDigit_47 (by decide) ?_
          exact z_zret (by decide +kernel) hx hb hr hlk hM hX0 hS ⟨zsm h, rfl⟩ dX7_isAtDigit_51
def f_X7_readNumber_L4b (a0 : Nat) (K6 : Int32 → Int32 → zM → Option (Int32 × zM)) (rec4 : Int32 → Int32 → zM → Option (Int32 × zM)) (x22 : Int32) (x23 : Int32) (S24 : zM) : Option (Int32 × zM) :=
  if (3 : Int32) ≤ x23 then K6 x22 x23 S24 else zLet (zB1 (f_X7_isAtDigit S24 a0) (fun r31 => if r31 = 0 then K6 x22 x23 S24 else zChk (¬ (zr S24 a0 1) = 0) (zChk (¬ ((zi S24 a0 3) < 0 ∨ zln S24 (zr S24 a0 1) ≤ ((zi S24 a0 3)).toNatClampNeg)) (zLet (zpI S24 a0 3 ((zi S24 a0 3) + (1 : Int32))) (fun S38 => rec4 ((((10 : Int32) * x22) + (zi S24 (zr S24 a0 1) (Int32.toNatClampNeg (zi S24 a0 3)))) - (48 : Int32)) (x23 + (1 : Int32)) S38))))) (fun K29 => if x23 = 0 then K29 else if x22 ≤ 0 then K6 x22 x23 S24 else K29)
def f_X7_readNumber_L4 (a0 : Nat) (K6 : Int32 → Int32 → zM → Option (Int32 × zM)) : Nat → Int32 → Int32 → zM → Option (Int32 × zM)
  | 0 => fun _ _ _ => none
  | k + 1 => fun x22 x23 S24 => f_X7_readNumber_L4b a0 K6 (f_X7_readNumber_L4 a0 K6 k) x22 x23 S24
def f_X7_readNumber (n : Nat) (S0 : zM) (a0 : Nat) : Option (Int32 × zM) :=
  zLet (fun (x2 : Int32) (x3 : Int32) (S4 : zM) => if (zi S4 a0 4) = 0 then if x3 = 0 then zLet (zpI S4 a0 4 (1 : Int32)) (fun S17 => some ((x2, S17))) else zLet (zpI S4 a0 4 (0 : Int32)) (fun S13 => some ((x2, S13))) else zLet (zpI S4 a0 4 (1 : Int32)) (fun S8 => some ((x2, S8)))) (fun K6 => f_X7_readNumber_L4 a0 K6 n (0 : Int32) (0 : Int32) S0)
set_option maxHeartbeats 4000000 in
set_option maxRecDepth 100000 in
theorem c_X7_readNumber (l : Launch) (D : va_G) (cy : Nat → ClassId) (B : Nat) {n : Nat} {S0 : zM} {a0 : Nat} {r : Int32} {S' : zM} (ha0 : zA S0 a0 7) (h : f_X7_readNumber n S0 a0 = some (r, S')) : Met l yX7_readNumber (zws yX7_readNumber cX7_readNumber 3 ((some .int))) { frames := 1, cells := 0, slots := 0, locals := 20 } (zPc D cy B S0 [.ref (B + a0)]) (zQi D cy B S0 r S') 0 0 (fun q => B < q) := by
  refine Met.ofW (cc := cX7_readNumber) (maxL := 3) (ret := ((some .int))) (by decide) rfl ?_
  intro p e s m args below meth c s₁ Bd hml hv
  obtain ⟨rfl, hC, hM⟩ := hv
  obtain ⟨hx, hb, hr, hg, hown, hlk⟩ := z_open Bd
  have hK := hC.1
  have hS : va_S (fun q => B < q) s.heap s.heap [] := va_S.rf
  have hX0 : zX S0 S0 := zX.rf
  refine z_entry (vs := [.ref (B + a0)]) (Nat.le_of_ble_eq_true rfl) (fun ls hl => ?_)
  have hl : lv_has ls 3 [(0, .ref (B + a0))] := hl
  unfold f_X7_readNumber at h
  refine lv_iconst (v := (0 : Int32)) hx hb dX7_readNumber_0 (by decide +kernel) ?_
  refine lv_istore_n (i := 1) (lv' := [(1, .int (0 : Int32)), (0, .ref (B + a0))]) hx hb dX7_readNumber_1 rfl hl (by decide) rfl (fun ls hl => ?_)
  refine lv_iconst (v := (0 : Int32)) hx hb dX7_readNumber_2 (by decide +kernel) ?_
  refine lv_istore_n (i := 2) (lv' := [(2, .int (0 : Int32)), (1, .int (0 : Int32)), (0, .ref (B + a0))]) hx hb dX7_readNumber_3 rfl hl (by decide) rfl (fun ls hl => ?_)
  obtain ⟨K6, eK6, h⟩ := zlg h
  have hK6 : ∀ (x2 : Int32) (x3 : Int32) (S4 : zM) (H : Heap) (locs : List Loc), zMR D cy B S4 H → zX S0 S4 → va_S (fun q => B < q) s.heap H locs → zA S4 a0 7 → ∀ ls : Array Slot, lv_has ls 3 [(0, .ref (B + a0)), (1, .int x2), (2, .int x3)] → K6 x2 x3 S4 = some (r, S') → W p l e (headSpec (zws yX7_readNumber cX7_readNumber 3 ((some .int))) { frames := 1, cells := 0, slots := 0, locals := 20 }).room s m (([.ref (B + a0)] : List Value).toArray) below meth c H locs 0 0 (MQ below (zQi D cy B S0 r S') (([.ref (B + a0)] : List Value).toArray) s 0 0 (fun q => B < q)) (F0 m 58 ls []) := by
    intro x2 x3 S4 H locs hM hX5 hS h1 ls hl h
    rw [eK6] at h
    refine lv_aload_n hx hb dX7_readNumber_58 rfl (lv_at hl 0 rfl) ?_
    refine lv_aload_n hx hb dX7_readNumber_59 rfl (lv_at hl 0 rfl) ?_
    refine z_getI hx hb hg zin_7 hown hK hM h1 4 rfl (by decide) (hg _ zw_175) (fun _ h9 => h9) dX7_readNumber_60 ?_
    refine lv_if_ne (tgt := 70) hx hb dX7_readNumber_63 (by decide) (fun hc7 => ?_) (fun hc7 => ?_)
    · have h := zf h hc7
      refine lv_iconst (v := (1 : Int32)) hx hb dX7_readNumber_70 (by decide +kernel) ?_
      refine lv_goto (tgt := 75) hx hb dX7_readNumber_71 (by decide) ?_
      refine z_putI hx hb hg zin_7 tyX7 tyX7_ok nmX7 hown hK hM hS h1 4 rfl (by decide) (hg _ zw_175) (fun _ h9 => h9) (Or.inl rfl) (tyX7_ok 4 (by decide)) (by decide +kernel) (by decide +kernel) dX7_readNumber_75 (fun H locs hM hS => ?_)
      obtain ⟨S8, e9, h⟩ := zlg h
      rw [← e9] at hM
      have hX10 : zX S4 S8 := by rw [e9]; exact zX_pI
      have hX11 := hX5.tr hX10
      refine lv_iload_n hx hb dX7_readNumber_78 rfl (lv_at hl 1 rfl) ?_
      exact z_iret hx hb hr hlk hM hX11 hS (zsp h) dX7_readNumber_79
    · have h := zt h hc7
      refine lv_iload_n hx hb dX7_readNumber_66 rfl (lv_at hl 2 rfl) ?_
      refine lv_if_ne (tgt := 74) hx hb dX7_readNumber_67 (by decide) (fun hc12 => ?_) (fun hc12 => ?_)
      · have h := zf h hc12
        refine lv_iconst (v := (0 : Int32)) hx hb dX7_readNumber_74 (by decide +kernel) ?_
        refine z_putI hx hb hg zin_7 tyX7 tyX7_ok nmX7 hown hK hM hS h1 4 rfl (by decide) (hg _ zw_175) (fun _ h9 => h9) (Or.inl rfl) (tyX7_ok 4 (by decide)) (by decide +kernel) (by decide +kernel) dX7_readNumber_75 (fun H locs hM hS => ?_)
        obtain ⟨S13, e14, h⟩ := zlg h
        rw [← e14] at hM
        have hX15 : zX S4 S13 := by rw [e14]; exact zX_pI
        have hX16 := hX5.tr hX15
        refine lv_iload_n hx hb dX7_readNumber_78 rfl (lv_at hl 1 rfl) ?_
        exact z_iret hx hb hr hlk hM hX16 hS (zsp h) dX7_readNumber_79
      · have h := zt h hc12
        refine lv_iconst (v := (1 : Int32)) hx hb dX7_readNumber_70 (by decide +kernel) ?_
        refine lv_goto (tgt := 75) hx hb dX7_readNumber_71 (by decide) ?_
        refine z_putI hx hb hg zin_7 tyX7 tyX7_ok nmX7 hown hK hM hS h1 4 rfl (by decide) (hg _ zw_175) (fun _ h9 => h9) (Or.inl rfl) (tyX7_ok 4 (by decide)) (by decide +kernel) (by decide +kernel) dX7_readNumber_75 (fun H locs hM hS => ?_)
        obtain ⟨S17, e18, h⟩ := zlg h
        rw [← e18] at hM
        have hX19 : zX S4 S17 := by rw [e18]; exact zX_pI
        have hX20 := hX5.tr hX19
        refine lv_iload_n hx hb dX7_readNumber_78 rfl (lv_at hl 1 rfl) ?_
        exact z_iret hx hb hr hlk hM hX20 hS (zsp h) dX7_readNumber_79
  have hL4 : ∀ (k : Nat) (x22 : Int32) (x23 : Int32) (S24 : zM) (H : Heap) (locs : List Loc), zMR D cy B S24 H → zX S0 S24 → va_S (fun q => B < q) s.heap H locs → zA S24 a0 7 → ∀ ls : Array Slot, lv_has ls 3 [(0, .ref (B + a0)), (1, .int x22), (2, .int x23)] → f_X7_readNumber_L4 a0 K6 k x22 x23 S24 = some (r, S') → W p l e (headSpec (zws yX7_readNumber cX7_readNumber 3 ((some .int))) { frames := 1, cells := 0, slots := 0, locals := 20 }).room s m (([.ref (B + a0)] : List Value).toArray) below meth c H locs 0 0 (MQ below (zQi D cy B S0 r S') (([.ref (B + a0)] : List Value).toArray) s 0 0 (fun q => B < q)) (F0 m 4 ls []) := by
    intro k
    induction k with
    | zero =>
      intro x22 x23 S24 H locs hM hX25 hS h21 ls hl h
      exact znone h
    | succ k ih4 =>
      intro x22 x23 S24 H locs hM hX25 hS h21 ls hl h
      replace h : f_X7_readNumber_L4b a0 K6 (f_X7_readNumber_L4 a0 K6 k) x22 x23 S24 = some (r, S') := h
      generalize f_X7_readNumber_L4 a0 K6 k = rec4 at ih4 h
      unfold f_X7_readNumber_L4b at h
      refine lv_iload_n hx hb dX7_readNumber_4 rfl (lv_at hl 2 rfl) ?_
      refine lv_iconst (v := (3 : Int32)) hx hb dX7_readNumber_5 (by decide +kernel) ?_
      refine lv_icmp_ge (tgt := 58) hx hb dX7_readNumber_6 (by decide) (fun hc26 => ?_) (fun hc26 => ?_)
      · have h := zt h hc26
        exact hK6 x22 x23 S24 _ _ hM hX25 hS h21 _ (lv_sub hl [0, 1, 2] rfl) h
      · have h := zf h hc26
        refine lv_iload_n hx hb dX7_readNumber_9 rfl (lv_at hl 2 rfl) ?_
        obtain ⟨K29, eK29, h⟩ := zlg h
        have hK29 : ∀ (H : Heap) (locs : List Loc), zMR D cy B S24 H → zX S0 S24 → va_S (fun q => B < q) s.heap H locs → zA S24 a0 7 → ∀ ls : Array Slot, lv_has ls 3 [(0, .ref (B + a0)), (1, .int x22), (2, .int x23)] → K29 = some (r, S') → W p l e (headSpec (zws yX7_readNumber cX7_readNumber 3 ((some .int))) { frames := 1, cells := 0, slots := 0, locals := 20 }).room s m (([.ref (B + a0)] : List Value).toArray) below meth c H locs 0 0 (MQ below (zQi D cy B S0 r S') (([.ref (B + a0)] : List Value).toArray) s 0 0 (fun q => B < q)) (F0 m 17 ls []) := by
          intro H locs hM hX28 hS h27 ls hl h
          rw [eK29] at h
          refine lv_aload_n hx hb dX7_readNumber_17 rfl (lv_at hl 0 rfl) ?_
          obtain ⟨r31, hr30, h⟩ := zb1 h
          refine z_runi (va_runV (As := []) (rest := []) ⟨hx, hb, hml, hown, hg⟩ (c_X7_isAtDigit l D cy B h27 hr30) (z_cwV hg zw_505 zw_506 zw_1469 zw_7 zw_507 zh_X7_isAtDigit ⟨(Nat.le_of_ble_eq_true rfl), (Nat.le_of_ble_eq_true rfl)⟩) (zPV hC hM h27 (by decide) rfl) rfl rfl hl.1 rfl (lv_room (Nat.le_of_ble_eq_true rfl)) dX7_readNumber_18 ⟨(Nat.le_of_ble_eq_true rfl), (Nat.le_of_ble_eq_true rfl)⟩) hS (fun H locs hM hX32 hS => ?_)
          refine lv_if_eq (tgt := 58) hx hb dX7_readNumber_21 (by decide) (fun hc34 => ?_) (fun hc34 => ?_)
          · have h := zt h hc34
            exact hK6 x22 x23 S24 _ _ hM hX28 hS h27 _ (lv_sub hl [0, 1, 2] rfl) h
          · have h := zf h hc34
            refine lv_bipush (v := (10 : Int32)) hx hb dX7_readNumber_24 (by decide +kernel) ?_
            refine lv_iload_n hx hb dX7_readNumber_26 rfl (lv_at hl 1 rfl) ?_
            refine lv_imul hx hb dX7_readNumber_27 ?_
            refine lv_aload_n hx hb dX7_readNumber_28 rfl (lv_at hl 0 rfl) ?_
            obtain ⟨hq36, h⟩ := zk h
            refine z_getN hx hb hg zin_7 hown hK hM h27 1 rfl (by decide) (hg _ zw_172) (fun _ h9 => h9) hq36 dX7_readNumber_29 (fun h35 => ?_)
            refine lv_aload_n hx hb dX7_readNumber_32 rfl (lv_at hl 0 rfl) ?_
            refine z_getI hx hb hg zin_7 hown hK hM h27 3 rfl (by decide) (hg _ zw_174) (fun _ h9 => h9) dX7_readNumber_33 ?_
            obtain ⟨hq37, h⟩ := zk h
            refine z_iald hx hb hK hM h35 hq37 dX7_readNumber_36 ?_
            refine lv_iadd hx hb dX7_readNumber_37 ?_
            refine lv_bipush (v := (48 : Int32)) hx hb dX7_readNumber_38 (by decide +kernel) ?_
            refine lv_isub hx hb dX7_readNumber_40 ?_
            refine lv_istore_n (i := 1) (lv' := [(1, .int ((((10 : Int32) * x22) + (zi S24 (zr S24 a0 1) (Int32.toNatClampNeg (zi S24 a0 3)))) - (48 : Int32))), (0, .ref (B + a0)), (2, .int x23)]) hx hb dX7_readNumber_41 rfl hl (by decide) rfl (fun ls hl => ?_)
            refine lv_aload_n hx hb dX7_readNumber_42 rfl (lv_at hl 1 rfl) ?_
            refine lv_dup hx hb dX7_readNumber_43 rfl ?_
            refine z_getI hx hb hg zin_7 hown hK hM h27 3 rfl (by decide) (hg _ zw_174) (fun _ h9 => h9) dX7_readNumber_44 ?_
            refine lv_iconst (v := (1 : Int32)) hx hb dX7_readNumber_47 (by decide +kernel) ?_
            refine lv_iadd hx hb dX7_readNumber_48 ?_
            refine z_putI hx hb hg zin_7 tyX7 tyX7_ok nmX7 hown hK hM hS h27 3 rfl (by decide) (hg _ zw_174) (fun _ h9 => h9) (Or.inl rfl) (tyX7_ok 3 (by decide)) rfl rfl dX7_readNumber_49 (fun H locs hM hS => ?_)
            obtain ⟨S38, e39, h⟩ := zlg h
            rw [← e39] at hM
            have hX40 : zX S24 S38 := by rw [e39]; exact zX_pI
            have h41 := h27.mo hX40
            have hX42 := hX28.tr hX40
            refine lv_iinc (v := (x23 + (1 : Int32))) (lv' := [(2, .int (x23 + (1 : Int32))), (1, .int ((((10 : Int32) * x22) + (zi S24 (zr S24 a0 1) (Int32.toNatClampNeg (zi S24 a0 3)))) - (48 : Int32))), (0, .ref (B + a0))]) hx hb dX7_readNumber_52 hl (k := 2) rfl rfl (by decide) rfl (fun ls hl => ?_)
            refine lv_goto (tgt := 4) hx hb dX7_readNumber_55 (by decide) ?_
            exact ih4 ((((10 : Int32) * x22) + (zi S24 (zr S24 a0 1) (Int32.toNatClampNeg (zi S24 a0 3)))) - (48 : Int32)) (x23 + (1 : Int32)) S38 _ _ hM hX42 hS h41 _ (lv_sub hl [2, 1, 0] rfl) h
        refine lv_if_eq (tgt := 17) hx hb dX7_readNumber_10 (by decide) (fun hc43 => ?_) (fun hc43 => ?_)
        · have h := zt h hc43
          exact hK29 _ _ hM hX25 hS h21 _ (lv_sub hl [0, 1, 2] rfl) h
        · have h := zf h hc43
          refine lv_iload_n hx hb dX7_readNumber_13 rfl (lv_at hl 1 rfl) ?_
          refine lv_if_le (tgt := 58) hx hb dX7_readNumber_14 (by decide) (fun hc44 => ?_) (fun hc44 => ?_)
          · have h := zt h hc44
            exact hK6 x22 x23 S24 _ _ hM hX25 hS h21 _ (lv_sub hl [0, 1, 2] rfl) h
          · have h := zf h hc44
            exact hK29 _ _ hM hX25 hS h21 _ (lv_sub hl [0, 1, 2] rfl) h
  exact hL4 n (0 : Int32) (0 : Int32) S0 _ _ hM hX0 hS ha0 _ (lv_sub hl [2, 1, 0] rfl) h
def f_X7_expect (S0 : zM) (a0 : Nat) (v1 : Int32) : Option (zM) :=
  zLet (fun (x2 : Int32) => zChk (x2 = 0 ∨ x2 = 1) (zLet (zpI S0 a0 4 x2) (fun S6 => if (zi S6 a0 4) = 0 then zLet (zpI S6 a0 3 ((zi S6 a0 3) + (1 : Int32))) (fun S12 => some S12) else some S6))) (fun K4 => zLet (K4 (1 : Int32)) (fun K18 => if (zi S0 a0 4) = 0 then if (zi S0 a0 2) ≤ (zi S0 a0 3) then K18 else zChk (¬ (zr S0 a0 1) = 0) (zChk (¬ ((zi S0 a0 3) < 0 ∨ zln S0 (zr S0 a0 1) ≤ ((zi S0 a0 3)).toNatClampNeg)) (if (zi S0 (zr S0 a0 1) (Int32.toNatClampNeg (zi S0 a0 3))) = v1 then K4 (0 : Int32) else K18)) else K18))
set_option maxHeartbeats 4000000 in
set_option maxRecDepth 100000 in
theorem c_X7_expect (l : Launch) (D : va_G) (cy : Nat → ClassId) (B : Nat) {S0 : zM} {a0 : Nat} {v1 : Int32} {S' : zM} (ha0 : zA S0 a0 7) (h : f_X7_expect S0 a0 v1 = some S') : Met l yX7_expect (zws yX7_expect cX7_expect 2 none) { frames := 0, cells := 0, slots := 0, locals := 0 } (zPc D cy B S0 [.ref (B + a0), .int v1]) (zQv D cy B S0 S') 0 0 (fun q => B < q) := by
  refine Met.ofW (cc := cX7_expect) (maxL := 2) (ret := none) (by decide) rfl ?_
  intro p e s m args below meth c s₁ Bd hml hv
  obtain ⟨rfl, hC, hM⟩ := hv
  obtain ⟨hx, hb, hr, hg, hown, hlk⟩ := z_open Bd
  have hK := hC.1
  have hS : va_S (fun q => B < q) s.heap s.heap [] := va_S.rf
  have hX0 : zX S0 S0 := zX.rf
  refine z_entry (vs := [.ref (B + a0), .int v1]) (Nat.le_of_ble_eq_true rfl) (fun ls hl => ?_)
  have hl : lv_has ls 2 [(0, .ref (B + a0)), (1, .int v1)] := hl
  unfold f_X7_expect at h
  refine lv_aload_n hx hb dX7_expect_0 rfl (lv_at hl 0 rfl) ?_
  refine lv_aload_n hx hb dX7_expect_1 rfl (lv_at hl 0 rfl) ?_
  refine z_getI hx hb hg zin_7 hown hK hM ha0 4 rfl (by decide) (hg _ zw_175) (fun _ h9 => h9) dX7_expect_2 ?_
  obtain ⟨K4, eK4, h⟩ := zlg h
  have hK4 : ∀ (x2 : Int32) (H : Heap) (locs : List Loc), zMR D cy B S0 H → zX S0 S0 → va_S (fun q => B < q) s.heap H locs → zA S0 a0 7 → ∀ ls : Array Slot, lv_has ls 2 [(0, .ref (B + a0))] → K4 x2 = some S' → W p l e (headSpec (zws yX7_expect cX7_expect 2 none) { frames := 0, cells := 0, slots := 0, locals := 0 }).room s m (([.ref (B + a0), .int v1] : List Value).toArray) below meth c H locs 0 0 (MQ below (zQv D cy B S0 S') (([.ref (B + a0), .int v1] : List Value).toArray) s 0 0 (fun q => B < q)) (F0 m 37 ls [.int x2, .ref (B + a0)]) := by
    intro x2 H locs hM hX3 hS h1 ls hl h
    rw [eK4] at h
    obtain ⟨hb5, h⟩ := zk h
    refine z_putI hx hb hg zin_7 tyX7 tyX7_ok nmX7 hown hK hM hS h1 4 rfl (by decide) (hg _ zw_175) (fun _ h9 => h9) (Or.inl rfl) (tyX7_ok 4 (by decide)) (z_bit hb5).1 (z_bit hb5).2 dX7_expect_37 (fun H locs hM hS => ?_)
    obtain ⟨S6, e7, h⟩ := zlg h
    rw [← e7] at hM
    have hX8 : zX S0 S6 := by rw [e7]; exact zX_pI
    have h9 := h1.mo hX8
    have hX10 := hX3.tr hX8
    refine lv_aload_n hx hb dX7_expect_40 rfl (lv_at hl 0 rfl) ?_
    refine z_getI hx hb hg zin_7 hown hK hM h9 4 rfl (by decide) (hg _ zw_175) (fun _ h9 => h9) dX7_expect_41 ?_
    refine lv_if_ne (tgt := 57) hx hb dX7_expect_44 (by decide) (fun hc11 => ?_) (fun hc11 => ?_)
    · have h := zf h hc11
      exact z_vret hx hb hr hlk hM hX10 hS (zsm h) dX7_expect_57
    · have h := zt h hc11
      refine lv_aload_n hx hb dX7_expect_47 rfl (lv_at hl 0 rfl) ?_
      refine lv_dup hx hb dX7_expect_48 rfl ?_
      refine z_getI hx hb hg zin_7 hown hK hM h9 3 rfl (by decide) (hg _ zw_174) (fun _ h9 => h9) dX7_expect_49 ?_
      refine lv_iconst (v := (1 : Int32)) hx hb dX7_expect_52 (by decide +kernel) ?_
      refine lv_iadd hx hb dX7_expect_53 ?_
      refine z_putI hx hb hg zin_7 tyX7 tyX7_ok nmX7 hown hK hM hS h9 3 rfl (by decide) (hg _ zw_174) (fun _ h9 => h9) (Or.inl rfl) (tyX7_ok 3 (by decide)) rfl rfl dX7_expect_54 (fun H locs hM hS => ?_)
      obtain ⟨S12, e13, h⟩ := zlg h
      rw [← e13] at hM
      have hX14 : zX S6 S12 := by rw [e13]; exact zX_pI
      have hX15 := hX10.tr hX14
      exact z_vret hx hb hr hlk hM hX15 hS (zsm h) dX7_expect_57
  obtain ⟨K18, eK18, h⟩ := zlg h
  have hK18 : ∀ (H : Heap) (locs : List Loc), zMR D cy B S0 H → zX S0 S0 → va_S (fun q => B < q) s.heap H locs → zA S0 a0 7 → ∀ ls : Array Slot, lv_has ls 2 [(0, .ref (B + a0))] → K18 = some S' → W p l e (headSpec (zws yX7_expect cX7_expect 2 none) { frames := 0, cells := 0, slots := 0, locals := 0 }).room s m (([.ref (B + a0), .int v1] : List Value).toArray) below meth c H locs 0 0 (MQ below (zQv D cy B S0 S') (([.ref (B + a0), .int v1] : List Value).toArray) s 0 0 (fun q => B < q)) (F0 m 32 ls [.ref (B + a0)]) := by
    intro H locs hM hX17 hS h16 ls hl h
    rw [eK18] at h
    refine lv_iconst (v := (1 : Int32)) hx hb dX7_expect_32 (by decide +kernel) ?_
    refine lv_goto (tgt := 37) hx hb dX7_expect_33 (by decide) ?_
    exact hK4 (1 : Int32) _ _ hM hX17 hS h16 _ (lv_sub hl [0] rfl) h
  refine lv_if_ne (tgt := 32) hx hb dX7_expect_5 (by decide) (fun hc19 => ?_) (fun hc19 => ?_)
  · have h := zf h hc19
    exact hK18 _ _ hM hX0 hS ha0 _ (lv_sub hl [0] rfl) h
  · have h := zt h hc19
    refine lv_aload_n hx hb dX7_expect_8 rfl (lv_at hl 0 rfl) ?_
    refine z_getI hx hb hg zin_7 hown hK hM ha0 3 rfl (by decide) (hg _ zw_174) (fun _ h9 => h9) dX7_expect_9 ?_
    refine lv_aload_n hx hb dX7_expect_12 rfl (lv_at hl 0 rfl) ?_
    refine z_getI hx hb hg zin_7 hown hK hM ha0 2 rfl (by decide) (hg _ zw_173) (fun _ h9 => h9) dX7_expect_13 ?_
    refine lv_icmp_ge (tgt := 32) hx hb dX7_expect_16 (by decide) (fun hc20 => ?_) (fun hc20 => ?_)
    · have h := zt h hc20
      exact hK18 _ _ hM hX0 hS ha0 _ (lv_sub hl [0] rfl) h
    · have h := zf h hc20
      refine lv_aload_n hx hb dX7_expect_19 rfl (lv_at hl 0 rfl) ?_
      obtain ⟨hq22, h⟩ := zk h
      refine z_getN hx hb hg zin_7 hown hK hM ha0 1 rfl (by decide) (hg _ zw_172) (fun _ h9 => h9) hq22 dX7_expect_20 (fun h21 => ?_)
      refine lv_aload_n hx hb dX7_expect_23 rfl (lv_at hl 0 rfl) ?_
      refine z_getI hx hb hg zin_7 hown hK hM ha0 3 rfl (by decide) (hg _ zw_174) (fun _ h9 => h9) dX7_expect_24 ?_
      obtain ⟨hq23, h⟩ := zk h
      refine z_iald hx hb hK hM h21 hq23 dX7_expect_27 ?_
      refine lv_iload_n hx hb dX7_expect_28 rfl (lv_at hl 1 rfl) ?_
      refine lv_icmp_eq (tgt := 36) hx hb dX7_expect_29 (by decide) (fun hc24 => ?_) (fun hc24 => ?_)
      · have h := zt h hc24
        refine lv_iconst (v := (0 : Int32)) hx hb dX7_expect_36 (by decide +kernel) ?_
        exact hK4 (0 : Int32) _ _ hM hX0 hS ha0 _ (lv_sub hl [0] rfl) h
      · have h := zf h hc24
        exact hK18 _ _ hM hX0 hS ha0 _ (lv_sub hl [0] rfl) h
def f_X7_wrongAt (S0 : zM) (a0 : Nat) (v1 : Int32) : zM :=
  if 0 ≤ (zi S0 a0 5) then S0 else zLet (zpI S0 a0 5 v1) (fun S2 => S2)
set_option maxHeartbeats 4000000 in
set_option maxRecDepth 100000 in
theorem c_X7_wrongAt (l : Launch) (D : va_G) (cy : Nat → ClassId) (B : Nat) {S0 : zM} {a0 : Nat} {v1 : Int32} {S' : zM} (ha0 : zA S0 a0 7) (h : f_X7_wrongAt S0 a0 v1 = S') : Met l yX7_wrongAt (zws yX7_wrongAt cX7_wrongAt 2 none) { frames := 0, cells := 0, slots := 0, locals := 0 } (zPc D cy B S0 [.ref (B + a0), .int v1]) (zQv D cy B S0 S') 0 0 (fun q => B < q) := by
  refine Met.ofW (cc := cX7_wrongAt) (maxL := 2) (ret := none) (by decide) rfl ?_
  intro p e s m args below meth c s₁ Bd hml hv
  obtain ⟨rfl, hC, hM⟩ := hv
  obtain ⟨hx, hb, hr, hg, hown, hlk⟩ := z_open Bd
  have hK := hC.1
  have hS : va_S (fun q => B < q) s.heap s.heap [] := va_S.rf
  have hX0 : zX S0 S0 := zX.rf
  refine z_entry (vs := [.ref (B + a0), .int v1]) (Nat.le_of_ble_eq_true rfl) (fun ls hl => ?_)
  have hl : lv_has ls 2 [(0, .ref (B + a0)), (1, .int v1)] := hl
  unfold f_X7_wrongAt at h
  refine lv_aload_n hx hb dX7_wrongAt_0 rfl (lv_at hl 0 rfl) ?_
  refine z_getI hx hb hg zin_7 hown hK hM ha0 5 rfl (by decide) (hg _ zw_176) (fun _ h9 => h9) dX7_wrongAt_1 ?_
  refine lv_if_ge (tgt := 12) hx hb dX7_wrongAt_4 (by decide) (fun hc1 => ?_) (fun hc1 => ?_)
  · have h := zt h hc1
    exact z_vret hx hb hr hlk hM hX0 hS h dX7_wrongAt_12
  · have h := zf h hc1
    refine lv_aload_n hx hb dX7_wrongAt_7 rfl (lv_at hl 0 rfl) ?_
    refine lv_iload_n hx hb dX7_wrongAt_8 rfl (lv_at hl 1 rfl) ?_
    refine z_putI hx hb hg zin_7 tyX7 tyX7_ok nmX7 hown hK hM hS ha0 5 rfl (by decide) (hg _ zw_176) (fun _ h9 => h9) (Or.inl rfl) (tyX7_ok 5 (by decide)) rfl rfl dX7_wrongAt_9 (fun H locs hM hS => ?_)
    obtain ⟨S2, e3, h⟩ := zlg h
    rw [← e3] at hM
    have hX4 : zX S0 S2 := by rw [e3]; exact zX_pI
    have hX5 := hX0.tr hX4
    exact z_vret hx hb hr hlk hM hX5 hS h dX7_wrongAt_12
def f_X7_readOff (n : Nat) (S0 : zM) (a0 : Nat) (v1 : Int32) : Option (zM) :=
  zB2 (f_X7_readNumber n S0 a0) (fun r2 S3 => zB1 (f_X7_expect S3 a0 (32 : Int32)) (fun S9 => zB2 (f_X7_readNumber n S9 a0) (fun r15 S16 => zLet (f_X11_within r2 (6 : Int32)) (fun r22 => zLet (zLet (f_X7_wrongAt S16 a0 v1) (fun S29 => some S29)) (fun K27 => if r22 = 0 then K27 else if (20 : Int32) < r15 then K27 else zChk (¬ (zr S16 a0 0) = 0) (zChk (¬ (zr S16 (zr S16 a0 0) 0) = 0) (zChk (¬ (r2 < 0 ∨ zln S16 (zr S16 (zr S16 a0 0) 0) ≤ (r2).toNatClampNeg)) (zLet (zpI S16 (zr S16 (zr S16 a0 0) 0) (Int32.toNatClampNeg r2) r15) (fun S40 => some S40)))))))))
set_option maxHeartbeats 4000000 in
set_option maxRecDepth 100000 in
theorem c_X7_readOff (l : Launch) (D : va_G) (cy : Nat → ClassId) (B : Nat) {n : Nat} {S0 : zM} {a0 : Nat} {v1 : Int32} {S' : zM} (ha0 : zA S0 a0 7) (h : f_X7_readOff n S0 a0 v1 = some S') : Met l yX7_readOff (zws yX7_readOff cX7_readOff 4 none) { frames := 2, cells := 0, slots := 0, locals := 42 } (zPc D cy B S0 [.ref (B + a0), .int v1]) (zQv D cy B S0 S') 0 0 (fun q => B < q) := by
  refine Met.ofW (cc := cX7_readOff) (maxL := 4) (ret := none) (by decide) rfl ?_
  intro p e s m args below meth c s₁ Bd hml hv
  obtain ⟨rfl, hC, hM⟩ := hv
  obtain ⟨hx, hb, hr, hg, hown, hlk⟩ := z_open Bd
  have hK := hC.1
  have hS : va_S (fun q => B < q) s.heap s.heap [] := va_S.rf
  have hX0 : zX S0 S0 := zX.rf
  refine z_entry (vs := [.ref (B + a0), .int v1]) (Nat.le_of_ble_eq_true rfl) (fun ls hl => ?_)
  have hl : lv_has ls 4 [(0, .ref (B + a0)), (1, .int v1)] := hl
  unfold f_X7_readOff at h
  refine lv_aload_n hx hb dX7_readOff_0 rfl (lv_at hl 0 rfl) ?_
  obtain ⟨r2, S3, hr1, h⟩ := zb2 h
  refine z_runi (va_runV (As := []) (rest := []) ⟨hx, hb, hml, hown, hg⟩ (c_X7_readNumber l D cy B ha0 hr1) (z_cwV hg zw_502 zw_503 zw_1468 zw_7 zw_504 zh_X7_readNumber ⟨(Nat.le_of_ble_eq_true rfl), (Nat.le_of_ble_eq_true rfl)⟩) (zPV hC hM ha0 (by decide) rfl) rfl rfl hl.1 rfl (lv_room (Nat.le_of_ble_eq_true rfl)) dX7_readOff_1 ⟨(Nat.le_of_ble_eq_true rfl), (Nat.le_of_ble_eq_true rfl)⟩) hS (fun H locs hM hX4 hS => ?_)
  have h6 := ha0.mo hX4
  have hX7 := hX0.tr hX4
  refine lv_istore_n (i := 2) (lv' := [(2, .int r2), (0, .ref (B + a0)), (1, .int v1)]) hx hb dX7_readOff_4 rfl hl (by decide) rfl (fun ls hl => ?_)
  refine lv_aload_n hx hb dX7_readOff_5 rfl (lv_at hl 1 rfl) ?_
  refine lv_bipush (v := (32 : Int32)) hx hb dX7_readOff_6 (by decide +kernel) ?_
  obtain ⟨S9, hr8, h⟩ := zb1 h
  refine z_runv (va_runV (As := [.int (32 : Int32)]) (rest := []) ⟨hx, hb, hml, hown, hg⟩ (c_X7_expect l D cy B h6 hr8) (z_cwV hg zw_508 zw_509 zw_1470 zw_7 zw_510 zh_X7_expect ⟨(Nat.le_of_ble_eq_true rfl), (Nat.le_of_ble_eq_true rfl)⟩) (zPV hC hM h6 (by decide) rfl) rfl rfl hl.1 rfl (lv_room (Nat.le_of_ble_eq_true rfl)) dX7_readOff_8 ⟨(Nat.le_of_ble_eq_true rfl), (Nat.le_of_ble_eq_true rfl)⟩) hS (fun H locs hM hX10 hS => ?_)
  have h12 := h6.mo hX10
  have hX13 := hX7.tr hX10
  refine lv_aload_n hx hb dX7_readOff_11 rfl (lv_at hl 1 rfl) ?_
  obtain ⟨r15, S16, hr14, h⟩ := zb2 h
  refine z_runi (va_runV (As := []) (rest := []) ⟨hx, hb, hml, hown, hg⟩ (c_X7_readNumber l D cy B h12 hr14) (z_cwV hg zw_502 zw_503 zw_1468 zw_7 zw_504 zh_X7_readNumber ⟨(Nat.le_of_ble_eq_true rfl), (Nat.le_of_ble_eq_true rfl)⟩) (zPV hC hM h12 (by decide) rfl) rfl rfl hl.1 rfl (lv_room (Nat.le_of_ble_eq_true rfl)) dX7_readOff_12 ⟨(Nat.le_of_ble_eq_true rfl), (Nat.le_of_ble_eq_true rfl)⟩) hS (fun H locs hM hX17 hS => ?_)
  have h19 := h12.mo hX17
  have hX20 := hX13.tr hX17
  refine lv_istore_n (i := 3) (lv' := [(3, .int r15), (2, .int r2), (0, .ref (B + a0)), (1, .int v1)]) hx hb dX7_readOff_15 rfl hl (by decide) rfl (fun ls hl => ?_)
  refine lv_iload_n hx hb dX7_readOff_16 rfl (lv_at hl 1 rfl) ?_
  refine lv_bipush (v := (6 : Int32)) hx hb dX7_readOff_17 (by decide +kernel) ?_
  obtain ⟨r22, hr21, h⟩ := zlg h
  have hr21 := hr21.symm
  refine z_runi (va_runSN (As := [.int r2, .int (6 : Int32)]) (rest := []) ⟨hx, hb, hml, hown, hg⟩ (c_X11_within l D cy B hr21) ⟨z_cnB hg hC (List.mem_of_getElem? (i := 13) rfl) zw_2 zw_292 zh_X11_within.2 ⟨(Nat.le_of_ble_eq_true rfl), (Nat.le_of_ble_eq_true rfl)⟩, hg _ zw_291, trivial⟩ (zPS hC hM) rfl rfl hl.1 rfl (lv_room (Nat.le_of_ble_eq_true rfl)) dX7_readOff_19 ⟨(Nat.le_of_ble_eq_true rfl), (Nat.le_of_ble_eq_true rfl)⟩) hS (fun H locs hM hX23 hS => ?_)
  obtain ⟨K27, eK27, h⟩ := zlg h
  have hK27 : ∀ (H : Heap) (locs : List Loc), zMR D cy B S16 H → zX S0 S16 → va_S (fun q => B < q) s.heap H locs → zA S16 a0 7 → ∀ ls : Array Slot, lv_has ls 4 [(0, .ref (B + a0)), (1, .int v1)] → K27 = some S' → W p l e (headSpec (zws yX7_readOff cX7_readOff 4 none) { frames := 2, cells := 0, slots := 0, locals := 42 }).room s m (([.ref (B + a0), .int v1] : List Value).toArray) below meth c H locs 0 0 (MQ below (zQv D cy B S0 S') (([.ref (B + a0), .int v1] : List Value).toArray) s 0 0 (fun q => B < q)) (F0 m 44 ls []) := by
    intro H locs hM hX26 hS h25 ls hl h
    rw [eK27] at h
    refine lv_aload_n hx hb dX7_readOff_44 rfl (lv_at hl 0 rfl) ?_
    refine lv_iload_n hx hb dX7_readOff_45 rfl (lv_at hl 1 rfl) ?_
    obtain ⟨S29, hr28, h⟩ := zlg h
    have hr28 := hr28.symm
    refine z_runv (va_runV (As := [.int v1]) (rest := []) ⟨hx, hb, hml, hown, hg⟩ (c_X7_wrongAt l D cy B h25 hr28) (z_cwV hg zw_512 zw_513 zw_1471 zw_7 zw_514 zh_X7_wrongAt ⟨(Nat.le_of_ble_eq_true rfl), (Nat.le_of_ble_eq_true rfl)⟩) (zPV hC hM h25 (by decide) rfl) rfl rfl hl.1 rfl (lv_room (Nat.le_of_ble_eq_true rfl)) dX7_readOff_46 ⟨(Nat.le_of_ble_eq_true rfl), (Nat.le_of_ble_eq_true rfl)⟩) hS (fun H locs hM hX30 hS => ?_)
    have hX32 := hX26.tr hX30
    exact z_vret hx hb hr hlk hM hX32 hS (zsm h) dX7_readOff_49
  refine lv_if_eq (tgt := 44) hx hb dX7_readOff_22 (by decide) (fun hc33 => ?_) (fun hc33 => ?_)
  · have h := zt h hc33
    exact hK27 _ _ hM hX20 hS h19 _ (lv_sub hl [2, 3] rfl) h
  · have h := zf h hc33
    refine lv_iload_n hx hb dX7_readOff_25 rfl (lv_at hl 0 rfl) ?_
    refine lv_bipush (v := (20 : Int32)) hx hb dX7_readOff_26 (by decide +kernel) ?_
    refine lv_icmp_gt (tgt := 44) hx hb dX7_readOff_28 (by decide) (fun hc34 => ?_) (fun hc34 => ?_)
    · have h := zt h hc34
      exact hK27 _ _ hM hX20 hS h19 _ (lv_sub hl [2, 3] rfl) h
    · have h := zf h hc34
      refine lv_aload_n hx hb dX7_readOff_31 rfl (lv_at hl 2 rfl) ?_
      obtain ⟨hq36, h⟩ := zk h
      refine z_getN hx hb hg zin_7 hown hK hM h19 0 rfl (by decide) (hg _ zw_170) (fun _ h9 => h9) hq36 dX7_readOff_32 (fun h35 => ?_)
      obtain ⟨hq38, h⟩ := zk h
      refine z_getN hx hb hg zin_6 hown hK hM h35 0 rfl (by decide) (hg _ zw_48) (fun _ h9 => h9) hq38 dX7_readOff_35 (fun h37 => ?_)
      refine lv_iload_n hx hb dX7_readOff_38 rfl (lv_at hl 1 rfl) ?_
      refine lv_iload_n hx hb dX7_readOff_39 rfl (lv_at hl 0 rfl) ?_
      obtain ⟨hq39, h⟩ := zk h
      refine z_iast hx hb hK hM hS h37 hq39 dX7_readOff_40 (fun H locs hM hS => ?_)
      obtain ⟨S40, e41, h⟩ := zlg h
      rw [← e41] at hM
      have hX42 : zX S16 S40 := by rw [e41]; exact zX_pI
      have hX43 := hX20.tr hX42
      refine lv_goto (tgt := 49) hx hb dX7_readOff_41 (by decide) ?_
      exact z_vret hx hb hr hlk hM hX43 hS (zsm h) dX7_readOff_49
def f_X7_readDropped (n : Nat) (S0 : zM) (a0 : Nat) (v1 : Int32) : Option (zM) :=
  zB2 (f_X7_readNumber n S0 a0) (fun r2 S3 => zB1 (f_X7_expect S3 a0 (32 : Int32)) (fun S9 => zB2 (f_X7_readNumber n S9 a0) (fun r15 S16 => zLet (zLet (f_X7_wrongAt S16 a0 v1) (fun S25 => some S25)) (fun K23 => if (3 : Int32) < r2 then K23 else if (3 : Int32) < r15 then K23 else zChk (¬ (zr S16 a0 0) = 0) (zLet (zpI S16 (zr S16 a0 0) 1 r2) (fun S33 => zChk (¬ (zr S33 a0 0) = 0) (zLet (zpI S33 (zr S33 a0 0) 2 r15) (fun S40 => some S40))))))))
set_option maxHeartbeats 4000000 in
set_option maxRecDepth 100000 in
theorem c_X7_readDropped (l : Launch) (D : va_G) (cy : Nat → ClassId) (B : Nat) {n : Nat} {S0 : zM} {a0 : Nat} {v1 : Int32} {S' : zM} (ha0 : zA S0 a0 7) (h : f_X7_readDropped n S0 a0 v1 = some S') : Met l yX7_readDropped (zws yX7_readDropped cX7_readDropped 4 none) { frames := 2, cells := 0, slots := 0, locals := 42 } (zPc D cy B S0 [.ref (B + a0), .int v1]) (zQv D cy B S0 S') 0 0 (fun q => B < q) := by
  refine Met.ofW (cc := cX7_readDropped) (maxL := 4) (ret := none) (by decide) rfl ?_
  intro p e s m args below meth c s₁ Bd hml hv
  obtain ⟨rfl, hC, hM⟩ := hv
  obtain ⟨hx, hb, hr, hg, hown, hlk⟩ := z_open Bd
  have hK := hC.1
  have hS : va_S (fun q => B < q) s.heap s.heap [] := va_S.rf
  have hX0 : zX S0 S0 := zX.rf
  refine z_entry (vs := [.ref (B + a0), .int v1]) (Nat.le_of_ble_eq_true rfl) (fun ls hl => ?_)
  have hl : lv_has ls 4 [(0, .ref (B + a0)), (1, .int v1)] := hl
  unfold f_X7_readDropped at h
  refine lv_aload_n hx hb dX7_readDropped_0 rfl (lv_at hl 0 rfl) ?_
  obtain ⟨r2, S3, hr1, h⟩ := zb2 h
  refine z_runi (va_runV (As := []) (rest := []) ⟨hx, hb, hml, hown, hg⟩ (c_X7_readNumber l D cy B ha0 hr1) (z_cwV hg zw_502 zw_503 zw_1468 zw_7 zw_504 zh_X7_readNumber ⟨(Nat.le_of_ble_eq_true rfl), (Nat.le_of_ble_eq_true rfl)⟩) (zPV hC hM ha0 (by decide) rfl) rfl rfl hl.1 rfl (lv_room (Nat.le_of_ble_eq_true rfl)) dX7_readDropped_1 ⟨(Nat.le_of_ble_eq_true rfl), (Nat.le_of_ble_eq_true rfl)⟩) hS (fun H locs hM hX4 hS => ?_)
  have h6 := ha0.mo hX4
  have hX7 := hX0.tr hX4
  refine lv_istore_n (i := 2) (lv' := [(2, .int r2), (0, .ref (B + a0)), (1, .int v1)]) hx hb dX7_readDropped_4 rfl hl (by decide) rfl (fun ls hl => ?_)
  refine lv_aload_n hx hb dX7_readDropped_5 rfl (lv_at hl 1 rfl) ?_
  refine lv_bipush (v := (32 : Int32)) hx hb dX7_readDropped_6 (by decide +kernel) ?_
  obtain ⟨S9, hr8, h⟩ := zb1 h
  refine z_runv (va_runV (As := [.int (32 : Int32)]) (rest := []) ⟨hx, hb, hml, hown, hg⟩ (c_X7_expect l D cy B h6 hr8) (z_cwV hg zw_508 zw_509 zw_1470 zw_7 zw_510 zh_X7_expect ⟨(Nat.le_of_ble_eq_true rfl), (Nat.le_of_ble_eq_true rfl)⟩) (zPV hC hM h6 (by decide) rfl) rfl rfl hl.1 rfl (lv_room (Nat.le_of_ble_eq_true rfl)) dX7_readDropped_8 ⟨(Nat.le_of_ble_eq_true rfl), (Nat.le_of_ble_eq_true rfl)⟩) hS (fun H locs hM hX10 hS => ?_)
  have h12 := h6.mo hX10
  have hX13 := hX7.tr hX10
  refine lv_aload_n hx hb dX7_readDropped_11 rfl (lv_at hl 1 rfl) ?_
  obtain ⟨r15, S16, hr14, h⟩ := zb2 h
  refine z_runi (va_runV (As := []) (rest := []) ⟨hx, hb, hml, hown, hg⟩ (c_X7_readNumber l D cy B h12 hr14) (z_cwV hg zw_502 zw_503 zw_1468 zw_7 zw_504 zh_X7_readNumber ⟨(Nat.le_of_ble_eq_true rfl), (Nat.le_of_ble_eq_true rfl)⟩) (zPV hC hM h12 (by decide) rfl) rfl rfl hl.1 rfl (lv_room (Nat.le_of_ble_eq_true rfl)) dX7_readDropped_12 ⟨(Nat.le_of_ble_eq_true rfl), (Nat.le_of_ble_eq_true rfl)⟩) hS (fun H locs hM hX17 hS => ?_)
  have h19 := h12.mo hX17
  have hX20 := hX13.tr hX17
  refine lv_istore_n (i := 3) (lv' := [(3, .int r15), (2, .int r2), (0, .ref (B + a0)), (1, .int v1)]) hx hb dX7_readDropped_15 rfl hl (by decide) rfl (fun ls hl => ?_)
  refine lv_iload_n hx hb dX7_readDropped_16 rfl (lv_at hl 1 rfl) ?_
  refine lv_iconst (v := (3 : Int32)) hx hb dX7_readDropped_17 (by decide +kernel) ?_
  obtain ⟨K23, eK23, h⟩ := zlg h
  have hK23 : ∀ (H : Heap) (locs : List Loc), zMR D cy B S16 H → zX S0 S16 → va_S (fun q => B < q) s.heap H locs → zA S16 a0 7 → ∀ ls : Array Slot, lv_has ls 4 [(0, .ref (B + a0)), (1, .int v1)] → K23 = some S' → W p l e (headSpec (zws yX7_readDropped cX7_readDropped 4 none) { frames := 2, cells := 0, slots := 0, locals := 42 }).room s m (([.ref (B + a0), .int v1] : List Value).toArray) below meth c H locs 0 0 (MQ below (zQv D cy B S0 S') (([.ref (B + a0), .int v1] : List Value).toArray) s 0 0 (fun q => B < q)) (F0 m 45 ls []) := by
    intro H locs hM hX22 hS h21 ls hl h
    rw [eK23] at h
    refine lv_aload_n hx hb dX7_readDropped_45 rfl (lv_at hl 0 rfl) ?_
    refine lv_iload_n hx hb dX7_readDropped_46 rfl (lv_at hl 1 rfl) ?_
    obtain ⟨S25, hr24, h⟩ := zlg h
    have hr24 := hr24.symm
    refine z_runv (va_runV (As := [.int v1]) (rest := []) ⟨hx, hb, hml, hown, hg⟩ (c_X7_wrongAt l D cy B h21 hr24) (z_cwV hg zw_512 zw_513 zw_1471 zw_7 zw_514 zh_X7_wrongAt ⟨(Nat.le_of_ble_eq_true rfl), (Nat.le_of_ble_eq_true rfl)⟩) (zPV hC hM h21 (by decide) rfl) rfl rfl hl.1 rfl (lv_room (Nat.le_of_ble_eq_true rfl)) dX7_readDropped_47 ⟨(Nat.le_of_ble_eq_true rfl), (Nat.le_of_ble_eq_true rfl)⟩) hS (fun H locs hM hX26 hS => ?_)
    have hX28 := hX22.tr hX26
    exact z_vret hx hb hr hlk hM hX28 hS (zsm h) dX7_readDropped_50
  refine lv_icmp_gt (tgt := 45) hx hb dX7_readDropped_18 (by decide) (fun hc29 => ?_) (fun hc29 => ?_)
  · have h := zt h hc29
    exact hK23 _ _ hM hX20 hS h19 _ (lv_sub hl [2, 3] rfl) h
  · have h := zf h hc29
    refine lv_iload_n hx hb dX7_readDropped_21 rfl (lv_at hl 0 rfl) ?_
    refine lv_iconst (v := (3 : Int32)) hx hb dX7_readDropped_22 (by decide +kernel) ?_
    refine lv_icmp_gt (tgt := 45) hx hb dX7_readDropped_23 (by decide) (fun hc30 => ?_) (fun hc30 => ?_)
    · have h := zt h hc30
      exact hK23 _ _ hM hX20 hS h19 _ (lv_sub hl [2, 3] rfl) h
    · have h := zf h hc30
      refine lv_aload_n hx hb dX7_readDropped_26 rfl (lv_at hl 2 rfl) ?_
      obtain ⟨hq32, h⟩ := zk h
      refine z_getN hx hb hg zin_7 hown hK hM h19 0 rfl (by decide) (hg _ zw_170) (fun _ h9 => h9) hq32 dX7_readDropped_27 (fun h31 => ?_)
      refine lv_iload_n hx hb dX7_readDropped_30 rfl (lv_at hl 1 rfl) ?_
      refine z_putI hx hb hg zin_6 tyX6 tyX6_ok nmX6 hown hK hM hS h31 1 rfl (by decide) (hg _ zw_51) (fun _ h9 => h9) (Or.inl rfl) (tyX6_ok 1 (by decide)) rfl rfl dX7_readDropped_31 (fun H locs hM hS => ?_)
      obtain ⟨S33, e34, h⟩ := zlg h
      rw [← e34] at hM
      have hX35 : zX S16 S33 := by rw [e34]; exact zX_pI
      have h36 := h19.mo hX35
      have hX37 := hX20.tr hX35
      refine lv_aload_n hx hb dX7_readDropped_34 rfl (lv_at hl 2 rfl) ?_
      obtain ⟨hq39, h⟩ := zk h
      refine z_getN hx hb hg zin_7 hown hK hM h36 0 rfl (by decide) (hg _ zw_170) (fun _ h9 => h9) hq39 dX7_readDropped_35 (fun h38 => ?_)
      refine lv_iload_n hx hb dX7_readDropped_38 rfl (lv_at hl 0 rfl) ?_
      refine z_putI hx hb hg zin_6 tyX6 tyX6_ok nmX6 hown hK hM hS h38 2 rfl (by decide) (hg _ zw_54) (fun _ h9 => h9) (Or.inl rfl) (tyX6_ok 2 (by decide)) rfl rfl dX7_readDropped_39 (fun H locs hM hS => ?_)
      obtain ⟨S40, e41, h⟩ := zlg h
      rw [← e41] at hM
      have hX42 : zX S33 S40 := by rw [e41]; exact zX_pI
      have hX43 := hX37.tr hX42
      refine lv_goto (tgt := 50) hx hb dX7_readDropped_42 (by decide) ?_
      exact z_vret hx hb hr hlk hM hX43 hS (zsm h) dX7_readDropped_50
def f_X7_readBrackets (n : Nat) (rc : zM → Nat → Int32 → Option (zM)) (S0 : zM) (a0 : Nat) (v1 : Int32) (v2 : Int32) (v3 : Int32) : Option (zM) :=
  if (zi S0 a0 4) = 0 then if v3 ≤ (6 : Int32) then zLet (zpI S0 a0 3 ((zi S0 a0 3) + (1 : Int32))) (fun S7 => zB1 (rc S7 a0 v3) (fun S13 => zLet (fun (S19 : zM) => zB1 (f_X7_expect S19 a0 v2) (fun S23 => some S23)) (fun K21 => if v1 = (40 : Int32) then K21 S13 else zB1 (f_X7_expect S13 a0 (44 : Int32)) (fun S29 => if (zi S29 a0 4) = 0 then zB1 (rc S29 a0 v3) (fun S36 => zChk (¬ (zr S36 a0 0) = 0) (zB1 (f_X6_append S36 (zr S36 a0 0) (-v1)) (fun S44 => K21 S44))) else K21 S29)))) else zLet (zpI S0 a0 4 (1 : Int32)) (fun S49 => some S49) else zLet (zpI S0 a0 4 (1 : Int32)) (fun S2 => some S2)
set_option maxHeartbeats 4000000 in
set_option maxRecDepth 100000 in
theorem c_X7_readBrackets (l : Launch) (D : va_G) (cy : Nat → ClassId) (B : Nat) (dd : Nat) {rc : zM → Nat → Int32 → Option (zM)} (hrc : ∀ {S : zM} {b0 : Nat} {b1 : Int32} {S1 : zM}, zA S b0 7 →  rc S b0 b1 = some (S1) → Met l yX7_readSum (zws yX7_readSum cX7_readSum 4 none) { frames := 4 * dd, cells := 0, slots := 0, locals := 91 * dd } (zPc D cy B S [.ref (B + b0), .int b1]) (zQv D cy B S S1) 0 0 (fun q => B < q)) {n : Nat} {S0 : zM} {a0 : Nat} {v1 : Int32} {v2 : Int32} {v3 : Int32} {S' : zM} (ha0 : zA S0 a0 7) (h : f_X7_readBrackets n rc S0 a0 v1 v2 v3 = some S') : Met l yX7_readBrackets (zws yX7_readBrackets cX7_readBrackets 4 none) { frames := 4 * dd + 1, cells := 0, slots := 0, locals := 91 * dd + 23 } (zPc D cy B S0 [.ref (B + a0), .int v1, .int v2, .int v3]) (zQv D cy B S0 S') 0 0 (fun q => B < q) := by
  refine Met.ofW (cc := cX7_readBrackets) (maxL := 4) (ret := none) (by decide) rfl ?_
  intro p e s m args below meth c s₁ Bd hml hv
  obtain ⟨rfl, hC, hM⟩ := hv
  obtain ⟨hx, hb, hr, hg, hown, hlk⟩ := z_open Bd
  have hK := hC.1
  have hS : va_S (fun q => B < q) s.heap s.heap [] := va_S.rf
  have hX0 : zX S0 S0 := zX.rf
  refine z_entry (vs := [.ref (B + a0), .int v1, .int v2, .int v3]) (Nat.le_of_ble_eq_true rfl) (fun ls hl => ?_)
  have hl : lv_has ls 4 [(0, .ref (B + a0)), (1, .int v1), (2, .int v2), (3, .int v3)] := hl
  unfold f_X7_readBrackets at h
  refine lv_aload_n hx hb dX7_readBrackets_0 rfl (lv_at hl 0 rfl) ?_
  refine z_getI hx hb hg zin_7 hown hK hM ha0 4 rfl (by decide) (hg _ zw_175) (fun _ h9 => h9) dX7_readBrackets_1 ?_
  refine lv_if_ne (tgt := 13) hx hb dX7_readBrackets_4 (by decide) (fun hc1 => ?_) (fun hc1 => ?_)
  · have h := zf h hc1
    refine lv_aload_n hx hb dX7_readBrackets_13 rfl (lv_at hl 0 rfl) ?_
    refine lv_iconst (v := (1 : Int32)) hx hb dX7_readBrackets_14 (by decide +kernel) ?_
    refine z_putI hx hb hg zin_7 tyX7 tyX7_ok nmX7 hown hK hM hS ha0 4 rfl (by decide) (hg _ zw_175) (fun _ h9 => h9) (Or.inl rfl) (tyX7_ok 4 (by decide)) (by decide +kernel) (by decide +kernel) dX7_readBrackets_15 (fun H locs hM hS => ?_)
    obtain ⟨S2, e3, h⟩ := zlg h
    rw [← e3] at hM
    have hX4 : zX S0 S2 := by rw [e3]; exact zX_pI
    have hX5 := hX0.tr hX4
    exact z_vret hx hb hr hlk hM hX5 hS (zsm h) dX7_readBrackets_18
  · have h := zt h hc1
    refine lv_iload_n hx hb dX7_readBrackets_7 rfl (lv_at hl 3 rfl) ?_
    refine lv_bipush (v := (6 : Int32)) hx hb dX7_readBrackets_8 (by decide +kernel) ?_
    refine lv_icmp_le (tgt := 19) hx hb dX7_readBrackets_10 (by decide) (fun hc6 => ?_) (fun hc6 => ?_)
    · have h := zt h hc6
      refine lv_aload_n hx hb dX7_readBrackets_19 rfl (lv_at hl 0 rfl) ?_
      refine lv_dup hx hb dX7_readBrackets_20 rfl ?_
      refine z_getI hx hb hg zin_7 hown hK hM ha0 3 rfl (by decide) (hg _ zw_174) (fun _ h9 => h9) dX7_readBrackets_21 ?_
      refine lv_iconst (v := (1 : Int32)) hx hb dX7_readBrackets_24 (by decide +kernel) ?_
      refine lv_iadd hx hb dX7_readBrackets_25 ?_
      refine z_putI hx hb hg zin_7 tyX7 tyX7_ok nmX7 hown hK hM hS ha0 3 rfl (by decide) (hg _ zw_174) (fun _ h9 => h9) (Or.inl rfl) (tyX7_ok 3 (by decide)) rfl rfl dX7_readBrackets_26 (fun H locs hM hS => ?_)
      obtain ⟨S7, e8, h⟩ := zlg h
      rw [← e8] at hM
      have hX9 : zX S0 S7 := by rw [e8]; exact zX_pI
      have h10 := ha0.mo hX9
      have hX11 := hX0.tr hX9
      refine lv_aload_n hx hb dX7_readBrackets_29 rfl (lv_at hl 0 rfl) ?_
      refine lv_iload_n hx hb dX7_readBrackets_30 rfl (lv_at hl 3 rfl) ?_
      obtain ⟨S13, hr12, h⟩ := zb1 h
      refine z_runv (va_runV (As := [.int v3]) (rest := []) ⟨hx, hb, hml, hown, hg⟩ (hrc h10 hr12) (z_cwV hg zw_522 zw_523 zw_1473 zw_7 zw_524 zh_X7_readSum ⟨by show 4 * dd + 1 ≤ 4 * dd + 1; omega, by show 8 + (4 + 11) + (91 * dd) ≤ 91 * dd + 23; omega⟩) (zPV hC hM h10 (by decide) rfl) rfl rfl hl.1 rfl (lv_room (Nat.le_of_ble_eq_true rfl)) dX7_readBrackets_31 ⟨(Nat.le_of_ble_eq_true rfl), (Nat.le_of_ble_eq_true rfl)⟩) hS (fun H locs hM hX14 hS => ?_)
      have h16 := h10.mo hX14
      have hX17 := hX11.tr hX14
      refine lv_iload_n hx hb dX7_readBrackets_34 rfl (lv_at hl 1 rfl) ?_
      refine lv_bipush (v := (40 : Int32)) hx hb dX7_readBrackets_35 (by decide +kernel) ?_
      obtain ⟨K21, eK21, h⟩ := zlg h
      have hK21 : ∀ (S19 : zM) (H : Heap) (locs : List Loc), zMR D cy B S19 H → zX S0 S19 → va_S (fun q => B < q) s.heap H locs → zA S19 a0 7 → ∀ ls : Array Slot, lv_has ls 4 [(0, .ref (B + a0)), (2, .int v2)] → K21 S19 = some S' → W p l e (headSpec (zws yX7_readBrackets cX7_readBrackets 4 none) { frames := 4 * dd + 1, cells := 0, slots := 0, locals := 91 * dd + 23 }).room s m (([.ref (B + a0), .int v1, .int v2, .int v3] : List Value).toArray) below meth c H locs 0 0 (MQ below (zQv D cy B S0 S') (([.ref (B + a0), .int v1, .int v2, .int v3] : List Value).toArray) s 0 0 (fun q => B < q)) (F0 m 67 ls []) := by
        intro S19 H locs hM hX20 hS h18 ls hl h
        rw [eK21] at h
        refine lv_aload_n hx hb dX7_readBrackets_67 rfl (lv_at hl 0 rfl) ?_
        refine lv_iload_n hx hb dX7_readBrackets_68 rfl (lv_at hl 1 rfl) ?_
        obtain ⟨S23, hr22, h⟩ := zb1 h
        refine z_runv (va_runV (As := [.int v2]) (rest := []) ⟨hx, hb, hml, hown, hg⟩ (c_X7_expect l D cy B h18 hr22) (z_cwV hg zw_508 zw_509 zw_1470 zw_7 zw_510 zh_X7_expect ⟨by show 0 + 1 ≤ 4 * dd + 1; omega, by show 8 + (2 + 11) + 0 ≤ 91 * dd + 23; omega⟩) (zPV hC hM h18 (by decide) rfl) rfl rfl hl.1 rfl (lv_room (Nat.le_of_ble_eq_true rfl)) dX7_readBrackets_69 ⟨(Nat.le_of_ble_eq_true rfl), (Nat.le_of_ble_eq_true rfl)⟩) hS (fun H locs hM hX24 hS => ?_)
        have hX26 := hX20.tr hX24
        exact z_vret hx hb hr hlk hM hX26 hS (zsm h) dX7_readBrackets_72
      refine lv_icmp_eq (tgt := 67) hx hb dX7_readBrackets_37 (by decide) (fun hc27 => ?_) (fun hc27 => ?_)
      · have h := zt h hc27
        exact hK21 S13 _ _ hM hX17 hS h16 _ (lv_sub hl [0, 2] rfl) h
      · have h := zf h hc27
        refine lv_aload_n hx hb dX7_readBrackets_40 rfl (lv_at hl 0 rfl) ?_
        refine lv_bipush (v := (44 : Int32)) hx hb dX7_readBrackets_41 (by decide +kernel) ?_
        obtain ⟨S29, hr28, h⟩ := zb1 h
        refine z_runv (va_runV (As := [.int (44 : Int32)]) (rest := []) ⟨hx, hb, hml, hown, hg⟩ (c_X7_expect l D cy B h16 hr28) (z_cwV hg zw_508 zw_509 zw_1470 zw_7 zw_510 zh_X7_expect ⟨by show 0 + 1 ≤ 4 * dd + 1; omega, by show 8 + (2 + 11) + 0 ≤ 91 * dd + 23; omega⟩) (zPV hC hM h16 (by decide) rfl) rfl rfl hl.1 rfl (lv_room (Nat.le_of_ble_eq_true rfl)) dX7_readBrackets_43 ⟨(Nat.le_of_ble_eq_true rfl), (Nat.le_of_ble_eq_true rfl)⟩) hS (fun H locs hM hX30 hS => ?_)
        have h32 := h16.mo hX30
        have hX33 := hX17.tr hX30
        refine lv_aload_n hx hb dX7_readBrackets_46 rfl (lv_at hl 0 rfl) ?_
        refine z_getI hx hb hg zin_7 hown hK hM h32 4 rfl (by decide) (hg _ zw_175) (fun _ h9 => h9) dX7_readBrackets_47 ?_
        refine lv_if_ne (tgt := 67) hx hb dX7_readBrackets_50 (by decide) (fun hc34 => ?_) (fun hc34 => ?_)
        · have h := zf h hc34
          exact hK21 S29 _ _ hM hX33 hS h32 _ (lv_sub hl [0, 2] rfl) h
        · have h := zt h hc34
          refine lv_aload_n hx hb dX7_readBrackets_53 rfl (lv_at hl 0 rfl) ?_
          refine lv_iload_n hx hb dX7_readBrackets_54 rfl (lv_at hl 3 rfl) ?_
          obtain ⟨S36, hr35, h⟩ := zb1 h
          refine z_runv (va_runV (As := [.int v3]) (rest := []) ⟨hx, hb, hml, hown, hg⟩ (hrc h32 hr35) (z_cwV hg zw_522 zw_523 zw_1473 zw_7 zw_524 zh_X7_readSum ⟨by show 4 * dd + 1 ≤ 4 * dd + 1; omega, by show 8 + (4 + 11) + (91 * dd) ≤ 91 * dd + 23; omega⟩) (zPV hC hM h32 (by decide) rfl) rfl rfl hl.1 rfl (lv_room (Nat.le_of_ble_eq_true rfl)) dX7_readBrackets_55 ⟨(Nat.le_of_ble_eq_true rfl), (Nat.le_of_ble_eq_true rfl)⟩) hS (fun H locs hM hX37 hS => ?_)
          have h39 := h32.mo hX37
          have hX40 := hX33.tr hX37
          refine lv_aload_n hx hb dX7_readBrackets_58 rfl (lv_at hl 0 rfl) ?_
          obtain ⟨hq42, h⟩ := zk h
          refine z_getN hx hb hg zin_7 hown hK hM h39 0 rfl (by decide) (hg _ zw_170) (fun _ h9 => h9) hq42 dX7_readBrackets_59 (fun h41 => ?_)
          refine lv_iload_n hx hb dX7_readBrackets_62 rfl (lv_at hl 1 rfl) ?_
          refine lv_ineg hx hb dX7_readBrackets_63 ?_
          obtain ⟨S44, hr43, h⟩ := zb1 h
          refine z_runv (va_runV (As := [.int (-v1)]) (rest := []) ⟨hx, hb, hml, hown, hg⟩ (c_X6_append l D cy B h41 hr43) (z_cwV hg zw_534 zw_44 zw_45 zw_4 zw_46 zh_X6_append ⟨by show 0 + 1 ≤ 4 * dd + 1; omega, by show 8 + (2 + 11) + 0 ≤ 91 * dd + 23; omega⟩) (zPV hC hM h41 (by decide) rfl) rfl rfl hl.1 rfl (lv_room (Nat.le_of_ble_eq_true rfl)) dX7_readBrackets_64 ⟨(Nat.le_of_ble_eq_true rfl), (Nat.le_of_ble_eq_true rfl)⟩) hS (fun H locs hM hX45 hS => ?_)
          have h47 := h39.mo hX45
          have hX48 := hX40.tr hX45
          exact hK21 S44 _ _ hM hX48 hS h47 _ (lv_sub hl [0, 2] rfl) h
    · have h := zf h hc6
      refine lv_aload_n hx hb dX7_readBrackets_13 rfl (lv_at hl 0 rfl) ?_
      refine lv_iconst (v := (1 : Int32)) hx hb dX7_readBrackets_14 (by decide +kernel) ?_
      refine z_putI hx hb hg zin_7 tyX7 tyX7_ok nmX7 hown hK hM hS ha0 4 rfl (by decide) (hg _ zw_175) (fun _ h9 => h9) (Or.inl rfl) (tyX7_ok 4 (by decide)) (by decide +kernel) (by decide +kernel) dX7_readBrackets_15 (fun H locs hM hS => ?_)
      obtain ⟨S49, e50, h⟩ := zlg h
      rw [← e50] at hM
      have hX51 : zX S0 S49 := by rw [e50]; exact zX_pI
      have hX52 := hX0.tr hX51
      exact z_vret hx hb hr hlk hM hX52 hS (zsm h) dX7_readBrackets_18
def f_X7_readAtom (n : Nat) (rc : zM → Nat → Int32 → Option (zM)) (S0 : zM) (a0 : Nat) (v1 : Int32) : Option (zM) :=
  zB1 (f_X7_next S0 a0) (fun r2 => if r2 = (40 : Int32) then zB1 (f_X7_readBrackets n rc S0 a0 r2 (41 : Int32) (v1 + (1 : Int32))) (fun S7 => some S7) else if r2 = (91 : Int32) then zB1 (f_X7_readBrackets n rc S0 a0 r2 (93 : Int32) (v1 + (1 : Int32))) (fun S13 => some S13) else if r2 = (97 : Int32) then zLet (zpI S0 a0 3 ((zi S0 a0 3) + (1 : Int32))) (fun S18 => zChk (¬ (zr S18 a0 0) = 0) (zB1 (f_X6_append S18 (zr S18 a0 0) (-r2)) (fun S26 => some S26))) else if r2 = (104 : Int32) then zLet (zpI S0 a0 3 ((zi S0 a0 3) + (1 : Int32))) (fun S31 => zChk (¬ (zr S31 a0 0) = 0) (zB1 (f_X6_append S31 (zr S31 a0 0) (-r2)) (fun S39 => some S39))) else if r2 = (109 : Int32) then zLet (zpI S0 a0 3 ((zi S0 a0 3) + (1 : Int32))) (fun S44 => zChk (¬ (zr S44 a0 0) = 0) (zB1 (f_X6_append S44 (zr S44 a0 0) (-r2)) (fun S52 => some S52))) else if r2 = (110 : Int32) then zLet (zpI S0 a0 3 ((zi S0 a0 3) + (1 : Int32))) (fun S57 => zChk (¬ (zr S57 a0 0) = 0) (zB1 (f_X6_append S57 (zr S57 a0 0) (-r2)) (fun S65 => some S65))) else if r2 = (112 : Int32) then zLet (zpI S0 a0 3 ((zi S0 a0 3) + (1 : Int32))) (fun S70 => zChk (¬ (zr S70 a0 0) = 0) (zB1 (f_X6_append S70 (zr S70 a0 0) (-r2)) (fun S78 => some S78))) else if r2 = (115 : Int32) then zLet (zpI S0 a0 3 ((zi S0 a0 3) + (1 : Int32))) (fun S83 => zChk (¬ (zr S83 a0 0) = 0) (zB1 (f_X6_append S83 (zr S83 a0 0) (-r2)) (fun S91 => some S91))) else if r2 = (122 : Int32) then zLet (zpI S0 a0 3 ((zi S0 a0 3) + (1 : Int32))) (fun S96 => zChk (¬ (zr S96 a0 0) = 0) (zB1 (f_X6_append S96 (zr S96 a0 0) (-r2)) (fun S104 => some S104))) else if r2 = (123 : Int32) then zB1 (f_X7_readBrackets n rc S0 a0 r2 (125 : Int32) (v1 + (1 : Int32))) (fun S110 => some S110) else zChk (¬ (zr S0 a0 0) = 0) (zB2 (f_X7_readNumber n S0 a0) (fun r117 S118 => zB1 (f_X6_append S118 (zr S0 a0 0) r117) (fun S124 => some S124))))
set_option maxHeartbeats 4000000 in
set_option maxRecDepth 100000 in
theorem c_X7_readAtom (l : Launch) (D : va_G) (cy : Nat → ClassId) (B : Nat) (dd : Nat) {rc : zM → Nat → Int32 → Option (zM)} (hrc : ∀ {S : zM} {b0 : Nat} {b1 : Int32} {S1 : zM}, zA S b0 7 →  rc S b0 b1 = some (S1) → Met l yX7_readSum (zws yX7_readSum cX7_readSum 4 none) { frames := 4 * dd, cells := 0, slots := 0, locals := 91 * dd } (zPc D cy B S [.ref (B + b0), .int b1]) (zQv D cy B S S1) 0 0 (fun q => B < q)) {n : Nat} {S0 : zM} {a0 : Nat} {v1 : Int32} {S' : zM} (ha0 : zA S0 a0 7) (h : f_X7_readAtom n rc S0 a0 v1 = some S') : Met l yX7_readAtom (zws yX7_readAtom cX7_readAtom 3 none) { frames := 4 * dd + 2, cells := 0, slots := 0, locals := 91 * dd + 46 } (zPc D cy B S0 [.ref (B + a0), .int v1]) (zQv D cy B S0 S') 0 0 (fun q => B < q) := by
  refine Met.ofW (cc := cX7_readAtom) (maxL := 3) (ret := none) (by decide) rfl ?_
  intro p e s m args below meth c s₁ Bd hml hv
  obtain ⟨rfl, hC, hM⟩ := hv
  obtain ⟨hx, hb, hr, hg, hown, hlk⟩ := z_open Bd
  have hK := hC.1
  have hS : va_S (fun q => B < q) s.heap s.heap [] := va_S.rf
  have hX0 : zX S0 S0 := zX.rf
  refine z_entry (vs := [.ref (B + a0), .int v1]) (Nat.le_of_ble_eq_true rfl) (fun ls hl => ?_)
  have hl : lv_has ls 3 [(0, .ref (B + a0)), (1, .int v1)] := hl
  unfold f_X7_readAtom at h
  refine lv_aload_n hx hb dX7_readAtom_0 rfl (lv_at hl 0 rfl) ?_
  obtain ⟨r2, hr1, h⟩ := zb1 h
  refine z_runi (va_runV (As := []) (rest := []) ⟨hx, hb, hml, hown, hg⟩ (c_X7_next l D cy B ha0 hr1) (z_cwV hg zw_496 zw_497 zw_1466 zw_7 zw_498 zh_X7_next ⟨by show 0 + 1 ≤ 4 * dd + 2; omega, by show 8 + (1 + 11) + 0 ≤ 91 * dd + 46; omega⟩) (zPV hC hM ha0 (by decide) rfl) rfl rfl hl.1 rfl (lv_room (Nat.le_of_ble_eq_true rfl)) dX7_readAtom_1 ⟨(Nat.le_of_ble_eq_true rfl), (Nat.le_of_ble_eq_true rfl)⟩) hS (fun H locs hM hX3 hS => ?_)
  refine lv_istore_n (i := 2) (lv' := [(2, .int r2), (0, .ref (B + a0)), (1, .int v1)]) hx hb dX7_readAtom_4 rfl hl (by decide) rfl (fun ls hl => ?_)
  refine lv_iload_n hx hb dX7_readAtom_5 rfl (lv_at hl 0 rfl) ?_
  by_cases hc5 : r2 = (40 : Int32)
  · refine z_lin (off := 116) hx hb hc5 dX7_readAtom_6 (by decide +kernel) (by decide +kernel) (tgt := 122) (by decide) ?_
    have h := zt h hc5
    refine lv_aload_n hx hb dX7_readAtom_122 rfl (lv_at hl 1 rfl) ?_
    refine lv_iload_n hx hb dX7_readAtom_123 rfl (lv_at hl 0 rfl) ?_
    refine lv_bipush (v := (41 : Int32)) hx hb dX7_readAtom_124 (by decide +kernel) ?_
    refine lv_iload_n hx hb dX7_readAtom_126 rfl (lv_at hl 2 rfl) ?_
    refine lv_iconst (v := (1 : Int32)) hx hb dX7_readAtom_127 (by decide +kernel) ?_
    refine lv_iadd hx hb dX7_readAtom_128 ?_
    obtain ⟨S7, hr6, h⟩ := zb1 h
    refine z_runv (va_runV (As := [.int r2, .int (41 : Int32), .int (v1 + (1 : Int32))]) (rest := []) ⟨hx, hb, hml, hown, hg⟩ (c_X7_readBrackets l D cy B dd hrc ha0 hr6) (z_cwV hg zw_531 zw_532 zw_1476 zw_7 zw_533 zh_X7_readBrackets ⟨by show 4 * dd + 1 + 1 ≤ 4 * dd + 2; omega, by show 8 + (4 + 11) + (91 * dd + 23) ≤ 91 * dd + 46; omega⟩) (zPV hC hM ha0 (by decide) rfl) rfl rfl hl.1 rfl (lv_room (Nat.le_of_ble_eq_true rfl)) dX7_readAtom_129 ⟨(Nat.le_of_ble_eq_true rfl), (Nat.le_of_ble_eq_true rfl)⟩) hS (fun H locs hM hX8 hS => ?_)
    have hX10 := hX0.tr hX8
    refine lv_goto (tgt := 168) hx hb dX7_readAtom_132 (by decide) ?_
    exact z_vret hx hb hr hlk hM hX10 hS (zsm h) dX7_readAtom_168
  · have h := zf h hc5
    by_cases hc11 : r2 = (91 : Int32)
    · refine z_lin (off := 90) hx hb hc11 dX7_readAtom_6 (by decide +kernel) (by decide +kernel) (tgt := 96) (by decide) ?_
      have h := zt h hc11
      refine lv_aload_n hx hb dX7_readAtom_96 rfl (lv_at hl 1 rfl) ?_
      refine lv_iload_n hx hb dX7_readAtom_97 rfl (lv_at hl 0 rfl) ?_
      refine lv_bipush (v := (93 : Int32)) hx hb dX7_readAtom_98 (by decide +kernel) ?_
      refine lv_iload_n hx hb dX7_readAtom_100 rfl (lv_at hl 2 rfl) ?_
      refine lv_iconst (v := (1 : Int32)) hx hb dX7_readAtom_101 (by decide +kernel) ?_
      refine lv_iadd hx hb dX7_readAtom_102 ?_
      obtain ⟨S13, hr12, h⟩ := zb1 h
      refine z_runv (va_runV (As := [.int r2, .int (93 : Int32), .int (v1 + (1 : Int32))]) (rest := []) ⟨hx, hb, hml, hown, hg⟩ (c_X7_readBrackets l D cy B dd hrc ha0 hr12) (z_cwV hg zw_531 zw_532 zw_1476 zw_7 zw_533 zh_X7_readBrackets ⟨by show 4 * dd + 1 + 1 ≤ 4 * dd + 2; omega, by show 8 + (4 + 11) + (91 * dd + 23) ≤ 91 * dd + 46; omega⟩) (zPV hC hM ha0 (by decide) rfl) rfl rfl hl.1 rfl (lv_room (Nat.le_of_ble_eq_true rfl)) dX7_readAtom_103 ⟨(Nat.le_of_ble_eq_true rfl), (Nat.le_of_ble_eq_true rfl)⟩) hS (fun H locs hM hX14 hS => ?_)
      have hX16 := hX0.tr hX14
      refine lv_goto (tgt := 168) hx hb dX7_readAtom_106 (by decide) ?_
      exact z_vret hx hb hr hlk hM hX16 hS (zsm h) dX7_readAtom_168
    · have h := zf h hc11
      by_cases hc17 : r2 = (97 : Int32)
      · refine z_lin (off := 129) hx hb hc17 dX7_readAtom_6 (by decide +kernel) (by decide +kernel) (tgt := 135) (by decide) ?_
        have h := zt h hc17
        refine lv_aload_n hx hb dX7_readAtom_135 rfl (lv_at hl 1 rfl) ?_
        refine lv_dup hx hb dX7_readAtom_136 rfl ?_
        refine z_getI hx hb hg zin_7 hown hK hM ha0 3 rfl (by decide) (hg _ zw_174) (fun _ h9 => h9) dX7_readAtom_137 ?_
        refine lv_iconst (v := (1 : Int32)) hx hb dX7_readAtom_140 (by decide +kernel) ?_
        refine lv_iadd hx hb dX7_readAtom_141 ?_
        refine z_putI hx hb hg zin_7 tyX7 tyX7_ok nmX7 hown hK hM hS ha0 3 rfl (by decide) (hg _ zw_174) (fun _ h9 => h9) (Or.inl rfl) (tyX7_ok 3 (by decide)) rfl rfl dX7_readAtom_142 (fun H locs hM hS => ?_)
        obtain ⟨S18, e19, h⟩ := zlg h
        rw [← e19] at hM
        have hX20 : zX S0 S18 := by rw [e19]; exact zX_pI
        have h21 := ha0.mo hX20
        have hX22 := hX0.tr hX20
        refine lv_aload_n hx hb dX7_readAtom_145 rfl (lv_at hl 1 rfl) ?_
        obtain ⟨hq24, h⟩ := zk h
        refine z_getN hx hb hg zin_7 hown hK hM h21 0 rfl (by decide) (hg _ zw_170) (fun _ h9 => h9) hq24 dX7_readAtom_146 (fun h23 => ?_)
        refine lv_iload_n hx hb dX7_readAtom_149 rfl (lv_at hl 0 rfl) ?_
        refine lv_ineg hx hb dX7_readAtom_150 ?_
        obtain ⟨S26, hr25, h⟩ := zb1 h
        refine z_runv (va_runV (As := [.int (-r2)]) (rest := []) ⟨hx, hb, hml, hown, hg⟩ (c_X6_append l D cy B h23 hr25) (z_cwV hg zw_534 zw_44 zw_45 zw_4 zw_46 zh_X6_append ⟨by show 0 + 1 ≤ 4 * dd + 2; omega, by show 8 + (2 + 11) + 0 ≤ 91 * dd + 46; omega⟩) (zPV hC hM h23 (by decide) rfl) rfl rfl hl.1 rfl (lv_room (Nat.le_of_ble_eq_true rfl)) dX7_readAtom_151 ⟨(Nat.le_of_ble_eq_true rfl), (Nat.le_of_ble_eq_true rfl)⟩) hS (fun H locs hM hX27 hS => ?_)
        have hX29 := hX22.tr hX27
        refine lv_goto (tgt := 168) hx hb dX7_readAtom_154 (by decide) ?_
        exact z_vret hx hb hr hlk hM hX29 hS (zsm h) dX7_readAtom_168
      · have h := zf h hc17
        by_cases hc30 : r2 = (104 : Int32)
        · refine z_lin (off := 129) hx hb hc30 dX7_readAtom_6 (by decide +kernel) (by decide +kernel) (tgt := 135) (by decide) ?_
          have h := zt h hc30
          refine lv_aload_n hx hb dX7_readAtom_135 rfl (lv_at hl 1 rfl) ?_
          refine lv_dup hx hb dX7_readAtom_136 rfl ?_
          refine z_getI hx hb hg zin_7 hown hK hM ha0 3 rfl (by decide) (hg _ zw_174) (fun _ h9 => h9) dX7_readAtom_137 ?_
          refine lv_iconst (v := (1 : Int32)) hx hb dX7_readAtom_140 (by decide +kernel) ?_
          refine lv_iadd hx hb dX7_readAtom_141 ?_
          refine z_putI hx hb hg zin_7 tyX7 tyX7_ok nmX7 hown hK hM hS ha0 3 rfl (by decide) (hg _ zw_174) (fun _ h9 => h9) (Or.inl rfl) (tyX7_ok 3 (by decide)) rfl rfl dX7_readAtom_142 (fun H locs hM hS => ?_)
          obtain ⟨S31, e32, h⟩ := zlg h
          rw [← e32] at hM
          have hX33 : zX S0 S31 := by rw [e32]; exact zX_pI
          have h34 := ha0.mo hX33
          have hX35 := hX0.tr hX33
          refine lv_aload_n hx hb dX7_readAtom_145 rfl (lv_at hl 1 rfl) ?_
          obtain ⟨hq37, h⟩ := zk h
          refine z_getN hx hb hg zin_7 hown hK hM h34 0 rfl (by decide) (hg _ zw_170) (fun _ h9 => h9) hq37 dX7_readAtom_146 (fun h36 => ?_)
          refine lv_iload_n hx hb dX7_readAtom_149 rfl (lv_at hl 0 rfl) ?_
          refine lv_ineg hx hb dX7_readAtom_150 ?_
          obtain ⟨S39, hr38, h⟩ := zb1 h
          refine z_runv (va_runV (As := [.int (-r2)]) (rest := []) ⟨hx, hb, hml, hown, hg⟩ (c_X6_append l D cy B h36 hr38) (z_cwV hg zw_534 zw_44 zw_45 zw_4 zw_46 zh_X6_append ⟨by show 0 + 1 ≤ 4 * dd + 2; omega, by show 8 + (2 + 11) + 0 ≤ 91 * dd + 46; omega⟩) (zPV hC hM h36 (by decide) rfl) rfl rfl hl.1 rfl (lv_room (Nat.le_of_ble_eq_true rfl)) dX7_readAtom_151 ⟨(Nat.le_of_ble_eq_true rfl), (Nat.le_of_ble_eq_true rfl)⟩) hS (fun H locs hM hX40 hS => ?_)
          have hX42 := hX35.tr hX40
          refine lv_goto (tgt := 168) hx hb dX7_readAtom_154 (by decide) ?_
          exact z_vret hx hb hr hlk hM hX42 hS (zsm h) dX7_readAtom_168
        · have h := zf h hc30
          by_cases hc43 : r2 = (109 : Int32)
          · refine z_lin (off := 129) hx hb hc43 dX7_readAtom_6 (by decide +kernel) (by decide +kernel) (tgt := 135) (by decide) ?_
            have h := zt h hc43
            refine lv_aload_n hx hb dX7_readAtom_135 rfl (lv_at hl 1 rfl) ?_
            refine lv_dup hx hb dX7_readAtom_136 rfl ?_
            refine z_getI hx hb hg zin_7 hown hK hM ha0 3 rfl (by decide) (hg _ zw_174) (fun _ h9 => h9) dX7_readAtom_137 ?_
            refine lv_iconst (v := (1 : Int32)) hx hb dX7_readAtom_140 (by decide +kernel) ?_
            refine lv_iadd hx hb dX7_readAtom_141 ?_
            refine z_putI hx hb hg zin_7 tyX7 tyX7_ok nmX7 hown hK hM hS ha0 3 rfl (by decide) (hg _ zw_174) (fun _ h9 => h9) (Or.inl rfl) (tyX7_ok 3 (by decide)) rfl rfl dX7_readAtom_142 (fun H locs hM hS => ?_)
            obtain ⟨S44, e45, h⟩ := zlg h
            rw [← e45] at hM
            have hX46 : zX S0 S44 := by rw [e45]; exact zX_pI
            have h47 := ha0.mo hX46
            have hX48 := hX0.tr hX46
            refine lv_aload_n hx hb dX7_readAtom_145 rfl (lv_at hl 1 rfl) ?_
            obtain ⟨hq50, h⟩ := zk h
            refine z_getN hx hb hg zin_7 hown hK hM h47 0 rfl (by decide) (hg _ zw_170) (fun _ h9 => h9) hq50 dX7_readAtom_146 (fun h49 => ?_)
            refine lv_iload_n hx hb dX7_readAtom_149 rfl (lv_at hl 0 rfl) ?_
            refine lv_ineg hx hb dX7_readAtom_150 ?_
            obtain ⟨S52, hr51, h⟩ := zb1 h
            refine z_runv (va_runV (As := [.int (-r2)]) (rest := []) ⟨hx, hb, hml, hown, hg⟩ (c_X6_append l D cy B h49 hr51) (z_cwV hg zw_534 zw_44 zw_45 zw_4 zw_46 zh_X6_append ⟨by show 0 + 1 ≤ 4 * dd + 2; omega, by show 8 + (2 + 11) + 0 ≤ 91 * dd + 46; omega⟩) (zPV hC hM h49 (by decide) rfl) rfl rfl hl.1 rfl (lv_room (Nat.le_of_ble_eq_true rfl)) dX7_readAtom_151 ⟨(Nat.le_of_ble_eq_true rfl), (Nat.le_of_ble_eq_true rfl)⟩) hS (fun H locs hM hX53 hS => ?_)
            have hX55 := hX48.tr hX53
            refine lv_goto (tgt := 168) hx hb dX7_readAtom_154 (by decide) ?_
            exact z_vret hx hb hr hlk hM hX55 hS (zsm h) dX7_readAtom_168
          · have h := zf h hc43
            by_cases hc56 : r2 = (110 : Int32)
            · refine z_lin (off := 129) hx hb hc56 dX7_readAtom_6 (by decide +kernel) (by decide +kernel) (tgt := 135) (by decide) ?_
              have h := zt h hc56
              refine lv_aload_n hx hb dX7_readAtom_135 rfl (lv_at hl 1 rfl) ?_
              refine lv_dup hx hb dX7_readAtom_136 rfl ?_
              refine z_getI hx hb hg zin_7 hown hK hM ha0 3 rfl (by decide) (hg _ zw_174) (fun _ h9 => h9) dX7_readAtom_137 ?_
              refine lv_iconst (v := (1 : Int32)) hx hb dX7_readAtom_140 (by decide +kernel) ?_
              refine lv_iadd hx hb dX7_readAtom_141 ?_
              refine z_putI hx hb hg zin_7 tyX7 tyX7_ok nmX7 hown hK hM hS ha0 3 rfl (by decide) (hg _ zw_174) (fun _ h9 => h9) (Or.inl rfl) (tyX7_ok 3 (by decide)) rfl rfl dX7_readAtom_142 (fun H locs hM hS => ?_)
              obtain ⟨S57, e58, h⟩ := zlg h
              rw [← e58] at hM
              have hX59 : zX S0 S57 := by rw [e58]; exact zX_pI
              have h60 := ha0.mo hX59
              have hX61 := hX0.tr hX59
              refine lv_aload_n hx hb dX7_readAtom_145 rfl (lv_at hl 1 rfl) ?_
              obtain ⟨hq63, h⟩ := zk h
              refine z_getN hx hb hg zin_7 hown hK hM h60 0 rfl (by decide) (hg _ zw_170) (fun _ h9 => h9) hq63 dX7_readAtom_146 (fun h62 => ?_)
              refine lv_iload_n hx hb dX7_readAtom_149 rfl (lv_at hl 0 rfl) ?_
              refine lv_ineg hx hb dX7_readAtom_150 ?_
              obtain ⟨S65, hr64, h⟩ := zb1 h
              refine z_runv (va_runV (As := [.int (-r2)]) (rest := []) ⟨hx, hb, hml, hown, hg⟩ (c_X6_append l D cy B h62 hr64) (z_cwV hg zw_534 zw_44 zw_45 zw_4 zw_46 zh_X6_append ⟨by show 0 + 1 ≤ 4 * dd + 2; omega, by show 8 + (2 + 11) + 0 ≤ 91 * dd + 46; omega⟩) (zPV hC hM h62 (by decide) rfl) rfl rfl hl.1 rfl (lv_room (Nat.le_of_ble_eq_true rfl)) dX7_readAtom_151 ⟨(Nat.le_of_ble_eq_true rfl), (Nat.le_of_ble_eq_true rfl)⟩) hS (fun H locs hM hX66 hS => ?_)
              have hX68 := hX61.tr hX66
              refine lv_goto (tgt := 168) hx hb dX7_readAtom_154 (by decide) ?_
              exact z_vret hx hb hr hlk hM hX68 hS (zsm h) dX7_readAtom_168
            · have h := zf h hc56
              by_cases hc69 : r2 = (112 : Int32)
              · refine z_lin (off := 129) hx hb hc69 dX7_readAtom_6 (by decide +kernel) (by decide +kernel) (tgt := 135) (by decide) ?_
                have h := zt h hc69
                refine lv_aload_n hx hb dX7_readAtom_135 rfl (lv_at hl 1 rfl) ?_
                refine lv_dup hx hb dX7_readAtom_136 rfl ?_
                refine z_getI hx hb hg zin_7 hown hK hM ha0 3 rfl (by decide) (hg _ zw_174) (fun _ h9 => h9) dX7_readAtom_137 ?_
                refine lv_iconst (v := (1 : Int32)) hx hb dX7_readAtom_140 (by decide +kernel) ?_
                refine lv_iadd hx hb dX7_readAtom_141 ?_
                refine z_putI hx hb hg zin_7 tyX7 tyX7_ok nmX7 hown hK hM hS ha0 3 rfl (by decide) (hg _ zw_174) (fun _ h9 => h9) (Or.inl rfl) (tyX7_ok 3 (by decide)) rfl rfl dX7_readAtom_142 (fun H locs hM hS => ?_)
                obtain ⟨S70, e71, h⟩ := zlg h
                rw [← e71] at hM
                have hX72 : zX S0 S70 := by rw [e71]; exact zX_pI
                have h73 := ha0.mo hX72
                have hX74 := hX0.tr hX72
                refine lv_aload_n hx hb dX7_readAtom_145 rfl (lv_at hl 1 rfl) ?_
                obtain ⟨hq76, h⟩ := zk h
                refine z_getN hx hb hg zin_7 hown hK hM h73 0 rfl (by decide) (hg _ zw_170) (fun _ h9 => h9) hq76 dX7_readAtom_146 (fun h75 => ?_)
                refine lv_iload_n hx hb dX7_readAtom_149 rfl (lv_at hl 0 rfl) ?_
                refine lv_ineg hx hb dX7_readAtom_150 ?_
                obtain ⟨S78, hr77, h⟩ := zb1 h
                refine z_runv (va_runV (As := [.int (-r2)]) (rest := []) ⟨hx, hb, hml, hown, hg⟩ (c_X6_append l D cy B h75 hr77) (z_cwV hg zw_534 zw_44 zw_45 zw_4 zw_46 zh_X6_append ⟨by show 0 + 1 ≤ 4 * dd + 2; omega, by show 8 + (2 + 11) + 0 ≤ 91 * dd + 46; omega⟩) (zPV hC hM h75 (by decide) rfl) rfl rfl hl.1 rfl (lv_room (Nat.le_of_ble_eq_true rfl)) dX7_readAtom_151 ⟨(Nat.le_of_ble_eq_true rfl), (Nat.le_of_ble_eq_true rfl)⟩) hS (fun H locs hM hX79 hS => ?_)
                have hX81 := hX74.tr hX79
                refine lv_goto (tgt := 168) hx hb dX7_readAtom_154 (by decide) ?_
                exact z_vret hx hb hr hlk hM hX81 hS (zsm h) dX7_readAtom_168
              · have h := zf h hc69
                by_cases hc82 : r2 = (115 : Int32)
                · refine z_lin (off := 129) hx hb hc82 dX7_readAtom_6 (by decide +kernel) (by decide +kernel) (tgt := 135) (by decide) ?_
                  have h := zt h hc82
                  refine lv_aload_n hx hb dX7_readAtom_135 rfl (lv_at hl 1 rfl) ?_
                  refine lv_dup hx hb dX7_readAtom_136 rfl ?_
                  refine z_getI hx hb hg zin_7 hown hK hM ha0 3 rfl (by decide) (hg _ zw_174) (fun _ h9 => h9) dX7_readAtom_137 ?_
                  refine lv_iconst (v := (1 : Int32)) hx hb dX7_readAtom_140 (by decide +kernel) ?_
                  refine lv_iadd hx hb dX7_readAtom_141 ?_
                  refine z_putI hx hb hg zin_7 tyX7 tyX7_ok nmX7 hown hK hM hS ha0 3 rfl (by decide) (hg _ zw_174) (fun _ h9 => h9) (Or.inl rfl) (tyX7_ok 3 (by decide)) rfl rfl dX7_readAtom_142 (fun H locs hM hS => ?_)
                  obtain ⟨S83, e84, h⟩ := zlg h
                  rw [← e84] at hM
                  have hX85 : zX S0 S83 := by rw [e84]; exact zX_pI
                  have h86 := ha0.mo hX85
                  have hX87 := hX0.tr hX85
                  refine lv_aload_n hx hb dX7_readAtom_145 rfl (lv_at hl 1 rfl) ?_
                  obtain ⟨hq89, h⟩ := zk h
                  refine z_getN hx hb hg zin_7 hown hK hM h86 0 rfl (by decide) (hg _ zw_170) (fun _ h9 => h9) hq89 dX7_readAtom_146 (fun h88 => ?_)
                  refine lv_iload_n hx hb dX7_readAtom_149 rfl (lv_at hl 0 rfl) ?_
                  refine lv_ineg hx hb dX7_readAtom_150 ?_
                  obtain ⟨S91, hr90, h⟩ := zb1 h
                  refine z_runv (va_runV (As := [.int (-r2)]) (rest := []) ⟨hx, hb, hml, hown, hg⟩ (c_X6_append l D cy B h88 hr90) (z_cwV hg zw_534 zw_44 zw_45 zw_4 zw_46 zh_X6_append ⟨by show 0 + 1 ≤ 4 * dd + 2; omega, by show 8 + (2 + 11) + 0 ≤ 91 * dd + 46; omega⟩) (zPV hC hM h88 (by decide) rfl) rfl rfl hl.1 rfl (lv_room (Nat.le_of_ble_eq_true rfl)) dX7_readAtom_151 ⟨(Nat.le_of_ble_eq_true rfl), (Nat.le_of_ble_eq_true rfl)⟩) hS (fun H locs hM hX92 hS => ?_)
                  have hX94 := hX87.tr hX92
                  refine lv_goto (tgt := 168) hx hb dX7_readAtom_154 (by decide) ?_
                  exact z_vret hx hb hr hlk hM hX94 hS (zsm h) dX7_readAtom_168
                · have h := zf h hc82
                  by_cases hc95 : r2 = (122 : Int32)
                  · refine z_lin (off := 129) hx hb hc95 dX7_readAtom_6 (by decide +kernel) (by decide +kernel) (tgt := 135) (by decide) ?_
                    have h := zt h hc95
                    refine lv_aload_n hx hb dX7_readAtom_135 rfl (lv_at hl 1 rfl) ?_
                    refine lv_dup hx hb dX7_readAtom_136 rfl ?_
                    refine z_getI hx hb hg zin_7 hown hK hM ha0 3 rfl (by decide) (hg _ zw_174) (fun _ h9 => h9) dX7_readAtom_137 ?_
                    refine lv_iconst (v := (1 : Int32)) hx hb dX7_readAtom_140 (by decide +kernel) ?_
                    refine lv_iadd hx hb dX7_readAtom_141 ?_
                    refine z_putI hx hb hg zin_7 tyX7 tyX7_ok nmX7 hown hK hM hS ha0 3 rfl (by decide) (hg _ zw_174) (fun _ h9 => h9) (Or.inl rfl) (tyX7_ok 3 (by decide)) rfl rfl dX7_readAtom_142 (fun H locs hM hS => ?_)
                    obtain ⟨S96, e97, h⟩ := zlg h
                    rw [← e97] at hM
                    have hX98 : zX S0 S96 := by rw [e97]; exact zX_pI
                    have h99 := ha0.mo hX98
                    have hX100 := hX0.tr hX98
                    refine lv_aload_n hx hb dX7_readAtom_145 rfl (lv_at hl 1 rfl) ?_
                    obtain ⟨hq102, h⟩ := zk h
                    refine z_getN hx hb hg zin_7 hown hK hM h99 0 rfl (by decide) (hg _ zw_170) (fun _ h9 => h9) hq102 dX7_readAtom_146 (fun h101 => ?_)
                    refine lv_iload_n hx hb dX7_readAtom_149 rfl (lv_at hl 0 rfl) ?_
                    refine lv_ineg hx hb dX7_readAtom_150 ?_
                    obtain ⟨S104, hr103, h⟩ := zb1 h
                    refine z_runv (va_runV (As := [.int (-r2)]) (rest := []) ⟨hx, hb, hml, hown, hg⟩ (c_X6_append l D cy B h101 hr103) (z_cwV hg zw_534 zw_44 zw_45 zw_4 zw_46 zh_X6_append ⟨by show 0 + 1 ≤ 4 * dd + 2; omega, by show 8 + (2 + 11) + 0 ≤ 91 * dd + 46; omega⟩) (zPV hC hM h101 (by decide) rfl) rfl rfl hl.1 rfl (lv_room (Nat.le_of_ble_eq_true rfl)) dX7_readAtom_151 ⟨(Nat.le_of_ble_eq_true rfl), (Nat.le_of_ble_eq_true rfl)⟩) hS (fun H locs hM hX105 hS => ?_)
                    have hX107 := hX100.tr hX105
                    refine lv_goto (tgt := 168) hx hb dX7_readAtom_154 (by decide) ?_
                    exact z_vret hx hb hr hlk hM hX107 hS (zsm h) dX7_readAtom_168
                  · have h := zf h hc95
                    by_cases hc108 : r2 = (123 : Int32)
                    · refine z_lin (off := 103) hx hb hc108 dX7_readAtom_6 (by decide +kernel) (by decide +kernel) (tgt := 109) (by decide) ?_
                      have h := zt h hc108
                      refine lv_aload_n hx hb dX7_readAtom_109 rfl (lv_at hl 1 rfl) ?_
                      refine lv_iload_n hx hb dX7_readAtom_110 rfl (lv_at hl 0 rfl) ?_
                      refine lv_bipush (v := (125 : Int32)) hx hb dX7_readAtom_111 (by decide +kernel) ?_
                      refine lv_iload_n hx hb dX7_readAtom_113 rfl (lv_at hl 2 rfl) ?_
                      refine lv_iconst (v := (1 : Int32)) hx hb dX7_readAtom_114 (by decide +kernel) ?_
                      refine lv_iadd hx hb dX7_readAtom_115 ?_
                      obtain ⟨S110, hr109, h⟩ := zb1 h
                      refine z_runv (va_runV (As := [.int r2, .int (125 : Int32), .int (v1 + (1 : Int32))]) (rest := []) ⟨hx, hb, hml, hown, hg⟩ (c_X7_readBrackets l D cy B dd hrc ha0 hr109) (z_cwV hg zw_531 zw_532 zw_1476 zw_7 zw_533 zh_X7_readBrackets ⟨by show 4 * dd + 1 + 1 ≤ 4 * dd + 2; omega, by show 8 + (4 + 11) + (91 * dd + 23) ≤ 91 * dd + 46; omega⟩) (zPV hC hM ha0 (by decide) rfl) rfl rfl hl.1 rfl (lv_room (Nat.le_of_ble_eq_true rfl)) dX7_readAtom_116 ⟨(Nat.le_of_ble_eq_true rfl), (Nat.le_of_ble_eq_true rfl)⟩) hS (fun H locs hM hX111 hS => ?_)
                      have hX113 := hX0.tr hX111
                      refine lv_goto (tgt := 168) hx hb dX7_readAtom_119 (by decide) ?_
                      exact z_vret hx hb hr hlk hM hX113 hS (zsm h) dX7_readAtom_168
                    · have h := zf h hc108
                      refine lv_lookup hx hb dX7_readAtom_6 (by decide +kernel) (off := 151) (by show Op.lookupswitch.offset [(40, 116), (91, 90), (97, 129), (104, 129), (109, 129), (110, 129), (112, 129), (115, 129), (122, 129), (123, 103)] 151 _ = _; rw [lv_osw hc5 (by decide +kernel), lv_osw hc11 (by decide +kernel), lv_osw hc17 (by decide +kernel), lv_osw hc30 (by decide +kernel), lv_osw hc43 (by decide +kernel), lv_osw hc56 (by decide +kernel), lv_osw hc69 (by decide +kernel), lv_osw hc82 (by decide +kernel), lv_osw hc95 (by decide +kernel), lv_osw hc108 (by decide +kernel)]; rfl) (tgt := 157) (by decide) ?_
                      refine lv_aload_n hx hb dX7_readAtom_157 rfl (lv_at hl 1 rfl) ?_
                      obtain ⟨hq115, h⟩ := zk h
                      refine z_getN hx hb hg zin_7 hown hK hM ha0 0 rfl (by decide) (hg _ zw_170) (fun _ h9 => h9) hq115 dX7_readAtom_158 (fun h114 => ?_)
                      refine lv_aload_n hx hb dX7_readAtom_161 rfl (lv_at hl 1 rfl) ?_
                      obtain ⟨r117, S118, hr116, h⟩ := zb2 h
                      refine z_runi (va_runV (As := []) (rest := [.ref (B + (zr S0 a0 0))]) ⟨hx, hb, hml, hown, hg⟩ (c_X7_readNumber l D cy B ha0 hr116) (z_cwV hg zw_502 zw_503 zw_1468 zw_7 zw_504 zh_X7_readNumber ⟨by show 1 + 1 ≤ 4 * dd + 2; omega, by show 8 + (3 + 11) + 20 ≤ 91 * dd + 46; omega⟩) (zPV hC hM ha0 (by decide) rfl) rfl rfl hl.1 rfl (lv_room (Nat.le_of_ble_eq_true rfl)) dX7_readAtom_162 ⟨(Nat.le_of_ble_eq_true rfl), (Nat.le_of_ble_eq_true rfl)⟩) hS (fun H locs hM hX119 hS => ?_)
                      have h121 := h114.mo hX119
                      have hX122 := hX0.tr hX119
                      obtain ⟨S124, hr123, h⟩ := zb1 h
                      refine z_runv (va_runV (As := [.int r117]) (rest := []) ⟨hx, hb, hml, hown, hg⟩ (c_X6_append l D cy B h121 hr123) (z_cwV hg zw_534 zw_44 zw_45 zw_4 zw_46 zh_X6_append ⟨by show 0 + 1 ≤ 4 * dd + 2; omega, by show 8 + (2 + 11) + 0 ≤ 91 * dd + 46; omega⟩) (zPV hC hM h121 (by decide) rfl) rfl rfl hl.1 rfl (lv_room (Nat.le_of_ble_eq_true rfl)) dX7_readAtom_165 ⟨(Nat.le_of_ble_eq_true rfl), (Nat.le_of_ble_eq_true rfl)⟩) hS (fun H locs hM hX125 hS => ?_)
                      have hX127 := hX122.tr hX125
                      exact z_vret hx hb hr hlk hM hX127 hS (zsm h) dX7_readAtom_168
def f_X7_readProduct_L7b (n : Nat) (rc : zM → Nat → Int32 → Option (zM)) (a0 : Nat) (v1 : Int32) (rc : zM → Nat → Int32 → Option (zM)) (K9 : zM → Option (zM)) (rec7 : Int32 → zM → Option (zM)) (x11 : Int32) (S12 : zM) : Option (zM) :=
  if (120 : Int32) ≤ x11 then K9 S12 else if (zi S12 a0 4) = 0 then zB1 (f_X7_next S12 a0) (fun r17 => zLet (zB1 (f_X7_next S12 a0) (fun r24 => zLet (zpI S12 a0 3 ((zi S12 a0 3) + (1 : Int32))) (fun S27 => zB1 (f_X7_readAtom n rc S27 a0 v1) (fun S33 => zChk (¬ (zr S33 a0 0) = 0) (zB1 (f_X6_append S33 (zr S33 a0 0) (-r24)) (fun S41 => rec7 (x11 + (1 : Int32)) S41)))))) (fun K22 => if r17 = (42 : Int32) then K22 else zB1 (f_X7_next S12 a0) (fun r48 => if r48 = (47 : Int32) then K22 else K9 S12))) else K9 S12
def f_X7_readProduct_L7 (n : Nat) (rc : zM → Nat → Int32 → Option (zM)) (a0 : Nat) (v1 : Int32) (rc : zM → Nat → Int32 → Option (zM)) (K9 : zM → Option (zM)) : Nat → Int32 → zM → Option (zM)
  | 0 => fun _ _ => none
  | k + 1 => fun x11 S12 => f_X7_readProduct_L7b n rc a0 v1 rc K9 (f_X7_readProduct_L7 n rc a0 v1 rc K9 k) x11 S12
def f_X7_readProduct (n : Nat) (rc : zM → Nat → Int32 → Option (zM)) (S0 : zM) (a0 : Nat) (v1 : Int32) : Option (zM) :=
  zB1 (f_X7_readAtom n rc S0 a0 v1) (fun S2 => zLet (fun (S7 : zM) => some S7) (fun K9 => f_X7_readProduct_L7 n rc a0 v1 rc K9 n (0 : Int32) S2))
set_option maxHeartbeats 4000000 in
set_option maxRecDepth 100000 in
theorem c_X7_readProduct (l : Launch) (D : va_G) (cy : Nat → ClassId) (B : Nat) (dd : Nat) {rc : zM → Nat → Int32 → Option (zM)} (hrc : ∀ {S : zM} {b0 : Nat} {b1 : Int32} {S1 : zM}, zA S b0 7 →  rc S b0 b1 = some (S1) → Met l yX7_readSum (zws yX7_readSum cX7_readSum 4 none) { frames := 4 * dd, cells := 0, slots := 0, locals := 91 * dd } (zPc D cy B S [.ref (B + b0), .int b1]) (zQv D cy B S S1) 0 0 (fun q => B < q)) {n : Nat} {S0 : zM} {a0 : Nat} {v1 : Int32} {S' : zM} (ha0 : zA S0 a0 7) (h : f_X7_readProduct n rc S0 a0 v1 = some S') : Met l yX7_readProduct (zws yX7_readProduct cX7_readProduct 4 none) { frames := 4 * dd + 3, cells := 0, slots := 0, locals := 91 * dd + 68 } (zPc D cy B S0 [.ref (B + a0), .int v1]) (zQv D cy B S0 S') 0 0 (fun q => B < q) := by
  refine Met.ofW (cc := cX7_readProduct) (maxL := 4) (ret := none) (by decide) rfl ?_
  intro p e s m args below meth c s₁ Bd hml hv
  obtain ⟨rfl, hC, hM⟩ := hv
  obtain ⟨hx, hb, hr, hg, hown, hlk⟩ := z_open Bd
  have hK := hC.1
  have hS : va_S (fun q => B < q) s.heap s.heap [] := va_S.rf
  have hX0 : zX S0 S0 := zX.rf
  refine z_entry (vs := [.ref (B + a0), .int v1]) (Nat.le_of_ble_eq_true rfl) (fun ls hl => ?_)
  have hl : lv_has ls 4 [(0, .ref (B + a0)), (1, .int v1)] := hl
  unfold f_X7_readProduct at h
  refine lv_aload_n hx hb dX7_readProduct_0 rfl (lv_at hl 0 rfl) ?_
  refine lv_iload_n hx hb dX7_readProduct_1 rfl (lv_at hl 1 rfl) ?_
  obtain ⟨S2, hr1, h⟩ := zb1 h
  refine z_runv (va_runV (As := [.int v1]) (rest := []) ⟨hx, hb, hml, hown, hg⟩ (c_X7_readAtom l D cy B dd hrc ha0 hr1) (z_cwV hg zw_528 zw_529 zw_1475 zw_7 zw_530 zh_X7_readAtom ⟨by show 4 * dd + 2 + 1 ≤ 4 * dd + 3; omega, by show 8 + (3 + 11) + (91 * dd + 46) ≤ 91 * dd + 68; omega⟩) (zPV hC hM ha0 (by decide) rfl) rfl rfl hl.1 rfl (lv_room (Nat.le_of_ble_eq_true rfl)) dX7_readProduct_2 ⟨(Nat.le_of_ble_eq_true rfl), (Nat.le_of_ble_eq_true rfl)⟩) hS (fun H locs hM hX3 hS => ?_)
  have h5 := ha0.mo hX3
  have hX6 := hX0.tr hX3
  refine lv_iconst (v := (0 : Int32)) hx hb dX7_readProduct_5 (by decide +kernel) ?_
  refine lv_istore_n (i := 2) (lv' := [(2, .int (0 : Int32)), (0, .ref (B + a0)), (1, .int v1)]) hx hb dX7_readProduct_6 rfl hl (by decide) rfl (fun ls hl => ?_)
  obtain ⟨K9, eK9, h⟩ := zlg h
  have hK9 : ∀ (S7 : zM) (H : Heap) (locs : List Loc), zMR D cy B S7 H → zX S0 S7 → va_S (fun q => B < q) s.heap H locs → ∀ ls : Array Slot, lv_has ls 4 [] → K9 S7 = some S' → W p l e (headSpec (zws yX7_readProduct cX7_readProduct 4 none) { frames := 4 * dd + 3, cells := 0, slots := 0, locals := 91 * dd + 68 }).room s m (([.ref (B + a0), .int v1] : List Value).toArray) below meth c H locs 0 0 (MQ below (zQv D cy B S0 S') (([.ref (B + a0), .int v1] : List Value).toArray) s 0 0 (fun q => B < q)) (F0 m 73 ls []) := by
    intro S7 H locs hM hX8 hS ls hl h
    rw [eK9] at h
    exact z_vret hx hb hr hlk hM hX8 hS (zsm h) dX7_readProduct_73
  have hL7 : ∀ (k : Nat) (x11 : Int32) (S12 : zM) (H : Heap) (locs : List Loc), zMR D cy B S12 H → zX S0 S12 → va_S (fun q => B < q) s.heap H locs → zA S12 a0 7 → ∀ ls : Array Slot, lv_has ls 4 [(0, .ref (B + a0)), (1, .int v1), (2, .int x11)] → f_X7_readProduct_L7 n rc a0 v1 rc K9 k x11 S12 = some S' → W p l e (headSpec (zws yX7_readProduct cX7_readProduct 4 none) { frames := 4 * dd + 3, cells := 0, slots := 0, locals := 91 * dd + 68 }).room s m (([.ref (B + a0), .int v1] : List Value).toArray) below meth c H locs 0 0 (MQ below (zQv D cy B S0 S') (([.ref (B + a0), .int v1] : List Value).toArray) s 0 0 (fun q => B < q)) (F0 m 7 ls []) := by
    intro k
    induction k with
    | zero =>
      intro x11 S12 H locs hM hX13 hS h10 ls hl h
      exact znone h
    | succ k ih7 =>
      intro x11 S12 H locs hM hX13 hS h10 ls hl h
      replace h : f_X7_readProduct_L7b n rc a0 v1 rc K9 (f_X7_readProduct_L7 n rc a0 v1 rc K9 k) x11 S12 = some S' := h
      generalize f_X7_readProduct_L7 n rc a0 v1 rc K9 k = rec7 at ih7 h
      unfold f_X7_readProduct_L7b at h
      refine lv_iload_n hx hb dX7_readProduct_7 rfl (lv_at hl 2 rfl) ?_
      refine lv_bipush (v := (120 : Int32)) hx hb dX7_readProduct_8 (by decide +kernel) ?_
      refine lv_icmp_ge (tgt := 73) hx hb dX7_readProduct_10 (by decide) (fun hc14 => ?_) (fun hc14 => ?_)
      · have h := zt h hc14
        exact hK9 S12 _ _ hM hX13 hS _ (lv_sub hl [] rfl) h
      · have h := zf h hc14
        refine lv_aload_n hx hb dX7_readProduct_13 rfl (lv_at hl 0 rfl) ?_
        refine z_getI hx hb hg zin_7 hown hK hM h10 4 rfl (by decide) (hg _ zw_175) (fun _ h9 => h9) dX7_readProduct_14 ?_
        refine lv_if_ne (tgt := 73) hx hb dX7_readProduct_17 (by decide) (fun hc15 => ?_) (fun hc15 => ?_)
        · have h := zf h hc15
          exact hK9 S12 _ _ hM hX13 hS _ (lv_sub hl [] rfl) h
        · have h := zt h hc15
          refine lv_aload_n hx hb dX7_readProduct_20 rfl (lv_at hl 0 rfl) ?_
          obtain ⟨r17, hr16, h⟩ := zb1 h
          refine z_runi (va_runV (As := []) (rest := []) ⟨hx, hb, hml, hown, hg⟩ (c_X7_next l D cy B h10 hr16) (z_cwV hg zw_496 zw_497 zw_1466 zw_7 zw_498 zh_X7_next ⟨by show 0 + 1 ≤ 4 * dd + 3; omega, by show 8 + (1 + 11) + 0 ≤ 91 * dd + 68; omega⟩) (zPV hC hM h10 (by decide) rfl) rfl rfl hl.1 rfl (lv_room (Nat.le_of_ble_eq_true rfl)) dX7_readProduct_21 ⟨(Nat.le_of_ble_eq_true rfl), (Nat.le_of_ble_eq_true rfl)⟩) hS (fun H locs hM hX18 hS => ?_)
          refine lv_bipush (v := (42 : Int32)) hx hb dX7_readProduct_24 (by decide +kernel) ?_
          obtain ⟨K22, eK22, h⟩ := zlg h
          have hK22 : ∀ (H : Heap) (locs : List Loc), zMR D cy B S12 H → zX S0 S12 → va_S (fun q => B < q) s.heap H locs → zA S12 a0 7 → ∀ ls : Array Slot, lv_has ls 4 [(0, .ref (B + a0)), (1, .int v1), (2, .int x11)] → K22 = some S' → W p l e (headSpec (zws yX7_readProduct cX7_readProduct 4 none) { frames := 4 * dd + 3, cells := 0, slots := 0, locals := 91 * dd + 68 }).room s m (([.ref (B + a0), .int v1] : List Value).toArray) below meth c H locs 0 0 (MQ below (zQv D cy B S0 S') (([.ref (B + a0), .int v1] : List Value).toArray) s 0 0 (fun q => B < q)) (F0 m 38 ls []) := by
            intro H locs hM hX21 hS h20 ls hl h
            rw [eK22] at h
            refine lv_aload_n hx hb dX7_readProduct_38 rfl (lv_at hl 0 rfl) ?_
            obtain ⟨r24, hr23, h⟩ := zb1 h
            refine z_runi (va_runV (As := []) (rest := []) ⟨hx, hb, hml, hown, hg⟩ (c_X7_next l D cy B h20 hr23) (z_cwV hg zw_496 zw_497 zw_1466 zw_7 zw_498 zh_X7_next ⟨by show 0 + 1 ≤ 4 * dd + 3; omega, by show 8 + (1 + 11) + 0 ≤ 91 * dd + 68; omega⟩) (zPV hC hM h20 (by decide) rfl) rfl rfl hl.1 rfl (lv_room (Nat.le_of_ble_eq_true rfl)) dX7_readProduct_39 ⟨(Nat.le_of_ble_eq_true rfl), (Nat.le_of_ble_eq_true rfl)⟩) hS (fun H locs hM hX25 hS => ?_)
            refine lv_istore_n (i := 3) (lv' := [(3, .int r24), (0, .ref (B + a0)), (1, .int v1), (2, .int x11)]) hx hb dX7_readProduct_42 rfl hl (by decide) rfl (fun ls hl => ?_)
            refine lv_aload_n hx hb dX7_readProduct_43 rfl (lv_at hl 1 rfl) ?_
            refine lv_dup hx hb dX7_readProduct_44 rfl ?_
            refine z_getI hx hb hg zin_7 hown hK hM h20 3 rfl (by decide) (hg _ zw_174) (fun _ h9 => h9) dX7_readProduct_45 ?_
            refine lv_iconst (v := (1 : Int32)) hx hb dX7_readProduct_48 (by decide +kernel) ?_
            refine lv_iadd hx hb dX7_readProduct_49 ?_
            refine z_putI hx hb hg zin_7 tyX7 tyX7_ok nmX7 hown hK hM hS h20 3 rfl (by decide) (hg _ zw_174) (fun _ h9 => h9) (Or.inl rfl) (tyX7_ok 3 (by decide)) rfl rfl dX7_readProduct_50 (fun H locs hM hS => ?_)
            obtain ⟨S27, e28, h⟩ := zlg h
            rw [← e28] at hM
            have hX29 : zX S12 S27 := by rw [e28]; exact zX_pI
            have h30 := h20.mo hX29
            have hX31 := hX21.tr hX29
            refine lv_aload_n hx hb dX7_readProduct_53 rfl (lv_at hl 1 rfl) ?_
            refine lv_iload_n hx hb dX7_readProduct_54 rfl (lv_at hl 2 rfl) ?_
            obtain ⟨S33, hr32, h⟩ := zb1 h
            refine z_runv (va_runV (As := [.int v1]) (rest := []) ⟨hx, hb, hml, hown, hg⟩ (c_X7_readAtom l D cy B dd hrc h30 hr32) (z_cwV hg zw_528 zw_529 zw_1475 zw_7 zw_530 zh_X7_readAtom ⟨by show 4 * dd + 2 + 1 ≤ 4 * dd + 3; omega, by show 8 + (3 + 11) + (91 * dd + 46) ≤ 91 * dd + 68; omega⟩) (zPV hC hM h30 (by decide) rfl) rfl rfl hl.1 rfl (lv_room (Nat.le_of_ble_eq_true rfl)) dX7_readProduct_55 ⟨(Nat.le_of_ble_eq_true rfl), (Nat.le_of_ble_eq_true rfl)⟩) hS (fun H locs hM hX34 hS => ?_)
            have h36 := h30.mo hX34
            have hX37 := hX31.tr hX34
            refine lv_aload_n hx hb dX7_readProduct_58 rfl (lv_at hl 1 rfl) ?_
            obtain ⟨hq39, h⟩ := zk h
            refine z_getN hx hb hg zin_7 hown hK hM h36 0 rfl (by decide) (hg _ zw_170) (fun _ h9 => h9) hq39 dX7_readProduct_59 (fun h38 => ?_)
            refine lv_iload_n hx hb dX7_readProduct_62 rfl (lv_at hl 0 rfl) ?_
            refine lv_ineg hx hb dX7_readProduct_63 ?_
            obtain ⟨S41, hr40, h⟩ := zb1 h
            refine z_runv (va_runV (As := [.int (-r24)]) (rest := []) ⟨hx, hb, hml, hown, hg⟩ (c_X6_append l D cy B h38 hr40) (z_cwV hg zw_534 zw_44 zw_45 zw_4 zw_46 zh_X6_append ⟨by show 0 + 1 ≤ 4 * dd + 3; omega, by show 8 + (2 + 11) + 0 ≤ 91 * dd + 68; omega⟩) (zPV hC hM h38 (by decide) rfl) rfl rfl hl.1 rfl (lv_room (Nat.le_of_ble_eq_true rfl)) dX7_readProduct_64 ⟨(Nat.le_of_ble_eq_true rfl), (Nat.le_of_ble_eq_true rfl)⟩) hS (fun H locs hM hX42 hS => ?_)
            have h44 := h36.mo hX42
            have hX45 := hX37.tr hX42
            refine lv_iinc (v := (x11 + (1 : Int32))) (lv' := [(2, .int (x11 + (1 : Int32))), (3, .int r24), (0, .ref (B + a0)), (1, .int v1)]) hx hb dX7_readProduct_67 hl (k := 3) rfl rfl (by decide) rfl (fun ls hl => ?_)
            refine lv_goto (tgt := 7) hx hb dX7_readProduct_70 (by decide) ?_
            exact ih7 (x11 + (1 : Int32)) S41 _ _ hM hX45 hS h44 _ (lv_sub hl [2, 3, 0] rfl) h
          refine lv_icmp_eq (tgt := 38) hx hb dX7_readProduct_26 (by decide) (fun hc46 => ?_) (fun hc46 => ?_)
          · have h := zt h hc46
            exact hK22 _ _ hM hX13 hS h10 _ (lv_sub hl [0, 1, 2] rfl) h
          · have h := zf h hc46
            refine lv_aload_n hx hb dX7_readProduct_29 rfl (lv_at hl 0 rfl) ?_
            obtain ⟨r48, hr47, h⟩ := zb1 h
            refine z_runi (va_runV (As := []) (rest := []) ⟨hx, hb, hml, hown, hg⟩ (c_X7_next l D cy B h10 hr47) (z_cwV hg zw_496 zw_497 zw_1466 zw_7 zw_498 zh_X7_next ⟨by show 0 + 1 ≤ 4 * dd + 3; omega, by show 8 + (1 + 11) + 0 ≤ 91 * dd + 68; omega⟩) (zPV hC hM h10 (by decide) rfl) rfl rfl hl.1 rfl (lv_room (Nat.le_of_ble_eq_true rfl)) dX7_readProduct_30 ⟨(Nat.le_of_ble_eq_true rfl), (Nat.le_of_ble_eq_true rfl)⟩) hS (fun H locs hM hX49 hS => ?_)
            refine lv_bipush (v := (47 : Int32)) hx hb dX7_readProduct_33 (by decide +kernel) ?_
            refine lv_icmp_ne (tgt := 73) hx hb dX7_readProduct_35 (by decide) (fun hc51 => ?_) (fun hc51 => ?_)
            · have h := zf h hc51
              exact hK9 S12 _ _ hM hX13 hS _ (lv_sub hl [] rfl) h
            · have h := zt h hc51
              exact hK22 _ _ hM hX13 hS h10 _ (lv_sub hl [0, 1, 2] rfl) h
  exact hL7 n (0 : Int32) S2 _ _ hM hX6 hS h5 _ (lv_sub hl [1, 2, 0] rfl) h
def f_X7_readSum_L7b (n : Nat) (rc : zM → Nat → Int32 → Option (zM)) (a0 : Nat) (v1 : Int32) (rc : zM → Nat → Int32 → Option (zM)) (K9 : zM → Option (zM)) (rec7 : Int32 → zM → Option (zM)) (x11 : Int32) (S12 : zM) : Option (zM) :=
  if (120 : Int32) ≤ x11 then K9 S12 else if (zi S12 a0 4) = 0 then zB1 (f_X7_next S12 a0) (fun r17 => zLet (zB1 (f_X7_next S12 a0) (fun r24 => zLet (zpI S12 a0 3 ((zi S12 a0 3) + (1 : Int32))) (fun S27 => zB1 (f_X7_readProduct n rc S27 a0 v1) (fun S33 => zChk (¬ (zr S33 a0 0) = 0) (zB1 (f_X6_append S33 (zr S33 a0 0) (-r24)) (fun S41 => rec7 (x11 + (1 : Int32)) S41)))))) (fun K22 => if r17 = (43 : Int32) then K22 else zB1 (f_X7_next S12 a0) (fun r48 => if r48 = (45 : Int32) then K22 else K9 S12))) else K9 S12
def f_X7_readSum_L7 (n : Nat) (rc : zM → Nat → Int32 → Option (zM)) (a0 : Nat) (v1 : Int32) (rc : zM → Nat → Int32 → Option (zM)) (K9 : zM → Option (zM)) : Nat → Int32 → zM → Option (zM)
  | 0 => fun _ _ => none
  | k + 1 => fun x11 S12 => f_X7_readSum_L7b n rc a0 v1 rc K9 (f_X7_readSum_L7 n rc a0 v1 rc K9 k) x11 S12
def f_X7_readSumO (n : Nat) (rc : zM → Nat → Int32 → Option (zM)) (S0 : zM) (a0 : Nat) (v1 : Int32) : Option (zM) :=
  zB1 (f_X7_readProduct n rc S0 a0 v1) (fun S2 => zLet (fun (S7 : zM) => some S7) (fun K9 => f_X7_readSum_L7 n rc a0 v1 rc K9 n (0 : Int32) S2))
def f_X7_readSum (n : Nat) : Nat → zM → Nat → Int32 → Option (zM)
  | 0 => fun _ _ _ => none
  | d + 1 => f_X7_readSumO n (f_X7_readSum n d)
set_option maxHeartbeats 4000000 in
set_option maxRecDepth 100000 in
theorem c_X7_readSumO (l : Launch) (D : va_G) (cy : Nat → ClassId) (B : Nat) (dd : Nat) {rc : zM → Nat → Int32 → Option (zM)} (hrc : ∀ {S : zM} {b0 : Nat} {b1 : Int32} {S1 : zM}, zA S b0 7 →  rc S b0 b1 = some (S1) → Met l yX7_readSum (zws yX7_readSum cX7_readSum 4 none) { frames := 4 * dd, cells := 0, slots := 0, locals := 91 * dd } (zPc D cy B S [.ref (B + b0), .int b1]) (zQv D cy B S S1) 0 0 (fun q => B < q)) {n : Nat} {S0 : zM} {a0 : Nat} {v1 : Int32} {S' : zM} (ha0 : zA S0 a0 7) (h : f_X7_readSumO n rc S0 a0 v1 = some S') : Met l yX7_readSum (zws yX7_readSum cX7_readSum 4 none) { frames := 4 * dd + 4, cells := 0, slots := 0, locals := 91 * dd + 91 } (zPc D cy B S0 [.ref (B + a0), .int v1]) (zQv D cy B S0 S') 0 0 (fun q => B < q) := by
  refine Met.ofW (cc := cX7_readSum) (maxL := 4) (ret := none) (by decide) rfl ?_
  intro p e s m args below meth c s₁ Bd hml hv
  obtain ⟨rfl, hC, hM⟩ := hv
  obtain ⟨hx, hb, hr, hg, hown, hlk⟩ := z_open Bd
  have hK := hC.1
  have hS : va_S (fun q => B < q) s.heap s.heap [] := va_S.rf
  have hX0 : zX S0 S0 := zX.rf
  refine z_entry (vs := [.ref (B + a0), .int v1]) (Nat.le_of_ble_eq_true rfl) (fun ls hl => ?_)
  have hl : lv_has ls 4 [(0, .ref (B + a0)), (1, .int v1)] := hl
  unfold f_X7_readSumO at h
  refine lv_aload_n hx hb dX7_readSum_0 rfl (lv_at hl 0 rfl) ?_
  refine lv_iload_n hx hb dX7_readSum_1 rfl (lv_at hl 1 rfl) ?_
  obtain ⟨S2, hr1, h⟩ := zb1 h
  refine z_runv (va_runV (As := [.int v1]) (rest := []) ⟨hx, hb, hml, hown, hg⟩ (c_X7_readProduct l D cy B dd hrc ha0 hr1) (z_cwV hg zw_525 zw_526 zw_1474 zw_7 zw_527 zh_X7_readProduct ⟨by show 4 * dd + 3 + 1 ≤ 4 * dd + 4; omega, by show 8 + (4 + 11) + (91 * dd + 68) ≤ 91 * dd + 91; omega⟩) (zPV hC hM ha0 (by decide) rfl) rfl rfl hl.1 rfl (lv_room (Nat.le_of_ble_eq_true rfl)) dX7_readSum_2 ⟨(Nat.le_of_ble_eq_true rfl), (Nat.le_of_ble_eq_true rfl)⟩) hS (fun H locs hM hX3 hS => ?_)
  have h5 := ha0.mo hX3
  have hX6 := hX0.tr hX3
  refine lv_iconst (v := (0 : Int32)) hx hb dX7_readSum_5 (by decide +kernel) ?_
  refine lv_istore_n (i := 2) (lv' := [(2, .int (0 : Int32)), (0, .ref (B + a0)), (1, .int v1)]) hx hb dX7_readSum_6 rfl hl (by decide) rfl (fun ls hl => ?_)
  obtain ⟨K9, eK9, h⟩ := zlg h
  have hK9 : ∀ (S7 : zM) (H : Heap) (locs : List Loc), zMR D cy B S7 H → zX S0 S7 → va_S (fun q => B < q) s.heap H locs → ∀ ls : Array Slot, lv_has ls 4 [] → K9 S7 = some S' → W p l e (headSpec (zws yX7_readSum cX7_readSum 4 none) { frames := 4 * dd + 4, cells := 0, slots := 0, locals := 91 * dd + 91 }).room s m (([.ref (B + a0), .int v1] : List Value).toArray) below meth c H locs 0 0 (MQ below (zQv D cy B S0 S') (([.ref (B + a0), .int v1] : List Value).toArray) s 0 0 (fun q => B < q)) (F0 m 73 ls []) := by
    intro S7 H locs hM hX8 hS ls hl h
    rw [eK9] at h
    exact z_vret hx hb hr hlk hM hX8 hS (zsm h) dX7_readSum_73
  have hL7 : ∀ (k : Nat) (x11 : Int32) (S12 : zM) (H : Heap) (locs : List Loc), zMR D cy B S12 H → zX S0 S12 → va_S (fun q => B < q) s.heap H locs → zA S12 a0 7 → ∀ ls : Array Slot, lv_has ls 4 [(0, .ref (B + a0)), (1, .int v1), (2, .int x11)] → f_X7_readSum_L7 n rc a0 v1 rc K9 k x11 S12 = some S' → W p l e (headSpec (zws yX7_readSum cX7_readSum 4 none) { frames := 4 * dd + 4, cells := 0, slots := 0, locals := 91 * dd + 91 }).room s m (([.ref (B + a0), .int v1] : List Value).toArray) below meth c H locs 0 0 (MQ below (zQv D cy B S0 S') (([.ref (B + a0), .int v1] : List Value).toArray) s 0 0 (fun q => B < q)) (F0 m 7 ls []) := by
    intro k
    induction k with
    | zero =>
      intro x11 S12 H locs hM hX13 hS h10 ls hl h
      exact znone h
    | succ k ih7 =>
      intro x11 S12 H locs hM hX13 hS h10 ls hl h
      replace h : f_X7_readSum_L7b n rc a0 v1 rc K9 (f_X7_readSum_L7 n rc a0 v1 rc K9 k) x11 S12 = some S' := h
      generalize f_X7_readSum_L7 n rc a0 v1 rc K9 k = rec7 at ih7 h
      unfold f_X7_readSum_L7b at h
      refine lv_iload_n hx hb dX7_readSum_7 rfl (lv_at hl 2 rfl) ?_
      refine lv_bipush (v := (120 : Int32)) hx hb dX7_readSum_8 (by decide +kernel) ?_
      refine lv_icmp_ge (tgt := 73) hx hb dX7_readSum_10 (by decide) (fun hc14 => ?_) (fun hc14 => ?_)
      · have h := zt h hc14
        exact hK9 S12 _ _ hM hX13 hS _ (lv_sub hl [] rfl) h
      · have h := zf h hc14
        refine lv_aload_n hx hb dX7_readSum_13 rfl (lv_at hl 0 rfl) ?_
        refine z_getI hx hb hg zin_7 hown hK hM h10 4 rfl (by decide) (hg _ zw_175) (fun _ h9 => h9) dX7_readSum_14 ?_
        refine lv_if_ne (tgt := 73) hx hb dX7_readSum_17 (by decide) (fun hc15 => ?_) (fun hc15 => ?_)
        · have h := zf h hc15
          exact hK9 S12 _ _ hM hX13 hS _ (lv_sub hl [] rfl) h
        · have h := zt h hc15
          refine lv_aload_n hx hb dX7_readSum_20 rfl (lv_at hl 0 rfl) ?_
          obtain ⟨r17, hr16, h⟩ := zb1 h
          refine z_runi (va_runV (As := []) (rest := []) ⟨hx, hb, hml, hown, hg⟩ (c_X7_next l D cy B h10 hr16) (z_cwV hg zw_496 zw_497 zw_1466 zw_7 zw_498 zh_X7_next ⟨by show 0 + 1 ≤ 4 * dd + 4; omega, by show 8 + (1 + 11) + 0 ≤ 91 * dd + 91; omega⟩) (zPV hC hM h10 (by decide) rfl) rfl rfl hl.1 rfl (lv_room (Nat.le_of_ble_eq_true rfl)) dX7_readSum_21 ⟨(Nat.le_of_ble_eq_true rfl), (Nat.le_of_ble_eq_true rfl)⟩) hS (fun H locs hM hX18 hS => ?_)
          refine lv_bipush (v := (43 : Int32)) hx hb dX7_readSum_24 (by decide +kernel) ?_
          obtain ⟨K22, eK22, h⟩ := zlg h
          have hK22 : ∀ (H : Heap) (locs : List Loc), zMR D cy B S12 H → zX S0 S12 → va_S (fun q => B < q) s.heap H locs → zA S12 a0 7 → ∀ ls : Array Slot, lv_has ls 4 [(0, .ref (B + a0)), (1, .int v1), (2, .int x11)] → K22 = some S' → W p l e (headSpec (zws yX7_readSum cX7_readSum 4 none) { frames := 4 * dd + 4, cells := 0, slots := 0, locals := 91 * dd + 91 }).room s m (([.ref (B + a0), .int v1] : List Value).toArray) below meth c H locs 0 0 (MQ below (zQv D cy B S0 S') (([.ref (B + a0), .int v1] : List Value).toArray) s 0 0 (fun q => B < q)) (F0 m 38 ls []) := by
            intro H locs hM hX21 hS h20 ls hl h
            rw [eK22] at h
            refine lv_aload_n hx hb dX7_readSum_38 rfl (lv_at hl 0 rfl) ?_
            obtain ⟨r24, hr23, h⟩ := zb1 h
            refine z_runi (va_runV (As := []) (rest := []) ⟨hx, hb, hml, hown, hg⟩ (c_X7_next l D cy B h20 hr23) (z_cwV hg zw_496 zw_497 zw_1466 zw_7 zw_498 zh_X7_next ⟨by show 0 + 1 ≤ 4 * dd + 4; omega, by show 8 + (1 + 11) + 0 ≤ 91 * dd + 91; omega⟩) (zPV hC hM h20 (by decide) rfl) rfl rfl hl.1 rfl (lv_room (Nat.le_of_ble_eq_true rfl)) dX7_readSum_39 ⟨(Nat.le_of_ble_eq_true rfl), (Nat.le_of_ble_eq_true rfl)⟩) hS (fun H locs hM hX25 hS => ?_)
            refine lv_istore_n (i := 3) (lv' := [(3, .int r24), (0, .ref (B + a0)), (1, .int v1), (2, .int x11)]) hx hb dX7_readSum_42 rfl hl (by decide) rfl (fun ls hl => ?_)
            refine lv_aload_n hx hb dX7_readSum_43 rfl (lv_at hl 1 rfl) ?_
            refine lv_dup hx hb dX7_readSum_44 rfl ?_
            refine z_getI hx hb hg zin_7 hown hK hM h20 3 rfl (by decide) (hg _ zw_174) (fun _ h9 => h9) dX7_readSum_45 ?_
            refine lv_iconst (v := (1 : Int32)) hx hb dX7_readSum_48 (by decide +kernel) ?_
            refine lv_iadd hx hb dX7_readSum_49 ?_
            refine z_putI hx hb hg zin_7 tyX7 tyX7_ok nmX7 hown hK hM hS h20 3 rfl (by decide) (hg _ zw_174) (fun _ h9 => h9) (Or.inl rfl) (tyX7_ok 3 (by decide)) rfl rfl dX7_readSum_50 (fun H locs hM hS => ?_)
            obtain ⟨S27, e28, h⟩ := zlg h
            rw [← e28] at hM
            have hX29 : zX S12 S27 := by rw [e28]; exact zX_pI
            have h30 := h20.mo hX29
            have hX31 := hX21.tr hX29
            refine lv_aload_n hx hb dX7_readSum_53 rfl (lv_at hl 1 rfl) ?_
            refine lv_iload_n hx hb dX7_readSum_54 rfl (lv_at hl 2 rfl) ?_
            obtain ⟨S33, hr32, h⟩ := zb1 h
            refine z_runv (va_runV (As := [.int v1]) (rest := []) ⟨hx, hb, hml, hown, hg⟩ (c_X7_readProduct l D cy B dd hrc h30 hr32) (z_cwV hg zw_525 zw_526 zw_1474 zw_7 zw_527 zh_X7_readProduct ⟨by show 4 * dd + 3 + 1 ≤ 4 * dd + 4; omega, by show 8 + (4 + 11) + (91 * dd + 68) ≤ 91 * dd + 91; omega⟩) (zPV hC hM h30 (by decide) rfl) rfl rfl hl.1 rfl (lv_room (Nat.le_of_ble_eq_true rfl)) dX7_readSum_55 ⟨(Nat.le_of_ble_eq_true rfl), (Nat.le_of_ble_eq_true rfl)⟩) hS (fun H locs hM hX34 hS => ?_)
            have h36 := h30.mo hX34
            have hX37 := hX31.tr hX34
            refine lv_aload_n hx hb dX7_readSum_58 rfl (lv_at hl 1 rfl) ?_
            obtain ⟨hq39, h⟩ := zk h
            refine z_getN hx hb hg zin_7 hown hK hM h36 0 rfl (by decide) (hg _ zw_170) (fun _ h9 => h9) hq39 dX7_readSum_59 (fun h38 => ?_)
            refine lv_iload_n hx hb dX7_readSum_62 rfl (lv_at hl 0 rfl) ?_
            refine lv_ineg hx hb dX7_readSum_63 ?_
            obtain ⟨S41, hr40, h⟩ := zb1 h
            refine z_runv (va_runV (As := [.int (-r24)]) (rest := []) ⟨hx, hb, hml, hown, hg⟩ (c_X6_append l D cy B h38 hr40) (z_cwV hg zw_534 zw_44 zw_45 zw_4 zw_46 zh_X6_append ⟨by show 0 + 1 ≤ 4 * dd + 4; omega, by show 8 + (2 + 11) + 0 ≤ 91 * dd + 91; omega⟩) (zPV hC hM h38 (by decide) rfl) rfl rfl hl.1 rfl (lv_room (Nat.le_of_ble_eq_true rfl)) dX7_readSum_64 ⟨(Nat.le_of_ble_eq_true rfl), (Nat.le_of_ble_eq_true rfl)⟩) hS (fun H locs hM hX42 hS => ?_)
            have h44 := h36.mo hX42
            have hX45 := hX37.tr hX42
            refine lv_iinc (v := (x11 + (1 : Int32))) (lv' := [(2, .int (x11 + (1 : Int32))), (3, .int r24), (0, .ref (B + a0)), (1, .int v1)]) hx hb dX7_readSum_67 hl (k := 3) rfl rfl (by decide) rfl (fun ls hl => ?_)
            refine lv_goto (tgt := 7) hx hb dX7_readSum_70 (by decide) ?_
            exact ih7 (x11 + (1 : Int32)) S41 _ _ hM hX45 hS h44 _ (lv_sub hl [2, 3, 0] rfl) h
          refine lv_icmp_eq (tgt := 38) hx hb dX7_readSum_26 (by decide) (fun hc46 => ?_) (fun hc46 => ?_)
          · have h := zt h hc46
            exact hK22 _ _ hM hX13 hS h10 _ (lv_sub hl [0, 1, 2] rfl) h
          · have h := zf h hc46
            refine lv_aload_n hx hb dX7_readSum_29 rfl (lv_at hl 0 rfl) ?_
            obtain ⟨r48, hr47, h⟩ := zb1 h
            refine z_runi (va_runV (As := []) (rest := []) ⟨hx, hb, hml, hown, hg⟩ (c_X7_next l D cy B h10 hr47) (z_cwV hg zw_496 zw_497 zw_1466 zw_7 zw_498 zh_X7_next ⟨by show 0 + 1 ≤ 4 * dd + 4; omega, by show 8 + (1 + 11) + 0 ≤ 91 * dd + 91; omega⟩) (zPV hC hM h10 (by decide) rfl) rfl rfl hl.1 rfl (lv_room (Nat.le_of_ble_eq_true rfl)) dX7_readSum_30 ⟨(Nat.le_of_ble_eq_true rfl), (Nat.le_of_ble_eq_true rfl)⟩) hS (fun H locs hM hX49 hS => ?_)
            refine lv_bipush (v := (45 : Int32)) hx hb dX7_readSum_33 (by decide +kernel) ?_
            refine lv_icmp_ne (tgt := 73) hx hb dX7_readSum_35 (by decide) (fun hc51 => ?_) (fun hc51 => ?_)
            · have h := zf h hc51
              exact hK9 S12 _ _ hM hX13 hS _ (lv_sub hl [] rfl) h
            · have h := zt h hc51
              exact hK22 _ _ hM hX13 hS h10 _ (lv_sub hl [0, 1, 2] rfl) h
  exact hL7 n (0 : Int32) S2 _ _ hM hX6 hS h5 _ (lv_sub hl [1, 2, 0] rfl) h
theorem k_X7_readSum (l : Launch) (D : va_G) (cy : Nat → ClassId) (B n : Nat) : ∀ (dd : Nat) {S : zM} {b0 : Nat} {b1 : Int32} {S1 : zM}, zA S b0 7 →  f_X7_readSum n dd S b0 b1 = some (S1) → Met l yX7_readSum (zws yX7_readSum cX7_readSum 4 none) { frames := 4 * dd, cells := 0, slots := 0, locals := 91 * dd } (zPc D cy B S [.ref (B + b0), .int b1]) (zQv D cy B S S1) 0 0 (fun q => B < q) := by
  intro dd
  induction dd with
  | zero =>
    intro S _ _ _ g0 h
    exact znone h
  | succ dd ih =>
    intro S _ _ _ g0 h
    exact c_X7_readSumO l D cy B dd @ih g0 h
theorem c_X7_readSum (l : Launch) (D : va_G) (cy : Nat → ClassId) (B : Nat) {n : Nat} : ∀ {S : zM} {b0 : Nat} {b1 : Int32} {S1 : zM}, zA S b0 7 →  f_X7_readSum n 8 S b0 b1 = some (S1) → Met l yX7_readSum (zws yX7_readSum cX7_readSum 4 none) { frames := 32, cells := 0, slots := 0, locals := 728 } (zPc D cy B S [.ref (B + b0), .int b1]) (zQv D cy B S S1) 0 0 (fun q => B < q) := by
  intro S _ _ _ g0 h
  exact k_X7_readSum l D cy B n 8 g0 h
def f_X7_readStatement (n : Nat) (S0 : zM) (a0 : Nat) : Option (zM) :=
  zB1 (f_X7_next S0 a0) (fun r2 => zLet (fun (S6 : zM) => zB1 (f_X7_expect S6 a0 (59 : Int32)) (fun S10 => some S10)) (fun K8 => if r2 = (100 : Int32) then zLet (zpI S0 a0 3 ((zi S0 a0 3) + (1 : Int32))) (fun S15 => zB1 (f_X7_readDropped n S15 a0 (zi S0 a0 3)) (fun S21 => K8 S21)) else if r2 = (102 : Int32) then zLet (zpI S0 a0 3 ((zi S0 a0 3) + (1 : Int32))) (fun S27 => zChk (¬ (zr S27 a0 0) = 0) (zLet (f_X6_forgetSum S27 (zr S27 a0 0)) (fun S35 => zB1 (f_X7_readSum n 8 S35 a0 (0 : Int32)) (fun S41 => K8 S41)))) else if r2 = (111 : Int32) then zLet (zpI S0 a0 3 ((zi S0 a0 3) + (1 : Int32))) (fun S47 => zB1 (f_X7_readOff n S47 a0 (zi S0 a0 3)) (fun S53 => K8 S53)) else zLet (zpI S0 a0 4 (1 : Int32)) (fun S58 => K8 S58)))
set_option maxHeartbeats 4000000 in
set_option maxRecDepth 100000 in
theorem c_X7_readStatement (l : Launch) (D : va_G) (cy : Nat → ClassId) (B : Nat) {n : Nat} {S0 : zM} {a0 : Nat} {S' : zM} (ha0 : zA S0 a0 7) (h : f_X7_readStatement n S0 a0 = some S') : Met l yX7_readStatement (zws yX7_readStatement cX7_readStatement 2 none) { frames := 33, cells := 0, slots := 0, locals := 751 } (zPc D cy B S0 [.ref (B + a0)]) (zQv D cy B S0 S') 0 0 (fun q => B < q) := by
  refine Met.ofW (cc := cX7_readStatement) (maxL := 2) (ret := none) (by decide) rfl ?_
  intro p e s m args below meth c s₁ Bd hml hv
  obtain ⟨rfl, hC, hM⟩ := hv
  obtain ⟨hx, hb, hr, hg, hown, hlk⟩ := z_open Bd
  have hK := hC.1
  have hS : va_S (fun q => B < q) s.heap s.heap [] := va_S.rf
  have hX0 : zX S0 S0 := zX.rf
  refine z_entry (vs := [.ref (B + a0)]) (Nat.le_of_ble_eq_true rfl) (fun ls hl => ?_)
  have hl : lv_has ls 2 [(0, .ref (B + a0))] := hl
  unfold f_X7_readStatement at h
  refine lv_aload_n hx hb dX7_readStatement_0 rfl (lv_at hl 0 rfl) ?_
  refine z_getI hx hb hg zin_7 hown hK hM ha0 3 rfl (by decide) (hg _ zw_174) (fun _ h9 => h9) dX7_readStatement_1 ?_
  refine lv_istore_n (i := 1) (lv' := [(1, .int (zi S0 a0 3)), (0, .ref (B + a0))]) hx hb dX7_readStatement_4 rfl hl (by decide) rfl (fun ls hl => ?_)
  refine lv_aload_n hx hb dX7_readStatement_5 rfl (lv_at hl 1 rfl) ?_
  obtain ⟨r2, hr1, h⟩ := zb1 h
  refine z_runi (va_runV (As := []) (rest := []) ⟨hx, hb, hml, hown, hg⟩ (c_X7_next l D cy B ha0 hr1) (z_cwV hg zw_496 zw_497 zw_1466 zw_7 zw_498 zh_X7_next ⟨(Nat.le_of_ble_eq_true rfl), (Nat.le_of_ble_eq_true rfl)⟩) (zPV hC hM ha0 (by decide) rfl) rfl rfl hl.1 rfl (lv_room (Nat.le_of_ble_eq_true rfl)) dX7_readStatement_6 ⟨(Nat.le_of_ble_eq_true rfl), (Nat.le_of_ble_eq_true rfl)⟩) hS (fun H locs hM hX3 hS => ?_)
  obtain ⟨K8, eK8, h⟩ := zlg h
  have hK8 : ∀ (S6 : zM) (H : Heap) (locs : List Loc), zMR D cy B S6 H → zX S0 S6 → va_S (fun q => B < q) s.heap H locs → zA S6 a0 7 → ∀ ls : Array Slot, lv_has ls 2 [(0, .ref (B + a0))] → K8 S6 = some S' → W p l e (headSpec (zws yX7_readStatement cX7_readStatement 2 none) { frames := 33, cells := 0, slots := 0, locals := 751 }).room s m (([.ref (B + a0)] : List Value).toArray) below meth c H locs 0 0 (MQ below (zQv D cy B S0 S') (([.ref (B + a0)] : List Value).toArray) s 0 0 (fun q => B < q)) (F0 m 110 ls []) := by
    intro S6 H locs hM hX7 hS h5 ls hl h
    rw [eK8] at h
    refine lv_aload_n hx hb dX7_readStatement_110 rfl (lv_at hl 0 rfl) ?_
    refine lv_bipush (v := (59 : Int32)) hx hb dX7_readStatement_111 (by decide +kernel) ?_
    obtain ⟨S10, hr9, h⟩ := zb1 h
    refine z_runv (va_runV (As := [.int (59 : Int32)]) (rest := []) ⟨hx, hb, hml, hown, hg⟩ (c_X7_expect l D cy B h5 hr9) (z_cwV hg zw_508 zw_509 zw_1470 zw_7 zw_510 zh_X7_expect ⟨(Nat.le_of_ble_eq_true rfl), (Nat.le_of_ble_eq_true rfl)⟩) (zPV hC hM h5 (by decide) rfl) rfl rfl hl.1 rfl (lv_room (Nat.le_of_ble_eq_true rfl)) dX7_readStatement_113 ⟨(Nat.le_of_ble_eq_true rfl), (Nat.le_of_ble_eq_true rfl)⟩) hS (fun H locs hM hX11 hS => ?_)
    have hX13 := hX7.tr hX11
    exact z_vret hx hb hr hlk hM hX13 hS (zsm h) dX7_readStatement_116
  by_cases hc14 : r2 = (100 : Int32)
  · refine z_lin (off := 53) hx hb hc14 dX7_readStatement_9 (by decide +kernel) (by decide +kernel) (tgt := 62) (by decide) ?_
    have h := zt h hc14
    refine lv_aload_n hx hb dX7_readStatement_62 rfl (lv_at hl 1 rfl) ?_
    refine lv_dup hx hb dX7_readStatement_63 rfl ?_
    refine z_getI hx hb hg zin_7 hown hK hM ha0 3 rfl (by decide) (hg _ zw_174) (fun _ h9 => h9) dX7_readStatement_64 ?_
    refine lv_iconst (v := (1 : Int32)) hx hb dX7_readStatement_67 (by decide +kernel) ?_
    refine lv_iadd hx hb dX7_readStatement_68 ?_
    refine z_putI hx hb hg zin_7 tyX7 tyX7_ok nmX7 hown hK hM hS ha0 3 rfl (by decide) (hg _ zw_174) (fun _ h9 => h9) (Or.inl rfl) (tyX7_ok 3 (by decide)) rfl rfl dX7_readStatement_69 (fun H locs hM hS => ?_)
    obtain ⟨S15, e16, h⟩ := zlg h
    rw [← e16] at hM
    have hX17 : zX S0 S15 := by rw [e16]; exact zX_pI
    have h18 := ha0.mo hX17
    have hX19 := hX0.tr hX17
    refine lv_aload_n hx hb dX7_readStatement_72 rfl (lv_at hl 1 rfl) ?_
    refine lv_iload_n hx hb dX7_readStatement_73 rfl (lv_at hl 0 rfl) ?_
    obtain ⟨S21, hr20, h⟩ := zb1 h
    refine z_runv (va_runV (As := [.int (zi S0 a0 3)]) (rest := []) ⟨hx, hb, hml, hown, hg⟩ (c_X7_readDropped l D cy B h18 hr20) (z_cwV hg zw_515 zw_516 zw_1472 zw_7 zw_517 zh_X7_readDropped ⟨(Nat.le_of_ble_eq_true rfl), (Nat.le_of_ble_eq_true rfl)⟩) (zPV hC hM h18 (by decide) rfl) rfl rfl hl.1 rfl (lv_room (Nat.le_of_ble_eq_true rfl)) dX7_readStatement_74 ⟨(Nat.le_of_ble_eq_true rfl), (Nat.le_of_ble_eq_true rfl)⟩) hS (fun H locs hM hX22 hS => ?_)
    have h24 := h18.mo hX22
    have hX25 := hX19.tr hX22
    refine lv_goto (tgt := 110) hx hb dX7_readStatement_77 (by decide) ?_
    exact hK8 S21 _ _ hM hX25 hS h24 _ (lv_sub hl [1] rfl) h
  · have h := zf h hc14
    by_cases hc26 : r2 = (102 : Int32)
    · refine z_lin (off := 71) hx hb hc26 dX7_readStatement_9 (by decide +kernel) (by decide +kernel) (tgt := 80) (by decide) ?_
      have h := zt h hc26
      refine lv_aload_n hx hb dX7_readStatement_80 rfl (lv_at hl 1 rfl) ?_
      refine lv_dup hx hb dX7_readStatement_81 rfl ?_
      refine z_getI hx hb hg zin_7 hown hK hM ha0 3 rfl (by decide) (hg _ zw_174) (fun _ h9 => h9) dX7_readStatement_82 ?_
      refine lv_iconst (v := (1 : Int32)) hx hb dX7_readStatement_85 (by decide +kernel) ?_
      refine lv_iadd hx hb dX7_readStatement_86 ?_
      refine z_putI hx hb hg zin_7 tyX7 tyX7_ok nmX7 hown hK hM hS ha0 3 rfl (by decide) (hg _ zw_174) (fun _ h9 => h9) (Or.inl rfl) (tyX7_ok 3 (by decide)) rfl rfl dX7_readStatement_87 (fun H locs hM hS => ?_)
      obtain ⟨S27, e28, h⟩ := zlg h
      rw [← e28] at hM
      have hX29 : zX S0 S27 := by rw [e28]; exact zX_pI
      have h30 := ha0.mo hX29
      have hX31 := hX0.tr hX29
      refine lv_aload_n hx hb dX7_readStatement_90 rfl (lv_at hl 1 rfl) ?_
      obtain ⟨hq33, h⟩ := zk h
      refine z_getN hx hb hg zin_7 hown hK hM h30 0 rfl (by decide) (hg _ zw_170) (fun _ h9 => h9) hq33 dX7_readStatement_91 (fun h32 => ?_)
      obtain ⟨S35, hr34, h⟩ := zlg h
      have hr34 := hr34.symm
      refine z_runv (va_runV (As := []) (rest := []) ⟨hx, hb, hml, hown, hg⟩ (c_X6_forgetSum l D cy B h32 hr34) (z_cwV hg zw_518 zw_519 zw_520 zw_4 zw_521 zh_X6_forgetSum ⟨(Nat.le_of_ble_eq_true rfl), (Nat.le_of_ble_eq_true rfl)⟩) (zPV hC hM h32 (by decide) rfl) rfl rfl hl.1 rfl (lv_room (Nat.le_of_ble_eq_true rfl)) dX7_readStatement_94 ⟨(Nat.le_of_ble_eq_true rfl), (Nat.le_of_ble_eq_true rfl)⟩) hS (fun H locs hM hX36 hS => ?_)
      have h38 := h30.mo hX36
      have hX39 := hX31.tr hX36
      refine lv_aload_n hx hb dX7_readStatement_97 rfl (lv_at hl 1 rfl) ?_
      refine lv_iconst (v := (0 : Int32)) hx hb dX7_readStatement_98 (by decide +kernel) ?_
      obtain ⟨S41, hr40, h⟩ := zb1 h
      refine z_runv (va_runV (As := [.int (0 : Int32)]) (rest := []) ⟨hx, hb, hml, hown, hg⟩ (c_X7_readSum l D cy B h38 hr40) (z_cwV hg zw_522 zw_523 zw_1473 zw_7 zw_524 zh_X7_readSum ⟨(Nat.le_of_ble_eq_true rfl), (Nat.le_of_ble_eq_true rfl)⟩) (zPV hC hM h38 (by decide) rfl) rfl rfl hl.1 rfl (lv_room (Nat.le_of_ble_eq_true rfl)) dX7_readStatement_99 ⟨(Nat.le_of_ble_eq_true rfl), (Nat.le_of_ble_eq_true rfl)⟩) hS (fun H locs hM hX42 hS => ?_)
      have h44 := h38.mo hX42
      have hX45 := hX39.tr hX42
      refine lv_goto (tgt := 110) hx hb dX7_readStatement_102 (by decide) ?_
      exact hK8 S41 _ _ hM hX45 hS h44 _ (lv_sub hl [1] rfl) h
    · have h := zf h hc26
      by_cases hc46 : r2 = (111 : Int32)
      · refine z_lin (off := 35) hx hb hc46 dX7_readStatement_9 (by decide +kernel) (by decide +kernel) (tgt := 44) (by decide) ?_
        have h := zt h hc46
        refine lv_aload_n hx hb dX7_readStatement_44 rfl (lv_at hl 1 rfl) ?_
        refine lv_dup hx hb dX7_readStatement_45 rfl ?_
        refine z_getI hx hb hg zin_7 hown hK hM ha0 3 rfl (by decide) (hg _ zw_174) (fun _ h9 => h9) dX7_readStatement_46 ?_
        refine lv_iconst (v := (1 : Int32)) hx hb dX7_readStatement_49 (by decide +kernel) ?_
        refine lv_iadd hx hb dX7_readStatement_50 ?_
        refine z_putI hx hb hg zin_7 tyX7 tyX7_ok nmX7 hown hK hM hS ha0 3 rfl (by decide) (hg _ zw_174) (fun _ h9 => h9) (Or.inl rfl) (tyX7_ok 3 (by decide)) rfl rfl dX7_readStatement_51 (fun H locs hM hS => ?_)
        obtain ⟨S47, e48, h⟩ := zlg h
        rw [← e48] at hM
        have hX49 : zX S0 S47 := by rw [e48]; exact zX_pI
        have h50 := ha0.mo hX49
        have hX51 := hX0.tr hX49
        refine lv_aload_n hx hb dX7_readStatement_54 rfl (lv_at hl 1 rfl) ?_
        refine lv_iload_n hx hb dX7_readStatement_55 rfl (lv_at hl 0 rfl) ?_
        obtain ⟨S53, hr52, h⟩ := zb1 h
        refine z_runv (va_runV (As := [.int (zi S0 a0 3)]) (rest := []) ⟨hx, hb, hml, hown, hg⟩ (c_X7_readOff l D cy B h50 hr52) (z_cwV hg zw_499 zw_500 zw_1467 zw_7 zw_501 zh_X7_readOff ⟨(Nat.le_of_ble_eq_true rfl), (Nat.le_of_ble_eq_true rfl)⟩) (zPV hC hM h50 (by decide) rfl) rfl rfl hl.1 rfl (lv_room (Nat.le_of_ble_eq_true rfl)) dX7_readStatement_56 ⟨(Nat.le_of_ble_eq_true rfl), (Nat.le_of_ble_eq_true rfl)⟩) hS (fun H locs hM hX54 hS => ?_)
        have h56 := h50.mo hX54
        have hX57 := hX51.tr hX54
        refine lv_goto (tgt := 110) hx hb dX7_readStatement_59 (by decide) ?_
        exact hK8 S53 _ _ hM hX57 hS h56 _ (lv_sub hl [1] rfl) h
      · have h := zf h hc46
        refine lv_lookup hx hb dX7_readStatement_9 (by decide +kernel) (off := 96) (by show Op.lookupswitch.offset [(100, 53), (102, 71), (111, 35)] 96 _ = _; rw [lv_osw hc14 (by decide +kernel), lv_osw hc26 (by decide +kernel), lv_osw hc46 (by decide +kernel)]; rfl) (tgt := 105) (by decide) ?_
        refine lv_aload_n hx hb dX7_readStatement_105 rfl (lv_at hl 1 rfl) ?_
        refine lv_iconst (v := (1 : Int32)) hx hb dX7_readStatement_106 (by decide +kernel) ?_
        refine z_putI hx hb hg zin_7 tyX7 tyX7_ok nmX7 hown hK hM hS ha0 4 rfl (by decide) (hg _ zw_175) (fun _ h9 => h9) (Or.inl rfl) (tyX7_ok 4 (by decide)) (by decide +kernel) (by decide +kernel) dX7_readStatement_107 (fun H locs hM hS => ?_)
        obtain ⟨S58, e59, h⟩ := zlg h
        rw [← e59] at hM
        have hX60 : zX S0 S58 := by rw [e59]; exact zX_pI
        have h61 := ha0.mo hX60
        have hX62 := hX0.tr hX60
        exact hK8 S58 _ _ hM hX62 hS h61 _ (lv_sub hl [1] rfl) h
def f_X7_read_L50b (n : Nat) (a0 : Nat) (K43 : Int32 → zM → Option (Int32 × zM)) (rec50 : Int32 → zM → Option (Int32 × zM)) (x47 : Int32) (S48 : zM) : Option (Int32 × zM) :=
  if (120 : Int32) < x47 then K43 x47 S48 else if (zi S48 a0 4) = 0 then zLet (zB1 (f_X7_readStatement n S48 a0) (fun S56 => rec50 (x47 + (1 : Int32)) S56)) (fun K54 => if (zi S48 a0 3) < (zi S48 a0 2) then K54 else if x47 = 0 then K54 else K43 x47 S48) else K43 x47 S48
def f_X7_read_L50 (n : Nat) (a0 : Nat) (K43 : Int32 → zM → Option (Int32 × zM)) : Nat → Int32 → zM → Option (Int32 × zM)
  | 0 => fun _ _ => none
  | k + 1 => fun x47 S48 => f_X7_read_L50b n a0 K43 (f_X7_read_L50 n a0 K43 k) x47 S48
def f_X7_read (n : Nat) (S0 : zM) (a0 : Nat) (a1 : Nat) (a2 : Nat) : Option (Int32 × zM) :=
  zChk (¬ (zr S0 a0 0) = 0) (zB1 (f_X6_copyFrom S0 (zr S0 a0 0) a2) (fun S4 => zLet (zpR S4 a0 1 (zr S4 a1 0)) (fun S11 => zChk (¬ (zr S11 a0 1) = 0) (zLet (zpI S11 a0 2 (zmin (zi S11 a1 3) (Int32.ofNat (zln S11 (zr S11 a0 1))))) (fun S19 => zLet (zpI S19 a0 3 (0 : Int32)) (fun S24 => zLet (zpI S24 a0 4 (0 : Int32)) (fun S29 => zLet (zpI S29 a0 5 (-4 : Int32)) (fun S34 => zLet (fun (x40 : Int32) (S41 : zM) => if (zi S41 a0 4) = 0 then if (zi S41 a0 5) < 0 then some ((x40, S41)) else some ((((-2000 : Int32) - (zi S41 a0 5)), S41)) else some ((((-1000 : Int32) - (zi S41 a0 3)), S41))) (fun K43 => f_X7_read_L50 n a0 K43 n (0 : Int32) S34)))))))))
set_option maxHeartbeats 4000000 in
set_option maxRecDepth 100000 in
theorem c_X7_read (l : Launch) (D : va_G) (cy : Nat → ClassId) (B : Nat) {n : Nat} {S0 : zM} {a0 : Nat} {a1 : Nat} {a2 : Nat} {r : Int32} {S' : zM} (ha0 : zA S0 a0 7) (ha1 : zA S0 a1 8) (ha2 : zA S0 a2 6) (h : f_X7_read n S0 a0 a1 a2 = some (r, S')) : Met l yX7_read (zws yX7_read cX7_read 4 ((some .int))) { frames := 34, cells := 0, slots := 0, locals := 772 } (zPc D cy B S0 [.ref (B + a0), .ref (B + a1), .ref (B + a2)]) (zQi D cy B S0 r S') 0 0 (fun q => B < q) := by
  refine Met.ofW (cc := cX7_read) (maxL := 4) (ret := ((some .int))) (by decide) rfl ?_
  intro p e s m args below meth c s₁ Bd hml hv
  obtain ⟨rfl, hC, hM⟩ := hv
  obtain ⟨hx, hb, hr, hg, hown, hlk⟩ := z_open Bd
  have hK := hC.1
  have hS : va_S (fun q => B < q) s.heap s.heap [] := va_S.rf
  have hX0 : zX S0 S0 := zX.rf
  refine z_entry (vs := [.ref (B + a0), .ref (B + a1), .ref (B + a2)]) (Nat.le_of_ble_eq_true rfl) (fun ls hl => ?_)
  have hl : lv_has ls 4 [(0, .ref (B + a0)), (1, .ref (B + a1)), (2, .ref (B + a2))] := hl
  unfold f_X7_read at h
  refine lv_aload_n hx hb dX7_read_0 rfl (lv_at hl 0 rfl) ?_
  obtain ⟨hq2, h⟩ := zk h
  refine z_getN hx hb hg zin_7 hown hK hM ha0 0 rfl (by decide) (hg _ zw_170) (fun _ h9 => h9) hq2 dX7_read_1 (fun h1 => ?_)
  refine lv_aload_n hx hb dX7_read_4 rfl (lv_at hl 2 rfl) ?_
  obtain ⟨S4, hr3, h⟩ := zb1 h
  refine z_runv (va_runV (As := [.ref (B + a2)]) (rest := []) ⟨hx, hb, hml, hown, hg⟩ (c_X6_copyFrom l D cy B h1 ha2 hr3) (z_cwV hg zw_485 zw_486 zw_487 zw_4 zw_488 zh_X6_copyFrom ⟨(Nat.le_of_ble_eq_true rfl), (Nat.le_of_ble_eq_true rfl)⟩) (zPV hC hM h1 (by decide) rfl) rfl rfl hl.1 rfl (lv_room (Nat.le_of_ble_eq_true rfl)) dX7_read_5 ⟨(Nat.le_of_ble_eq_true rfl), (Nat.le_of_ble_eq_true rfl)⟩) hS (fun H locs hM hX5 hS => ?_)
  have h7 := ha0.mo hX5
  have h8 := ha1.mo hX5
  have hX9 := hX0.tr hX5
  refine lv_aload_n hx hb dX7_read_8 rfl (lv_at hl 0 rfl) ?_
  refine lv_aload_n hx hb dX7_read_9 rfl (lv_at hl 1 rfl) ?_
  refine z_getR hx hb hg zin_8 hown hK hM h8 0 rfl (by decide) (hg _ zw_251) (fun _ h9 => h9) dX7_read_10 (fun h10 => ?_)
  refine z_putR (r := (zr S4 a1 0)) hx hb hg zin_7 tyX7 tyX7_ok nmX7 hown hK hM hS h7 1 rfl (by decide) (hg _ zw_172) (fun _ h9 => h9) (Or.inl rfl) rfl (tyX7_ok 1 (by decide)) (Or.inr ⟨_, rfl⟩) (h10) dX7_read_13 (fun H locs hM hS => ?_)
  obtain ⟨S11, e12, h⟩ := zlg h
  rw [← e12] at hM
  have hX13 : zX S4 S11 := by rw [e12]; exact zX_pR
  have h14 := h7.mo hX13
  have h15 := h8.mo hX13
  have hX16 := hX9.tr hX13
  refine lv_aload_n hx hb dX7_read_16 rfl (lv_at hl 0 rfl) ?_
  refine lv_aload_n hx hb dX7_read_17 rfl (lv_at hl 1 rfl) ?_
  refine z_getI hx hb hg zin_8 hown hK hM h15 3 rfl (by decide) (hg _ zw_258) (fun _ h9 => h9) dX7_read_18 ?_
  refine lv_aload_n hx hb dX7_read_21 rfl (lv_at hl 0 rfl) ?_
  obtain ⟨hq18, h⟩ := zk h
  refine z_getN hx hb hg zin_7 hown hK hM h14 1 rfl (by decide) (hg _ zw_172) (fun _ h9 => h9) hq18 dX7_read_22 (fun h17 => ?_)
  refine z_alen hx hb hK hM h17 dX7_read_25 ?_
  refine va_mmin hx hb (hml.trans hl.1.symm) hown (hg _ zw_492) (hg _ zw_412) (hg _ zw_15) (hg _ zw_413) (Nat.le_of_ble_eq_true rfl) (Nat.le_trans (Nat.add_le_add_right (z_room (Nat.le_of_ble_eq_true rfl)) 13) (Nat.le_of_ble_eq_true rfl)) (by omega) (by omega) dX7_read_26 ?_
  refine W.eq (g2 := F0 m 29 ls [.int (zmin (zi S11 a1 3) (Int32.ofNat (zln S11 (zr S11 a0 1)))), .ref (B + a0)]) rfl ?_
  refine z_putI hx hb hg zin_7 tyX7 tyX7_ok nmX7 hown hK hM hS h14 2 rfl (by decide) (hg _ zw_173) (fun _ h9 => h9) (Or.inl rfl) (tyX7_ok 2 (by decide)) rfl rfl dX7_read_29 (fun H locs hM hS => ?_)
  obtain ⟨S19, e20, h⟩ := zlg h
  rw [← e20] at hM
  have hX21 : zX S11 S19 := by rw [e20]; exact zX_pI
  have h22 := h14.mo hX21
  have hX23 := hX16.tr hX21
  refine lv_aload_n hx hb dX7_read_32 rfl (lv_at hl 0 rfl) ?_
  refine lv_iconst (v := (0 : Int32)) hx hb dX7_read_33 (by decide +kernel) ?_
  refine z_putI hx hb hg zin_7 tyX7 tyX7_ok nmX7 hown hK hM hS h22 3 rfl (by decide) (hg _ zw_174) (fun _ h9 => h9) (Or.inl rfl) (tyX7_ok 3 (by decide)) rfl rfl dX7_read_34 (fun H locs hM hS => ?_)
  obtain ⟨S24, e25, h⟩ := zlg h
  rw [← e25] at hM
  have hX26 : zX S19 S24 := by rw [e25]; exact zX_pI
  have h27 := h22.mo hX26
  have hX28 := hX23.tr hX26
  refine lv_aload_n hx hb dX7_read_37 rfl (lv_at hl 0 rfl) ?_
  refine lv_iconst (v := (0 : Int32)) hx hb dX7_read_38 (by decide +kernel) ?_
  refine z_putI hx hb hg zin_7 tyX7 tyX7_ok nmX7 hown hK hM hS h27 4 rfl (by decide) (hg _ zw_175) (fun _ h9 => h9) (Or.inl rfl) (tyX7_ok 4 (by decide)) (by decide +kernel) (by decide +kernel) dX7_read_39 (fun H locs hM hS => ?_)
  obtain ⟨S29, e30, h⟩ := zlg h
  rw [← e30] at hM
  have hX31 : zX S24 S29 := by rw [e30]; exact zX_pI
  have h32 := h27.mo hX31
  have hX33 := hX28.tr hX31
  refine lv_aload_n hx hb dX7_read_42 rfl (lv_at hl 0 rfl) ?_
  refine lv_bipush (v := (-4 : Int32)) hx hb dX7_read_43 (by decide +kernel) ?_
  refine z_putI hx hb hg zin_7 tyX7 tyX7_ok nmX7 hown hK hM hS h32 5 rfl (by decide) (hg _ zw_176) (fun _ h9 => h9) (Or.inl rfl) (tyX7_ok 5 (by decide)) rfl rfl dX7_read_45 (fun H locs hM hS => ?_)
  obtain ⟨S34, e35, h⟩ := zlg h
  rw [← e35] at hM
  have hX36 : zX S29 S34 := by rw [e35]; exact zX_pI
  have h37 := h32.mo hX36
  have hX38 := hX33.tr hX36
  refine lv_iconst (v := (0 : Int32)) hx hb dX7_read_48 (by decide +kernel) ?_
  refine lv_istore_n (i := 3) (lv' := [(3, .int (0 : Int32)), (0, .ref (B + a0)), (1, .ref (B + a1)), (2, .ref (B + a2))]) hx hb dX7_read_49 rfl hl (by decide) rfl (fun ls hl => ?_)
  obtain ⟨K43, eK43, h⟩ := zlg h
  have hK43 : ∀ (x40 : Int32) (S41 : zM) (H : Heap) (locs : List Loc), zMR D cy B S41 H → zX S0 S41 → va_S (fun q => B < q) s.heap H locs → zA S41 a0 7 → ∀ ls : Array Slot, lv_has ls 4 [(0, .ref (B + a0)), (3, .int x40)] → K43 x40 S41 = some (r, S') → W p l e (headSpec (zws yX7_read cX7_read 4 ((some .int))) { frames := 34, cells := 0, slots := 0, locals := 772 }).room s m (([.ref (B + a0), .ref (B + a1), .ref (B + a2)] : List Value).toArray) below meth c H locs 0 0 (MQ below (zQi D cy B S0 r S') (([.ref (B + a0), .ref (B + a1), .ref (B + a2)] : List Value).toArray) s 0 0 (fun q => B < q)) (F0 m 88 ls []) := by
    intro x40 S41 H locs hM hX42 hS h39 ls hl h
    rw [eK43] at h
    refine lv_aload_n hx hb dX7_read_88 rfl (lv_at hl 0 rfl) ?_
    refine z_getI hx hb hg zin_7 hown hK hM h39 4 rfl (by decide) (hg _ zw_175) (fun _ h9 => h9) dX7_read_89 ?_
    refine lv_if_eq (tgt := 104) hx hb dX7_read_92 (by decide) (fun hc44 => ?_) (fun hc44 => ?_)
    · have h := zt h hc44
      refine lv_aload_n hx hb dX7_read_104 rfl (lv_at hl 0 rfl) ?_
      refine z_getI hx hb hg zin_7 hown hK hM h39 5 rfl (by decide) (hg _ zw_176) (fun _ h9 => h9) dX7_read_105 ?_
      refine lv_if_lt (tgt := 122) hx hb dX7_read_108 (by decide) (fun hc45 => ?_) (fun hc45 => ?_)
      · have h := zt h hc45
        refine lv_iload_n hx hb dX7_read_122 rfl (lv_at hl 1 rfl) ?_
        exact z_iret hx hb hr hlk hM hX42 hS (zsp h) dX7_read_123
      · have h := zf h hc45
        refine lv_sipush (v := (-2000 : Int32)) hx hb dX7_read_111 (by decide +kernel) ?_
        refine lv_aload_n hx hb dX7_read_114 rfl (lv_at hl 0 rfl) ?_
        refine z_getI hx hb hg zin_7 hown hK hM h39 5 rfl (by decide) (hg _ zw_176) (fun _ h9 => h9) dX7_read_115 ?_
        refine lv_isub hx hb dX7_read_118 ?_
        refine lv_goto (tgt := 123) hx hb dX7_read_119 (by decide) ?_
        exact z_iret hx hb hr hlk hM hX42 hS (zsp h) dX7_read_123
    · have h := zf h hc44
      refine lv_sipush (v := (-1000 : Int32)) hx hb dX7_read_95 (by decide +kernel) ?_
      refine lv_aload_n hx hb dX7_read_98 rfl (lv_at hl 0 rfl) ?_
      refine z_getI hx hb hg zin_7 hown hK hM h39 3 rfl (by decide) (hg _ zw_174) (fun _ h9 => h9) dX7_read_99 ?_
      refine lv_isub hx hb dX7_read_102 ?_
      exact z_iret hx hb hr hlk hM hX42 hS (zsp h) dX7_read_103
  have hL50 : ∀ (k : Nat) (x47 : Int32) (S48 : zM) (H : Heap) (locs : List Loc), zMR D cy B S48 H → zX S0 S48 → va_S (fun q => B < q) s.heap H locs → zA S48 a0 7 → ∀ ls : Array Slot, lv_has ls 4 [(0, .ref (B + a0)), (3, .int x47)] → f_X7_read_L50 n a0 K43 k x47 S48 = some (r, S') → W p l e (headSpec (zws yX7_read cX7_read 4 ((some .int))) { frames := 34, cells := 0, slots := 0, locals := 772 }).room s m (([.ref (B + a0), .ref (B + a1), .ref (B + a2)] : List Value).toArray) below meth c H locs 0 0 (MQ below (zQi D cy B S0 r S') (([.ref (B + a0), .ref (B + a1), .ref (B + a2)] : List Value).toArray) s 0 0 (fun q => B < q)) (F0 m 50 ls []) := by
    intro k
    induction k with
    | zero =>
      intro x47 S48 H locs hM hX49 hS h46 ls hl h
      exact znone h
    | succ k ih50 =>
      intro x47 S48 H locs hM hX49 hS h46 ls hl h
      replace h : f_X7_read_L50b n a0 K43 (f_X7_read_L50 n a0 K43 k) x47 S48 = some (r, S') := h
      generalize f_X7_read_L50 n a0 K43 k = rec50 at ih50 h
      unfold f_X7_read_L50b at h
      refine lv_iload_n hx hb dX7_read_50 rfl (lv_at hl 1 rfl) ?_
      refine lv_bipush (v := (120 : Int32)) hx hb dX7_read_51 (by decide +kernel) ?_
      refine lv_icmp_gt (tgt := 88) hx hb dX7_read_53 (by decide) (fun hc50 => ?_) (fun hc50 => ?_)
      · have h := zt h hc50
        exact hK43 x47 S48 _ _ hM hX49 hS h46 _ (lv_sub hl [0, 1] rfl) h
      · have h := zf h hc50
        refine lv_aload_n hx hb dX7_read_56 rfl (lv_at hl 0 rfl) ?_
        refine z_getI hx hb hg zin_7 hown hK hM h46 4 rfl (by decide) (hg _ zw_175) (fun _ h9 => h9) dX7_read_57 ?_
        refine lv_if_ne (tgt := 88) hx hb dX7_read_60 (by decide) (fun hc51 => ?_) (fun hc51 => ?_)
        · have h := zf h hc51
          exact hK43 x47 S48 _ _ hM hX49 hS h46 _ (lv_sub hl [0, 1] rfl) h
        · have h := zt h hc51
          refine lv_aload_n hx hb dX7_read_63 rfl (lv_at hl 0 rfl) ?_
          refine z_getI hx hb hg zin_7 hown hK hM h46 3 rfl (by decide) (hg _ zw_174) (fun _ h9 => h9) dX7_read_64 ?_
          refine lv_aload_n hx hb dX7_read_67 rfl (lv_at hl 0 rfl) ?_
          refine z_getI hx hb hg zin_7 hown hK hM h46 2 rfl (by decide) (hg _ zw_173) (fun _ h9 => h9) dX7_read_68 ?_
          obtain ⟨K54, eK54, h⟩ := zlg h
          have hK54 : ∀ (H : Heap) (locs : List Loc), zMR D cy B S48 H → zX S0 S48 → va_S (fun q => B < q) s.heap H locs → zA S48 a0 7 → ∀ ls : Array Slot, lv_has ls 4 [(0, .ref (B + a0)), (3, .int x47)] → K54 = some (r, S') → W p l e (headSpec (zws yX7_read cX7_read 4 ((some .int))) { frames := 34, cells := 0, slots := 0, locals := 772 }).room s m (([.ref (B + a0), .ref (B + a1), .ref (B + a2)] : List Value).toArray) below meth c H locs 0 0 (MQ below (zQi D cy B S0 r S') (([.ref (B + a0), .ref (B + a1), .ref (B + a2)] : List Value).toArray) s 0 0 (fun q => B < q)) (F0 m 78 ls []) := by
            intro H locs hM hX53 hS h52 ls hl h
            rw [eK54] at h
            refine lv_aload_n hx hb dX7_read_78 rfl (lv_at hl 0 rfl) ?_
            obtain ⟨S56, hr55, h⟩ := zb1 h
            refine z_runv (va_runV (As := []) (rest := []) ⟨hx, hb, hml, hown, hg⟩ (c_X7_readStatement l D cy B h52 hr55) (z_cwV hg zw_493 zw_494 zw_1465 zw_7 zw_495 zh_X7_readStatement ⟨(Nat.le_of_ble_eq_true rfl), (Nat.le_of_ble_eq_true rfl)⟩) (zPV hC hM h52 (by decide) rfl) rfl rfl hl.1 rfl (lv_room (Nat.le_of_ble_eq_true rfl)) dX7_read_79 ⟨(Nat.le_of_ble_eq_true rfl), (Nat.le_of_ble_eq_true rfl)⟩) hS (fun H locs hM hX57 hS => ?_)
            have h59 := h52.mo hX57
            have hX60 := hX53.tr hX57
            refine lv_iinc (v := (x47 + (1 : Int32))) (lv' := [(3, .int (x47 + (1 : Int32))), (0, .ref (B + a0))]) hx hb dX7_read_82 hl (k := 1) rfl rfl (by decide) rfl (fun ls hl => ?_)
            refine lv_goto (tgt := 50) hx hb dX7_read_85 (by decide) ?_
            exact ih50 (x47 + (1 : Int32)) S56 _ _ hM hX60 hS h59 _ (lv_sub hl [1, 0] rfl) h
          refine lv_icmp_lt (tgt := 78) hx hb dX7_read_71 (by decide) (fun hc61 => ?_) (fun hc61 => ?_)
          · have h := zt h hc61
            exact hK54 _ _ hM hX49 hS h46 _ (lv_sub hl [0, 1] rfl) h
          · have h := zf h hc61
            refine lv_iload_n hx hb dX7_read_74 rfl (lv_at hl 1 rfl) ?_
            refine lv_if_ne (tgt := 88) hx hb dX7_read_75 (by decide) (fun hc62 => ?_) (fun hc62 => ?_)
            · have h := zf h hc62
              exact hK43 x47 S48 _ _ hM hX49 hS h46 _ (lv_sub hl [0, 1] rfl) h
            · have h := zt h hc62
              exact hK54 _ _ hM hX49 hS h46 _ (lv_sub hl [0, 1] rfl) h
  exact hL50 n (0 : Int32) S34 _ _ hM hX38 hS h37 _ (lv_sub hl [1, 0] rfl) h
def f_X8_init (S0 : zM) (a0 : Nat) : zM :=
  zLet (znw S0 20 120) (fun S1 => zLet (zpR S1 a0 0 (zsz S0)) (fun S7 => S7))
set_option maxHeartbeats 4000000 in
set_option maxRecDepth 100000 in
theorem c_X8_init (l : Launch) (D : va_G) (cy : Nat → ClassId) (B : Nat) {S0 : zM} {a0 : Nat} {S' : zM} (ha0 : zA S0 a0 8) (h : f_X8_init S0 a0 = S') : Met l yX8_init (zws yX8_init cX8_init 1 none) { frames := 1, cells := 1, slots := 120, locals := 20 } (zPc D cy B S0 [.ref (B + a0)]) (zQv D cy B S0 S') 1 120 (fun q => B < q) := by
  refine Met.ofW (cc := cX8_init) (maxL := 1) (ret := none) (by decide) rfl ?_
  intro p e s m args below meth c s₁ Bd hml hv
  obtain ⟨rfl, hC, hM⟩ := hv
  obtain ⟨hx, hb, hr, hg, hown, hlk⟩ := z_open Bd
  have hK := hC.1
  have hin : meth.name = "<init>" := (name_of_methodNamed Bd.named Bd.method).1
  have hS : va_S (fun q => B < q) s.heap s.heap [] := va_S.rf
  have hX0 : zX S0 S0 := zX.rf
  refine z_entry (vs := [.ref (B + a0)]) (Nat.le_of_ble_eq_true rfl) (fun ls hl => ?_)
  have hl : lv_has ls 1 [(0, .ref (B + a0))] := hl
  unfold f_X8_init at h
  refine lv_aload_n hx hb dX8_init_0 rfl (lv_at hl 0 rfl) ?_
  refine W.objInit hx hb hown (hg _ zw_249) (hg _ zw_29) (hg _ zw_30) rfl (by rw [hml]; exact hl.1) rfl dX8_init_1 (Nat.le_of_ble_eq_true rfl) (Nat.le_of_ble_eq_true rfl) ?_
  refine W.eq (g2 := F0 m 4 ls []) rfl ?_
  refine lv_aload_n hx hb dX8_init_4 rfl (lv_at hl 0 rfl) ?_
  refine lv_bipush (v := (120 : Int32)) hx hb dX8_init_5 (by decide +kernel) ?_
  refine z_newa (atype := .int) hx hb (hg _ zw_66) hK hM hS 20 (by decide) rfl (N := 120) (by decide +kernel) (by decide +kernel) (by decide +kernel) (Nat.le_of_ble_eq_true rfl) (Nat.le_of_ble_eq_true rfl) dX8_init_7 (fun H hM hA hX hS => ?_)
  obtain ⟨S1, e2, h⟩ := zlg h
  rw [← e2] at hM hA hX
  have hX3 := hX
  have h4 := hA
  have h5 := ha0.mo hX3
  have hX6 := hX0.tr hX3
  refine W.widen (k := 1) (n := 120) (Nat.le_refl _) (Nat.le_refl _) ?_
  refine z_putR (r := (zsz S0)) hx hb hg zin_8 tyX8 tyX8_ok nmX8 hown hK hM hS h5 0 rfl (by decide) (hg _ zw_250) (fun _ h9 => h9) (Or.inr ⟨rfl, hin, rfl⟩) (zv_ref h4.1).symm (tyX8_ok 0 (by decide)) (Or.inr ⟨_, rfl⟩) (h4.q) dX8_init_9 (fun H locs hM hS => ?_)
  obtain ⟨S7, e8, h⟩ := zlg h
  rw [← e8] at hM
  have hX9 : zX S1 S7 := by rw [e8]; exact zX_pR
  have hX10 := hX6.tr hX9
  refine W.widen (k := 1) (n := 120) (by omega) (by omega) ?_
  exact z_vret hx hb hr hlk hM hX10 hS h dX8_init_12
def f_X8_clear (S0 : zM) (a0 : Nat) : zM :=
  zLet (zpR S0 a0 1 0) (fun S1 => zLet (zpI S1 a0 4 (0 : Int32)) (fun S6 => zLet (zpI S6 a0 3 (0 : Int32)) (fun S11 => S11)))
set_option maxHeartbeats 4000000 in
set_option maxRecDepth 100000 in
theorem c_X8_clear (l : Launch) (D : va_G) (cy : Nat → ClassId) (B : Nat) {S0 : zM} {a0 : Nat} {S' : zM} (ha0 : zA S0 a0 8) (h : f_X8_clear S0 a0 = S') : Met l yX8_clear (zws yX8_clear cX8_clear 1 none) { frames := 0, cells := 0, slots := 0, locals := 0 } (zPc D cy B S0 [.ref (B + a0)]) (zQv D cy B S0 S') 0 0 (fun q => B < q) := by
  refine Met.ofW (cc := cX8_clear) (maxL := 1) (ret := none) (by decide) rfl ?_
  intro p e s m args below meth c s₁ Bd hml hv
  obtain ⟨rfl, hC, hM⟩ := hv
  obtain ⟨hx, hb, hr, hg, hown, hlk⟩ := z_open Bd
  have hK := hC.1
  have hS : va_S (fun q => B < q) s.heap s.heap [] := va_S.rf
  have hX0 : zX S0 S0 := zX.rf
  refine z_entry (vs := [.ref (B + a0)]) (Nat.le_of_ble_eq_true rfl) (fun ls hl => ?_)
  have hl : lv_has ls 1 [(0, .ref (B + a0))] := hl
  unfold f_X8_clear at h
  refine lv_aload_n hx hb dX8_clear_0 rfl (lv_at hl 0 rfl) ?_
  refine lv_null hx hb dX8_clear_1 ?_
  refine z_putR (r := 0) hx hb hg zin_8 tyX8 tyX8_ok nmX8 hown hK hM hS ha0 1 rfl (by decide) (hg _ zw_253) (fun _ h9 => h9) (Or.inl rfl) (zv_0 B).symm (tyX8_ok 1 (by decide)) (Or.inl ⟨_, rfl⟩) (zQ_0) dX8_clear_2 (fun H locs hM hS => ?_)
  obtain ⟨S1, e2, h⟩ := zlg h
  rw [← e2] at hM
  have hX3 : zX S0 S1 := by rw [e2]; exact zX_pR
  have h4 := ha0.mo hX3
  have hX5 := hX0.tr hX3
  refine lv_aload_n hx hb dX8_clear_5 rfl (lv_at hl 0 rfl) ?_
  refine lv_iconst (v := (0 : Int32)) hx hb dX8_clear_6 (by decide +kernel) ?_
  refine z_putI hx hb hg zin_8 tyX8 tyX8_ok nmX8 hown hK hM hS h4 4 rfl (by decide) (hg _ zw_260) (fun _ h9 => h9) (Or.inl rfl) (tyX8_ok 4 (by decide)) (by decide +kernel) (by decide +kernel) dX8_clear_7 (fun H locs hM hS => ?_)
  obtain ⟨S6, e7, h⟩ := zlg h
  rw [← e7] at hM
  have hX8 : zX S1 S6 := by rw [e7]; exact zX_pI
  have h9 := h4.mo hX8
  have hX10 := hX5.tr hX8
  refine lv_aload_n hx hb dX8_clear_10 rfl (lv_at hl 0 rfl) ?_
  refine lv_iconst (v := (0 : Int32)) hx hb dX8_clear_11 (by decide +kernel) ?_
  refine z_putI hx hb hg zin_8 tyX8 tyX8_ok nmX8 hown hK hM hS h9 3 rfl (by decide) (hg _ zw_257) (fun _ h9 => h9) (Or.inl rfl) (tyX8_ok 3 (by decide)) rfl rfl dX8_clear_12 (fun H locs hM hS => ?_)
  obtain ⟨S11, e12, h⟩ := zlg h
  rw [← e12] at hM
  have hX13 : zX S6 S11 := by rw [e12]; exact zX_pI
  have hX14 := hX10.tr hX13
  exact z_vret hx hb hr hlk hM hX14 hS h dX8_clear_15
def f_X8_holdJudge (S0 : zM) (a0 : Nat) (a1 : Nat) : zM :=
  zLet (f_X8_clear S0 a0) (fun S2 => zLet (zpR S2 a0 1 a1) (fun S8 => S8))
set_option maxHeartbeats 4000000 in
set_option maxRecDepth 100000 in
theorem c_X8_holdJudge (l : Launch) (D : va_G) (cy : Nat → ClassId) (B : Nat) {S0 : zM} {a0 : Nat} {a1 : Nat} {S' : zM} (ha0 : zA S0 a0 8) (ha1 : zA S0 a1 2) (h : f_X8_holdJudge S0 a0 a1 = S') : Met l yX8_holdJudge (zws yX8_holdJudge cX8_holdJudge 2 none) { frames := 1, cells := 0, slots := 0, locals := 20 } (zPc D cy B S0 [.ref (B + a0), .ref (B + a1)]) (zQv D cy B S0 S') 0 0 (fun q => B < q) := by
  refine Met.ofW (cc := cX8_holdJudge) (maxL := 2) (ret := none) (by decide) rfl ?_
  intro p e s m args below meth c s₁ Bd hml hv
  obtain ⟨rfl, hC, hM⟩ := hv
  obtain ⟨hx, hb, hr, hg, hown, hlk⟩ := z_open Bd
  have hK := hC.1
  have hS : va_S (fun q => B < q) s.heap s.heap [] := va_S.rf
  have hX0 : zX S0 S0 := zX.rf
  refine z_entry (vs := [.ref (B + a0), .ref (B + a1)]) (Nat.le_of_ble_eq_true rfl) (fun ls hl => ?_)
  have hl : lv_has ls 2 [(0, .ref (B + a0)), (1, .ref (B + a1))] := hl
  unfold f_X8_holdJudge at h
  refine lv_aload_n hx hb dX8_holdJudge_0 rfl (lv_at hl 0 rfl) ?_
  obtain ⟨S2, hr1, h⟩ := zlg h
  have hr1 := hr1.symm
  refine z_runv (va_runV (As := []) (rest := []) ⟨hx, hb, hml, hown, hg⟩ (c_X8_clear l D cy B ha0 hr1) (z_cwV hg zw_849 zw_841 zw_842 zw_12 zw_843 zh_X8_clear ⟨(Nat.le_of_ble_eq_true rfl), (Nat.le_of_ble_eq_true rfl)⟩) (zPV hC hM ha0 (by decide) rfl) rfl rfl hl.1 rfl (lv_room (Nat.le_of_ble_eq_true rfl)) dX8_holdJudge_1 ⟨(Nat.le_of_ble_eq_true rfl), (Nat.le_of_ble_eq_true rfl)⟩) hS (fun H locs hM hX3 hS => ?_)
  have h5 := ha0.mo hX3
  have h6 := ha1.mo hX3
  have hX7 := hX0.tr hX3
  refine lv_aload_n hx hb dX8_holdJudge_4 rfl (lv_at hl 0 rfl) ?_
  refine lv_aload_n hx hb dX8_holdJudge_5 rfl (lv_at hl 1 rfl) ?_
  refine z_putR (r := a1) hx hb hg zin_8 tyX8 tyX8_ok nmX8 hown hK hM hS h5 1 rfl (by decide) (hg _ zw_253) (fun _ h9 => h9) (Or.inl rfl) (zv_ref h6.1).symm (tyX8_ok 1 (by decide)) (Or.inl ⟨_, rfl⟩) (h6.q) dX8_holdJudge_6 (fun H locs hM hS => ?_)
  obtain ⟨S8, e9, h⟩ := zlg h
  rw [← e9] at hM
  have hX10 : zX S2 S8 := by rw [e9]; exact zX_pR
  have hX11 := hX7.tr hX10
  exact z_vret hx hb hr hlk hM hX11 hS h dX8_holdJudge_9
def f_X8_holdRow_L21b (a0 : Nat) (K24 : zM → Option (zM)) (rec21 : Int32 → zM → Option (zM)) (x26 : Int32) (S27 : zM) : Option (zM) :=
  if (120 : Int32) ≤ x26 then K24 S27 else zChk (¬ (zr S27 a0 0) = 0) (zChk (¬ (x26 < 0 ∨ zln S27 (zr S27 a0 0) ≤ (x26).toNatClampNeg)) (zLet (zpI S27 (zr S27 a0 0) (Int32.toNatClampNeg x26) (0 : Int32)) (fun S33 => rec21 (x26 + (1 : Int32)) S33)))
def f_X8_holdRow_L21 (a0 : Nat) (K24 : zM → Option (zM)) : Nat → Int32 → zM → Option (zM)
  | 0 => fun _ _ => none
  | k + 1 => fun x26 S27 => f_X8_holdRow_L21b a0 K24 (f_X8_holdRow_L21 a0 K24 k) x26 S27
def f_X8_holdRow (n : Nat) (S0 : zM) (a0 : Nat) (v1 : Int32) (v2 : Int32) : Option (zM) :=
  zLet (f_X8_clear S0 a0) (fun S2 => zLet (zpI S2 a0 4 (1 : Int32)) (fun S7 => zLet (zpI S7 a0 2 v1) (fun S12 => zLet (zpI S12 a0 3 v2) (fun S17 => zLet (fun (S22 : zM) => some S22) (fun K24 => f_X8_holdRow_L21 a0 K24 n (0 : Int32) S17)))))
set_option maxHeartbeats 4000000 in
set_option maxRecDepth 100000 in
theorem c_X8_holdRow (l : Launch) (D : va_G) (cy : Nat → ClassId) (B : Nat) {n : Nat} {S0 : zM} {a0 : Nat} {v1 : Int32} {v2 : Int32} {S' : zM} (ha0 : zA S0 a0 8) (h : f_X8_holdRow n S0 a0 v1 v2 = some S') : Met l yX8_holdRow (zws yX8_holdRow cX8_holdRow 4 none) { frames := 1, cells := 0, slots := 0, locals := 20 } (zPc D cy B S0 [.ref (B + a0), .int v1, .int v2]) (zQv D cy B S0 S') 0 0 (fun q => B < q) := by
  refine Met.ofW (cc := cX8_holdRow) (maxL := 4) (ret := none) (by decide) rfl ?_
  intro p e s m args below meth c s₁ Bd hml hv
  obtain ⟨rfl, hC, hM⟩ := hv
  obtain ⟨hx, hb, hr, hg, hown, hlk⟩ := z_open Bd
  have hK := hC.1
  have hS : va_S (fun q => B < q) s.heap s.heap [] := va_S.rf
  have hX0 : zX S0 S0 := zX.rf
  refine z_entry (vs := [.ref (B + a0), .int v1, .int v2]) (Nat.le_of_ble_eq_true rfl) (fun ls hl => ?_)
  have hl : lv_has ls 4 [(0, .ref (B + a0)), (1, .int v1), (2, .int v2)] := hl
  unfold f_X8_holdRow at h
  refine lv_aload_n hx hb dX8_holdRow_0 rfl (lv_at hl 0 rfl) ?_
  obtain ⟨S2, hr1, h⟩ := zlg h
  have hr1 := hr1.symm
  refine z_runv (va_runV (As := []) (rest := []) ⟨hx, hb, hml, hown, hg⟩ (c_X8_clear l D cy B ha0 hr1) (z_cwV hg zw_849 zw_841 zw_842 zw_12 zw_843 zh_X8_clear ⟨(Nat.le_of_ble_eq_true rfl), (Nat.le_of_ble_eq_true rfl)⟩) (zPV hC hM ha0 (by decide) rfl) rfl rfl hl.1 rfl (lv_room (Nat.le_of_ble_eq_true rfl)) dX8_holdRow_1 ⟨(Nat.le_of_ble_eq_true rfl), (Nat.le_of_ble_eq_true rfl)⟩) hS (fun H locs hM hX3 hS => ?_)
  have h5 := ha0.mo hX3
  have hX6 := hX0.tr hX3
  refine lv_aload_n hx hb dX8_holdRow_4 rfl (lv_at hl 0 rfl) ?_
  refine lv_iconst (v := (1 : Int32)) hx hb dX8_holdRow_5 (by decide +kernel) ?_
  refine z_putI hx hb hg zin_8 tyX8 tyX8_ok nmX8 hown hK hM hS h5 4 rfl (by decide) (hg _ zw_260) (fun _ h9 => h9) (Or.inl rfl) (tyX8_ok 4 (by decide)) (by decide +kernel) (by decide +kernel) dX8_holdRow_6 (fun H locs hM hS => ?_)
  obtain ⟨S7, e8, h⟩ := zlg h
  rw [← e8] at hM
  have hX9 : zX S2 S7 := by rw [e8]; exact zX_pI
  have h10 := h5.mo hX9
  have hX11 := hX6.tr hX9
  refine lv_aload_n hx hb dX8_holdRow_9 rfl (lv_at hl 0 rfl) ?_
  refine lv_iload_n hx hb dX8_holdRow_10 rfl (lv_at hl 1 rfl) ?_
  refine z_putI hx hb hg zin_8 tyX8 tyX8_ok nmX8 hown hK hM hS h10 2 rfl (by decide) (hg _ zw_255) (fun _ h9 => h9) (Or.inl rfl) (tyX8_ok 2 (by decide)) rfl rfl dX8_holdRow_11 (fun H locs hM hS => ?_)
  obtain ⟨S12, e13, h⟩ := zlg h
  rw [← e13] at hM
  have hX14 : zX S7 S12 := by rw [e13]; exact zX_pI
  have h15 := h10.mo hX14
  have hX16 := hX11.tr hX14
  refine lv_aload_n hx hb dX8_holdRow_14 rfl (lv_at hl 0 rfl) ?_
  refine lv_iload_n hx hb dX8_holdRow_15 rfl (lv_at hl 2 rfl) ?_
  refine z_putI hx hb hg zin_8 tyX8 tyX8_ok nmX8 hown hK hM hS h15 3 rfl (by decide) (hg _ zw_257) (fun _ h9 => h9) (Or.inl rfl) (tyX8_ok 3 (by decide)) rfl rfl dX8_holdRow_16 (fun H locs hM hS => ?_)
  obtain ⟨S17, e18, h⟩ := zlg h
  rw [← e18] at hM
  have hX19 : zX S12 S17 := by rw [e18]; exact zX_pI
  have h20 := h15.mo hX19
  have hX21 := hX16.tr hX19
  refine lv_iconst (v := (0 : Int32)) hx hb dX8_holdRow_19 (by decide +kernel) ?_
  refine lv_istore_n (i := 3) (lv' := [(3, .int (0 : Int32)), (0, .ref (B + a0)), (1, .int v1), (2, .int v2)]) hx hb dX8_holdRow_20 rfl hl (by decide) rfl (fun ls hl => ?_)
  obtain ⟨K24, eK24, h⟩ := zlg h
  have hK24 : ∀ (S22 : zM) (H : Heap) (locs : List Loc), zMR D cy B S22 H → zX S0 S22 → va_S (fun q => B < q) s.heap H locs → ∀ ls : Array Slot, lv_has ls 4 [] → K24 S22 = some S' → W p l e (headSpec (zws yX8_holdRow cX8_holdRow 4 none) { frames := 1, cells := 0, slots := 0, locals := 20 }).room s m (([.ref (B + a0), .int v1, .int v2] : List Value).toArray) below meth c H locs 0 0 (MQ below (zQv D cy B S0 S') (([.ref (B + a0), .int v1, .int v2] : List Value).toArray) s 0 0 (fun q => B < q)) (F0 m 40 ls []) := by
    intro S22 H locs hM hX23 hS ls hl h
    rw [eK24] at h
    exact z_vret hx hb hr hlk hM hX23 hS (zsm h) dX8_holdRow_40
  have hL21 : ∀ (k : Nat) (x26 : Int32) (S27 : zM) (H : Heap) (locs : List Loc), zMR D cy B S27 H → zX S0 S27 → va_S (fun q => B < q) s.heap H locs → zA S27 a0 8 → ∀ ls : Array Slot, lv_has ls 4 [(0, .ref (B + a0)), (3, .int x26)] → f_X8_holdRow_L21 a0 K24 k x26 S27 = some S' → W p l e (headSpec (zws yX8_holdRow cX8_holdRow 4 none) { frames := 1, cells := 0, slots := 0, locals := 20 }).room s m (([.ref (B + a0), .int v1, .int v2] : List Value).toArray) below meth c H locs 0 0 (MQ below (zQv D cy B S0 S') (([.ref (B + a0), .int v1, .int v2] : List Value).toArray) s 0 0 (fun q => B < q)) (F0 m 21 ls []) := by
    intro k
    induction k with
    | zero =>
      intro x26 S27 H locs hM hX28 hS h25 ls hl h
      exact znone h
    | succ k ih21 =>
      intro x26 S27 H locs hM hX28 hS h25 ls hl h
      replace h : f_X8_holdRow_L21b a0 K24 (f_X8_holdRow_L21 a0 K24 k) x26 S27 = some S' := h
      generalize f_X8_holdRow_L21 a0 K24 k = rec21 at ih21 h
      unfold f_X8_holdRow_L21b at h
      refine lv_iload_n hx hb dX8_holdRow_21 rfl (lv_at hl 1 rfl) ?_
      refine lv_bipush (v := (120 : Int32)) hx hb dX8_holdRow_22 (by decide +kernel) ?_
      refine lv_icmp_ge (tgt := 40) hx hb dX8_holdRow_24 (by decide) (fun hc29 => ?_) (fun hc29 => ?_)
      · have h := zt h hc29
        exact hK24 S27 _ _ hM hX28 hS _ (lv_sub hl [] rfl) h
      · have h := zf h hc29
        refine lv_aload_n hx hb dX8_holdRow_27 rfl (lv_at hl 0 rfl) ?_
        obtain ⟨hq31, h⟩ := zk h
        refine z_getN hx hb hg zin_8 hown hK hM h25 0 rfl (by decide) (hg _ zw_250) (fun _ h9 => h9) hq31 dX8_holdRow_28 (fun h30 => ?_)
        refine lv_iload_n hx hb dX8_holdRow_31 rfl (lv_at hl 1 rfl) ?_
        refine lv_iconst (v := (0 : Int32)) hx hb dX8_holdRow_32 (by decide +kernel) ?_
        obtain ⟨hq32, h⟩ := zk h
        refine z_iast hx hb hK hM hS h30 hq32 dX8_holdRow_33 (fun H locs hM hS => ?_)
        obtain ⟨S33, e34, h⟩ := zlg h
        rw [← e34] at hM
        have hX35 : zX S27 S33 := by rw [e34]; exact zX_pI
        have h36 := h25.mo hX35
        have hX37 := hX28.tr hX35
        refine lv_iinc (v := (x26 + (1 : Int32))) (lv' := [(3, .int (x26 + (1 : Int32))), (0, .ref (B + a0))]) hx hb dX8_holdRow_34 hl (k := 1) rfl rfl (by decide) rfl (fun ls hl => ?_)
        refine lv_goto (tgt := 21) hx hb dX8_holdRow_37 (by decide) ?_
        exact ih21 (x26 + (1 : Int32)) S33 _ _ hM hX37 hS h36 _ (lv_sub hl [1, 0] rfl) h
  exact hL21 n (0 : Int32) S17 _ _ hM hX21 hS h20 _ (lv_sub hl [1, 0] rfl) h
def f_X8_holdsNothing (S0 : zM) (a0 : Nat) : Option (Int32) :=
  if (zr S0 a0 1) = 0 then if (zi S0 a0 4) = 0 then some (1 : Int32) else some (0 : Int32) else some (0 : Int32)
set_option maxHeartbeats 4000000 in
set_option maxRecDepth 100000 in
theorem c_X8_holdsNothing (l : Launch) (D : va_G) (cy : Nat → ClassId) (B : Nat) {S0 : zM} {a0 : Nat} {r : Int32} (ha0 : zA S0 a0 8) (h : f_X8_holdsNothing S0 a0 = some r) : Met l yX8_holdsNothing (zws yX8_holdsNothing cX8_holdsNothing 1 ((some .boolean))) { frames := 0, cells := 0, slots := 0, locals := 0 } (zPc D cy B S0 [.ref (B + a0)]) (zQi D cy B S0 r S0) 0 0 (fun q => B < q) := by
  refine Met.ofW (cc := cX8_holdsNothing) (maxL := 1) (ret := ((some .boolean))) (by decide) rfl ?_
  intro p e s m args below meth c s₁ Bd hml hv
  obtain ⟨rfl, hC, hM⟩ := hv
  obtain ⟨hx, hb, hr, hg, hown, hlk⟩ := z_open Bd
  have hK := hC.1
  have hS : va_S (fun q => B < q) s.heap s.heap [] := va_S.rf
  have hX0 : zX S0 S0 := zX.rf
  refine z_entry (vs := [.ref (B + a0)]) (Nat.le_of_ble_eq_true rfl) (fun ls hl => ?_)
  have hl : lv_has ls 1 [(0, .ref (B + a0))] := hl
  unfold f_X8_holdsNothing at h
  refine lv_aload_n hx hb dX8_holdsNothing_0 rfl (lv_at hl 0 rfl) ?_
  refine z_getR hx hb hg zin_8 hown hK hM ha0 1 rfl (by decide) (hg _ zw_253) (fun _ h9 => h9) dX8_holdsNothing_1 (fun h1 => ?_)
  refine z_ifnonnull (tgt := 18) hx hb dX8_holdsNothing_4 (by decide) (fun hc2 => ?_) (fun hc2 => ?_)
  · have h3 := h1.nn hc2
    have h := zf h hc2
    refine lv_iconst (v := (0 : Int32)) hx hb dX8_holdsNothing_18 (by decide +kernel) ?_
    exact z_zret (by decide +kernel) hx hb hr hlk hM hX0 hS ⟨zsm h, rfl⟩ dX8_holdsNothing_19
  · have h := zt h hc2
    refine lv_aload_n hx hb dX8_holdsNothing_7 rfl (lv_at hl 0 rfl) ?_
    refine z_getI hx hb hg zin_8 hown hK hM ha0 4 rfl (by decide) (hg _ zw_260) (fun _ h9 => h9) dX8_holdsNothing_8 ?_
    refine lv_if_ne (tgt := 18) hx hb dX8_holdsNothing_11 (by decide) (fun hc4 => ?_) (fun hc4 => ?_)
    · have h := zf h hc4
      refine lv_iconst (v := (0 : Int32)) hx hb dX8_holdsNothing_18 (by decide +kernel) ?_
      exact z_zret (by decide +kernel) hx hb hr hlk hM hX0 hS ⟨zsm h, rfl⟩ dX8_holdsNothing_19
    · have h := zt h hc4
      refine lv_iconst (v := (1 : Int32)) hx hb dX8_holdsNothing_14 (by decide +kernel) ?_
      refine lv_goto (tgt := 19) hx hb dX8_holdsNothing_15 (by decide) ?_
      exact z_zret (by decide +kernel) hx hb hr hlk hM hX0 hS ⟨zsm h, rfl⟩ dX8_holdsNothing_19
def f_X8_refusalAsRow (S0 : zM) (a0 : Nat) : Option (Int32) :=
  if (zi S0 a0 4) = 0 then if (zr S0 a0 1) = 0 then some (-11 : Int32) else some (-12 : Int32) else some (0 : Int32)
set_option maxHeartbeats 4000000 in
set_option maxRecDepth 100000 in
theorem c_X8_refusalAsRow (l : Launch) (D : va_G) (cy : Nat → ClassId) (B : Nat) {S0 : zM} {a0 : Nat} {r : Int32} (ha0 : zA S0 a0 8) (h : f_X8_refusalAsRow S0 a0 = some r) : Met l yX8_refusalAsRow (zws yX8_refusalAsRow cX8_refusalAsRow 1 ((some .int))) { frames := 0, cells := 0, slots := 0, locals := 0 } (zPc D cy B S0 [.ref (B + a0)]) (zQi D cy B S0 r S0) 0 0 (fun q => B < q) := by
  refine Met.ofW (cc := cX8_refusalAsRow) (maxL := 1) (ret := ((some .int))) (by decide) rfl ?_
  intro p e s m args below meth c s₁ Bd hml hv
  obtain ⟨rfl, hC, hM⟩ := hv
  obtain ⟨hx, hb, hr, hg, hown, hlk⟩ := z_open Bd
  have hK := hC.1
  have hS : va_S (fun q => B < q) s.heap s.heap [] := va_S.rf
  have hX0 : zX S0 S0 := zX.rf
  refine z_entry (vs := [.ref (B + a0)]) (Nat.le_of_ble_eq_true rfl) (fun ls hl => ?_)
  have hl : lv_has ls 1 [(0, .ref (B + a0))] := hl
  unfold f_X8_refusalAsRow at h
  refine lv_aload_n hx hb dX8_refusalAsRow_0 rfl (lv_at hl 0 rfl) ?_
  refine z_getI hx hb hg zin_8 hown hK hM ha0 4 rfl (by decide) (hg _ zw_260) (fun _ h9 => h9) dX8_refusalAsRow_1 ?_
  refine lv_if_eq (tgt := 9) hx hb dX8_refusalAsRow_4 (by decide) (fun hc1 => ?_) (fun hc1 => ?_)
  · have h := zt h hc1
    refine lv_aload_n hx hb dX8_refusalAsRow_9 rfl (lv_at hl 0 rfl) ?_
    refine z_getR hx hb hg zin_8 hown hK hM ha0 1 rfl (by decide) (hg _ zw_253) (fun _ h9 => h9) dX8_refusalAsRow_10 (fun h2 => ?_)
    refine z_ifnonnull (tgt := 21) hx hb dX8_refusalAsRow_13 (by decide) (fun hc3 => ?_) (fun hc3 => ?_)
    · have h4 := h2.nn hc3
      have h := zf h hc3
      refine lv_bipush (v := (-12 : Int32)) hx hb dX8_refusalAsRow_21 (by decide +kernel) ?_
      exact z_iret hx hb hr hlk hM hX0 hS ⟨zsm h, rfl⟩ dX8_refusalAsRow_23
    · have h := zt h hc3
      refine lv_bipush (v := (-11 : Int32)) hx hb dX8_refusalAsRow_16 (by decide +kernel) ?_
      refine lv_goto (tgt := 23) hx hb dX8_refusalAsRow_18 (by decide) ?_
      exact z_iret hx hb hr hlk hM hX0 hS ⟨zsm h, rfl⟩ dX8_refusalAsRow_23
  · have h := zf h hc1
    refine lv_iconst (v := (0 : Int32)) hx hb dX8_refusalAsRow_7 (by decide +kernel) ?_
    exact z_iret hx hb hr hlk hM hX0 hS ⟨zsm h, rfl⟩ dX8_refusalAsRow_8
def f_X8_refusalAsText (S0 : zM) (a0 : Nat) : Option (Int32) :=
  zLet (zB1 (f_X8_refusalAsRow S0 a0) (fun r5 => some r5)) (fun K3 => if (zi S0 a0 4) = 0 then K3 else if (zi S0 a0 2) = 0 then K3 else some (-12 : Int32))
set_option maxHeartbeats 4000000 in
set_option maxRecDepth 100000 in
theorem c_X8_refusalAsText (l : Launch) (D : va_G) (cy : Nat → ClassId) (B : Nat) {S0 : zM} {a0 : Nat} {r : Int32} (ha0 : zA S0 a0 8) (h : f_X8_refusalAsText S0 a0 = some r) : Met l yX8_refusalAsText (zws yX8_refusalAsText cX8_refusalAsText 1 ((some .int))) { frames := 1, cells := 0, slots := 0, locals := 20 } (zPc D cy B S0 [.ref (B + a0)]) (zQi D cy B S0 r S0) 0 0 (fun q => B < q) := by
  refine Met.ofW (cc := cX8_refusalAsText) (maxL := 1) (ret := ((some .int))) (by decide) rfl ?_
  intro p e s m args below meth c s₁ Bd hml hv
  obtain ⟨rfl, hC, hM⟩ := hv
  obtain ⟨hx, hb, hr, hg, hown, hlk⟩ := z_open Bd
  have hK := hC.1
  have hS : va_S (fun q => B < q) s.heap s.heap [] := va_S.rf
  have hX0 : zX S0 S0 := zX.rf
  refine z_entry (vs := [.ref (B + a0)]) (Nat.le_of_ble_eq_true rfl) (fun ls hl => ?_)
  have hl : lv_has ls 1 [(0, .ref (B + a0))] := hl
  unfold f_X8_refusalAsText at h
  refine lv_aload_n hx hb dX8_refusalAsText_0 rfl (lv_at hl 0 rfl) ?_
  refine z_getI hx hb hg zin_8 hown hK hM ha0 4 rfl (by decide) (hg _ zw_260) (fun _ h9 => h9) dX8_refusalAsText_1 ?_
  obtain ⟨K3, eK3, h⟩ := zlg h
  have hK3 : ∀ (H : Heap) (locs : List Loc), zMR D cy B S0 H → zX S0 S0 → va_S (fun q => B < q) s.heap H locs → zA S0 a0 8 → ∀ ls : Array Slot, lv_has ls 1 [(0, .ref (B + a0))] → K3 = some r → W p l e (headSpec (zws yX8_refusalAsText cX8_refusalAsText 1 ((some .int))) { frames := 1, cells := 0, slots := 0, locals := 20 }).room s m (([.ref (B + a0)] : List Value).toArray) below meth c H locs 0 0 (MQ below (zQi D cy B S0 r S0) (([.ref (B + a0)] : List Value).toArray) s 0 0 (fun q => B < q)) (F0 m 19 ls []) := by
    intro H locs hM hX2 hS h1 ls hl h
    rw [eK3] at h
    refine lv_aload_n hx hb dX8_refusalAsText_19 rfl (lv_at hl 0 rfl) ?_
    obtain ⟨r5, hr4, h⟩ := zb1 h
    refine z_runi (va_runV (As := []) (rest := []) ⟨hx, hb, hml, hown, hg⟩ (c_X8_refusalAsRow l D cy B h1 hr4) (z_cwV hg zw_459 zw_460 zw_461 zw_12 zw_462 zh_X8_refusalAsRow ⟨(Nat.le_of_ble_eq_true rfl), (Nat.le_of_ble_eq_true rfl)⟩) (zPV hC hM h1 (by decide) rfl) rfl rfl hl.1 rfl (lv_room (Nat.le_of_ble_eq_true rfl)) dX8_refusalAsText_20 ⟨(Nat.le_of_ble_eq_true rfl), (Nat.le_of_ble_eq_true rfl)⟩) hS (fun H locs hM hX6 hS => ?_)
    exact z_iret hx hb hr hlk hM hX2 hS ⟨zsm h, rfl⟩ dX8_refusalAsText_23
  refine lv_if_eq (tgt := 19) hx hb dX8_refusalAsText_4 (by decide) (fun hc8 => ?_) (fun hc8 => ?_)
  · have h := zt h hc8
    exact hK3 _ _ hM hX0 hS ha0 _ (lv_sub hl [0] rfl) h
  · have h := zf h hc8
    refine lv_aload_n hx hb dX8_refusalAsText_7 rfl (lv_at hl 0 rfl) ?_
    refine z_getI hx hb hg zin_8 hown hK hM ha0 2 rfl (by decide) (hg _ zw_255) (fun _ h9 => h9) dX8_refusalAsText_8 ?_
    refine lv_if_eq (tgt := 19) hx hb dX8_refusalAsText_11 (by decide) (fun hc9 => ?_) (fun hc9 => ?_)
    · have h := zt h hc9
      exact hK3 _ _ hM hX0 hS ha0 _ (lv_sub hl [0] rfl) h
    · have h := zf h hc9
      refine lv_bipush (v := (-12 : Int32)) hx hb dX8_refusalAsText_14 (by decide +kernel) ?_
      refine lv_goto (tgt := 23) hx hb dX8_refusalAsText_16 (by decide) ?_
      exact z_iret hx hb hr hlk hM hX0 hS ⟨zsm h, rfl⟩ dX8_refusalAsText_23
def f_X8_refusalAsJudge (S0 : zM) (a0 : Nat) : Int32 :=
  if (zi S0 a0 4) = 0 then (-11 : Int32) else (-12 : Int32)
set_option maxHeartbeats 4000000 in
set_option maxRecDepth 100000 in
theorem c_X8_refusalAsJudge (l : Launch) (D : va_G) (cy : Nat → ClassId) (B : Nat) {S0 : zM} {a0 : Nat} {r : Int32} (ha0 : zA S0 a0 8) (h : f_X8_refusalAsJudge S0 a0 = r) : Met l yX8_refusalAsJudge (zws yX8_refusalAsJudge cX8_refusalAsJudge 1 ((some .int))) { frames := 0, cells := 0, slots := 0, locals := 0 } (zPc D cy B S0 [.ref (B + a0)]) (zQi D cy B S0 r S0) 0 0 (fun q => B < q) := by
  refine Met.ofW (cc := cX8_refusalAsJudge) (maxL := 1) (ret := ((some .int))) (by decide) rfl ?_
  intro p e s m args below meth c s₁ Bd hml hv
  obtain ⟨rfl, hC, hM⟩ := hv
  obtain ⟨hx, hb, hr, hg, hown, hlk⟩ := z_open Bd
  have hK := hC.1
  have hS : va_S (fun q => B < q) s.heap s.heap [] := va_S.rf
  have hX0 : zX S0 S0 := zX.rf
  refine z_entry (vs := [.ref (B + a0)]) (Nat.le_of_ble_eq_true rfl) (fun ls hl => ?_)
  have hl : lv_has ls 1 [(0, .ref (B + a0))] := hl
  unfold f_X8_refusalAsJudge at h
  refine lv_aload_n hx hb dX8_refusalAsJudge_0 rfl (lv_at hl 0 rfl) ?_
  refine z_getI hx hb hg zin_8 hown hK hM ha0 4 rfl (by decide) (hg _ zw_260) (fun _ h9 => h9) dX8_refusalAsJudge_1 ?_
  refine lv_if_eq (tgt := 12) hx hb dX8_refusalAsJudge_4 (by decide) (fun hc1 => ?_) (fun hc1 => ?_)
  · have h := zt h hc1
    refine lv_bipush (v := (-11 : Int32)) hx hb dX8_refusalAsJudge_12 (by decide +kernel) ?_
    exact z_iret hx hb hr hlk hM hX0 hS ⟨h, rfl⟩ dX8_refusalAsJudge_14
  · have h := zf h hc1
    refine lv_bipush (v := (-12 : Int32)) hx hb dX8_refusalAsJudge_7 (by decide +kernel) ?_
    refine lv_goto (tgt := 14) hx hb dX8_refusalAsJudge_9 (by decide) ?_
    exact z_iret hx hb hr hlk hM hX0 hS ⟨h, rfl⟩ dX8_refusalAsJudge_14
def f_X8_hasPlaces (S0 : zM) (a0 : Nat) (v1 : Int32) (v2 : Int32) : Int32 :=
  if v2 < 0 then (0 : Int32) else if v1 < 0 then (0 : Int32) else if (zi S0 a0 3) < v1 then (0 : Int32) else if ((zi S0 a0 3) - v1) < v2 then (0 : Int32) else (1 : Int32)
set_option maxHeartbeats 4000000 in
set_option maxRecDepth 100000 in
theorem c_X8_hasPlaces (l : Launch) (D : va_G) (cy : Nat → ClassId) (B : Nat) {S0 : zM} {a0 : Nat} {v1 : Int32} {v2 : Int32} {r : Int32} (ha0 : zA S0 a0 8) (h : f_X8_hasPlaces S0 a0 v1 v2 = r) : Met l yX8_hasPlaces (zws yX8_hasPlaces cX8_hasPlaces 3 ((some .boolean))) { frames := 0, cells := 0, slots := 0, locals := 0 } (zPc D cy B S0 [.ref (B + a0), .int v1, .int v2]) (zQi D cy B S0 r S0) 0 0 (fun q => B < q) := by
  refine Met.ofW (cc := cX8_hasPlaces) (maxL := 3) (ret := ((some .boolean))) (by decide) rfl ?_
  intro p e s m args below meth c s₁ Bd hml hv
  obtain ⟨rfl, hC, hM⟩ := hv
  obtain ⟨hx, hb, hr, hg, hown, hlk⟩ := z_open Bd
  have hK := hC.1
  have hS : va_S (fun q => B < q) s.heap s.heap [] := va_S.rf
  have hX0 : zX S0 S0 := zX.rf
  refine z_entry (vs := [.ref (B + a0), .int v1, .int v2]) (Nat.le_of_ble_eq_true rfl) (fun ls hl => ?_)
  have hl : lv_has ls 3 [(0, .ref (B + a0)), (1, .int v1), (2, .int v2)] := hl
  unfold f_X8_hasPlaces at h
  refine lv_iload_n hx hb dX8_hasPlaces_0 rfl (lv_at hl 2 rfl) ?_
  refine lv_if_lt (tgt := 30) hx hb dX8_hasPlaces_1 (by decide) (fun hc1 => ?_) (fun hc1 => ?_)
  · have h := zt h hc1
    refine lv_iconst (v := (0 : Int32)) hx hb dX8_hasPlaces_30 (by decide +kernel) ?_
    exact z_zret (by decide +kernel) hx hb hr hlk hM hX0 hS ⟨h, rfl⟩ dX8_hasPlaces_31
  · have h := zf h hc1
    refine lv_iload_n hx hb dX8_hasPlaces_4 rfl (lv_at hl 1 rfl) ?_
    refine lv_if_lt (tgt := 30) hx hb dX8_hasPlaces_5 (by decide) (fun hc2 => ?_) (fun hc2 => ?_)
    · have h := zt h hc2
      refine lv_iconst (v := (0 : Int32)) hx hb dX8_hasPlaces_30 (by decide +kernel) ?_
      exact z_zret (by decide +kernel) hx hb hr hlk hM hX0 hS ⟨h, rfl⟩ dX8_hasPlaces_31
    · have h := zf h hc2
      refine lv_iload_n hx hb dX8_hasPlaces_8 rfl (lv_at hl 1 rfl) ?_
      refine lv_aload_n hx hb dX8_hasPlaces_9 rfl (lv_at hl 0 rfl) ?_
      refine z_getI hx hb hg zin_8 hown hK hM ha0 3 rfl (by decide) (hg _ zw_257) (fun _ h9 => h9) dX8_hasPlaces_10 ?_
      refine lv_icmp_gt (tgt := 30) hx hb dX8_hasPlaces_13 (by decide) (fun hc3 => ?_) (fun hc3 => ?_)
      · have h := zt h hc3
        refine lv_iconst (v := (0 : Int32)) hx hb dX8_hasPlaces_30 (by decide +kernel) ?_
        exact z_zret (by decide +kernel) hx hb hr hlk hM hX0 hS ⟨h, rfl⟩ dX8_hasPlaces_31
      · have h := zf h hc3
        refine lv_iload_n hx hb dX8_hasPlaces_16 rfl (lv_at hl 2 rfl) ?_
        refine lv_aload_n hx hb dX8_hasPlaces_17 rfl (lv_at hl 0 rfl) ?_
        refine z_getI hx hb hg zin_8 hown hK hM ha0 3 rfl (by decide) (hg _ zw_257) (fun _ h9 => h9) dX8_hasPlaces_18 ?_
        refine lv_iload_n hx hb dX8_hasPlaces_21 rfl (lv_at hl 1 rfl) ?_
        refine lv_isub hx hb dX8_hasPlaces_22 ?_
        refine lv_icmp_gt (tgt := 30) hx hb dX8_hasPlaces_23 (by decide) (fun hc4 => ?_) (fun hc4 => ?_)
        · have h := zt h hc4
          refine lv_iconst (v := (0 : Int32)) hx hb dX8_hasPlaces_30 (by decide +kernel) ?_
          exact z_zret (by decide +kernel) hx hb hr hlk hM hX0 hS ⟨h, rfl⟩ dX8_hasPlaces_31
        · have h := zf h hc4
          refine lv_iconst (v := (1 : Int32)) hx hb dX8_hasPlaces_26 (by decide +kernel) ?_
          refine lv_goto (tgt := 31) hx hb dX8_hasPlaces_27 (by decide) ?_
          exact z_zret (by decide +kernel) hx hb hr hlk hM hX0 hS ⟨h, rfl⟩ dX8_hasPlaces_31
def f_X8_holdsMarks_L17b (S0 : zM) (a0 : Nat) (K7 : Int32 → Option (Int32)) (rec17 : Int32 → Int32 → Option (Int32)) (x10 : Int32) (x11 : Int32) : Option (Int32) :=
  if (zi S0 a0 3) ≤ x11 then K7 x10 else if x10 = 0 then K7 x10 else zChk (¬ (zr S0 a0 0) = 0) (zChk (¬ (x11 < 0 ∨ zln S0 (zr S0 a0 0) ≤ (x11).toNatClampNeg)) (zLet (rec17 (1 : Int32) (x11 + (1 : Int32))) (fun K20 => if (zi S0 (zr S0 a0 0) (Int32.toNatClampNeg x11)) = (-128 : Int32) then K20 else zChk (¬ (x11 < 0 ∨ zln S0 (zr S0 a0 0) ≤ (x11).toNatClampNeg)) (zLet (f_X11_within (zi S0 (zr S0 a0 0) (Int32.toNatClampNeg x11)) (21 : Int32)) (fun r25 => if r25 = 0 then rec17 (0 : Int32) (x11 + (1 : Int32)) else K20)))))
def f_X8_holdsMarks_L17 (S0 : zM) (a0 : Nat) (K7 : Int32 → Option (Int32)) : Nat → Int32 → Int32 → Option (Int32)
  | 0 => fun _ _ => none
  | k + 1 => fun x10 x11 => f_X8_holdsMarks_L17b S0 a0 K7 (f_X8_holdsMarks_L17 S0 a0 K7 k) x10 x11
def f_X8_holdsMarks (n : Nat) (S0 : zM) (a0 : Nat) : Option (Int32) :=
  zLet (fun (x2 : Int32) => zLet (fun (x5 : Int32) => zChk (x5 = 0 ∨ x5 = 1) (some x5)) (fun K7 => f_X8_holdsMarks_L17 S0 a0 K7 n x2 (0 : Int32))) (fun K4 => if (7 : Int32) < (zi S0 a0 3) then K4 (0 : Int32) else K4 (1 : Int32))
set_option maxHeartbeats 4000000 in
set_option maxRecDepth 100000 in
theorem c_X8_holdsMarks (l : Launch) (D : va_G) (cy : Nat → ClassId) (B : Nat) {n : Nat} {S0 : zM} {a0 : Nat} {r : Int32} (ha0 : zA S0 a0 8) (h : f_X8_holdsMarks n S0 a0 = some r) : Met l yX8_holdsMarks (zws yX8_holdsMarks cX8_holdsMarks 3 ((some .boolean))) { frames := 1, cells := 0, slots := 0, locals := 21 } (zPc D cy B S0 [.ref (B + a0)]) (zQi D cy B S0 r S0) 0 0 (fun q => B < q) := by
  refine Met.ofW (cc := cX8_holdsMarks) (maxL := 3) (ret := ((some .boolean))) (by decide) rfl ?_
  intro p e s m args below meth c s₁ Bd hml hv
  obtain ⟨rfl, hC, hM⟩ := hv
  obtain ⟨hx, hb, hr, hg, hown, hlk⟩ := z_open Bd
  have hK := hC.1
  have hS : va_S (fun q => B < q) s.heap s.heap [] := va_S.rf
  have hX0 : zX S0 S0 := zX.rf
  refine z_entry (vs := [.ref (B + a0)]) (Nat.le_of_ble_eq_true rfl) (fun ls hl => ?_)
  have hl : lv_has ls 3 [(0, .ref (B + a0))] := hl
  unfold f_X8_holdsMarks at h
  refine lv_aload_n hx hb dX8_holdsMarks_0 rfl (lv_at hl 0 rfl) ?_
  refine z_getI hx hb hg zin_8 hown hK hM ha0 3 rfl (by decide) (hg _ zw_257) (fun _ h9 => h9) dX8_holdsMarks_1 ?_
  refine lv_bipush (v := (7 : Int32)) hx hb dX8_holdsMarks_4 (by decide +kernel) ?_
  obtain ⟨K4, eK4, h⟩ := zlg h
  have hK4 : ∀ (x2 : Int32) (H : Heap) (locs : List Loc), zMR D cy B S0 H → zX S0 S0 → va_S (fun q => B < q) s.heap H locs → zA S0 a0 8 → ∀ ls : Array Slot, lv_has ls 3 [(0, .ref (B + a0))] → K4 x2 = some r → W p l e (headSpec (zws yX8_holdsMarks cX8_holdsMarks 3 ((some .boolean))) { frames := 1, cells := 0, slots := 0, locals := 21 }).room s m (([.ref (B + a0)] : List Value).toArray) below meth c H locs 0 0 (MQ below (zQi D cy B S0 r S0) (([.ref (B + a0)] : List Value).toArray) s 0 0 (fun q => B < q)) (F0 m 14 ls [.int x2]) := by
    intro x2 H locs hM hX3 hS h1 ls hl h
    rw [eK4] at h
    refine lv_istore_n (i := 1) (lv' := [(1, .int x2), (0, .ref (B + a0))]) hx hb dX8_holdsMarks_14 rfl hl (by decide) rfl (fun ls hl => ?_)
    refine lv_iconst (v := (0 : Int32)) hx hb dX8_holdsMarks_15 (by decide +kernel) ?_
    refine lv_istore_n (i := 2) (lv' := [(2, .int (0 : Int32)), (1, .int x2), (0, .ref (B + a0))]) hx hb dX8_holdsMarks_16 rfl hl (by decide) rfl (fun ls hl => ?_)
    obtain ⟨K7, eK7, h⟩ := zlg h
    have hK7 : ∀ (x5 : Int32) (H : Heap) (locs : List Loc), zMR D cy B S0 H → zX S0 S0 → va_S (fun q => B < q) s.heap H locs → ∀ ls : Array Slot, lv_has ls 3 [(1, .int x5)] → K7 x5 = some r → W p l e (headSpec (zws yX8_holdsMarks cX8_holdsMarks 3 ((some .boolean))) { frames := 1, cells := 0, slots := 0, locals := 21 }).room s m (([.ref (B + a0)] : List Value).toArray) below meth c H locs 0 0 (MQ below (zQi D cy B S0 r S0) (([.ref (B + a0)] : List Value).toArray) s 0 0 (fun q => B < q)) (F0 m 66 ls []) := by
      intro x5 H locs hM hX6 hS ls hl h
      rw [eK7] at h
      refine lv_iload_n hx hb dX8_holdsMarks_66 rfl (lv_at hl 0 rfl) ?_
      obtain ⟨hb8, h⟩ := zk h
      exact z_zret (z_bit hb8).1 hx hb hr hlk hM hX6 hS ⟨zsm h, rfl⟩ dX8_holdsMarks_67
    have hL17 : ∀ (k : Nat) (x10 : Int32) (x11 : Int32) (H : Heap) (locs : List Loc), zMR D cy B S0 H → zX S0 S0 → va_S (fun q => B < q) s.heap H locs → zA S0 a0 8 → ∀ ls : Array Slot, lv_has ls 3 [(0, .ref (B + a0)), (1, .int x10), (2, .int x11)] → f_X8_holdsMarks_L17 S0 a0 K7 k x10 x11 = some r → W p l e (headSpec (zws yX8_holdsMarks cX8_holdsMarks 3 ((some .boolean))) { frames := 1, cells := 0, slots := 0, locals := 21 }).room s m (([.ref (B + a0)] : List Value).toArray) below meth c H locs 0 0 (MQ below (zQi D cy B S0 r S0) (([.ref (B + a0)] : List Value).toArray) s 0 0 (fun q => B < q)) (F0 m 17 ls []) := by
      intro k
      induction k with
      | zero =>
        intro x10 x11 H locs hM hX12 hS h9 ls hl h
        exact znone h
      | succ k ih17 =>
        intro x10 x11 H locs hM hX12 hS h9 ls hl h
        replace h : f_X8_holdsMarks_L17b S0 a0 K7 (f_X8_holdsMarks_L17 S0 a0 K7 k) x10 x11 = some r := h
        generalize f_X8_holdsMarks_L17 S0 a0 K7 k = rec17 at ih17 h
        unfold f_X8_holdsMarks_L17b at h
        refine lv_iload_n hx hb dX8_holdsMarks_17 rfl (lv_at hl 2 rfl) ?_
        refine lv_aload_n hx hb dX8_holdsMarks_18 rfl (lv_at hl 0 rfl) ?_
        refine z_getI hx hb hg zin_8 hown hK hM h9 3 rfl (by decide) (hg _ zw_257) (fun _ h9 => h9) dX8_holdsMarks_19 ?_
        refine lv_icmp_ge (tgt := 66) hx hb dX8_holdsMarks_22 (by decide) (fun hc13 => ?_) (fun hc13 => ?_)
        · have h := zt h hc13
          exact hK7 x10 _ _ hM hX12 hS _ (lv_sub hl [1] rfl) h
        · have h := zf h hc13
          refine lv_iload_n hx hb dX8_holdsMarks_25 rfl (lv_at hl 1 rfl) ?_
          refine lv_if_eq (tgt := 66) hx hb dX8_holdsMarks_26 (by decide) (fun hc14 => ?_) (fun hc14 => ?_)
          · have h := zt h hc14
            exact hK7 x10 _ _ hM hX12 hS _ (lv_sub hl [1] rfl) h
          · have h := zf h hc14
            refine lv_aload_n hx hb dX8_holdsMarks_29 rfl (lv_at hl 0 rfl) ?_
            obtain ⟨hq16, h⟩ := zk h
            refine z_getN hx hb hg zin_8 hown hK hM h9 0 rfl (by decide) (hg _ zw_250) (fun _ h9 => h9) hq16 dX8_holdsMarks_30 (fun h15 => ?_)
            refine lv_iload_n hx hb dX8_holdsMarks_33 rfl (lv_at hl 2 rfl) ?_
            obtain ⟨hq17, h⟩ := zk h
            refine z_iald hx hb hK hM h15 hq17 dX8_holdsMarks_34 ?_
            refine lv_bipush (v := (-128 : Int32)) hx hb dX8_holdsMarks_35 (by decide +kernel) ?_
            obtain ⟨K20, eK20, h⟩ := zlg h
            have hK20 : ∀ (H : Heap) (locs : List Loc), zMR D cy B S0 H → zX S0 S0 → va_S (fun q => B < q) s.heap H locs → zA S0 a0 8 → ∀ ls : Array Slot, lv_has ls 3 [(0, .ref (B + a0)), (2, .int x11)] → K20 = some r → W p l e (headSpec (zws yX8_holdsMarks cX8_holdsMarks 3 ((some .boolean))) { frames := 1, cells := 0, slots := 0, locals := 21 }).room s m (([.ref (B + a0)] : List Value).toArray) below meth c H locs 0 0 (MQ below (zQi D cy B S0 r S0) (([.ref (B + a0)] : List Value).toArray) s 0 0 (fun q => B < q)) (F0 m 54 ls []) := by
              intro H locs hM hX19 hS h18 ls hl h
              rw [eK20] at h
              refine lv_iconst (v := (1 : Int32)) hx hb dX8_holdsMarks_54 (by decide +kernel) ?_
              refine lv_goto (tgt := 59) hx hb dX8_holdsMarks_55 (by decide) ?_
              refine lv_istore_n (i := 1) (lv' := [(1, .int (1 : Int32)), (0, .ref (B + a0)), (2, .int x11)]) hx hb dX8_holdsMarks_59 rfl hl (by decide) rfl (fun ls hl => ?_)
              refine lv_iinc (v := (x11 + (1 : Int32))) (lv' := [(2, .int (x11 + (1 : Int32))), (1, .int (1 : Int32)), (0, .ref (B + a0))]) hx hb dX8_holdsMarks_60 hl (k := 2) rfl rfl (by decide) rfl (fun ls hl => ?_)
              refine lv_goto (tgt := 17) hx hb dX8_holdsMarks_63 (by decide) ?_
              exact ih17 (1 : Int32) (x11 + (1 : Int32)) _ _ hM hX19 hS h18 _ (lv_sub hl [2, 1, 0] rfl) h
            refine lv_icmp_eq (tgt := 54) hx hb dX8_holdsMarks_37 (by decide) (fun hc21 => ?_) (fun hc21 => ?_)
            · have h := zt h hc21
              exact hK20 _ _ hM hX12 hS h9 _ (lv_sub hl [0, 2] rfl) h
            · have h := zf h hc21
              refine lv_aload_n hx hb dX8_holdsMarks_40 rfl (lv_at hl 0 rfl) ?_
              refine z_getN hx hb hg zin_8 hown hK hM h9 0 rfl (by decide) (hg _ zw_250) (fun _ h9 => h9) h15.ne dX8_holdsMarks_41 (fun h22 => ?_)
              refine lv_iload_n hx hb dX8_holdsMarks_44 rfl (lv_at hl 2 rfl) ?_
              obtain ⟨hq23, h⟩ := zk h
              refine z_iald hx hb hK hM h22 hq23 dX8_holdsMarks_45 ?_
              refine lv_bipush (v := (21 : Int32)) hx hb dX8_holdsMarks_46 (by decide +kernel) ?_
              obtain ⟨r25, hr24, h⟩ := zlg h
              have hr24 := hr24.symm
              refine z_runi (va_runSN (As := [.int (zi S0 (zr S0 a0 0) (Int32.toNatClampNeg x11)), .int (21 : Int32)]) (rest := []) ⟨hx, hb, hml, hown, hg⟩ (c_X11_within l D cy B hr24) ⟨z_cnB hg hC (List.mem_of_getElem? (i := 12) rfl) zw_2 zw_292 zh_X11_within.2 ⟨(Nat.le_of_ble_eq_true rfl), (Nat.le_of_ble_eq_true rfl)⟩, hg _ zw_291, trivial⟩ (zPS hC hM) rfl rfl hl.1 rfl (lv_room (Nat.le_of_ble_eq_true rfl)) dX8_holdsMarks_48 ⟨(Nat.le_of_ble_eq_true rfl), (Nat.le_of_ble_eq_true rfl)⟩) hS (fun H locs hM hX26 hS => ?_)
              refine lv_if_eq (tgt := 58) hx hb dX8_holdsMarks_51 (by decide) (fun hc28 => ?_) (fun hc28 => ?_)
              · have h := zt h hc28
                refine lv_iconst (v := (0 : Int32)) hx hb dX8_holdsMarks_58 (by decide +kernel) ?_
                refine lv_istore_n (i := 1) (lv' := [(1, .int (0 : Int32)), (0, .ref (B + a0)), (2, .int x11)]) hx hb dX8_holdsMarks_59 rfl hl (by decide) rfl (fun ls hl => ?_)
                refine lv_iinc (v := (x11 + (1 : Int32))) (lv' := [(2, .int (x11 + (1 : Int32))), (1, .int (0 : Int32)), (0, .ref (B + a0))]) hx hb dX8_holdsMarks_60 hl (k := 2) rfl rfl (by decide) rfl (fun ls hl => ?_)
                refine lv_goto (tgt := 17) hx hb dX8_holdsMarks_63 (by decide) ?_
                exact ih17 (0 : Int32) (x11 + (1 : Int32)) _ _ hM hX12 hS h9 _ (lv_sub hl [2, 1, 0] rfl) h
              · have h := zf h hc28
                exact hK20 _ _ hM hX12 hS h9 _ (lv_sub hl [0, 2] rfl) h
    exact hL17 n x2 (0 : Int32) _ _ hM hX3 hS h1 _ (lv_sub hl [2, 1, 0] rfl) h
  refine lv_icmp_gt (tgt := 13) hx hb dX8_holdsMarks_6 (by decide) (fun hc29 => ?_) (fun hc29 => ?_)
  · have h := zt h hc29
    refine lv_iconst (v := (0 : Int32)) hx hb dX8_holdsMarks_13 (by decide +kernel) ?_
    exact hK4 (0 : Int32) _ _ hM hX0 hS ha0 _ (lv_sub hl [0] rfl) h
  · have h := zf h hc29
    refine lv_iconst (v := (1 : Int32)) hx hb dX8_holdsMarks_9 (by decide +kernel) ?_
    refine lv_goto (tgt := 14) hx hb dX8_holdsMarks_10 (by decide) ?_
    exact hK4 (1 : Int32) _ _ hM hX0 hS ha0 _ (lv_sub hl [0] rfl) h
def f_X8_lowestBits (S0 : zM) (a0 : Nat) (v1 : Int32) : Int32 :=
  if (zi S0 a0 2) = 0 then (Int8.toInt32 (Int32.toInt8 v1)) else if (zi S0 a0 2) = (1 : Int32) then (Int16.toInt32 (Int32.toInt16 v1)) else v1
set_option maxHeartbeats 4000000 in
set_option maxRecDepth 100000 in
theorem c_X8_lowestBits (l : Launch) (D : va_G) (cy : Nat → ClassId) (B : Nat) {S0 : zM} {a0 : Nat} {v1 : Int32} {r : Int32} (ha0 : zA S0 a0 8) (h : f_X8_lowestBits S0 a0 v1 = r) : Met l yX8_lowestBits (zws yX8_lowestBits cX8_lowestBits 2 ((some .int))) { frames := 0, cells := 0, slots := 0, locals := 0 } (zPc D cy B S0 [.ref (B + a0), .int v1]) (zQi D cy B S0 r S0) 0 0 (fun q => B < q) := by
  refine Met.ofW (cc := cX8_lowestBits) (maxL := 2) (ret := ((some .int))) (by decide) rfl ?_
  intro p e s m args below meth c s₁ Bd hml hv
  obtain ⟨rfl, hC, hM⟩ := hv
  obtain ⟨hx, hb, hr, hg, hown, hlk⟩ := z_open Bd
  have hK := hC.1
  have hS : va_S (fun q => B < q) s.heap s.heap [] := va_S.rf
  have hX0 : zX S0 S0 := zX.rf
  refine z_entry (vs := [.ref (B + a0), .int v1]) (Nat.le_of_ble_eq_true rfl) (fun ls hl => ?_)
  have hl : lv_has ls 2 [(0, .ref (B + a0)), (1, .int v1)] := hl
  unfold f_X8_lowestBits at h
  refine lv_aload_n hx hb dX8_lowestBits_0 rfl (lv_at hl 0 rfl) ?_
  refine z_getI hx hb hg zin_8 hown hK hM ha0 2 rfl (by decide) (hg _ zw_255) (fun _ h9 => h9) dX8_lowestBits_1 ?_
  refine lv_if_ne (tgt := 10) hx hb dX8_lowestBits_4 (by decide) (fun hc1 => ?_) (fun hc1 => ?_)
  · have h := zf h hc1
    refine lv_aload_n hx hb dX8_lowestBits_10 rfl (lv_at hl 0 rfl) ?_
    refine z_getI hx hb hg zin_8 hown hK hM ha0 2 rfl (by decide) (hg _ zw_255) (fun _ h9 => h9) dX8_lowestBits_11 ?_
    refine lv_iconst (v := (1 : Int32)) hx hb dX8_lowestBits_14 (by decide +kernel) ?_
    refine lv_icmp_ne (tgt := 23) hx hb dX8_lowestBits_15 (by decide) (fun hc2 => ?_) (fun hc2 => ?_)
    · have h := zf h hc2
      refine lv_iload_n hx hb dX8_lowestBits_23 rfl (lv_at hl 1 rfl) ?_
      exact z_iret hx hb hr hlk hM hX0 hS ⟨h, rfl⟩ dX8_lowestBits_24
    · have h := zt h hc2
      refine lv_iload_n hx hb dX8_lowestBits_18 rfl (lv_at hl 1 rfl) ?_
      refine lv_i2s hx hb dX8_lowestBits_19 rfl ?_
      refine lv_goto (tgt := 24) hx hb dX8_lowestBits_20 (by decide) ?_
      exact z_iret hx hb hr hlk hM hX0 hS ⟨h, rfl⟩ dX8_lowestBits_24
  · have h := zt h hc1
    refine lv_iload_n hx hb dX8_lowestBits_7 rfl (lv_at hl 1 rfl) ?_
    refine lv_i2b hx hb dX8_lowestBits_8 rfl ?_
    exact z_iret hx hb hr hlk hM hX0 hS ⟨h, rfl⟩ dX8_lowestBits_9
def f_X9_init_L107b (a0 : Nat) (K120 : zM → Option (zM)) (rec107 : Int32 → zM → Option (zM)) (x122 : Int32) (S123 : zM) : Option (zM) :=
  if (40 : Int32) ≤ x122 then K120 S123 else zChk (¬ (zr S123 a0 9) = 0) (zLet (znw S123 1 0) (fun S132 => zLet (f_X1_init S132 (zsz S123)) (fun S140 => zChk (¬ (x122 < 0 ∨ zln S140 (zr S123 a0 9) ≤ (x122).toNatClampNeg)) (zLet (zpR S140 (zr S123 a0 9) (Int32.toNatClampNeg x122) (zsz S123)) (fun S148 => rec107 (x122 + (1 : Int32)) S148)))))
def f_X9_init_L107 (a0 : Nat) (K120 : zM → Option (zM)) : Nat → Int32 → zM → Option (zM)
  | 0 => fun _ _ => none
  | k + 1 => fun x122 S123 => f_X9_init_L107b a0 K120 (f_X9_init_L107 a0 K120 k) x122 S123
def f_X9_init_L86b (a0 : Nat) (K117 : zM → Option (zM)) (rec86 : Int32 → zM → Option (zM)) (x154 : Int32) (S155 : zM) : Option (zM) :=
  if (42 : Int32) ≤ x154 then K117 S155 else zChk (¬ (zr S155 a0 3) = 0) (zChk (¬ (x154 < 0 ∨ zln S155 (zr S155 a0 3) ≤ (x154).toNatClampNeg)) (zLet (zpI S155 (zr S155 a0 3) (Int32.toNatClampNeg x154) (-1 : Int32)) (fun S161 => rec86 (x154 + (1 : Int32)) S161)))
def f_X9_init_L86 (a0 : Nat) (K117 : zM → Option (zM)) : Nat → Int32 → zM → Option (zM)
  | 0 => fun _ _ => none
  | k + 1 => fun x154 S155 => f_X9_init_L86b a0 K117 (f_X9_init_L86 a0 K117 k) x154 S155
def f_X9_init (n : Nat) (S0 : zM) (a0 : Nat) : Option (zM) :=
  zLet (znw S0 20 8) (fun S1 => zLet (zpR S1 a0 0 (zsz S0)) (fun S7 => zLet (znw S7 20 8) (fun S12 => zLet (zpR S12 a0 1 (zsz S7)) (fun S18 => zLet (znw S18 20 6) (fun S23 => zLet (zpR S23 a0 2 (zsz S18)) (fun S29 => zLet (znw S29 20 42) (fun S34 => zLet (zpR S34 a0 3 (zsz S29)) (fun S40 => zLet (znw S40 6 0) (fun S45 => zB1 (f_X6_init n S45 (zsz S40)) (fun S52 => zLet (zpR S52 a0 4 (zsz S40)) (fun S58 => zLet (znw S58 24 12) (fun S63 => zLet (zpR S63 a0 8 (zsz S58)) (fun S69 => zLet (znw S69 23 40) (fun S74 => zLet (zpR S74 a0 9 (zsz S69)) (fun S80 => zLet (znw S80 21 8) (fun S85 => zLet (zpR S85 a0 10 (zsz S80)) (fun S91 => zLet (znw S91 5 0) (fun S96 => zLet (f_X5_init S96 (zsz S91)) (fun S103 => zLet (zpR S103 a0 11 (zsz S91)) (fun S109 => zLet (fun (S115 : zM) => zLet (fun (S118 : zM) => some S118) (fun K120 => f_X9_init_L107 a0 K120 n (0 : Int32) S115)) (fun K117 => f_X9_init_L86 a0 K117 n (0 : Int32) S109)))))))))))))))))))))
set_option maxHeartbeats 4000000 in
set_option maxRecDepth 100000 in
theorem c_X9_init (l : Launch) (D : va_G) (cy : Nat → ClassId) (B : Nat) {n : Nat} {S0 : zM} {a0 : Nat} {S' : zM} (ha0 : zA S0 a0 9) (h : f_X9_init n S0 a0 = some S') : Met l yX9_init (zws yX9_init cX9_init 2 none) { frames := 2, cells := 133, slots := 1225, locals := 42 } (zPc D cy B S0 [.ref (B + a0)]) (zQv D cy B S0 S') 133 1225 (fun q => B < q) := by
  refine Met.ofW (cc := cX9_init) (maxL := 2) (ret := none) (by decide) rfl ?_
  intro p e s m args below meth c s₁ Bd hml hv
  obtain ⟨rfl, hC, hM⟩ := hv
  obtain ⟨hx, hb, hr, hg, hown, hlk⟩ := z_open Bd
  have hK := hC.1
  have hin : meth.name = "<init>" := (name_of_methodNamed Bd.named Bd.method).1
  have hS : va_S (fun q => B < q) s.heap s.heap [] := va_S.rf
  have hX0 : zX S0 S0 := zX.rf
  refine z_entry (vs := [.ref (B + a0)]) (Nat.le_of_ble_eq_true rfl) (fun ls hl => ?_)
  have hl : lv_has ls 2 [(0, .ref (B + a0))] := hl
  unfold f_X9_init at h
  refine lv_aload_n hx hb dX9_init_0 rfl (lv_at hl 0 rfl) ?_
  refine W.objInit hx hb hown (hg _ zw_36) (hg _ zw_29) (hg _ zw_30) rfl (by rw [hml]; exact hl.1) rfl dX9_init_1 (Nat.le_of_ble_eq_true rfl) (Nat.le_of_ble_eq_true rfl) ?_
  refine W.eq (g2 := F0 m 4 ls []) rfl ?_
  refine lv_aload_n hx hb dX9_init_4 rfl (lv_at hl 0 rfl) ?_
  refine lv_bipush (v := (8 : Int32)) hx hb dX9_init_5 (by decide +kernel) ?_
  refine z_newa (atype := .int) hx hb (hg _ zw_66) hK hM hS 20 (by decide) rfl (N := 8) (by decide +kernel) (by decide +kernel) (by decide +kernel) (Nat.le_of_ble_eq_true rfl) (Nat.le_of_ble_eq_true rfl) dX9_init_7 (fun H hM hA hX hS => ?_)
  obtain ⟨S1, e2, h⟩ := zlg h
  rw [← e2] at hM hA hX
  have hX3 := hX
  have h4 := hA
  have h5 := ha0.mo hX3
  have hX6 := hX0.tr hX3
  refine W.widen (k := 1) (n := 8) (Nat.le_refl _) (Nat.le_refl _) ?_
  refine z_putR (r := (zsz S0)) hx hb hg zin_9 tyX9 tyX9_ok nmX9 hown hK hM hS h5 0 rfl (by decide) (hg _ zw_124) (fun _ h9 => h9) (Or.inr ⟨rfl, hin, rfl⟩) (zv_ref h4.1).symm (tyX9_ok 0 (by decide)) (Or.inr ⟨_, rfl⟩) (h4.q) dX9_init_9 (fun H locs hM hS => ?_)
  obtain ⟨S7, e8, h⟩ := zlg h
  rw [← e8] at hM
  have hX9 : zX S1 S7 := by rw [e8]; exact zX_pR
  have h10 := h5.mo hX9
  have hX11 := hX6.tr hX9
  refine lv_aload_n hx hb dX9_init_12 rfl (lv_at hl 0 rfl) ?_
  refine lv_bipush (v := (8 : Int32)) hx hb dX9_init_13 (by decide +kernel) ?_
  refine z_newa (atype := .int) hx hb (hg _ zw_66) hK hM hS 20 (by decide) rfl (N := 8) (by decide +kernel) (by decide +kernel) (by decide +kernel) (Nat.le_of_ble_eq_true rfl) (Nat.le_of_ble_eq_true rfl) dX9_init_15 (fun H hM hA hX hS => ?_)
  obtain ⟨S12, e13, h⟩ := zlg h
  rw [← e13] at hM hA hX
  have hX14 := hX
  have h15 := hA
  have h16 := h10.mo hX14
  have hX17 := hX11.tr hX14
  refine W.widen (k := 2) (n := 16) (Nat.le_refl _) (Nat.le_refl _) ?_
  refine z_putR (r := (zsz S7)) hx hb hg zin_9 tyX9 tyX9_ok nmX9 hown hK hM hS h16 1 rfl (by decide) (hg _ zw_125) (fun _ h9 => h9) (Or.inr ⟨rfl, hin, rfl⟩) (zv_ref h15.1).symm (tyX9_ok 1 (by decide)) (Or.inr ⟨_, rfl⟩) (h15.q) dX9_init_17 (fun H locs hM hS => ?_)
  obtain ⟨S18, e19, h⟩ := zlg h
  rw [← e19] at hM
  have hX20 : zX S12 S18 := by rw [e19]; exact zX_pR
  have h21 := h16.mo hX20
  have hX22 := hX17.tr hX20
  refine lv_aload_n hx hb dX9_init_20 rfl (lv_at hl 0 rfl) ?_
  refine lv_bipush (v := (6 : Int32)) hx hb dX9_init_21 (by decide +kernel) ?_
  refine z_newa (atype := .int) hx hb (hg _ zw_66) hK hM hS 20 (by decide) rfl (N := 6) (by decide +kernel) (by decide +kernel) (by decide +kernel) (Nat.le_of_ble_eq_true rfl) (Nat.le_of_ble_eq_true rfl) dX9_init_23 (fun H hM hA hX hS => ?_)
  obtain ⟨S23, e24, h⟩ := zlg h
  rw [← e24] at hM hA hX
  have hX25 := hX
  have h26 := hA
  have h27 := h21.mo hX25
  have hX28 := hX22.tr hX25
  refine W.widen (k := 3) (n := 22) (Nat.le_refl _) (Nat.le_refl _) ?_
  refine z_putR (r := (zsz S18)) hx hb hg zin_9 tyX9 tyX9_ok nmX9 hown hK hM hS h27 2 rfl (by decide) (hg _ zw_126) (fun _ h9 => h9) (Or.inr ⟨rfl, hin, rfl⟩) (zv_ref h26.1).symm (tyX9_ok 2 (by decide)) (Or.inr ⟨_, rfl⟩) (h26.q) dX9_init_25 (fun H locs hM hS => ?_)
  obtain ⟨S29, e30, h⟩ := zlg h
  rw [← e30] at hM
  have hX31 : zX S23 S29 := by rw [e30]; exact zX_pR
  have h32 := h27.mo hX31
  have hX33 := hX28.tr hX31
  refine lv_aload_n hx hb dX9_init_28 rfl (lv_at hl 0 rfl) ?_
  refine lv_bipush (v := (42 : Int32)) hx hb dX9_init_29 (by decide +kernel) ?_
  refine z_newa (atype := .int) hx hb (hg _ zw_66) hK hM hS 20 (by decide) rfl (N := 42) (by decide +kernel) (by decide +kernel) (by decide +kernel) (Nat.le_of_ble_eq_true rfl) (Nat.le_of_ble_eq_true rfl) dX9_init_31 (fun H hM hA hX hS => ?_)
  obtain ⟨S34, e35, h⟩ := zlg h
  rw [← e35] at hM hA hX
  have hX36 := hX
  have h37 := hA
  have h38 := h32.mo hX36
  have hX39 := hX33.tr hX36
  refine W.widen (k := 4) (n := 64) (Nat.le_refl _) (Nat.le_refl _) ?_
  refine z_putR (r := (zsz S29)) hx hb hg zin_9 tyX9 tyX9_ok nmX9 hown hK hM hS h38 3 rfl (by decide) (hg _ zw_128) (fun _ h9 => h9) (Or.inr ⟨rfl, hin, rfl⟩) (zv_ref h37.1).symm (tyX9_ok 3 (by decide)) (Or.inr ⟨_, rfl⟩) (h37.q) dX9_init_33 (fun H locs hM hS => ?_)
  obtain ⟨S40, e41, h⟩ := zlg h
  rw [← e41] at hM
  have hX42 : zX S34 S40 := by rw [e41]; exact zX_pR
  have h43 := h38.mo hX42
  have hX44 := hX39.tr hX42
  refine lv_aload_n hx hb dX9_init_36 rfl (lv_at hl 0 rfl) ?_
  refine z_new hx hb hg zin_6 tyX6 tyX6_ok hown (hg _ zw_37) (hg _ zw_38) (hg _ zw_4) hK hM hS 6 rfl (by decide) zdf_6 (Nat.le_of_ble_eq_true rfl) (Nat.le_of_ble_eq_true rfl) dX9_init_37 (fun H hM hA hX hS => ?_)
  obtain ⟨S45, e46, h⟩ := zlg h
  rw [← e46] at hM hA hX
  have hX47 := hX
  have h48 := hA
  have h49 := h43.mo hX47
  have hX50 := hX44.tr hX47
  refine W.widen (k := 5) (n := 70) (Nat.le_refl _) (Nat.le_refl _) ?_
  refine lv_dup hx hb dX9_init_40 rfl ?_
  obtain ⟨S52, hr51, h⟩ := zb1 h
  refine z_runv (va_runI (As := []) (rest := [.ref (B + (zsz S40)), .ref (B + a0)]) ⟨hx, hb, hml, hown, hg⟩ (c_X6_init l D cy B h48 hr51) (z_cwI hg zw_39 zw_40 zw_4 zw_41 rfl zh_X6_init.2 ⟨(Nat.le_of_ble_eq_true rfl), (Nat.le_of_ble_eq_true rfl)⟩) (zPS hC hM) rfl rfl hl.1 rfl (lv_room (Nat.le_of_ble_eq_true rfl)) dX9_init_41 ⟨(Nat.le_of_ble_eq_true rfl), (Nat.le_of_ble_eq_true rfl)⟩) hS (fun H locs hM hX53 hS => ?_)
  refine W.widen (k := 8) (n := 316) (Nat.le_refl _) (Nat.le_refl _) ?_
  have h55 := h49.mo hX53
  have h56 := h48.mo hX53
  have hX57 := hX50.tr hX53
  refine z_putR (r := (zsz S40)) hx hb hg zin_9 tyX9 tyX9_ok nmX9 hown hK hM hS h55 4 rfl (by decide) (hg _ zw_130) (fun _ h9 => h9) (Or.inr ⟨rfl, hin, rfl⟩) (zv_ref h56.1).symm (tyX9_ok 4 (by decide)) (Or.inl ⟨_, rfl⟩) (h56.q) dX9_init_44 (fun H locs hM hS => ?_)
  obtain ⟨S58, e59, h⟩ := zlg h
  rw [← e59] at hM
  have hX60 : zX S52 S58 := by rw [e59]; exact zX_pR
  have h61 := h55.mo hX60
  have hX62 := hX57.tr hX60
  refine lv_aload_n hx hb dX9_init_47 rfl (lv_at hl 0 rfl) ?_
  refine lv_bipush (v := (12 : Int32)) hx hb dX9_init_48 (by decide +kernel) ?_
  refine z_anew hx hb hown (hg _ zw_67) (hC.2.2.2.1 _ (by decide)) hK hM hS 24 (by decide) rfl (N := 12) (by decide +kernel) (by decide +kernel) (by decide +kernel) (Nat.le_of_ble_eq_true rfl) (Nat.le_of_ble_eq_true rfl) dX9_init_50 (fun H hM hA hX hS => ?_)
  obtain ⟨S63, e64, h⟩ := zlg h
  rw [← e64] at hM hA hX
  have hX65 := hX
  have h66 := hA
  have h67 := h61.mo hX65
  have hX68 := hX62.tr hX65
  refine W.widen (k := 9) (n := 328) (Nat.le_refl _) (Nat.le_refl _) ?_
  refine z_putR (r := (zsz S58)) hx hb hg zin_9 tyX9 tyX9_ok nmX9 hown hK hM hS h67 8 rfl (by decide) (hg _ zw_141) (fun _ h9 => h9) (Or.inr ⟨rfl, hin, rfl⟩) (zv_ref h66.1).symm (tyX9_ok 8 (by decide)) (Or.inr ⟨_, rfl⟩) (h66.q) dX9_init_53 (fun H locs hM hS => ?_)
  obtain ⟨S69, e70, h⟩ := zlg h
  rw [← e70] at hM
  have hX71 : zX S63 S69 := by rw [e70]; exact zX_pR
  have h72 := h67.mo hX71
  have hX73 := hX68.tr hX71
  refine lv_aload_n hx hb dX9_init_56 rfl (lv_at hl 0 rfl) ?_
  refine lv_bipush (v := (40 : Int32)) hx hb dX9_init_57 (by decide +kernel) ?_
  refine z_anew hx hb hown (hg _ zw_69) (hC.2.2.2.1 _ (by decide)) hK hM hS 23 (by decide) rfl (N := 40) (by decide +kernel) (by decide +kernel) (by decide +kernel) (Nat.le_of_ble_eq_true rfl) (Nat.le_of_ble_eq_true rfl) dX9_init_59 (fun H hM hA hX hS => ?_)
  obtain ⟨S74, e75, h⟩ := zlg h
  rw [← e75] at hM hA hX
  have hX76 := hX
  have h77 := hA
  have h78 := h72.mo hX76
  have hX79 := hX73.tr hX76
  refine W.widen (k := 10) (n := 368) (Nat.le_refl _) (Nat.le_refl _) ?_
  refine z_putR (r := (zsz S69)) hx hb hg zin_9 tyX9 tyX9_ok nmX9 hown hK hM hS h78 9 rfl (by decide) (hg _ zw_142) (fun _ h9 => h9) (Or.inr ⟨rfl, hin, rfl⟩) (zv_ref h77.1).symm (tyX9_ok 9 (by decide)) (Or.inr ⟨_, rfl⟩) (h77.q) dX9_init_62 (fun H locs hM hS => ?_)
  obtain ⟨S80, e81, h⟩ := zlg h
  rw [← e81] at hM
  have hX82 : zX S74 S80 := by rw [e81]; exact zX_pR
  have h83 := h78.mo hX82
  have hX84 := hX79.tr hX82
  refine lv_aload_n hx hb dX9_init_65 rfl (lv_at hl 0 rfl) ?_
  refine lv_bipush (v := (8 : Int32)) hx hb dX9_init_66 (by decide +kernel) ?_
  refine z_newa (atype := .long) hx hb (hg _ zw_84) hK hM hS 21 (by decide) rfl (N := 8) (by decide +kernel) (by decide +kernel) (by decide +kernel) (Nat.le_of_ble_eq_true rfl) (Nat.le_of_ble_eq_true rfl) dX9_init_68 (fun H hM hA hX hS => ?_)
  obtain ⟨S85, e86, h⟩ := zlg h
  rw [← e86] at hM hA hX
  have hX87 := hX
  have h88 := hA
  have h89 := h83.mo hX87
  have hX90 := hX84.tr hX87
  refine W.widen (k := 11) (n := 376) (Nat.le_refl _) (Nat.le_refl _) ?_
  refine z_putR (r := (zsz S80)) hx hb hg zin_9 tyX9 tyX9_ok nmX9 hown hK hM hS h89 10 rfl (by decide) (hg _ zw_143) (fun _ h9 => h9) (Or.inr ⟨rfl, hin, rfl⟩) (zv_ref h88.1).symm (tyX9_ok 10 (by decide)) (Or.inr ⟨_, rfl⟩) (h88.q) dX9_init_70 (fun H locs hM hS => ?_)
  obtain ⟨S91, e92, h⟩ := zlg h
  rw [← e92] at hM
  have hX93 : zX S85 S91 := by rw [e92]; exact zX_pR
  have h94 := h89.mo hX93
  have hX95 := hX90.tr hX93
  refine lv_aload_n hx hb dX9_init_73 rfl (lv_at hl 0 rfl) ?_
  refine z_new hx hb hg zin_5 tyX5 tyX5_ok hown (hg _ zw_71) (hg _ zw_72) (hg _ zw_5) hK hM hS 5 rfl (by decide) zdf_5 (Nat.le_of_ble_eq_true rfl) (Nat.le_of_ble_eq_true rfl) dX9_init_74 (fun H hM hA hX hS => ?_)
  obtain ⟨S96, e97, h⟩ := zlg h
  rw [← e97] at hM hA hX
  have hX98 := hX
  have h99 := hA
  have h100 := h94.mo hX98
  have hX101 := hX95.tr hX98
  refine W.widen (k := 12) (n := 378) (Nat.le_refl _) (Nat.le_refl _) ?_
  refine lv_dup hx hb dX9_init_77 rfl ?_
  obtain ⟨S103, hr102, h⟩ := zlg h
  have hr102 := hr102.symm
  refine z_runv (va_runIN (As := []) (rest := [.ref (B + (zsz S91)), .ref (B + a0)]) ⟨hx, hb, hml, hown, hg⟩ (c_X5_init l D cy B h99 hr102) ⟨z_cnB hg hC (List.mem_of_getElem? (i := 0) rfl) zw_5 zw_75 zh_X5_init.2 ⟨(Nat.le_of_ble_eq_true rfl), (Nat.le_of_ble_eq_true rfl)⟩, rfl, hg _ zw_74⟩ (zPS hC hM) rfl rfl hl.1 rfl (lv_room (Nat.le_of_ble_eq_true rfl)) dX9_init_78 ⟨(Nat.le_of_ble_eq_true rfl), (Nat.le_of_ble_eq_true rfl)⟩) hS (fun H locs hM hX104 hS => ?_)
  refine W.widen (k := 13) (n := 385) (Nat.le_refl _) (Nat.le_refl _) ?_
  have h106 := h100.mo hX104
  have h107 := h99.mo hX104
  have hX108 := hX101.tr hX104
  refine z_putR (r := (zsz S91)) hx hb hg zin_9 tyX9 tyX9_ok nmX9 hown hK hM hS h106 11 rfl (by decide) (hg _ zw_145) (fun _ h9 => h9) (Or.inr ⟨rfl, hin, rfl⟩) (zv_ref h107.1).symm (tyX9_ok 11 (by decide)) (Or.inl ⟨_, rfl⟩) (h107.q) dX9_init_81 (fun H locs hM hS => ?_)
  obtain ⟨S109, e110, h⟩ := zlg h
  rw [← e110] at hM
  have hX111 : zX S103 S109 := by rw [e110]; exact zX_pR
  have h112 := h106.mo hX111
  have hX113 := hX108.tr hX111
  refine lv_iconst (v := (0 : Int32)) hx hb dX9_init_84 (by decide +kernel) ?_
  refine lv_istore_n (i := 1) (lv' := [(1, .int (0 : Int32)), (0, .ref (B + a0))]) hx hb dX9_init_85 rfl hl (by decide) rfl (fun ls hl => ?_)
  obtain ⟨K117, eK117, h⟩ := zlg h
  have hK117 : ∀ (S115 : zM) (H : Heap) (locs : List Loc), zMR D cy B S115 H → zX S0 S115 → va_S (fun q => B < q) s.heap H locs → zA S115 a0 9 → ∀ ls : Array Slot, lv_has ls 2 [(0, .ref (B + a0))] → K117 S115 = some S' → W p l e (headSpec (zws yX9_init cX9_init 2 none) { frames := 2, cells := 133, slots := 1225, locals := 42 }).room s m (([.ref (B + a0)] : List Value).toArray) below meth c H locs 13 385 (MQ below (zQv D cy B S0 S') (([.ref (B + a0)] : List Value).toArray) s 133 1225 (fun q => B < q)) (F0 m 105 ls []) := by
    intro S115 H locs hM hX116 hS h114 ls hl h
    rw [eK117] at h
    refine lv_iconst (v := (0 : Int32)) hx hb dX9_init_105 (by decide +kernel) ?_
    refine lv_istore_n (i := 1) (lv' := [(1, .int (0 : Int32)), (0, .ref (B + a0))]) hx hb dX9_init_106 rfl hl (by decide) rfl (fun ls hl => ?_)
    obtain ⟨K120, eK120, h⟩ := zlg h
    have hK120 : ∀ (S118 : zM) (H : Heap) (locs : List Loc), zMR D cy B S118 H → zX S0 S118 → va_S (fun q => B < q) s.heap H locs → ∀ ls : Array Slot, lv_has ls 2 [] → K120 S118 = some S' → W p l e (headSpec (zws yX9_init cX9_init 2 none) { frames := 2, cells := 133, slots := 1225, locals := 42 }).room s m (([.ref (B + a0)] : List Value).toArray) below meth c H locs 133 1225 (MQ below (zQv D cy B S0 S') (([.ref (B + a0)] : List Value).toArray) s 133 1225 (fun q => B < q)) (F0 m 132 ls []) := by
      intro S118 H locs hM hX119 hS ls hl h
      rw [eK120] at h
      refine W.widen (k := 133) (n := 1225) (by omega) (by omega) ?_
      exact z_vret hx hb hr hlk hM hX119 hS (zsm h) dX9_init_132
    have hL107 : ∀ (k : Nat) (x122 : Int32) (S123 : zM) (j125 : Nat) (_ : x122 = nI j125) (_ : j125 ≤ 40) (H : Heap) (locs : List Loc), zMR D cy B S123 H → zX S0 S123 → va_S (fun q => B < q) s.heap H locs → zA S123 a0 9 → ∀ ls : Array Slot, lv_has ls 2 [(0, .ref (B + a0)), (1, .int x122)] → f_X9_init_L107 a0 K120 k x122 S123 = some S' → W p l e (headSpec (zws yX9_init cX9_init 2 none) { frames := 2, cells := 133, slots := 1225, locals := 42 }).room s m (([.ref (B + a0)] : List Value).toArray) below meth c H locs (3 * j125 + 13) (21 * j125 + 385) (MQ below (zQv D cy B S0 S') (([.ref (B + a0)] : List Value).toArray) s 133 1225 (fun q => B < q)) (F0 m 107 ls []) := by
      intro k
      induction k with
      | zero =>
        intro x122 S123 j125 hj126 hj127 H locs hM hX124 hS h121 ls hl h
        exact znone h
      | succ k ih107 =>
        intro x122 S123 j125 hj126 hj127 H locs hM hX124 hS h121 ls hl h
        replace h : f_X9_init_L107b a0 K120 (f_X9_init_L107 a0 K120 k) x122 S123 = some S' := h
        generalize f_X9_init_L107 a0 K120 k = rec107 at ih107 h
        unfold f_X9_init_L107b at h
        refine lv_iload_n hx hb dX9_init_107 rfl (lv_at hl 1 rfl) ?_
        refine lv_bipush (v := (40 : Int32)) hx hb dX9_init_108 (by decide +kernel) ?_
        refine lv_icmp_ge (tgt := 132) hx hb dX9_init_110 (by decide) (fun hc129 => ?_) (fun hc129 => ?_)
        · have h := zt h hc129
          refine W.widen (k := 133) (n := 1225) (by omega) (by omega) ?_
          exact hK120 S123 _ _ hM hX124 hS _ (lv_sub hl [] rfl) h
        · have h := zf h hc129
          have hj128 := zjlt hj126 hj127 hc129 (N := 40) (by decide +kernel)
          refine lv_aload_n hx hb dX9_init_113 rfl (lv_at hl 0 rfl) ?_
          obtain ⟨hq131, h⟩ := zk h
          refine z_getN hx hb hg zin_9 hown hK hM h121 9 rfl (by decide) (hg _ zw_142) (fun _ h9 => h9) hq131 dX9_init_114 (fun h130 => ?_)
          refine lv_iload_n hx hb dX9_init_117 rfl (lv_at hl 1 rfl) ?_
          refine z_new hx hb hg zin_1 tyX1 tyX1_ok hown (hg _ zw_69) (hg _ zw_85) (hg _ zw_6) hK hM hS 1 rfl (by decide) zdf_1 (by show (3 * j125 + 13) + 1 ≤ 133; omega) (by show (21 * j125 + 385) + 7 ≤ 1225; omega) dX9_init_118 (fun H hM hA hX hS => ?_)
          obtain ⟨S132, e133, h⟩ := zlg h
          rw [← e133] at hM hA hX
          have hX134 := hX
          have h135 := hA
          have h136 := h121.mo hX134
          have h137 := h130.mo hX134
          have hX138 := hX124.tr hX134
          refine W.widen (k := (3 * j125 + 14)) (n := (21 * j125 + 392)) (Nat.le_refl _) (Nat.le_refl _) ?_
          refine lv_dup hx hb dX9_init_121 rfl ?_
          obtain ⟨S140, hr139, h⟩ := zlg h
          have hr139 := hr139.symm
          refine z_runv (va_runIN (As := []) (rest := [.ref (B + (zsz S123)), .int x122, .ref (B + (zr S123 a0 9))]) ⟨hx, hb, hml, hown, hg⟩ (c_X1_init l D cy B h135 hr139) ⟨z_cnB hg hC (List.mem_of_getElem? (i := 1) rfl) zw_6 zw_88 zh_X1_init.2 ⟨(Nat.le_of_ble_eq_true rfl), (Nat.le_of_ble_eq_true rfl)⟩, rfl, hg _ zw_87⟩ (zPS hC hM) rfl rfl hl.1 rfl (lv_room (Nat.le_of_ble_eq_true rfl)) dX9_init_122 ⟨(by show (3 * j125 + 14) + 2 ≤ 133; omega), (by show (21 * j125 + 392) + 14 ≤ 1225; omega)⟩) hS (fun H locs hM hX141 hS => ?_)
          refine W.widen (k := (3 * j125 + 16)) (n := (21 * j125 + 406)) (Nat.le_refl _) (Nat.le_refl _) ?_
          have h143 := h136.mo hX141
          have h144 := h137.mo hX141
          have h145 := h135.mo hX141
          have hX146 := hX138.tr hX141
          obtain ⟨hq147, h⟩ := zk h
          refine z_aast (r := (zsz S123)) hx hb hK hM hS h144 (by decide) (q := (RX1, TX1, 7)) rfl (fun _ => rfl) (by decide) rfl (zv_ref h145.1).symm (h145.q) hq147 dX9_init_125 (fun H locs hM hS => ?_)
          obtain ⟨S148, e149, h⟩ := zlg h
          rw [← e149] at hM
          have hX150 : zX S140 S148 := by rw [e149]; exact zX_pR
          have h151 := h143.mo hX150
          have hX152 := hX146.tr hX150
          refine lv_iinc (v := (x122 + (1 : Int32))) (lv' := [(1, .int (x122 + (1 : Int32))), (0, .ref (B + a0))]) hx hb dX9_init_126 hl (k := 1) rfl rfl (by decide) rfl (fun ls hl => ?_)
          refine lv_goto (tgt := 107) hx hb dX9_init_129 (by decide) ?_
          refine W.widen (k := (3 * (j125 + 1) + 13)) (n := (21 * (j125 + 1) + 385)) (by omega) (by omega) ?_
          exact ih107 (x122 + (1 : Int32)) S148 (j125 + 1) (by rw [hj126]; exact nI_1 j125) hj128 _ _ hM hX152 hS h151 _ (lv_sub hl [1, 0] rfl) h
    refine W.widen (k := (3 * 0 + 13)) (n := (21 * 0 + 385)) (by omega) (by omega) ?_
    exact hL107 n (0 : Int32) S115 0 nI_0.symm (Nat.zero_le _) _ _ hM hX116 hS h114 _ (lv_sub hl [1, 0] rfl) h
  have hL86 : ∀ (k : Nat) (x154 : Int32) (S155 : zM) (H : Heap) (locs : List Loc), zMR D cy B S155 H → zX S0 S155 → va_S (fun q => B < q) s.heap H locs → zA S155 a0 9 → ∀ ls : Array Slot, lv_has ls 2 [(0, .ref (B + a0)), (1, .int x154)] → f_X9_init_L86 a0 K117 k x154 S155 = some S' → W p l e (headSpec (zws yX9_init cX9_init 2 none) { frames := 2, cells := 133, slots := 1225, locals := 42 }).room s m (([.ref (B + a0)] : List Value).toArray) below meth c H locs 13 385 (MQ below (zQv D cy B S0 S') (([.ref (B + a0)] : List Value).toArray) s 133 1225 (fun q => B < q)) (F0 m 86 ls []) := by
    intro k
    induction k with
    | zero =>
      intro x154 S155 H locs hM hX156 hS h153 ls hl h
      exact znone h
    | succ k ih86 =>
      intro x154 S155 H locs hM hX156 hS h153 ls hl h
      replace h : f_X9_init_L86b a0 K117 (f_X9_init_L86 a0 K117 k) x154 S155 = some S' := h
      generalize f_X9_init_L86 a0 K117 k = rec86 at ih86 h
      unfold f_X9_init_L86b at h
      refine lv_iload_n hx hb dX9_init_86 rfl (lv_at hl 1 rfl) ?_
      refine lv_bipush (v := (42 : Int32)) hx hb dX9_init_87 (by decide +kernel) ?_
      refine lv_icmp_ge (tgt := 105) hx hb dX9_init_89 (by decide) (fun hc157 => ?_) (fun hc157 => ?_)
      · have h := zt h hc157
        exact hK117 S155 _ _ hM hX156 hS h153 _ (lv_sub hl [0] rfl) h
      · have h := zf h hc157
        refine lv_aload_n hx hb dX9_init_92 rfl (lv_at hl 0 rfl) ?_
        obtain ⟨hq159, h⟩ := zk h
        refine z_getN hx hb hg zin_9 hown hK hM h153 3 rfl (by decide) (hg _ zw_128) (fun _ h9 => h9) hq159 dX9_init_93 (fun h158 => ?_)
        refine lv_iload_n hx hb dX9_init_96 rfl (lv_at hl 1 rfl) ?_
        refine lv_iconst (v := (-1 : Int32)) hx hb dX9_init_97 (by decide +kernel) ?_
        obtain ⟨hq160, h⟩ := zk h
        refine z_iast hx hb hK hM hS h158 hq160 dX9_init_98 (fun H locs hM hS => ?_)
        obtain ⟨S161, e162, h⟩ := zlg h
        rw [← e162] at hM
        have hX163 : zX S155 S161 := by rw [e162]; exact zX_pI
        have h164 := h153.mo hX163
        have hX165 := hX156.tr hX163
        refine lv_iinc (v := (x154 + (1 : Int32))) (lv' := [(1, .int (x154 + (1 : Int32))), (0, .ref (B + a0))]) hx hb dX9_init_99 hl (k := 1) rfl rfl (by decide) rfl (fun ls hl => ?_)
        refine lv_goto (tgt := 86) hx hb dX9_init_102 (by decide) ?_
        exact ih86 (x154 + (1 : Int32)) S161 _ _ hM hX165 hS h164 _ (lv_sub hl [1, 0] rfl) h
  exact hL86 n (0 : Int32) S109 _ _ hM hX113 hS h112 _ (lv_sub hl [1, 0] rfl) h
def f_X9_copyFrom_L123b (a0 : Nat) (a1 : Nat) (K81 : zM → Option (zM)) (rec123 : Int32 → zM → Option (zM)) (x84 : Int32) (S85 : zM) : Option (zM) :=
  if (zi S85 a0 7) ≤ x84 then K81 S85 else zChk (¬ (zr S85 a0 9) = 0) (zChk (¬ (x84 < 0 ∨ zln S85 (zr S85 a0 9) ≤ (x84).toNatClampNeg)) (zChk (¬ (zr S85 (zr S85 a0 9) (Int32.toNatClampNeg x84)) = 0) (zChk (¬ (zr S85 a1 9) = 0) (zChk (¬ (x84 < 0 ∨ zln S85 (zr S85 a1 9) ≤ (x84).toNatClampNeg)) (zChk (¬ (zr S85 (zr S85 a1 9) (Int32.toNatClampNeg x84)) = 0) (zB1 (f_X1_copyFrom S85 (zr S85 (zr S85 a0 9) (Int32.toNatClampNeg x84)) (zr S85 (zr S85 a1 9) (Int32.toNatClampNeg x84))) (fun S101 => rec123 (x84 + (1 : Int32)) S101)))))))
def f_X9_copyFrom_L123 (a0 : Nat) (a1 : Nat) (K81 : zM → Option (zM)) : Nat → Int32 → zM → Option (zM)
  | 0 => fun _ _ => none
  | k + 1 => fun x84 S85 => f_X9_copyFrom_L123b a0 a1 K81 (f_X9_copyFrom_L123 a0 a1 K81 k) x84 S85
def f_X9_copyFrom_L97b (a0 : Nat) (a1 : Nat) (K78 : zM → Option (zM)) (rec97 : Int32 → zM → Option (zM)) (x109 : Int32) (S110 : zM) : Option (zM) :=
  if (12 : Int32) ≤ x109 then K78 S110 else zChk (¬ (zr S110 a0 8) = 0) (zChk (¬ (zr S110 a1 8) = 0) (zChk (¬ (x109 < 0 ∨ zln S110 (zr S110 a1 8) ≤ (x109).toNatClampNeg)) (zChk (¬ (x109 < 0 ∨ zln S110 (zr S110 a0 8) ≤ (x109).toNatClampNeg)) (zLet (zpR S110 (zr S110 a0 8) (Int32.toNatClampNeg x109) (zr S110 (zr S110 a1 8) (Int32.toNatClampNeg x109))) (fun S120 => rec97 (x109 + (1 : Int32)) S120)))))
def f_X9_copyFrom_L97 (a0 : Nat) (a1 : Nat) (K78 : zM → Option (zM)) : Nat → Int32 → zM → Option (zM)
  | 0 => fun _ _ => none
  | k + 1 => fun x109 S110 => f_X9_copyFrom_L97b a0 a1 K78 (f_X9_copyFrom_L97 a0 a1 K78 k) x109 S110
def f_X9_copyFrom (n : Nat) (S0 : zM) (a0 : Nat) (a1 : Nat) : Option (zM) :=
  zChk (¬ (zr S0 a1 0) = 0) (zChk (¬ (zr S0 a0 0) = 0) (zChk (¬ (0 : Int32) < 0 ∧ ¬ (0 : Int32) < 0 ∧ ¬ (8 : Int32) < 0 ∧ (Int32.toNatClampNeg (0 : Int32)) + (Int32.toNatClampNeg (8 : Int32)) ≤ zln S0 (zr S0 a1 0) ∧ (Int32.toNatClampNeg (0 : Int32)) + (Int32.toNatClampNeg (8 : Int32)) ≤ zln S0 (zr S0 a0 0)) (zLet (zcp S0 (zr S0 a1 0) (Int32.toNatClampNeg (0 : Int32)) (zr S0 a0 0) (Int32.toNatClampNeg (0 : Int32)) (Int32.toNatClampNeg (8 : Int32))) (fun S6 => zChk (¬ (zr S6 a1 1) = 0) (zChk (¬ (zr S6 a0 1) = 0) (zChk (¬ (0 : Int32) < 0 ∧ ¬ (0 : Int32) < 0 ∧ ¬ (8 : Int32) < 0 ∧ (Int32.toNatClampNeg (0 : Int32)) + (Int32.toNatClampNeg (8 : Int32)) ≤ zln S6 (zr S6 a1 1) ∧ (Int32.toNatClampNeg (0 : Int32)) + (Int32.toNatClampNeg (8 : Int32)) ≤ zln S6 (zr S6 a0 1)) (zLet (zcp S6 (zr S6 a1 1) (Int32.toNatClampNeg (0 : Int32)) (zr S6 a0 1) (Int32.toNatClampNeg (0 : Int32)) (Int32.toNatClampNeg (8 : Int32))) (fun S17 => zChk (¬ (zr S17 a1 2) = 0) (zChk (¬ (zr S17 a0 2) = 0) (zChk (¬ (0 : Int32) < 0 ∧ ¬ (0 : Int32) < 0 ∧ ¬ (6 : Int32) < 0 ∧ (Int32.toNatClampNeg (0 : Int32)) + (Int32.toNatClampNeg (6 : Int32)) ≤ zln S17 (zr S17 a1 2) ∧ (Int32.toNatClampNeg (0 : Int32)) + (Int32.toNatClampNeg (6 : Int32)) ≤ zln S17 (zr S17 a0 2)) (zLet (zcp S17 (zr S17 a1 2) (Int32.toNatClampNeg (0 : Int32)) (zr S17 a0 2) (Int32.toNatClampNeg (0 : Int32)) (Int32.toNatClampNeg (6 : Int32))) (fun S28 => zChk (¬ (zr S28 a1 3) = 0) (zChk (¬ (zr S28 a0 3) = 0) (zChk (¬ (0 : Int32) < 0 ∧ ¬ (0 : Int32) < 0 ∧ ¬ (42 : Int32) < 0 ∧ (Int32.toNatClampNeg (0 : Int32)) + (Int32.toNatClampNeg (42 : Int32)) ≤ zln S28 (zr S28 a1 3) ∧ (Int32.toNatClampNeg (0 : Int32)) + (Int32.toNatClampNeg (42 : Int32)) ≤ zln S28 (zr S28 a0 3)) (zLet (zcp S28 (zr S28 a1 3) (Int32.toNatClampNeg (0 : Int32)) (zr S28 a0 3) (Int32.toNatClampNeg (0 : Int32)) (Int32.toNatClampNeg (42 : Int32))) (fun S39 => zChk (¬ (zr S39 a0 4) = 0) (zChk (¬ (zr S39 a1 4) = 0) (zB1 (f_X6_copyFrom S39 (zr S39 a0 4) (zr S39 a1 4)) (fun S50 => zLet (zpI S50 a0 5 (zi S50 a1 5)) (fun S56 => zLet (zpI S56 a0 6 (zi S56 a1 6)) (fun S62 => zLet (zpI S62 a0 7 (zi S62 a1 7)) (fun S68 => zLet (fun (S76 : zM) => zLet (fun (S79 : zM) => some S79) (fun K81 => f_X9_copyFrom_L123 a0 a1 K81 n (0 : Int32) S76)) (fun K78 => f_X9_copyFrom_L97 a0 a1 K78 n (0 : Int32) S68)))))))))))))))))))))))
set_option maxHeartbeats 4000000 in
set_option maxRecDepth 100000 in
theorem c_X9_copyFrom (l : Launch) (D : va_G) (cy : Nat → ClassId) (B : Nat) {n : Nat} {S0 : zM} {a0 : Nat} {a1 : Nat} {S' : zM} (ha0 : zA S0 a0 9) (ha1 : zA S0 a1 9) (h : f_X9_copyFrom n S0 a0 a1 = some S') : Met l yX9_copyFrom (zws yX9_copyFrom cX9_copyFrom 3 none) { frames := 2, cells := 0, slots := 0, locals := 101 } (zPc D cy B S0 [.ref (B + a0), .ref (B + a1)]) (zQv D cy B S0 S') 0 0 (fun q => B < q) := by
  refine Met.ofW (cc := cX9_copyFrom) (maxL := 3) (ret := none) (by decide) rfl ?_
  intro p e s m args below meth c s₁ Bd hml hv
  obtain ⟨rfl, hC, hM⟩ := hv
  obtain ⟨hx, hb, hr, hg, hown, hlk⟩ := z_open Bd
  have hK := hC.1
  have hS : va_S (fun q => B < q) s.heap s.heap [] := va_S.rf
  have hX0 : zX S0 S0 := zX.rf
  refine z_entry (vs := [.ref (B + a0), .ref (B + a1)]) (Nat.le_of_ble_eq_true rfl) (fun ls hl => ?_)
  have hl : lv_has ls 3 [(0, .ref (B + a0)), (1, .ref (B + a1))] := hl
  unfold f_X9_copyFrom at h
  refine lv_aload_n hx hb dX9_copyFrom_0 rfl (lv_at hl 1 rfl) ?_
  obtain ⟨hq2, h⟩ := zk h
  refine z_getN hx hb hg zin_9 hown hK hM ha1 0 rfl (by decide) (hg _ zw_124) (fun _ h9 => h9) hq2 dX9_copyFrom_1 (fun h1 => ?_)
  refine lv_iconst (v := (0 : Int32)) hx hb dX9_copyFrom_4 (by decide +kernel) ?_
  refine lv_aload_n hx hb dX9_copyFrom_5 rfl (lv_at hl 0 rfl) ?_
  obtain ⟨hq4, h⟩ := zk h
  refine z_getN hx hb hg zin_9 hown hK hM ha0 0 rfl (by decide) (hg _ zw_124) (fun _ h9 => h9) hq4 dX9_copyFrom_6 (fun h3 => ?_)
  refine lv_iconst (v := (0 : Int32)) hx hb dX9_copyFrom_9 (by decide +kernel) ?_
  refine lv_bipush (v := (8 : Int32)) hx hb dX9_copyFrom_10 (by decide +kernel) ?_
  obtain ⟨hq5, h⟩ := zk h
  refine z_copy hx hb (hml.trans hl.1.symm) hown (hg _ zw_622) (hg _ zw_491) (hg _ zw_490) (hg _ zw_16) hK hM hS h1 h3 hq5 (Nat.le_of_ble_eq_true rfl) (Nat.le_of_ble_eq_true rfl) dX9_copyFrom_12 (fun H locs hM hS => ?_)
  obtain ⟨S6, e7, h⟩ := zlg h
  rw [← e7] at hM
  have hX8 : zX S0 S6 := by rw [e7]; exact zX_cp
  have h9 := ha0.mo hX8
  have h10 := ha1.mo hX8
  have hX11 := hX0.tr hX8
  refine lv_aload_n hx hb dX9_copyFrom_15 rfl (lv_at hl 1 rfl) ?_
  obtain ⟨hq13, h⟩ := zk h
  refine z_getN hx hb hg zin_9 hown hK hM h10 1 rfl (by decide) (hg _ zw_125) (fun _ h9 => h9) hq13 dX9_copyFrom_16 (fun h12 => ?_)
  refine lv_iconst (v := (0 : Int32)) hx hb dX9_copyFrom_19 (by decide +kernel) ?_
  refine lv_aload_n hx hb dX9_copyFrom_20 rfl (lv_at hl 0 rfl) ?_
  obtain ⟨hq15, h⟩ := zk h
  refine z_getN hx hb hg zin_9 hown hK hM h9 1 rfl (by decide) (hg _ zw_125) (fun _ h9 => h9) hq15 dX9_copyFrom_21 (fun h14 => ?_)
  refine lv_iconst (v := (0 : Int32)) hx hb dX9_copyFrom_24 (by decide +kernel) ?_
  refine lv_bipush (v := (8 : Int32)) hx hb dX9_copyFrom_25 (by decide +kernel) ?_
  obtain ⟨hq16, h⟩ := zk h
  refine z_copy hx hb (hml.trans hl.1.symm) hown (hg _ zw_622) (hg _ zw_491) (hg _ zw_490) (hg _ zw_16) hK hM hS h12 h14 hq16 (Nat.le_of_ble_eq_true rfl) (Nat.le_of_ble_eq_true rfl) dX9_copyFrom_27 (fun H locs hM hS => ?_)
  obtain ⟨S17, e18, h⟩ := zlg h
  rw [← e18] at hM
  have hX19 : zX S6 S17 := by rw [e18]; exact zX_cp
  have h20 := h9.mo hX19
  have h21 := h10.mo hX19
  have hX22 := hX11.tr hX19
  refine lv_aload_n hx hb dX9_copyFrom_30 rfl (lv_at hl 1 rfl) ?_
  obtain ⟨hq24, h⟩ := zk h
  refine z_getN hx hb hg zin_9 hown hK hM h21 2 rfl (by decide) (hg _ zw_126) (fun _ h9 => h9) hq24 dX9_copyFrom_31 (fun h23 => ?_)
  refine lv_iconst (v := (0 : Int32)) hx hb dX9_copyFrom_34 (by decide +kernel) ?_
  refine lv_aload_n hx hb dX9_copyFrom_35 rfl (lv_at hl 0 rfl) ?_
  obtain ⟨hq26, h⟩ := zk h
  refine z_getN hx hb hg zin_9 hown hK hM h20 2 rfl (by decide) (hg _ zw_126) (fun _ h9 => h9) hq26 dX9_copyFrom_36 (fun h25 => ?_)
  refine lv_iconst (v := (0 : Int32)) hx hb dX9_copyFrom_39 (by decide +kernel) ?_
  refine lv_bipush (v := (6 : Int32)) hx hb dX9_copyFrom_40 (by decide +kernel) ?_
  obtain ⟨hq27, h⟩ := zk h
  refine z_copy hx hb (hml.trans hl.1.symm) hown (hg _ zw_622) (hg _ zw_491) (hg _ zw_490) (hg _ zw_16) hK hM hS h23 h25 hq27 (Nat.le_of_ble_eq_true rfl) (Nat.le_of_ble_eq_true rfl) dX9_copyFrom_42 (fun H locs hM hS => ?_)
  obtain ⟨S28, e29, h⟩ := zlg h
  rw [← e29] at hM
  have hX30 : zX S17 S28 := by rw [e29]; exact zX_cp
  have h31 := h20.mo hX30
  have h32 := h21.mo hX30
  have hX33 := hX22.tr hX30
  refine lv_aload_n hx hb dX9_copyFrom_45 rfl (lv_at hl 1 rfl) ?_
  obtain ⟨hq35, h⟩ := zk h
  refine z_getN hx hb hg zin_9 hown hK hM h32 3 rfl (by decide) (hg _ zw_128) (fun _ h9 => h9) hq35 dX9_copyFrom_46 (fun h34 => ?_)
  refine lv_iconst (v := (0 : Int32)) hx hb dX9_copyFrom_49 (by decide +kernel) ?_
  refine lv_aload_n hx hb dX9_copyFrom_50 rfl (lv_at hl 0 rfl) ?_
  obtain ⟨hq37, h⟩ := zk h
  refine z_getN hx hb hg zin_9 hown hK hM h31 3 rfl (by decide) (hg _ zw_128) (fun _ h9 => h9) hq37 dX9_copyFrom_51 (fun h36 => ?_)
  refine lv_iconst (v := (0 : Int32)) hx hb dX9_copyFrom_54 (by decide +kernel) ?_
  refine lv_bipush (v := (42 : Int32)) hx hb dX9_copyFrom_55 (by decide +kernel) ?_
  obtain ⟨hq38, h⟩ := zk h
  refine z_copy hx hb (hml.trans hl.1.symm) hown (hg _ zw_622) (hg _ zw_491) (hg _ zw_490) (hg _ zw_16) hK hM hS h34 h36 hq38 (Nat.le_of_ble_eq_true rfl) (Nat.le_of_ble_eq_true rfl) dX9_copyFrom_57 (fun H locs hM hS => ?_)
  obtain ⟨S39, e40, h⟩ := zlg h
  rw [← e40] at hM
  have hX41 : zX S28 S39 := by rw [e40]; exact zX_cp
  have h42 := h31.mo hX41
  have h43 := h32.mo hX41
  have hX44 := hX33.tr hX41
  refine lv_aload_n hx hb dX9_copyFrom_60 rfl (lv_at hl 0 rfl) ?_
  obtain ⟨hq46, h⟩ := zk h
  refine z_getN hx hb hg zin_9 hown hK hM h42 4 rfl (by decide) (hg _ zw_130) (fun _ h9 => h9) hq46 dX9_copyFrom_61 (fun h45 => ?_)
  refine lv_aload_n hx hb dX9_copyFrom_64 rfl (lv_at hl 1 rfl) ?_
  obtain ⟨hq48, h⟩ := zk h
  refine z_getN hx hb hg zin_9 hown hK hM h43 4 rfl (by decide) (hg _ zw_130) (fun _ h9 => h9) hq48 dX9_copyFrom_65 (fun h47 => ?_)
  obtain ⟨S50, hr49, h⟩ := zb1 h
  refine z_runv (va_runV (As := [.ref (B + (zr S39 a1 4))]) (rest := []) ⟨hx, hb, hml, hown, hg⟩ (c_X6_copyFrom l D cy B h45 h47 hr49) (z_cwV hg zw_623 zw_486 zw_487 zw_4 zw_488 zh_X6_copyFrom ⟨(Nat.le_of_ble_eq_true rfl), (Nat.le_of_ble_eq_true rfl)⟩) (zPV hC hM h45 (by decide) rfl) rfl rfl hl.1 rfl (lv_room (Nat.le_of_ble_eq_true rfl)) dX9_copyFrom_68 ⟨(Nat.le_of_ble_eq_true rfl), (Nat.le_of_ble_eq_true rfl)⟩) hS (fun H locs hM hX51 hS => ?_)
  have h53 := h42.mo hX51
  have h54 := h43.mo hX51
  have hX55 := hX44.tr hX51
  refine lv_aload_n hx hb dX9_copyFrom_71 rfl (lv_at hl 0 rfl) ?_
  refine lv_aload_n hx hb dX9_copyFrom_72 rfl (lv_at hl 1 rfl) ?_
  refine z_getI hx hb hg zin_9 hown hK hM h54 5 rfl (by decide) (hg _ zw_132) (fun _ h9 => h9) dX9_copyFrom_73 ?_
  refine z_putI hx hb hg zin_9 tyX9 tyX9_ok nmX9 hown hK hM hS h53 5 rfl (by decide) (hg _ zw_132) (fun _ h9 => h9) (Or.inl rfl) (tyX9_ok 5 (by decide)) rfl rfl dX9_copyFrom_76 (fun H locs hM hS => ?_)
  obtain ⟨S56, e57, h⟩ := zlg h
  rw [← e57] at hM
  have hX58 : zX S50 S56 := by rw [e57]; exact zX_pI
  have h59 := h53.mo hX58
  have h60 := h54.mo hX58
  have hX61 := hX55.tr hX58
  refine lv_aload_n hx hb dX9_copyFrom_79 rfl (lv_at hl 0 rfl) ?_
  refine lv_aload_n hx hb dX9_copyFrom_80 rfl (lv_at hl 1 rfl) ?_
  refine z_getI hx hb hg zin_9 hown hK hM h60 6 rfl (by decide) (hg _ zw_135) (fun _ h9 => h9) dX9_copyFrom_81 ?_
  refine z_putI hx hb hg zin_9 tyX9 tyX9_ok nmX9 hown hK hM hS h59 6 rfl (by decide) (hg _ zw_135) (fun _ h9 => h9) (Or.inl rfl) (tyX9_ok 6 (by decide)) rfl rfl dX9_copyFrom_84 (fun H locs hM hS => ?_)
  obtain ⟨S62, e63, h⟩ := zlg h
  rw [← e63] at hM
  have hX64 : zX S56 S62 := by rw [e63]; exact zX_pI
  have h65 := h59.mo hX64
  have h66 := h60.mo hX64
  have hX67 := hX61.tr hX64
  refine lv_aload_n hx hb dX9_copyFrom_87 rfl (lv_at hl 0 rfl) ?_
  refine lv_aload_n hx hb dX9_copyFrom_88 rfl (lv_at hl 1 rfl) ?_
  refine z_getI hx hb hg zin_9 hown hK hM h66 7 rfl (by decide) (hg _ zw_139) (fun _ h9 => h9) dX9_copyFrom_89 ?_
  refine z_putI hx hb hg zin_9 tyX9 tyX9_ok nmX9 hown hK hM hS h65 7 rfl (by decide) (hg _ zw_139) (fun _ h9 => h9) (Or.inl rfl) (tyX9_ok 7 (by decide)) rfl rfl dX9_copyFrom_92 (fun H locs hM hS => ?_)
  obtain ⟨S68, e69, h⟩ := zlg h
  rw [← e69] at hM
  have hX70 : zX S62 S68 := by rw [e69]; exact zX_pI
  have h71 := h65.mo hX70
  have h72 := h66.mo hX70
  have hX73 := hX67.tr hX70
  refine lv_iconst (v := (0 : Int32)) hx hb dX9_copyFrom_95 (by decide +kernel) ?_
  refine lv_istore_n (i := 2) (lv' := [(2, .int (0 : Int32)), (0, .ref (B + a0)), (1, .ref (B + a1))]) hx hb dX9_copyFrom_96 rfl hl (by decide) rfl (fun ls hl => ?_)
  obtain ⟨K78, eK78, h⟩ := zlg h
  have hK78 : ∀ (S76 : zM) (H : Heap) (locs : List Loc), zMR D cy B S76 H → zX S0 S76 → va_S (fun q => B < q) s.heap H locs → zA S76 a0 9 → zA S76 a1 9 → ∀ ls : Array Slot, lv_has ls 3 [(0, .ref (B + a0)), (1, .ref (B + a1))] → K78 S76 = some S' → W p l e (headSpec (zws yX9_copyFrom cX9_copyFrom 3 none) { frames := 2, cells := 0, slots := 0, locals := 101 }).room s m (([.ref (B + a0), .ref (B + a1)] : List Value).toArray) below meth c H locs 0 0 (MQ below (zQv D cy B S0 S') (([.ref (B + a0), .ref (B + a1)] : List Value).toArray) s 0 0 (fun q => B < q)) (F0 m 121 ls []) := by
    intro S76 H locs hM hX77 hS h74 h75 ls hl h
    rw [eK78] at h
    refine lv_iconst (v := (0 : Int32)) hx hb dX9_copyFrom_121 (by decide +kernel) ?_
    refine lv_istore_n (i := 2) (lv' := [(2, .int (0 : Int32)), (0, .ref (B + a0)), (1, .ref (B + a1))]) hx hb dX9_copyFrom_122 rfl hl (by decide) rfl (fun ls hl => ?_)
    obtain ⟨K81, eK81, h⟩ := zlg h
    have hK81 : ∀ (S79 : zM) (H : Heap) (locs : List Loc), zMR D cy B S79 H → zX S0 S79 → va_S (fun q => B < q) s.heap H locs → ∀ ls : Array Slot, lv_has ls 3 [] → K81 S79 = some S' → W p l e (headSpec (zws yX9_copyFrom cX9_copyFrom 3 none) { frames := 2, cells := 0, slots := 0, locals := 101 }).room s m (([.ref (B + a0), .ref (B + a1)] : List Value).toArray) below meth c H locs 0 0 (MQ below (zQv D cy B S0 S') (([.ref (B + a0), .ref (B + a1)] : List Value).toArray) s 0 0 (fun q => B < q)) (F0 m 152 ls []) := by
      intro S79 H locs hM hX80 hS ls hl h
      rw [eK81] at h
      exact z_vret hx hb hr hlk hM hX80 hS (zsm h) dX9_copyFrom_152
    have hL123 : ∀ (k : Nat) (x84 : Int32) (S85 : zM) (H : Heap) (locs : List Loc), zMR D cy B S85 H → zX S0 S85 → va_S (fun q => B < q) s.heap H locs → zA S85 a0 9 → zA S85 a1 9 → ∀ ls : Array Slot, lv_has ls 3 [(0, .ref (B + a0)), (1, .ref (B + a1)), (2, .int x84)] → f_X9_copyFrom_L123 a0 a1 K81 k x84 S85 = some S' → W p l e (headSpec (zws yX9_copyFrom cX9_copyFrom 3 none) { frames := 2, cells := 0, slots := 0, locals := 101 }).room s m (([.ref (B + a0), .ref (B + a1)] : List Value).toArray) below meth c H locs 0 0 (MQ below (zQv D cy B S0 S') (([.ref (B + a0), .ref (B + a1)] : List Value).toArray) s 0 0 (fun q => B < q)) (F0 m 123 ls []) := by
      intro k
      induction k with
      | zero =>
        intro x84 S85 H locs hM hX86 hS h82 h83 ls hl h
        exact znone h
      | succ k ih123 =>
        intro x84 S85 H locs hM hX86 hS h82 h83 ls hl h
        replace h : f_X9_copyFrom_L123b a0 a1 K81 (f_X9_copyFrom_L123 a0 a1 K81 k) x84 S85 = some S' := h
        generalize f_X9_copyFrom_L123 a0 a1 K81 k = rec123 at ih123 h
        unfold f_X9_copyFrom_L123b at h
        refine lv_iload_n hx hb dX9_copyFrom_123 rfl (lv_at hl 2 rfl) ?_
        refine lv_aload_n hx hb dX9_copyFrom_124 rfl (lv_at hl 0 rfl) ?_
        refine z_getI hx hb hg zin_9 hown hK hM h82 7 rfl (by decide) (hg _ zw_139) (fun _ h9 => h9) dX9_copyFrom_125 ?_
        refine lv_icmp_ge (tgt := 152) hx hb dX9_copyFrom_128 (by decide) (fun hc87 => ?_) (fun hc87 => ?_)
        · have h := zt h hc87
          exact hK81 S85 _ _ hM hX86 hS _ (lv_sub hl [] rfl) h
        · have h := zf h hc87
          refine lv_aload_n hx hb dX9_copyFrom_131 rfl (lv_at hl 0 rfl) ?_
          obtain ⟨hq89, h⟩ := zk h
          refine z_getN hx hb hg zin_9 hown hK hM h82 9 rfl (by decide) (hg _ zw_142) (fun _ h9 => h9) hq89 dX9_copyFrom_132 (fun h88 => ?_)
          refine lv_iload_n hx hb dX9_copyFrom_135 rfl (lv_at hl 2 rfl) ?_
          obtain ⟨hq90, h⟩ := zk h
          refine z_aald hx hb hK hM h88 (by decide) rfl hq90 dX9_copyFrom_136 (fun h91 => ?_)
          have h91 : zQ S85 (zr S85 (zr S85 a0 9) (Int32.toNatClampNeg x84)) 1 := h91
          obtain ⟨hq92, h⟩ := zk h
          have h93 := h91.nn hq92
          refine z_nn h93.1 ?_
          refine lv_aload_n hx hb dX9_copyFrom_137 rfl (lv_at hl 1 rfl) ?_
          obtain ⟨hq95, h⟩ := zk h
          refine z_getN hx hb hg zin_9 hown hK hM h83 9 rfl (by decide) (hg _ zw_142) (fun _ h9 => h9) hq95 dX9_copyFrom_138 (fun h94 => ?_)
          refine lv_iload_n hx hb dX9_copyFrom_141 rfl (lv_at hl 2 rfl) ?_
          obtain ⟨hq96, h⟩ := zk h
          refine z_aald hx hb hK hM h94 (by decide) rfl hq96 dX9_copyFrom_142 (fun h97 => ?_)
          have h97 : zQ S85 (zr S85 (zr S85 a1 9) (Int32.toNatClampNeg x84)) 1 := h97
          obtain ⟨hq98, h⟩ := zk h
          have h99 := h97.nn hq98
          refine z_nn h99.1 ?_
          obtain ⟨S101, hr100, h⟩ := zb1 h
          refine z_runv (va_runV (As := [.ref (B + (zr S85 (zr S85 a1 9) (Int32.toNatClampNeg x84)))]) (rest := []) ⟨hx, hb, hml, hown, hg⟩ (c_X1_copyFrom l D cy B h93 h99 hr100) (z_cwV hg zw_624 zw_625 zw_626 zw_6 zw_627 zh_X1_copyFrom ⟨(Nat.le_of_ble_eq_true rfl), (Nat.le_of_ble_eq_true rfl)⟩) (zPV hC hM h93 (by decide) rfl) rfl rfl hl.1 rfl (lv_room (Nat.le_of_ble_eq_true rfl)) dX9_copyFrom_143 ⟨(Nat.le_of_ble_eq_true rfl), (Nat.le_of_ble_eq_true rfl)⟩) hS (fun H locs hM hX102 hS => ?_)
          have h104 := h82.mo hX102
          have h105 := h83.mo hX102
          have hX106 := hX86.tr hX102
          refine lv_iinc (v := (x84 + (1 : Int32))) (lv' := [(2, .int (x84 + (1 : Int32))), (0, .ref (B + a0)), (1, .ref (B + a1))]) hx hb dX9_copyFrom_146 hl (k := 2) rfl rfl (by decide) rfl (fun ls hl => ?_)
          refine lv_goto (tgt := 123) hx hb dX9_copyFrom_149 (by decide) ?_
          exact ih123 (x84 + (1 : Int32)) S101 _ _ hM hX106 hS h104 h105 _ (lv_sub hl [1, 2, 0] rfl) h
    exact hL123 n (0 : Int32) S76 _ _ hM hX77 hS h74 h75 _ (lv_sub hl [1, 2, 0] rfl) h
  have hL97 : ∀ (k : Nat) (x109 : Int32) (S110 : zM) (H : Heap) (locs : List Loc), zMR D cy B S110 H → zX S0 S110 → va_S (fun q => B < q) s.heap H locs → zA S110 a0 9 → zA S110 a1 9 → ∀ ls : Array Slot, lv_has ls 3 [(0, .ref (B + a0)), (1, .ref (B + a1)), (2, .int x109)] → f_X9_copyFrom_L97 a0 a1 K78 k x109 S110 = some S' → W p l e (headSpec (zws yX9_copyFrom cX9_copyFrom 3 none) { frames := 2, cells := 0, slots := 0, locals := 101 }).room s m (([.ref (B + a0), .ref (B + a1)] : List Value).toArray) below meth c H locs 0 0 (MQ below (zQv D cy B S0 S') (([.ref (B + a0), .ref (B + a1)] : List Value).toArray) s 0 0 (fun q => B < q)) (F0 m 97 ls []) := by
    intro k
    induction k with
    | zero =>
      intro x109 S110 H locs hM hX111 hS h107 h108 ls hl h
      exact znone h
    | succ k ih97 =>
      intro x109 S110 H locs hM hX111 hS h107 h108 ls hl h
      replace h : f_X9_copyFrom_L97b a0 a1 K78 (f_X9_copyFrom_L97 a0 a1 K78 k) x109 S110 = some S' := h
      generalize f_X9_copyFrom_L97 a0 a1 K78 k = rec97 at ih97 h
      unfold f_X9_copyFrom_L97b at h
      refine lv_iload_n hx hb dX9_copyFrom_97 rfl (lv_at hl 2 rfl) ?_
      refine lv_bipush (v := (12 : Int32)) hx hb dX9_copyFrom_98 (by decide +kernel) ?_
      refine lv_icmp_ge (tgt := 121) hx hb dX9_copyFrom_100 (by decide) (fun hc112 => ?_) (fun hc112 => ?_)
      · have h := zt h hc112
        exact hK78 S110 _ _ hM hX111 hS h107 h108 _ (lv_sub hl [0, 1] rfl) h
      · have h := zf h hc112
        refine lv_aload_n hx hb dX9_copyFrom_103 rfl (lv_at hl 0 rfl) ?_
        obtain ⟨hq114, h⟩ := zk h
        refine z_getN hx hb hg zin_9 hown hK hM h107 8 rfl (by decide) (hg _ zw_141) (fun _ h9 => h9) hq114 dX9_copyFrom_104 (fun h113 => ?_)
        refine lv_iload_n hx hb dX9_copyFrom_107 rfl (lv_at hl 2 rfl) ?_
        refine lv_aload_n hx hb dX9_copyFrom_108 rfl (lv_at hl 1 rfl) ?_
        obtain ⟨hq116, h⟩ := zk h
        refine z_getN hx hb hg zin_9 hown hK hM h108 8 rfl (by decide) (hg _ zw_141) (fun _ h9 => h9) hq116 dX9_copyFrom_109 (fun h115 => ?_)
        refine lv_iload_n hx hb dX9_copyFrom_112 rfl (lv_at hl 2 rfl) ?_
        obtain ⟨hq117, h⟩ := zk h
        refine z_aald hx hb hK hM h115 (by decide) rfl hq117 dX9_copyFrom_113 (fun h118 => ?_)
        have h118 : zQ S110 (zr S110 (zr S110 a1 8) (Int32.toNatClampNeg x109)) 2 := h118
        obtain ⟨hq119, h⟩ := zk h
        refine z_aast (r := (zr S110 (zr S110 a1 8) (Int32.toNatClampNeg x109))) hx hb hK hM hS h113 (by decide) (q := (RX2, TX2, 5)) rfl (fun _ => rfl) (by decide) rfl rfl (h118) hq119 dX9_copyFrom_114 (fun H locs hM hS => ?_)
        obtain ⟨S120, e121, h⟩ := zlg h
        rw [← e121] at hM
        have hX122 : zX S110 S120 := by rw [e121]; exact zX_pR
        have h123 := h107.mo hX122
        have h124 := h108.mo hX122
        have hX125 := hX111.tr hX122
        refine lv_iinc (v := (x109 + (1 : Int32))) (lv' := [(2, .int (x109 + (1 : Int32))), (0, .ref (B + a0)), (1, .ref (B + a1))]) hx hb dX9_copyFrom_115 hl (k := 2) rfl rfl (by decide) rfl (fun ls hl => ?_)
        refine lv_goto (tgt := 97) hx hb dX9_copyFrom_118 (by decide) ?_
        exact ih97 (x109 + (1 : Int32)) S120 _ _ hM hX125 hS h123 h124 _ (lv_sub hl [1, 2, 0] rfl) h
  exact hL97 n (0 : Int32) S68 _ _ hM hX73 hS h71 h72 _ (lv_sub hl [1, 2, 0] rfl) h
def f_X9_addDiver (S0 : zM) (a0 : Nat) (v1 : Int32) (v2 : Int32) : Option (Int32 × zM) :=
  zLet (f_X11_within (zi S0 a0 5) (8 : Int32)) (fun r2 => if r2 = 0 then some (((-2 : Int32), S0)) else zChk (¬ (zr S0 a0 0) = 0) (zChk (¬ ((zi S0 a0 5) < 0 ∨ zln S0 (zr S0 a0 0) ≤ ((zi S0 a0 5)).toNatClampNeg)) (zLet (zpI S0 (zr S0 a0 0) (Int32.toNatClampNeg (zi S0 a0 5)) v1) (fun S9 => zChk (¬ (zr S9 a0 1) = 0) (zChk (¬ ((zi S9 a0 5) < 0 ∨ zln S9 (zr S9 a0 1) ≤ ((zi S9 a0 5)).toNatClampNeg)) (zLet (zpI S9 (zr S9 a0 1) (Int32.toNatClampNeg (zi S9 a0 5)) v2) (fun S17 => zLet (zpI S17 a0 5 ((zi S17 a0 5) + (1 : Int32))) (fun S22 => some ((((zi S22 a0 5) - (1 : Int32)), S22))))))))))
set_option maxHeartbeats 4000000 in
set_option maxRecDepth 100000 in
theorem c_X9_addDiver (l : Launch) (D : va_G) (cy : Nat → ClassId) (B : Nat) {S0 : zM} {a0 : Nat} {v1 : Int32} {v2 : Int32} {r : Int32} {S' : zM} (ha0 : zA S0 a0 9) (h : f_X9_addDiver S0 a0 v1 v2 = some (r, S')) : Met l yX9_addDiver (zws yX9_addDiver cX9_addDiver 3 ((some .int))) { frames := 1, cells := 0, slots := 0, locals := 21 } (zPc D cy B S0 [.ref (B + a0), .int v1, .int v2]) (zQi D cy B S0 r S') 0 0 (fun q => B < q) := by
  refine Met.ofW (cc := cX9_addDiver) (maxL := 3) (ret := ((some .int))) (by decide) rfl ?_
  intro p e s m args below meth c s₁ Bd hml hv
  obtain ⟨rfl, hC, hM⟩ := hv
  obtain ⟨hx, hb, hr, hg, hown, hlk⟩ := z_open Bd
  have hK := hC.1
  have hS : va_S (fun q => B < q) s.heap s.heap [] := va_S.rf
  have hX0 : zX S0 S0 := zX.rf
  refine z_entry (vs := [.ref (B + a0), .int v1, .int v2]) (Nat.le_of_ble_eq_true rfl) (fun ls hl => ?_)
  have hl : lv_has ls 3 [(0, .ref (B + a0)), (1, .int v1), (2, .int v2)] := hl
  unfold f_X9_addDiver at h
  refine lv_aload_n hx hb dX9_addDiver_0 rfl (lv_at hl 0 rfl) ?_
  refine z_getI hx hb hg zin_9 hown hK hM ha0 5 rfl (by decide) (hg _ zw_132) (fun _ h9 => h9) dX9_addDiver_1 ?_
  refine lv_bipush (v := (8 : Int32)) hx hb dX9_addDiver_4 (by decide +kernel) ?_
  obtain ⟨r2, hr1, h⟩ := zlg h
  have hr1 := hr1.symm
  refine z_runi (va_runSN (As := [.int (zi S0 a0 5), .int (8 : Int32)]) (rest := []) ⟨hx, hb, hml, hown, hg⟩ (c_X11_within l D cy B hr1) ⟨z_cnB hg hC (List.mem_of_getElem? (i := 9) rfl) zw_2 zw_292 zh_X11_within.2 ⟨(Nat.le_of_ble_eq_true rfl), (Nat.le_of_ble_eq_true rfl)⟩, hg _ zw_291, trivial⟩ (zPS hC hM) rfl rfl hl.1 rfl (lv_room (Nat.le_of_ble_eq_true rfl)) dX9_addDiver_6 ⟨(Nat.le_of_ble_eq_true rfl), (Nat.le_of_ble_eq_true rfl)⟩) hS (fun H locs hM hX3 hS => ?_)
  refine lv_if_ne (tgt := 15) hx hb dX9_addDiver_9 (by decide) (fun hc5 => ?_) (fun hc5 => ?_)
  · have h := zf h hc5
    refine lv_aload_n hx hb dX9_addDiver_15 rfl (lv_at hl 0 rfl) ?_
    obtain ⟨hq7, h⟩ := zk h
    refine z_getN hx hb hg zin_9 hown hK hM ha0 0 rfl (by decide) (hg _ zw_124) (fun _ h9 => h9) hq7 dX9_addDiver_16 (fun h6 => ?_)
    refine lv_aload_n hx hb dX9_addDiver_19 rfl (lv_at hl 0 rfl) ?_
    refine z_getI hx hb hg zin_9 hown hK hM ha0 5 rfl (by decide) (hg _ zw_132) (fun _ h9 => h9) dX9_addDiver_20 ?_
    refine lv_iload_n hx hb dX9_addDiver_23 rfl (lv_at hl 1 rfl) ?_
    obtain ⟨hq8, h⟩ := zk h
    refine z_iast hx hb hK hM hS h6 hq8 dX9_addDiver_24 (fun H locs hM hS => ?_)
    obtain ⟨S9, e10, h⟩ := zlg h
    rw [← e10] at hM
    have hX11 : zX S0 S9 := by rw [e10]; exact zX_pI
    have h12 := ha0.mo hX11
    have hX13 := hX0.tr hX11
    refine lv_aload_n hx hb dX9_addDiver_25 rfl (lv_at hl 0 rfl) ?_
    obtain ⟨hq15, h⟩ := zk h
    refine z_getN hx hb hg zin_9 hown hK hM h12 1 rfl (by decide) (hg _ zw_125) (fun _ h9 => h9) hq15 dX9_addDiver_26 (fun h14 => ?_)
    refine lv_aload_n hx hb dX9_addDiver_29 rfl (lv_at hl 0 rfl) ?_
    refine z_getI hx hb hg zin_9 hown hK hM h12 5 rfl (by decide) (hg _ zw_132) (fun _ h9 => h9) dX9_addDiver_30 ?_
    refine lv_iload_n hx hb dX9_addDiver_33 rfl (lv_at hl 2 rfl) ?_
    obtain ⟨hq16, h⟩ := zk h
    refine z_iast hx hb hK hM hS h14 hq16 dX9_addDiver_34 (fun H locs hM hS => ?_)
    obtain ⟨S17, e18, h⟩ := zlg h
    rw [← e18] at hM
    have hX19 : zX S9 S17 := by rw [e18]; exact zX_pI
    have h20 := h12.mo hX19
    have hX21 := hX13.tr hX19
    refine lv_aload_n hx hb dX9_addDiver_35 rfl (lv_at hl 0 rfl) ?_
    refine lv_dup hx hb dX9_addDiver_36 rfl ?_
    refine z_getI hx hb hg zin_9 hown hK hM h20 5 rfl (by decide) (hg _ zw_132) (fun _ h9 => h9) dX9_addDiver_37 ?_
    refine lv_iconst (v := (1 : Int32)) hx hb dX9_addDiver_40 (by decide +kernel) ?_
    refine lv_iadd hx hb dX9_addDiver_41 ?_
    refine z_putI hx hb hg zin_9 tyX9 tyX9_ok nmX9 hown hK hM hS h20 5 rfl (by decide) (hg _ zw_132) (fun _ h9 => h9) (Or.inl rfl) (tyX9_ok 5 (by decide)) rfl rfl dX9_addDiver_42 (fun H locs hM hS => ?_)
    obtain ⟨S22, e23, h⟩ := zlg h
    rw [← e23] at hM
    have hX24 : zX S17 S22 := by rw [e23]; exact zX_pI
    have h25 := h20.mo hX24
    have hX26 := hX21.tr hX24
    refine lv_aload_n hx hb dX9_addDiver_45 rfl (lv_at hl 0 rfl) ?_
    refine z_getI hx hb hg zin_9 hown hK hM h25 5 rfl (by decide) (hg _ zw_132) (fun _ h9 => h9) dX9_addDiver_46 ?_
    refine lv_iconst (v := (1 : Int32)) hx hb dX9_addDiver_49 (by decide +kernel) ?_
    refine lv_isub hx hb dX9_addDiver_50 ?_
    exact z_iret hx hb hr hlk hM hX26 hS (zsp h) dX9_addDiver_51
  · have h := zt h hc5
    refine lv_bipush (v := (-2 : Int32)) hx hb dX9_addDiver_12 (by decide +kernel) ?_
    exact z_iret hx hb hr hlk hM hX0 hS (zsp h) dX9_addDiver_14
