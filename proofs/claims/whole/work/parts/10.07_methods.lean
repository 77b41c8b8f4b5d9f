def f_X12_begins (S0 : zM) (a0 : Nat) (v1 : Int32) : Option (zM) :=
  zLet (zpR S0 a0 17 (zr S0 a0 5)) (fun S2 => zLet (zpI S2 a0 13 ((120 : Int32) * v1)) (fun S7 => zChk (¬ (zr S7 a0 4) = 0) (zChk (¬ (v1 < 0 ∨ zln S7 (zr S7 a0 4) ≤ (v1).toNatClampNeg)) (zLet (zpI S7 a0 14 (zi S7 (zr S7 a0 4) (Int32.toNatClampNeg v1))) (fun S15 => zLet (zpI S15 a0 12 (0 : Int32)) (fun S20 => some S20))))))
set_option maxHeartbeats 4000000 in
set_option maxRecDepth 100000 in
theorem c_X12_begins (l : Launch) (D : va_G) (cy : Nat → ClassId) (B : Nat) {S0 : zM} {a0 : Nat} {v1 : Int32} {S' : zM} (ha0 : zA S0 a0 12) (h : f_X12_begins S0 a0 v1 = some S') : Met l yX12_begins (zws yX12_begins cX12_begins 2 none) { frames := 0, cells := 0, slots := 0, locals := 0 } (zPc D cy B S0 [.ref (B + a0), .int v1]) (zQv D cy B S0 S') 0 0 (fun q => B < q) := by
  refine Met.ofW (cc := cX12_begins) (maxL := 2) (ret := none) (by decide) rfl ?_
  intro p e s m args below meth c s₁ Bd hml hv
  obtain ⟨rfl, hC, hM⟩ := hv
  obtain ⟨hx, hb, hr, hg, hown, hlk⟩ := z_open Bd
  have hK := hC.1
  have hS : va_S (fun q => B < q) s.heap s.heap [] := va_S.rf
  have hX0 : zX S0 S0 := zX.rf
  refine z_entry (vs := [.ref (B + a0), .int v1]) (Nat.le_of_ble_eq_true rfl) (fun ls hl => ?_)
  have hl : lv_has ls 2 [(0, .ref (B + a0)), (1, .int v1)] := hl
  unfold f_X12_begins at h
  refine lv_aload_n hx hb dX12_begins_0 rfl (lv_at hl 0 rfl) ?_
  refine lv_aload_n hx hb dX12_begins_1 rfl (lv_at hl 0 rfl) ?_
  refine z_getR hx hb hg zin_12 hown hK hM ha0 5 rfl (by decide) (hg _ zw_1005) (fun _ h9 => h9) dX12_begins_2 (fun h1 => ?_)
  refine z_putR (r := (zr S0 a0 5)) hx hb hg zin_12 tyX12 tyX12_ok nmX12 hown hK hM hS ha0 17 rfl (by decide) (hg _ zw_1017) (fun _ h9 => h9) (Or.inl rfl) rfl (tyX12_ok 17 (by decide)) (Or.inr ⟨_, rfl⟩) (h1) dX12_begins_5 (fun H locs hM hS => ?_)
  obtain ⟨S2, e3, h⟩ := zlg h
  rw [← e3] at hM
  have hX4 : zX S0 S2 := by rw [e3]; exact zX_pR
  have h5 := ha0.mo hX4
  have hX6 := hX0.tr hX4
  refine lv_aload_n hx hb dX12_begins_8 rfl (lv_at hl 0 rfl) ?_
  refine lv_bipush (v := (120 : Int32)) hx hb dX12_begins_9 (by decide +kernel) ?_
  refine lv_iload_n hx hb dX12_begins_11 rfl (lv_at hl 1 rfl) ?_
  refine lv_imul hx hb dX12_begins_12 ?_
  refine z_putI hx hb hg zin_12 tyX12 tyX12_ok nmX12 hown hK hM hS h5 13 rfl (by decide) (hg _ zw_1013) (fun _ h9 => h9) (Or.inl rfl) (tyX12_ok 13 (by decide)) rfl rfl dX12_begins_13 (fun H locs hM hS => ?_)
  obtain ⟨S7, e8, h⟩ := zlg h
  rw [← e8] at hM
  have hX9 : zX S2 S7 := by rw [e8]; exact zX_pI
  have h10 := h5.mo hX9
  have hX11 := hX6.tr hX9
  refine lv_aload_n hx hb dX12_begins_16 rfl (lv_at hl 0 rfl) ?_
  refine lv_aload_n hx hb dX12_begins_17 rfl (lv_at hl 0 rfl) ?_
  obtain ⟨hq13, h⟩ := zk h
  refine z_getN hx hb hg zin_12 hown hK hM h10 4 rfl (by decide) (hg _ zw_1004) (fun _ h9 => h9) hq13 dX12_begins_18 (fun h12 => ?_)
  refine lv_iload_n hx hb dX12_begins_21 rfl (lv_at hl 1 rfl) ?_
  obtain ⟨hq14, h⟩ := zk h
  refine z_iald hx hb hK hM h12 hq14 dX12_begins_22 ?_
  refine z_putI hx hb hg zin_12 tyX12 tyX12_ok nmX12 hown hK hM hS h10 14 rfl (by decide) (hg _ zw_1014) (fun _ h9 => h9) (Or.inl rfl) (tyX12_ok 14 (by decide)) rfl rfl dX12_begins_23 (fun H locs hM hS => ?_)
  obtain ⟨S15, e16, h⟩ := zlg h
  rw [← e16] at hM
  have hX17 : zX S7 S15 := by rw [e16]; exact zX_pI
  have h18 := h10.mo hX17
  have hX19 := hX11.tr hX17
  refine lv_aload_n hx hb dX12_begins_26 rfl (lv_at hl 0 rfl) ?_
  refine lv_iconst (v := (0 : Int32)) hx hb dX12_begins_27 (by decide +kernel) ?_
  refine z_putI hx hb hg zin_12 tyX12 tyX12_ok nmX12 hown hK hM hS h18 12 rfl (by decide) (hg _ zw_1012) (fun _ h9 => h9) (Or.inl rfl) (tyX12_ok 12 (by decide)) rfl rfl dX12_begins_28 (fun H locs hM hS => ?_)
  obtain ⟨S20, e21, h⟩ := zlg h
  rw [← e21] at hM
  have hX22 : zX S15 S20 := by rw [e21]; exact zX_pI
  have hX23 := hX19.tr hX22
  exact z_vret hx hb hr hlk hM hX23 hS (zsm h) dX12_begins_31
def f_X12_rule_L254b (a0 : Nat) (K69 : zM → Option (Int32 × zM)) (rec254 : Int32 → zM → Option (Int32 × zM)) (x71 : Int32) (S72 : zM) : Option (Int32 × zM) :=
  if ((zi S72 a0 21) - (zi S72 a0 20)) ≤ x71 then K69 S72 else zChk (¬ (zr S72 a0 0) = 0) (zChk (¬ (zr S72 a0 5) = 0) (zChk (¬ ((((zi S72 a0 13) + (zi S72 a0 20)) + x71) < 0 ∨ zln S72 (zr S72 a0 5) ≤ ((((zi S72 a0 13) + (zi S72 a0 20)) + x71)).toNatClampNeg)) (zChk (¬ (((880 : Int32) + x71) < 0 ∨ zln S72 (zr S72 a0 0) ≤ (((880 : Int32) + x71)).toNatClampNeg)) (zLet (zpI S72 (zr S72 a0 0) (Int32.toNatClampNeg ((880 : Int32) + x71)) (zi S72 (zr S72 a0 5) (Int32.toNatClampNeg (((zi S72 a0 13) + (zi S72 a0 20)) + x71)))) (fun S81 => rec254 (x71 + (1 : Int32)) S81)))))
def f_X12_rule_L254 (a0 : Nat) (K69 : zM → Option (Int32 × zM)) : Nat → Int32 → zM → Option (Int32 × zM)
  | 0 => fun _ _ => none
  | k + 1 => fun x71 S72 => f_X12_rule_L254b a0 K69 (f_X12_rule_L254 a0 K69 k) x71 S72
def f_X12_rule_L146b (n : Nat) (a0 : Nat) (K33 : zM → Option (Int32 × zM)) (rec146 : zM → Option (Int32 × zM)) (S35 : zM) : Option (Int32 × zM) :=
  if (zi S35 a0 14) ≤ (zi S35 a0 12) then K33 S35 else zB1 (f_X12_sign S35 a0) (fun r39 => zB2 (f_X12_readsStatement n S35 a0) (fun r43 S44 => zLet (fun (S50 : zM) => zLet (fun (S54 : zM) => if r39 = (102 : Int32) then zChk (¬ (zr S54 a0 0) = 0) (zChk (¬ ((1000 : Int32) < 0 ∨ zln S54 (zr S54 a0 0) ≤ ((1000 : Int32)).toNatClampNeg)) (zLet (zpI S54 (zr S54 a0 0) (Int32.toNatClampNeg (1000 : Int32)) ((zi S54 a0 21) - (zi S54 a0 20))) (fun S61 => zLet (fun (S67 : zM) => rec146 S67) (fun K69 => f_X12_rule_L254 a0 K69 n (0 : Int32) S61)))) else rec146 S54) (fun K56 => if r39 = (100 : Int32) then zChk (¬ (zr S50 a0 0) = 0) (zChk (¬ ((878 : Int32) < 0 ∨ zln S50 (zr S50 a0 0) ≤ ((878 : Int32)).toNatClampNeg)) (zLet (zpI S50 (zr S50 a0 0) (Int32.toNatClampNeg (878 : Int32)) (zi S50 a0 18)) (fun S90 => zChk (¬ (zr S90 a0 0) = 0) (zChk (¬ ((879 : Int32) < 0 ∨ zln S90 (zr S90 a0 0) ≤ ((879 : Int32)).toNatClampNeg)) (zLet (zpI S90 (zr S90 a0 0) (Int32.toNatClampNeg (879 : Int32)) (zi S90 a0 19)) (fun S98 => K56 S98)))))) else K56 S50)) (fun K52 => if r39 = (111 : Int32) then zChk (¬ (zr S44 a0 0) = 0) (zChk (¬ (((872 : Int32) + (zi S44 a0 18)) < 0 ∨ zln S44 (zr S44 a0 0) ≤ (((872 : Int32) + (zi S44 a0 18))).toNatClampNeg)) (zLet (zpI S44 (zr S44 a0 0) (Int32.toNatClampNeg ((872 : Int32) + (zi S44 a0 18))) (zi S44 a0 19)) (fun S107 => K52 S107))) else K52 S44)))
def f_X12_rule_L146 (n : Nat) (a0 : Nat) (K33 : zM → Option (Int32 × zM)) : Nat → zM → Option (Int32 × zM)
  | 0 => fun _ => none
  | k + 1 => fun S35 => f_X12_rule_L146b n a0 K33 (f_X12_rule_L146 n a0 K33 k) S35
def f_X12_rule_L55b (n : Nat) (a0 : Nat) (K25 : zM → Option (Int32 × zM)) (rec55 : zM → Option (Int32 × zM)) (S113 : zM) : Option (Int32 × zM) :=
  if (zi S113 a0 14) ≤ (zi S113 a0 12) then K25 S113 else zB1 (f_X12_sign S113 a0) (fun r117 => zB2 (f_X12_readsStatement n S113 a0) (fun r121 S122 => zLet (if r117 = (100 : Int32) then if (3 : Int32) < (zi S122 a0 18) then some ((((-2000 : Int32) - (zi S113 a0 12)), S122)) else if (zi S122 a0 19) ≤ (3 : Int32) then rec55 S122 else some ((((-2000 : Int32) - (zi S113 a0 12)), S122)) else rec55 S122) (fun K129 => if r117 = (111 : Int32) then if (5 : Int32) < (zi S122 a0 18) then some ((((-2000 : Int32) - (zi S113 a0 12)), S122)) else if (20 : Int32) < (zi S122 a0 19) then some ((((-2000 : Int32) - (zi S113 a0 12)), S122)) else K129 else K129)))
def f_X12_rule_L55 (n : Nat) (a0 : Nat) (K25 : zM → Option (Int32 × zM)) : Nat → zM → Option (Int32 × zM)
  | 0 => fun _ => none
  | k + 1 => fun S113 => f_X12_rule_L55b n a0 K25 (f_X12_rule_L55 n a0 K25 k) S113
def f_X12_rule_L20b (n : Nat) (a0 : Nat) (K16 : Int32 → zM → Option (Int32 × zM)) (rec20 : Int32 → zM → Option (Int32 × zM)) (x137 : Int32) (S138 : zM) : Option (Int32 × zM) :=
  zB2 (f_X12_readsStatement n S138 a0) (fun r141 S142 => if r141 = 0 then some ((((-1000 : Int32) - (zi S142 a0 12)), S142)) else if (zi S142 a0 12) < (zi S142 a0 14) then rec20 (x137 + (1 : Int32)) S142 else K16 (x137 + (1 : Int32)) S142)
def f_X12_rule_L20 (n : Nat) (a0 : Nat) (K16 : Int32 → zM → Option (Int32 × zM)) : Nat → Int32 → zM → Option (Int32 × zM)
  | 0 => fun _ _ => none
  | k + 1 => fun x137 S138 => f_X12_rule_L20b n a0 K16 (f_X12_rule_L20 n a0 K16 k) x137 S138
def f_X12_rule (n : Nat) (S0 : zM) (a0 : Nat) (v1 : Int32) : Option (Int32 × zM) :=
  zB1 (f_X12_wrongRow S0 a0 v1 (0 : Int32)) (fun r2 => if r2 = 0 then zB1 (f_X12_begins S0 a0 v1) (fun S7 => zLet (fun (x13 : Int32) (S14 : zM) => zLet (zpI S14 a0 12 (0 : Int32)) (fun S17 => zLet (fun (S23 : zM) => zLet (zpI S23 a0 12 (0 : Int32)) (fun S26 => zLet (fun (S31 : zM) => some ((x13, S31))) (fun K33 => f_X12_rule_L146 n a0 K33 n S26))) (fun K25 => f_X12_rule_L55 n a0 K25 n S17))) (fun K16 => f_X12_rule_L20 n a0 K16 n (0 : Int32) S7)) else some ((r2, S0)))
set_option maxHeartbeats 4000000 in
set_option maxRecDepth 100000 in
theorem c_X12_rule (l : Launch) (D : va_G) (cy : Nat → ClassId) (B : Nat) {n : Nat} {S0 : zM} {a0 : Nat} {v1 : Int32} {r : Int32} {S' : zM} (ha0 : zA S0 a0 12) (h : f_X12_rule n S0 a0 v1 = some (r, S')) : Met l yX12_rule (zws yX12_rule cX12_rule 7 ((some .int))) { frames := 34, cells := 0, slots := 0, locals := 737 } (zPc D cy B S0 [.ref (B + a0), .int v1]) (zQi D cy B S0 r S') 0 0 (fun q => B < q) := by
  refine Met.ofW (cc := cX12_rule) (maxL := 7) (ret := ((some .int))) (by decide) rfl ?_
  intro p e s m args below meth c s₁ Bd hml hv
  obtain ⟨rfl, hC, hM⟩ := hv
  obtain ⟨hx, hb, hr, hg, hown, hlk⟩ := z_open Bd
  have hK := hC.1
  have hS : va_S (fun q => B < q) s.heap s.heap [] := va_S.rf
  have hX0 : zX S0 S0 := zX.rf
  refine z_entry (vs := [.ref (B + a0), .int v1]) (Nat.le_of_ble_eq_true rfl) (fun ls hl => ?_)
  have hl : lv_has ls 7 [(0, .ref (B + a0)), (1, .int v1)] := hl
  unfold f_X12_rule at h
  refine lv_aload_n hx hb dX12_rule_0 rfl (lv_at hl 0 rfl) ?_
  refine lv_iload_n hx hb dX12_rule_1 rfl (lv_at hl 1 rfl) ?_
  refine lv_iconst (v := (0 : Int32)) hx hb dX12_rule_2 (by decide +kernel) ?_
  obtain ⟨r2, hr1, h⟩ := zb1 h
  refine z_runi (va_runV (As := [.int v1, .int (0 : Int32)]) (rest := []) ⟨hx, hb, hml, hown, hg⟩ (c_X12_wrongRow l D cy B ha0 hr1) (z_cwV hg zw_1212 zw_1213 zw_1496 zw_13 zw_1214 zh_X12_wrongRow ⟨(Nat.le_of_ble_eq_true rfl), (Nat.le_of_ble_eq_true rfl)⟩) (zPV hC hM ha0 (by decide) rfl) rfl rfl hl.1 rfl (lv_room (Nat.le_of_ble_eq_true rfl)) dX12_rule_3 ⟨(Nat.le_of_ble_eq_true rfl), (Nat.le_of_ble_eq_true rfl)⟩) hS (fun H locs hM hX3 hS => ?_)
  refine lv_istore_n (i := 2) (lv' := [(2, .int r2), (0, .ref (B + a0)), (1, .int v1)]) hx hb dX12_rule_6 rfl hl (by decide) rfl (fun ls hl => ?_)
  refine lv_iload_n hx hb dX12_rule_7 rfl (lv_at hl 0 rfl) ?_
  refine lv_if_eq (tgt := 13) hx hb dX12_rule_8 (by decide) (fun hc5 => ?_) (fun hc5 => ?_)
  · have h := zt h hc5
    refine lv_aload_n hx hb dX12_rule_13 rfl (lv_at hl 1 rfl) ?_
    refine lv_iload_n hx hb dX12_rule_14 rfl (lv_at hl 2 rfl) ?_
    obtain ⟨S7, hr6, h⟩ := zb1 h
    refine z_runv (va_runV (As := [.int v1]) (rest := []) ⟨hx, hb, hml, hown, hg⟩ (c_X12_begins l D cy B ha0 hr6) (z_cwV hg zw_1230 zw_1231 zw_1498 zw_13 zw_1232 zh_X12_begins ⟨(Nat.le_of_ble_eq_true rfl), (Nat.le_of_ble_eq_true rfl)⟩) (zPV hC hM ha0 (by decide) rfl) rfl rfl hl.1 rfl (lv_room (Nat.le_of_ble_eq_true rfl)) dX12_rule_15 ⟨(Nat.le_of_ble_eq_true rfl), (Nat.le_of_ble_eq_true rfl)⟩) hS (fun H locs hM hX8 hS => ?_)
    have h10 := ha0.mo hX8
    have hX11 := hX0.tr hX8
    refine lv_iconst (v := (0 : Int32)) hx hb dX12_rule_18 (by decide +kernel) ?_
    refine lv_istore_n (i := 3) (lv' := [(3, .int (0 : Int32)), (2, .int r2), (0, .ref (B + a0)), (1, .int v1)]) hx hb dX12_rule_19 rfl hl (by decide) rfl (fun ls hl => ?_)
    obtain ⟨K16, eK16, h⟩ := zlg h
    have hK16 : ∀ (x13 : Int32) (S14 : zM) (H : Heap) (locs : List Loc), zMR D cy B S14 H → zX S0 S14 → va_S (fun q => B < q) s.heap H locs → zA S14 a0 12 → ∀ ls : Array Slot, lv_has ls 7 [(0, .ref (B + a0)), (3, .int x13)] → K16 x13 S14 = some (r, S') → W p l e (headSpec (zws yX12_rule cX12_rule 7 ((some .int))) { frames := 34, cells := 0, slots := 0, locals := 737 }).room s m (([.ref (B + a0), .int v1] : List Value).toArray) below meth c H locs 0 0 (MQ below (zQi D cy B S0 r S') (([.ref (B + a0), .int v1] : List Value).toArray) s 0 0 (fun q => B < q)) (F0 m 50 ls []) := by
      intro x13 S14 H locs hM hX15 hS h12 ls hl h
      rw [eK16] at h
      refine lv_aload_n hx hb dX12_rule_50 rfl (lv_at hl 0 rfl) ?_
      refine lv_iconst (v := (0 : Int32)) hx hb dX12_rule_51 (by decide +kernel) ?_
      refine z_putI hx hb hg zin_12 tyX12 tyX12_ok nmX12 hown hK hM hS h12 12 rfl (by decide) (hg _ zw_1012) (fun _ h9 => h9) (Or.inl rfl) (tyX12_ok 12 (by decide)) rfl rfl dX12_rule_52 (fun H locs hM hS => ?_)
      obtain ⟨S17, e18, h⟩ := zlg h
      rw [← e18] at hM
      have hX19 : zX S14 S17 := by rw [e18]; exact zX_pI
      have h20 := h12.mo hX19
      have hX21 := hX15.tr hX19
      obtain ⟨K25, eK25, h⟩ := zlg h
      have hK25 : ∀ (S23 : zM) (H : Heap) (locs : List Loc), zMR D cy B S23 H → zX S0 S23 → va_S (fun q => B < q) s.heap H locs → zA S23 a0 12 → ∀ ls : Array Slot, lv_has ls 7 [(0, .ref (B + a0)), (3, .int x13)] → K25 S23 = some (r, S') → W p l e (headSpec (zws yX12_rule cX12_rule 7 ((some .int))) { frames := 34, cells := 0, slots := 0, locals := 737 }).room s m (([.ref (B + a0), .int v1] : List Value).toArray) below meth c H locs 0 0 (MQ below (zQi D cy B S0 r S') (([.ref (B + a0), .int v1] : List Value).toArray) s 0 0 (fun q => B < q)) (F0 m 141 ls []) := by
        intro S23 H locs hM hX24 hS h22 ls hl h
        rw [eK25] at h
        refine lv_aload_n hx hb dX12_rule_141 rfl (lv_at hl 0 rfl) ?_
        refine lv_iconst (v := (0 : Int32)) hx hb dX12_rule_142 (by decide +kernel) ?_
        refine z_putI hx hb hg zin_12 tyX12 tyX12_ok nmX12 hown hK hM hS h22 12 rfl (by decide) (hg _ zw_1012) (fun _ h9 => h9) (Or.inl rfl) (tyX12_ok 12 (by decide)) rfl rfl dX12_rule_143 (fun H locs hM hS => ?_)
        obtain ⟨S26, e27, h⟩ := zlg h
        rw [← e27] at hM
        have hX28 : zX S23 S26 := by rw [e27]; exact zX_pI
        have h29 := h22.mo hX28
        have hX30 := hX24.tr hX28
        obtain ⟨K33, eK33, h⟩ := zlg h
        have hK33 : ∀ (S31 : zM) (H : Heap) (locs : List Loc), zMR D cy B S31 H → zX S0 S31 → va_S (fun q => B < q) s.heap H locs → ∀ ls : Array Slot, lv_has ls 7 [(3, .int x13)] → K33 S31 = some (r, S') → W p l e (headSpec (zws yX12_rule cX12_rule 7 ((some .int))) { frames := 34, cells := 0, slots := 0, locals := 737 }).room s m (([.ref (B + a0), .int v1] : List Value).toArray) below meth c H locs 0 0 (MQ below (zQi D cy B S0 r S') (([.ref (B + a0), .int v1] : List Value).toArray) s 0 0 (fun q => B < q)) (F0 m 305 ls []) := by
          intro S31 H locs hM hX32 hS ls hl h
          rw [eK33] at h
          refine lv_iload_n hx hb dX12_rule_305 rfl (lv_at hl 0 rfl) ?_
          exact z_iret hx hb hr hlk hM hX32 hS (zsp h) dX12_rule_306
        have hL146 : ∀ (k : Nat) (S35 : zM) (H : Heap) (locs : List Loc), zMR D cy B S35 H → zX S0 S35 → va_S (fun q => B < q) s.heap H locs → zA S35 a0 12 → ∀ ls : Array Slot, lv_has ls 7 [(0, .ref (B + a0)), (3, .int x13)] → f_X12_rule_L146 n a0 K33 k S35 = some (r, S') → W p l e (headSpec (zws yX12_rule cX12_rule 7 ((some .int))) { frames := 34, cells := 0, slots := 0, locals := 737 }).room s m (([.ref (B + a0), .int v1] : List Value).toArray) below meth c H locs 0 0 (MQ below (zQi D cy B S0 r S') (([.ref (B + a0), .int v1] : List Value).toArray) s 0 0 (fun q => B < q)) (F0 m 146 ls []) := by
          intro k
          induction k with
          | zero =>
            intro S35 H locs hM hX36 hS h34 ls hl h
            exact znone h
          | succ k ih146 =>
            intro S35 H locs hM hX36 hS h34 ls hl h
            replace h : f_X12_rule_L146b n a0 K33 (f_X12_rule_L146 n a0 K33 k) S35 = some (r, S') := h
            generalize f_X12_rule_L146 n a0 K33 k = rec146 at ih146 h
            unfold f_X12_rule_L146b at h
            refine lv_aload_n hx hb dX12_rule_146 rfl (lv_at hl 0 rfl) ?_
            refine z_getI hx hb hg zin_12 hown hK hM h34 12 rfl (by decide) (hg _ zw_1012) (fun _ h9 => h9) dX12_rule_147 ?_
            refine lv_aload_n hx hb dX12_rule_150 rfl (lv_at hl 0 rfl) ?_
            refine z_getI hx hb hg zin_12 hown hK hM h34 14 rfl (by decide) (hg _ zw_1014) (fun _ h9 => h9) dX12_rule_151 ?_
            refine lv_icmp_ge (tgt := 305) hx hb dX12_rule_154 (by decide) (fun hc37 => ?_) (fun hc37 => ?_)
            · have h := zt h hc37
              exact hK33 S35 _ _ hM hX36 hS _ (lv_sub hl [1] rfl) h
            · have h := zf h hc37
              refine lv_aload_n hx hb dX12_rule_157 rfl (lv_at hl 0 rfl) ?_
              obtain ⟨r39, hr38, h⟩ := zb1 h
              refine z_runi (va_runV (As := []) (rest := []) ⟨hx, hb, hml, hown, hg⟩ (c_X12_sign l D cy B h34 hr38) (z_cwV hg zw_1236 zw_1237 zw_1500 zw_13 zw_1238 zh_X12_sign ⟨(Nat.le_of_ble_eq_true rfl), (Nat.le_of_ble_eq_true rfl)⟩) (zPV hC hM h34 (by decide) rfl) rfl rfl hl.1 rfl (lv_room (Nat.le_of_ble_eq_true rfl)) dX12_rule_158 ⟨(Nat.le_of_ble_eq_true rfl), (Nat.le_of_ble_eq_true rfl)⟩) hS (fun H locs hM hX40 hS => ?_)
              refine lv_istore (i := 4) (lv' := [(4, .int r39), (0, .ref (B + a0)), (3, .int x13)]) hx hb dX12_rule_161 hl (by decide) rfl (fun ls hl => ?_)
              refine lv_aload_n hx hb dX12_rule_163 rfl (lv_at hl 1 rfl) ?_
              obtain ⟨r43, S44, hr42, h⟩ := zb2 h
              refine z_runi (va_runV (As := []) (rest := []) ⟨hx, hb, hml, hown, hg⟩ (c_X12_readsStatement l D cy B h34 hr42) (z_cwV hg zw_1233 zw_1234 zw_1499 zw_13 zw_1235 zh_X12_readsStatement ⟨(Nat.le_of_ble_eq_true rfl), (Nat.le_of_ble_eq_true rfl)⟩) (zPV hC hM h34 (by decide) rfl) rfl rfl hl.1 rfl (lv_room (Nat.le_of_ble_eq_true rfl)) dX12_rule_164 ⟨(Nat.le_of_ble_eq_true rfl), (Nat.le_of_ble_eq_true rfl)⟩) hS (fun H locs hM hX45 hS => ?_)
              have h47 := h34.mo hX45
              have hX48 := hX36.tr hX45
              refine lv_istore (i := 5) (lv' := [(5, .int r43), (4, .int r39), (0, .ref (B + a0)), (3, .int x13)]) hx hb dX12_rule_167 hl (by decide) rfl (fun ls hl => ?_)
              refine lv_iload hx hb dX12_rule_169 (lv_at hl 1 rfl) ?_
              refine lv_bipush (v := (111 : Int32)) hx hb dX12_rule_171 (by decide +kernel) ?_
              obtain ⟨K52, eK52, h⟩ := zlg h
              have hK52 : ∀ (S50 : zM) (H : Heap) (locs : List Loc), zMR D cy B S50 H → zX S0 S50 → va_S (fun q => B < q) s.heap H locs → zA S50 a0 12 → ∀ ls : Array Slot, lv_has ls 7 [(0, .ref (B + a0)), (3, .int x13), (4, .int r39)] → K52 S50 = some (r, S') → W p l e (headSpec (zws yX12_rule cX12_rule 7 ((some .int))) { frames := 34, cells := 0, slots := 0, locals := 737 }).room s m (([.ref (B + a0), .int v1] : List Value).toArray) below meth c H locs 0 0 (MQ below (zQi D cy B S0 r S') (([.ref (B + a0), .int v1] : List Value).toArray) s 0 0 (fun q => B < q)) (F0 m 193 ls []) := by
                intro S50 H locs hM hX51 hS h49 ls hl h
                rw [eK52] at h
                refine lv_iload hx hb dX12_rule_193 (lv_at hl 2 rfl) ?_
                refine lv_bipush (v := (100 : Int32)) hx hb dX12_rule_195 (by decide +kernel) ?_
                obtain ⟨K56, eK56, h⟩ := zlg h
                have hK56 : ∀ (S54 : zM) (H : Heap) (locs : List Loc), zMR D cy B S54 H → zX S0 S54 → va_S (fun q => B < q) s.heap H locs → zA S54 a0 12 → ∀ ls : Array Slot, lv_has ls 7 [(0, .ref (B + a0)), (3, .int x13), (4, .int r39)] → K56 S54 = some (r, S') → W p l e (headSpec (zws yX12_rule cX12_rule 7 ((some .int))) { frames := 34, cells := 0, slots := 0, locals := 737 }).room s m (([.ref (B + a0), .int v1] : List Value).toArray) below meth c H locs 0 0 (MQ below (zQi D cy B S0 r S') (([.ref (B + a0), .int v1] : List Value).toArray) s 0 0 (fun q => B < q)) (F0 m 224 ls []) := by
                  intro S54 H locs hM hX55 hS h53 ls hl h
                  rw [eK56] at h
                  refine lv_iload hx hb dX12_rule_224 (lv_at hl 2 rfl) ?_
                  refine lv_bipush (v := (102 : Int32)) hx hb dX12_rule_226 (by decide +kernel) ?_
                  refine lv_icmp_eq (tgt := 234) hx hb dX12_rule_228 (by decide) (fun hc57 => ?_) (fun hc57 => ?_)
                  · have h := zt h hc57
                    refine lv_aload_n hx hb dX12_rule_234 rfl (lv_at hl 0 rfl) ?_
                    obtain ⟨hq59, h⟩ := zk h
                    refine z_getN hx hb hg zin_12 hown hK hM h53 0 rfl (by decide) (hg _ zw_1000) (fun _ h9 => h9) hq59 dX12_rule_235 (fun h58 => ?_)
                    refine lv_sipush (v := (1000 : Int32)) hx hb dX12_rule_238 (by decide +kernel) ?_
                    refine lv_aload_n hx hb dX12_rule_241 rfl (lv_at hl 0 rfl) ?_
                    refine z_getI hx hb hg zin_12 hown hK hM h53 21 rfl (by decide) (hg _ zw_1021) (fun _ h9 => h9) dX12_rule_242 ?_
                    refine lv_aload_n hx hb dX12_rule_245 rfl (lv_at hl 0 rfl) ?_
                    refine z_getI hx hb hg zin_12 hown hK hM h53 20 rfl (by decide) (hg _ zw_1020) (fun _ h9 => h9) dX12_rule_246 ?_
                    refine lv_isub hx hb dX12_rule_249 ?_
                    obtain ⟨hq60, h⟩ := zk h
                    refine z_iast hx hb hK hM hS h58 hq60 dX12_rule_250 (fun H locs hM hS => ?_)
                    obtain ⟨S61, e62, h⟩ := zlg h
                    rw [← e62] at hM
                    have hX63 : zX S54 S61 := by rw [e62]; exact zX_pI
                    have h64 := h53.mo hX63
                    have hX65 := hX55.tr hX63
                    refine lv_iconst (v := (0 : Int32)) hx hb dX12_rule_251 (by decide +kernel) ?_
                    refine lv_istore (i := 6) (lv' := [(6, .int (0 : Int32)), (0, .ref (B + a0)), (3, .int x13), (4, .int r39)]) hx hb dX12_rule_252 hl (by decide) rfl (fun ls hl => ?_)
                    obtain ⟨K69, eK69, h⟩ := zlg h
                    have hK69 : ∀ (S67 : zM) (H : Heap) (locs : List Loc), zMR D cy B S67 H → zX S0 S67 → va_S (fun q => B < q) s.heap H locs → zA S67 a0 12 → ∀ ls : Array Slot, lv_has ls 7 [(0, .ref (B + a0)), (3, .int x13)] → K69 S67 = some (r, S') → W p l e (headSpec (zws yX12_rule cX12_rule 7 ((some .int))) { frames := 34, cells := 0, slots := 0, locals := 737 }).room s m (([.ref (B + a0), .int v1] : List Value).toArray) below meth c H locs 0 0 (MQ below (zQi D cy B S0 r S') (([.ref (B + a0), .int v1] : List Value).toArray) s 0 0 (fun q => B < q)) (F0 m 302 ls []) := by
                      intro S67 H locs hM hX68 hS h66 ls hl h
                      rw [eK69] at h
                      refine lv_goto (tgt := 146) hx hb dX12_rule_302 (by decide) ?_
                      exact ih146 S67 _ _ hM hX68 hS h66 _ (lv_sub hl [0, 1] rfl) h
                    have hL254 : ∀ (k : Nat) (x71 : Int32) (S72 : zM) (H : Heap) (locs : List Loc), zMR D cy B S72 H → zX S0 S72 → va_S (fun q => B < q) s.heap H locs → zA S72 a0 12 → ∀ ls : Array Slot, lv_has ls 7 [(0, .ref (B + a0)), (3, .int x13), (6, .int x71)] → f_X12_rule_L254 a0 K69 k x71 S72 = some (r, S') → W p l e (headSpec (zws yX12_rule cX12_rule 7 ((some .int))) { frames := 34, cells := 0, slots := 0, locals := 737 }).room s m (([.ref (B + a0), .int v1] : List Value).toArray) below meth c H locs 0 0 (MQ below (zQi D cy B S0 r S') (([.ref (B + a0), .int v1] : List Value).toArray) s 0 0 (fun q => B < q)) (F0 m 254 ls []) := by
                      intro k
                      induction k with
                      | zero =>
                        intro x71 S72 H locs hM hX73 hS h70 ls hl h
                        exact znone h
                      | succ k ih254 =>
                        intro x71 S72 H locs hM hX73 hS h70 ls hl h
                        replace h : f_X12_rule_L254b a0 K69 (f_X12_rule_L254 a0 K69 k) x71 S72 = some (r, S') := h
                        generalize f_X12_rule_L254 a0 K69 k = rec254 at ih254 h
                        unfold f_X12_rule_L254b at h
                        refine lv_iload hx hb dX12_rule_254 (lv_at hl 2 rfl) ?_
                        refine lv_aload_n hx hb dX12_rule_256 rfl (lv_at hl 0 rfl) ?_
                        refine z_getI hx hb hg zin_12 hown hK hM h70 21 rfl (by decide) (hg _ zw_1021) (fun _ h9 => h9) dX12_rule_257 ?_
                        refine lv_aload_n hx hb dX12_rule_260 rfl (lv_at hl 0 rfl) ?_
                        refine z_getI hx hb hg zin_12 hown hK hM h70 20 rfl (by decide) (hg _ zw_1020) (fun _ h9 => h9) dX12_rule_261 ?_
                        refine lv_isub hx hb dX12_rule_264 ?_
                        refine lv_icmp_ge (tgt := 302) hx hb dX12_rule_265 (by decide) (fun hc74 => ?_) (fun hc74 => ?_)
                        · have h := zt h hc74
                          exact hK69 S72 _ _ hM hX73 hS h70 _ (lv_sub hl [0, 1] rfl) h
                        · have h := zf h hc74
                          refine lv_aload_n hx hb dX12_rule_268 rfl (lv_at hl 0 rfl) ?_
                          obtain ⟨hq76, h⟩ := zk h
                          refine z_getN hx hb hg zin_12 hown hK hM h70 0 rfl (by decide) (hg _ zw_1000) (fun _ h9 => h9) hq76 dX12_rule_269 (fun h75 => ?_)
                          refine lv_sipush (v := (880 : Int32)) hx hb dX12_rule_272 (by decide +kernel) ?_
                          refine lv_iload hx hb dX12_rule_275 (lv_at hl 2 rfl) ?_
                          refine lv_iadd hx hb dX12_rule_277 ?_
                          refine lv_aload_n hx hb dX12_rule_278 rfl (lv_at hl 0 rfl) ?_
                          obtain ⟨hq78, h⟩ := zk h
                          refine z_getN hx hb hg zin_12 hown hK hM h70 5 rfl (by decide) (hg _ zw_1005) (fun _ h9 => h9) hq78 dX12_rule_279 (fun h77 => ?_)
                          refine lv_aload_n hx hb dX12_rule_282 rfl (lv_at hl 0 rfl) ?_
                          refine z_getI hx hb hg zin_12 hown hK hM h70 13 rfl (by decide) (hg _ zw_1013) (fun _ h9 => h9) dX12_rule_283 ?_
                          refine lv_aload_n hx hb dX12_rule_286 rfl (lv_at hl 0 rfl) ?_
                          refine z_getI hx hb hg zin_12 hown hK hM h70 20 rfl (by decide) (hg _ zw_1020) (fun _ h9 => h9) dX12_rule_287 ?_
                          refine lv_iadd hx hb dX12_rule_290 ?_
                          refine lv_iload hx hb dX12_rule_291 (lv_at hl 2 rfl) ?_
                          refine lv_iadd hx hb dX12_rule_293 ?_
                          obtain ⟨hq79, h⟩ := zk h
                          refine z_iald hx hb hK hM h77 hq79 dX12_rule_294 ?_
                          obtain ⟨hq80, h⟩ := zk h
                          refine z_iast hx hb hK hM hS h75 hq80 dX12_rule_295 (fun H locs hM hS => ?_)
                          obtain ⟨S81, e82, h⟩ := zlg h
                          rw [← e82] at hM
                          have hX83 : zX S72 S81 := by rw [e82]; exact zX_pI
                          have h84 := h70.mo hX83
                          have hX85 := hX73.tr hX83
                          refine lv_iinc (v := (x71 + (1 : Int32))) (lv' := [(6, .int (x71 + (1 : Int32))), (0, .ref (B + a0)), (3, .int x13)]) hx hb dX12_rule_296 hl (k := 2) rfl rfl (by decide) rfl (fun ls hl => ?_)
                          refine lv_goto (tgt := 254) hx hb dX12_rule_299 (by decide) ?_
                          exact ih254 (x71 + (1 : Int32)) S81 _ _ hM hX85 hS h84 _ (lv_sub hl [1, 2, 0] rfl) h
                    exact hL254 n (0 : Int32) S61 _ _ hM hX65 hS h64 _ (lv_sub hl [1, 2, 0] rfl) h
                  · have h := zf h hc57
                    refine lv_goto (tgt := 146) hx hb dX12_rule_231 (by decide) ?_
                    exact ih146 S54 _ _ hM hX55 hS h53 _ (lv_sub hl [0, 1] rfl) h
                refine lv_icmp_ne (tgt := 224) hx hb dX12_rule_197 (by decide) (fun hc86 => ?_) (fun hc86 => ?_)
                · have h := zf h hc86
                  exact hK56 S50 _ _ hM hX51 hS h49 _ (lv_sub hl [0, 1, 2] rfl) h
                · have h := zt h hc86
                  refine lv_aload_n hx hb dX12_rule_200 rfl (lv_at hl 0 rfl) ?_
                  obtain ⟨hq88, h⟩ := zk h
                  refine z_getN hx hb hg zin_12 hown hK hM h49 0 rfl (by decide) (hg _ zw_1000) (fun _ h9 => h9) hq88 dX12_rule_201 (fun h87 => ?_)
                  refine lv_sipush (v := (878 : Int32)) hx hb dX12_rule_204 (by decide +kernel) ?_
                  refine lv_aload_n hx hb dX12_rule_207 rfl (lv_at hl 0 rfl) ?_
                  refine z_getI hx hb hg zin_12 hown hK hM h49 18 rfl (by decide) (hg _ zw_1018) (fun _ h9 => h9) dX12_rule_208 ?_
                  obtain ⟨hq89, h⟩ := zk h
                  refine z_iast hx hb hK hM hS h87 hq89 dX12_rule_211 (fun H locs hM hS => ?_)
                  obtain ⟨S90, e91, h⟩ := zlg h
                  rw [← e91] at hM
                  have hX92 : zX S50 S90 := by rw [e91]; exact zX_pI
                  have h93 := h49.mo hX92
                  have hX94 := hX51.tr hX92
                  refine lv_aload_n hx hb dX12_rule_212 rfl (lv_at hl 0 rfl) ?_
                  obtain ⟨hq96, h⟩ := zk h
                  refine z_getN hx hb hg zin_12 hown hK hM h93 0 rfl (by decide) (hg _ zw_1000) (fun _ h9 => h9) hq96 dX12_rule_213 (fun h95 => ?_)
                  refine lv_sipush (v := (879 : Int32)) hx hb dX12_rule_216 (by decide +kernel) ?_
                  refine lv_aload_n hx hb dX12_rule_219 rfl (lv_at hl 0 rfl) ?_
                  refine z_getI hx hb hg zin_12 hown hK hM h93 19 rfl (by decide) (hg _ zw_1019) (fun _ h9 => h9) dX12_rule_220 ?_
                  obtain ⟨hq97, h⟩ := zk h
                  refine z_iast hx hb hK hM hS h95 hq97 dX12_rule_223 (fun H locs hM hS => ?_)
                  obtain ⟨S98, e99, h⟩ := zlg h
                  rw [← e99] at hM
                  have hX100 : zX S90 S98 := by rw [e99]; exact zX_pI
                  have h101 := h93.mo hX100
                  have hX102 := hX94.tr hX100
                  exact hK56 S98 _ _ hM hX102 hS h101 _ (lv_sub hl [0, 1, 2] rfl) h
              refine lv_icmp_ne (tgt := 193) hx hb dX12_rule_173 (by decide) (fun hc103 => ?_) (fun hc103 => ?_)
              · have h := zf h hc103
                exact hK52 S44 _ _ hM hX48 hS h47 _ (lv_sub hl [2, 3, 1] rfl) h
              · have h := zt h hc103
                refine lv_aload_n hx hb dX12_rule_176 rfl (lv_at hl 2 rfl) ?_
                obtain ⟨hq105, h⟩ := zk h
                refine z_getN hx hb hg zin_12 hown hK hM h47 0 rfl (by decide) (hg _ zw_1000) (fun _ h9 => h9) hq105 dX12_rule_177 (fun h104 => ?_)
                refine lv_sipush (v := (872 : Int32)) hx hb dX12_rule_180 (by decide +kernel) ?_
                refine lv_aload_n hx hb dX12_rule_183 rfl (lv_at hl 2 rfl) ?_
                refine z_getI hx hb hg zin_12 hown hK hM h47 18 rfl (by decide) (hg _ zw_1018) (fun _ h9 => h9) dX12_rule_184 ?_
                refine lv_iadd hx hb dX12_rule_187 ?_
                refine lv_aload_n hx hb dX12_rule_188 rfl (lv_at hl 2 rfl) ?_
                refine z_getI hx hb hg zin_12 hown hK hM h47 19 rfl (by decide) (hg _ zw_1019) (fun _ h9 => h9) dX12_rule_189 ?_
                obtain ⟨hq106, h⟩ := zk h
                refine z_iast hx hb hK hM hS h104 hq106 dX12_rule_192 (fun H locs hM hS => ?_)
                obtain ⟨S107, e108, h⟩ := zlg h
                rw [← e108] at hM
                have hX109 : zX S44 S107 := by rw [e108]; exact zX_pI
                have h110 := h47.mo hX109
                have hX111 := hX48.tr hX109
                exact hK52 S107 _ _ hM hX111 hS h110 _ (lv_sub hl [2, 3, 1] rfl) h
        exact hL146 n S26 _ _ hM hX30 hS h29 _ (lv_sub hl [0, 1] rfl) h
      have hL55 : ∀ (k : Nat) (S113 : zM) (H : Heap) (locs : List Loc), zMR D cy B S113 H → zX S0 S113 → va_S (fun q => B < q) s.heap H locs → zA S113 a0 12 → ∀ ls : Array Slot, lv_has ls 7 [(0, .ref (B + a0)), (3, .int x13)] → f_X12_rule_L55 n a0 K25 k S113 = some (r, S') → W p l e (headSpec (zws yX12_rule cX12_rule 7 ((some .int))) { frames := 34, cells := 0, slots := 0, locals := 737 }).room s m (([.ref (B + a0), .int v1] : List Value).toArray) below meth c H locs 0 0 (MQ below (zQi D cy B S0 r S') (([.ref (B + a0), .int v1] : List Value).toArray) s 0 0 (fun q => B < q)) (F0 m 55 ls []) := by
        intro k
        induction k with
        | zero =>
          intro S113 H locs hM hX114 hS h112 ls hl h
          exact znone h
        | succ k ih55 =>
          intro S113 H locs hM hX114 hS h112 ls hl h
          replace h : f_X12_rule_L55b n a0 K25 (f_X12_rule_L55 n a0 K25 k) S113 = some (r, S') := h
          generalize f_X12_rule_L55 n a0 K25 k = rec55 at ih55 h
          unfold f_X12_rule_L55b at h
          refine lv_aload_n hx hb dX12_rule_55 rfl (lv_at hl 0 rfl) ?_
          refine z_getI hx hb hg zin_12 hown hK hM h112 12 rfl (by decide) (hg _ zw_1012) (fun _ h9 => h9) dX12_rule_56 ?_
          refine lv_aload_n hx hb dX12_rule_59 rfl (lv_at hl 0 rfl) ?_
          refine z_getI hx hb hg zin_12 hown hK hM h112 14 rfl (by decide) (hg _ zw_1014) (fun _ h9 => h9) dX12_rule_60 ?_
          refine lv_icmp_ge (tgt := 141) hx hb dX12_rule_63 (by decide) (fun hc115 => ?_) (fun hc115 => ?_)
          · have h := zt h hc115
            exact hK25 S113 _ _ hM hX114 hS h112 _ (lv_sub hl [0, 1] rfl) h
          · have h := zf h hc115
            refine lv_aload_n hx hb dX12_rule_66 rfl (lv_at hl 0 rfl) ?_
            refine z_getI hx hb hg zin_12 hown hK hM h112 12 rfl (by decide) (hg _ zw_1012) (fun _ h9 => h9) dX12_rule_67 ?_
            refine lv_istore (i := 4) (lv' := [(4, .int (zi S113 a0 12)), (0, .ref (B + a0)), (3, .int x13)]) hx hb dX12_rule_70 hl (by decide) rfl (fun ls hl => ?_)
            refine lv_aload_n hx hb dX12_rule_72 rfl (lv_at hl 1 rfl) ?_
            obtain ⟨r117, hr116, h⟩ := zb1 h
            refine z_runi (va_runV (As := []) (rest := []) ⟨hx, hb, hml, hown, hg⟩ (c_X12_sign l D cy B h112 hr116) (z_cwV hg zw_1236 zw_1237 zw_1500 zw_13 zw_1238 zh_X12_sign ⟨(Nat.le_of_ble_eq_true rfl), (Nat.le_of_ble_eq_true rfl)⟩) (zPV hC hM h112 (by decide) rfl) rfl rfl hl.1 rfl (lv_room (Nat.le_of_ble_eq_true rfl)) dX12_rule_73 ⟨(Nat.le_of_ble_eq_true rfl), (Nat.le_of_ble_eq_true rfl)⟩) hS (fun H locs hM hX118 hS => ?_)
            refine lv_istore (i := 5) (lv' := [(5, .int r117), (4, .int (zi S113 a0 12)), (0, .ref (B + a0)), (3, .int x13)]) hx hb dX12_rule_76 hl (by decide) rfl (fun ls hl => ?_)
            refine lv_aload_n hx hb dX12_rule_78 rfl (lv_at hl 2 rfl) ?_
            obtain ⟨r121, S122, hr120, h⟩ := zb2 h
            refine z_runi (va_runV (As := []) (rest := []) ⟨hx, hb, hml, hown, hg⟩ (c_X12_readsStatement l D cy B h112 hr120) (z_cwV hg zw_1233 zw_1234 zw_1499 zw_13 zw_1235 zh_X12_readsStatement ⟨(Nat.le_of_ble_eq_true rfl), (Nat.le_of_ble_eq_true rfl)⟩) (zPV hC hM h112 (by decide) rfl) rfl rfl hl.1 rfl (lv_room (Nat.le_of_ble_eq_true rfl)) dX12_rule_79 ⟨(Nat.le_of_ble_eq_true rfl), (Nat.le_of_ble_eq_true rfl)⟩) hS (fun H locs hM hX123 hS => ?_)
            have h125 := h112.mo hX123
            have hX126 := hX114.tr hX123
            refine lv_istore (i := 6) (lv' := [(6, .int r121), (5, .int r117), (4, .int (zi S113 a0 12)), (0, .ref (B + a0)), (3, .int x13)]) hx hb dX12_rule_82 hl (by decide) rfl (fun ls hl => ?_)
            refine lv_iload hx hb dX12_rule_84 (lv_at hl 1 rfl) ?_
            refine lv_bipush (v := (111 : Int32)) hx hb dX12_rule_86 (by decide +kernel) ?_
            obtain ⟨K129, eK129, h⟩ := zlg h
            have hK129 : ∀ (H : Heap) (locs : List Loc), zMR D cy B S122 H → zX S0 S122 → va_S (fun q => B < q) s.heap H locs → zA S122 a0 12 → ∀ ls : Array Slot, lv_has ls 7 [(0, .ref (B + a0)), (3, .int x13), (4, .int (zi S113 a0 12)), (5, .int r117)] → K129 = some (r, S') → W p l e (headSpec (zws yX12_rule cX12_rule 7 ((some .int))) { frames := 34, cells := 0, slots := 0, locals := 737 }).room s m (([.ref (B + a0), .int v1] : List Value).toArray) below meth c H locs 0 0 (MQ below (zQi D cy B S0 r S') (([.ref (B + a0), .int v1] : List Value).toArray) s 0 0 (fun q => B < q)) (F0 m 108 ls []) := by
              intro H locs hM hX128 hS h127 ls hl h
              rw [eK129] at h
              refine lv_iload hx hb dX12_rule_108 (lv_at hl 3 rfl) ?_
              refine lv_bipush (v := (100 : Int32)) hx hb dX12_rule_110 (by decide +kernel) ?_
              refine lv_icmp_ne (tgt := 138) hx hb dX12_rule_112 (by decide) (fun hc130 => ?_) (fun hc130 => ?_)
              · have h := zf h hc130
                refine lv_goto (tgt := 55) hx hb dX12_rule_138 (by decide) ?_
                exact ih55 S122 _ _ hM hX128 hS h127 _ (lv_sub hl [0, 1] rfl) h
              · have h := zt h hc130
                refine lv_aload_n hx hb dX12_rule_115 rfl (lv_at hl 0 rfl) ?_
                refine z_getI hx hb hg zin_12 hown hK hM h127 18 rfl (by decide) (hg _ zw_1018) (fun _ h9 => h9) dX12_rule_116 ?_
                refine lv_iconst (v := (3 : Int32)) hx hb dX12_rule_119 (by decide +kernel) ?_
                refine lv_icmp_gt (tgt := 131) hx hb dX12_rule_120 (by decide) (fun hc131 => ?_) (fun hc131 => ?_)
                · have h := zt h hc131
                  refine lv_sipush (v := (-2000 : Int32)) hx hb dX12_rule_131 (by decide +kernel) ?_
                  refine lv_iload hx hb dX12_rule_134 (lv_at hl 2 rfl) ?_
                  refine lv_isub hx hb dX12_rule_136 ?_
                  exact z_iret hx hb hr hlk hM hX128 hS (zsp h) dX12_rule_137
                · have h := zf h hc131
                  refine lv_aload_n hx hb dX12_rule_123 rfl (lv_at hl 0 rfl) ?_
                  refine z_getI hx hb hg zin_12 hown hK hM h127 19 rfl (by decide) (hg _ zw_1019) (fun _ h9 => h9) dX12_rule_124 ?_
                  refine lv_iconst (v := (3 : Int32)) hx hb dX12_rule_127 (by decide +kernel) ?_
                  refine lv_icmp_le (tgt := 138) hx hb dX12_rule_128 (by decide) (fun hc132 => ?_) (fun hc132 => ?_)
                  · have h := zt h hc132
                    refine lv_goto (tgt := 55) hx hb dX12_rule_138 (by decide) ?_
                    exact ih55 S122 _ _ hM hX128 hS h127 _ (lv_sub hl [0, 1] rfl) h
                  · have h := zf h hc132
                    refine lv_sipush (v := (-2000 : Int32)) hx hb dX12_rule_131 (by decide +kernel) ?_
                    refine lv_iload hx hb dX12_rule_134 (lv_at hl 2 rfl) ?_
                    refine lv_isub hx hb dX12_rule_136 ?_
                    exact z_iret hx hb hr hlk hM hX128 hS (zsp h) dX12_rule_137
            refine lv_icmp_ne (tgt := 108) hx hb dX12_rule_88 (by decide) (fun hc133 => ?_) (fun hc133 => ?_)
            · have h := zf h hc133
              exact hK129 _ _ hM hX126 hS h125 _ (lv_sub hl [3, 4, 2, 1] rfl) h
            · have h := zt h hc133
              refine lv_aload_n hx hb dX12_rule_91 rfl (lv_at hl 3 rfl) ?_
              refine z_getI hx hb hg zin_12 hown hK hM h125 18 rfl (by decide) (hg _ zw_1018) (fun _ h9 => h9) dX12_rule_92 ?_
              refine lv_iconst (v := (5 : Int32)) hx hb dX12_rule_95 (by decide +kernel) ?_
              refine lv_icmp_gt (tgt := 131) hx hb dX12_rule_96 (by decide) (fun hc134 => ?_) (fun hc134 => ?_)
              · have h := zt h hc134
                refine lv_sipush (v := (-2000 : Int32)) hx hb dX12_rule_131 (by decide +kernel) ?_
                refine lv_iload hx hb dX12_rule_134 (lv_at hl 2 rfl) ?_
                refine lv_isub hx hb dX12_rule_136 ?_
                exact z_iret hx hb hr hlk hM hX126 hS (zsp h) dX12_rule_137
              · have h := zf h hc134
                refine lv_aload_n hx hb dX12_rule_99 rfl (lv_at hl 3 rfl) ?_
                refine z_getI hx hb hg zin_12 hown hK hM h125 19 rfl (by decide) (hg _ zw_1019) (fun _ h9 => h9) dX12_rule_100 ?_
                refine lv_bipush (v := (20 : Int32)) hx hb dX12_rule_103 (by decide +kernel) ?_
                refine lv_icmp_gt (tgt := 131) hx hb dX12_rule_105 (by decide) (fun hc135 => ?_) (fun hc135 => ?_)
                · have h := zt h hc135
                  refine lv_sipush (v := (-2000 : Int32)) hx hb dX12_rule_131 (by decide +kernel) ?_
                  refine lv_iload hx hb dX12_rule_134 (lv_at hl 2 rfl) ?_
                  refine lv_isub hx hb dX12_rule_136 ?_
                  exact z_iret hx hb hr hlk hM hX126 hS (zsp h) dX12_rule_137
                · have h := zf h hc135
                  exact hK129 _ _ hM hX126 hS h125 _ (lv_sub hl [3, 4, 2, 1] rfl) h
      exact hL55 n S17 _ _ hM hX21 hS h20 _ (lv_sub hl [0, 1] rfl) h
    have hL20 : ∀ (k : Nat) (x137 : Int32) (S138 : zM) (H : Heap) (locs : List Loc), zMR D cy B S138 H → zX S0 S138 → va_S (fun q => B < q) s.heap H locs → zA S138 a0 12 → ∀ ls : Array Slot, lv_has ls 7 [(0, .ref (B + a0)), (3, .int x137)] → f_X12_rule_L20 n a0 K16 k x137 S138 = some (r, S') → W p l e (headSpec (zws yX12_rule cX12_rule 7 ((some .int))) { frames := 34, cells := 0, slots := 0, locals := 737 }).room s m (([.ref (B + a0), .int v1] : List Value).toArray) below meth c H locs 0 0 (MQ below (zQi D cy B S0 r S') (([.ref (B + a0), .int v1] : List Value).toArray) s 0 0 (fun q => B < q)) (F0 m 20 ls []) := by
      intro k
      induction k with
      | zero =>
        intro x137 S138 H locs hM hX139 hS h136 ls hl h
        exact znone h
      | succ k ih20 =>
        intro x137 S138 H locs hM hX139 hS h136 ls hl h
        replace h : f_X12_rule_L20b n a0 K16 (f_X12_rule_L20 n a0 K16 k) x137 S138 = some (r, S') := h
        generalize f_X12_rule_L20 n a0 K16 k = rec20 at ih20 h
        unfold f_X12_rule_L20b at h
        refine lv_aload_n hx hb dX12_rule_20 rfl (lv_at hl 0 rfl) ?_
        obtain ⟨r141, S142, hr140, h⟩ := zb2 h
        refine z_runi (va_runV (As := []) (rest := []) ⟨hx, hb, hml, hown, hg⟩ (c_X12_readsStatement l D cy B h136 hr140) (z_cwV hg zw_1233 zw_1234 zw_1499 zw_13 zw_1235 zh_X12_readsStatement ⟨(Nat.le_of_ble_eq_true rfl), (Nat.le_of_ble_eq_true rfl)⟩) (zPV hC hM h136 (by decide) rfl) rfl rfl hl.1 rfl (lv_room (Nat.le_of_ble_eq_true rfl)) dX12_rule_21 ⟨(Nat.le_of_ble_eq_true rfl), (Nat.le_of_ble_eq_true rfl)⟩) hS (fun H locs hM hX143 hS => ?_)
        have h145 := h136.mo hX143
        have hX146 := hX139.tr hX143
        refine lv_if_ne (tgt := 36) hx hb dX12_rule_24 (by decide) (fun hc147 => ?_) (fun hc147 => ?_)
        · have h := zf h hc147
          refine lv_iinc (v := (x137 + (1 : Int32))) (lv' := [(3, .int (x137 + (1 : Int32))), (0, .ref (B + a0))]) hx hb dX12_rule_36 hl (k := 1) rfl rfl (by decide) rfl (fun ls hl => ?_)
          refine lv_aload_n hx hb dX12_rule_39 rfl (lv_at hl 1 rfl) ?_
          refine z_getI hx hb hg zin_12 hown hK hM h145 12 rfl (by decide) (hg _ zw_1012) (fun _ h9 => h9) dX12_rule_40 ?_
          refine lv_aload_n hx hb dX12_rule_43 rfl (lv_at hl 1 rfl) ?_
          refine z_getI hx hb hg zin_12 hown hK hM h145 14 rfl (by decide) (hg _ zw_1014) (fun _ h9 => h9) dX12_rule_44 ?_
          refine lv_icmp_lt (tgt := 20) hx hb dX12_rule_47 (by decide) (fun hc148 => ?_) (fun hc148 => ?_)
          · have h := zt h hc148
            exact ih20 (x137 + (1 : Int32)) S142 _ _ hM hX146 hS h145 _ (lv_sub hl [1, 0] rfl) h
          · have h := zf h hc148
            exact hK16 (x137 + (1 : Int32)) S142 _ _ hM hX146 hS h145 _ (lv_sub hl [1, 0] rfl) h
        · have h := zt h hc147
          refine lv_sipush (v := (-1000 : Int32)) hx hb dX12_rule_27 (by decide +kernel) ?_
          refine lv_aload_n hx hb dX12_rule_30 rfl (lv_at hl 0 rfl) ?_
          refine z_getI hx hb hg zin_12 hown hK hM h145 12 rfl (by decide) (hg _ zw_1012) (fun _ h9 => h9) dX12_rule_31 ?_
          refine lv_isub hx hb dX12_rule_34 ?_
          exact z_iret hx hb hr hlk hM hX146 hS (zsp h) dX12_rule_35
    exact hL20 n (0 : Int32) S7 _ _ hM hX11 hS h10 _ (lv_sub hl [2, 0] rfl) h
  · have h := zf h hc5
    refine lv_iload_n hx hb dX12_rule_11 rfl (lv_at hl 0 rfl) ?_
    exact z_iret hx hb hr hlk hM hX0 hS (zsp h) dX12_rule_12
def f_X12_atom (n : Nat) (rc : zM → Nat → Option (Int32 × zM)) (S0 : zM) (a0 : Nat) : Option (Int32 × zM) :=
  zB1 (f_X12_sign S0 a0) (fun r2 => zLet (f_X12_isIn (Int32.toInt64 r2) (48 : Int64) (57 : Int64)) (fun r6 => if r6 = 0 then zLet (zpI S0 a0 12 ((zi S0 a0 12) + (1 : Int32))) (fun S10 => if r2 = (40 : Int32) then zB2 (rc S10 a0) (fun r60 S61 => zLet (zpI S61 a0 12 ((zi S61 a0 12) + (1 : Int32))) (fun S66 => some ((r60, S66)))) else zLet (zB2 (rc S10 a0) (fun r20 S21 => zLet (zpI S21 a0 12 ((zi S21 a0 12) + (1 : Int32))) (fun S26 => zB2 (rc S26 a0) (fun r32 S33 => zLet (zpI S33 a0 12 ((zi S33 a0 12) + (1 : Int32))) (fun S38 => zLet (fun (x42 : Int32) => zLet (fun (x45 : Int32) => if x42 = x45 then some ((r20, S38)) else some ((r32, S38))) (fun K47 => if r2 = (91 : Int32) then K47 (1 : Int32) else K47 (0 : Int32))) (fun K44 => if r32 ≤ r20 then K44 (0 : Int32) else K44 (1 : Int32))))))) (fun K18 => if r2 = (91 : Int32) then K18 else if r2 = (123 : Int32) then K18 else if r2 = (97 : Int32) then some (((zi S10 a0 26), S10)) else if r2 = (104 : Int32) then some (((zi S10 a0 24), S10)) else if r2 = (109 : Int32) then some (((zi S10 a0 25), S10)) else if r2 = (110 : Int32) then some (((zi S10 a0 23), S10)) else if r2 = (115 : Int32) then some (((zi S10 a0 22), S10)) else if r2 = (122 : Int32) then some (((zi S10 a0 27), S10)) else some (((zi S10 a0 28), S10)))) else zB2 (f_X12_readsNumber n S0 a0) (fun r71 S72 => some (((zi S72 a0 16), S72)))))
set_option maxHeartbeats 4000000 in
set_option maxRecDepth 100000 in
theorem c_X12_atom (l : Launch) (D : va_G) (cy : Nat → ClassId) (B : Nat) (dd : Nat) {rc : zM → Nat → Option (Int32 × zM)} (hrc : ∀ {S : zM} {b0 : Nat} {q : Int32} {S1 : zM}, zA S b0 12 →  rc S b0 = some (q, S1) → Met l yX12_sumOf (zws yX12_sumOf cX12_sumOf 4 ((some .int))) { frames := 4 * dd, cells := 0, slots := 0, locals := 92 * dd } (zPc D cy B S [.ref (B + b0)]) (zQi D cy B S q S1) 0 0 (fun q => B < q)) {n : Nat} {S0 : zM} {a0 : Nat} {r : Int32} {S' : zM} (ha0 : zA S0 a0 12) (h : f_X12_atom n rc S0 a0 = some (r, S')) : Met l yX12_atom (zws yX12_atom cX12_atom 4 ((some .int))) { frames := 4 * dd + 2, cells := 0, slots := 0, locals := 92 * dd + 46 } (zPc D cy B S0 [.ref (B + a0)]) (zQi D cy B S0 r S') 0 0 (fun q => B < q) := by
  refine Met.ofW (cc := cX12_atom) (maxL := 4) (ret := ((some .int))) (by decide) rfl ?_
  intro p e s m args below meth c s₁ Bd hml hv
  obtain ⟨rfl, hC, hM⟩ := hv
  obtain ⟨hx, hb, hr, hg, hown, hlk⟩ := z_open Bd
  have hK := hC.1
  have hS : va_S (fun q => B < q) s.heap s.heap [] := va_S.rf
  have hX0 : zX S0 S0 := zX.rf
  refine z_entry (vs := [.ref (B + a0)]) (Nat.le_of_ble_eq_true rfl) (fun ls hl => ?_)
  have hl : lv_has ls 4 [(0, .ref (B + a0))] := hl
  unfold f_X12_atom at h
  refine lv_aload_n hx hb dX12_atom_0 rfl (lv_at hl 0 rfl) ?_
  obtain ⟨r2, hr1, h⟩ := zb1 h
  refine z_runi (va_runV (As := []) (rest := []) ⟨hx, hb, hml, hown, hg⟩ (c_X12_sign l D cy B ha0 hr1) (z_cwV hg zw_1236 zw_1237 zw_1500 zw_13 zw_1238 zh_X12_sign ⟨by show 0 + 1 ≤ 4 * dd + 2; omega, by show 8 + (1 + 11) + 0 ≤ 92 * dd + 46; omega⟩) (zPV hC hM ha0 (by decide) rfl) rfl rfl hl.1 rfl (lv_room (Nat.le_of_ble_eq_true rfl)) dX12_atom_1 ⟨(Nat.le_of_ble_eq_true rfl), (Nat.le_of_ble_eq_true rfl)⟩) hS (fun H locs hM hX3 hS => ?_)
  refine lv_istore_n (i := 1) (lv' := [(1, .int r2), (0, .ref (B + a0))]) hx hb dX12_atom_4 rfl hl (by decide) rfl (fun ls hl => ?_)
  refine lv_iload_n hx hb dX12_atom_5 rfl (lv_at hl 0 rfl) ?_
  refine lv_i2l hx hb dX12_atom_6 rfl ?_
  refine lv_ldc2 (v := (48 : Int64)) hx hb hown (hg _ zw_1257) dX12_atom_7 ?_
  refine lv_ldc2 (v := (57 : Int64)) hx hb hown (hg _ zw_1258) dX12_atom_10 ?_
  obtain ⟨r6, hr5, h⟩ := zlg h
  have hr5 := hr5.symm
  refine z_runi (va_runS (As := [.long (Int32.toInt64 r2), .long (48 : Int64), .long (57 : Int64)]) (rest := []) ⟨hx, hb, hml, hown, hg⟩ (c_X12_isIn l D cy B hr5) (z_cwS hg zw_1111 zw_1112 zw_13 zw_1113 zh_X12_isIn.2 ⟨by show 0 + 1 ≤ 4 * dd + 2; omega, by show 8 + (6 + 11) + 0 ≤ 92 * dd + 46; omega⟩) (zPS hC hM) rfl rfl hl.1 rfl (lv_room (Nat.le_of_ble_eq_true rfl)) dX12_atom_13 ⟨(Nat.le_of_ble_eq_true rfl), (Nat.le_of_ble_eq_true rfl)⟩) hS (fun H locs hM hX7 hS => ?_)
  refine lv_if_eq (tgt := 29) hx hb dX12_atom_16 (by decide) (fun hc9 => ?_) (fun hc9 => ?_)
  · have h := zt h hc9
    refine lv_aload_n hx hb dX12_atom_29 rfl (lv_at hl 1 rfl) ?_
    refine lv_dup hx hb dX12_atom_30 rfl ?_
    refine z_getI hx hb hg zin_12 hown hK hM ha0 12 rfl (by decide) (hg _ zw_1012) (fun _ h9 => h9) dX12_atom_31 ?_
    refine lv_iconst (v := (1 : Int32)) hx hb dX12_atom_34 (by decide +kernel) ?_
    refine lv_iadd hx hb dX12_atom_35 ?_
    refine z_putI hx hb hg zin_12 tyX12 tyX12_ok nmX12 hown hK hM hS ha0 12 rfl (by decide) (hg _ zw_1012) (fun _ h9 => h9) (Or.inl rfl) (tyX12_ok 12 (by decide)) rfl rfl dX12_atom_36 (fun H locs hM hS => ?_)
    obtain ⟨S10, e11, h⟩ := zlg h
    rw [← e11] at hM
    have hX12 : zX S0 S10 := by rw [e11]; exact zX_pI
    have h13 := ha0.mo hX12
    have hX14 := hX0.tr hX12
    refine lv_iload_n hx hb dX12_atom_39 rfl (lv_at hl 0 rfl) ?_
    refine lv_bipush (v := (40 : Int32)) hx hb dX12_atom_40 (by decide +kernel) ?_
    refine lv_icmp_ne (tgt := 62) hx hb dX12_atom_42 (by decide) (fun hc15 => ?_) (fun hc15 => ?_)
    · have h := zf h hc15
      refine lv_iload_n hx hb dX12_atom_62 rfl (lv_at hl 0 rfl) ?_
      refine lv_bipush (v := (91 : Int32)) hx hb dX12_atom_63 (by decide +kernel) ?_
      obtain ⟨K18, eK18, h⟩ := zlg h
      have hK18 : ∀ (H : Heap) (locs : List Loc), zMR D cy B S10 H → zX S0 S10 → va_S (fun q => B < q) s.heap H locs → zA S10 a0 12 → ∀ ls : Array Slot, lv_has ls 4 [(0, .ref (B + a0)), (1, .int r2)] → K18 = some (r, S') → W p l e (headSpec (zws yX12_atom cX12_atom 4 ((some .int))) { frames := 4 * dd + 2, cells := 0, slots := 0, locals := 92 * dd + 46 }).room s m (([.ref (B + a0)] : List Value).toArray) below meth c H locs 0 0 (MQ below (zQi D cy B S0 r S') (([.ref (B + a0)] : List Value).toArray) s 0 0 (fun q => B < q)) (F0 m 74 ls []) := by
        intro H locs hM hX17 hS h16 ls hl h
        rw [eK18] at h
        refine lv_aload_n hx hb dX12_atom_74 rfl (lv_at hl 0 rfl) ?_
        obtain ⟨r20, S21, hr19, h⟩ := zb2 h
        refine z_runi (va_runV (As := []) (rest := []) ⟨hx, hb, hml, hown, hg⟩ (hrc h16 hr19) (z_cwV hg zw_1276 zw_1277 zw_1510 zw_13 zw_1278 zh_X12_sumOf ⟨by show 4 * dd + 1 ≤ 4 * dd + 2; omega, by show 8 + (4 + 11) + (92 * dd) ≤ 92 * dd + 46; omega⟩) (zPV hC hM h16 (by decide) rfl) rfl rfl hl.1 rfl (lv_room (Nat.le_of_ble_eq_true rfl)) dX12_atom_75 ⟨(Nat.le_of_ble_eq_true rfl), (Nat.le_of_ble_eq_true rfl)⟩) hS (fun H locs hM hX22 hS => ?_)
        have h24 := h16.mo hX22
        have hX25 := hX17.tr hX22
        refine lv_istore_n (i := 2) (lv' := [(2, .int r20), (0, .ref (B + a0)), (1, .int r2)]) hx hb dX12_atom_78 rfl hl (by decide) rfl (fun ls hl => ?_)
        refine lv_aload_n hx hb dX12_atom_79 rfl (lv_at hl 1 rfl) ?_
        refine lv_dup hx hb dX12_atom_80 rfl ?_
        refine z_getI hx hb hg zin_12 hown hK hM h24 12 rfl (by decide) (hg _ zw_1012) (fun _ h9 => h9) dX12_atom_81 ?_
        refine lv_iconst (v := (1 : Int32)) hx hb dX12_atom_84 (by decide +kernel) ?_
        refine lv_iadd hx hb dX12_atom_85 ?_
        refine z_putI hx hb hg zin_12 tyX12 tyX12_ok nmX12 hown hK hM hS h24 12 rfl (by decide) (hg _ zw_1012) (fun _ h9 => h9) (Or.inl rfl) (tyX12_ok 12 (by decide)) rfl rfl dX12_atom_86 (fun H locs hM hS => ?_)
        obtain ⟨S26, e27, h⟩ := zlg h
        rw [← e27] at hM
        have hX28 : zX S21 S26 := by rw [e27]; exact zX_pI
        have h29 := h24.mo hX28
        have hX30 := hX25.tr hX28
        refine lv_aload_n hx hb dX12_atom_89 rfl (lv_at hl 1 rfl) ?_
        obtain ⟨r32, S33, hr31, h⟩ := zb2 h
        refine z_runi (va_runV (As := []) (rest := []) ⟨hx, hb, hml, hown, hg⟩ (hrc h29 hr31) (z_cwV hg zw_1276 zw_1277 zw_1510 zw_13 zw_1278 zh_X12_sumOf ⟨by show 4 * dd + 1 ≤ 4 * dd + 2; omega, by show 8 + (4 + 11) + (92 * dd) ≤ 92 * dd + 46; omega⟩) (zPV hC hM h29 (by decide) rfl) rfl rfl hl.1 rfl (lv_room (Nat.le_of_ble_eq_true rfl)) dX12_atom_90 ⟨(Nat.le_of_ble_eq_true rfl), (Nat.le_of_ble_eq_true rfl)⟩) hS (fun H locs hM hX34 hS => ?_)
        have h36 := h29.mo hX34
        have hX37 := hX30.tr hX34
        refine lv_istore_n (i := 3) (lv' := [(3, .int r32), (2, .int r20), (0, .ref (B + a0)), (1, .int r2)]) hx hb dX12_atom_93 rfl hl (by decide) rfl (fun ls hl => ?_)
        refine lv_aload_n hx hb dX12_atom_94 rfl (lv_at hl 2 rfl) ?_
        refine lv_dup hx hb dX12_atom_95 rfl ?_
        refine z_getI hx hb hg zin_12 hown hK hM h36 12 rfl (by decide) (hg _ zw_1012) (fun _ h9 => h9) dX12_atom_96 ?_
        refine lv_iconst (v := (1 : Int32)) hx hb dX12_atom_99 (by decide +kernel) ?_
        refine lv_iadd hx hb dX12_atom_100 ?_
        refine z_putI hx hb hg zin_12 tyX12 tyX12_ok nmX12 hown hK hM hS h36 12 rfl (by decide) (hg _ zw_1012) (fun _ h9 => h9) (Or.inl rfl) (tyX12_ok 12 (by decide)) rfl rfl dX12_atom_101 (fun H locs hM hS => ?_)
        obtain ⟨S38, e39, h⟩ := zlg h
        rw [← e39] at hM
        have hX40 : zX S33 S38 := by rw [e39]; exact zX_pI
        have hX41 := hX37.tr hX40
        refine lv_iload_n hx hb dX12_atom_104 rfl (lv_at hl 1 rfl) ?_
        refine lv_iload_n hx hb dX12_atom_105 rfl (lv_at hl 0 rfl) ?_
        obtain ⟨K44, eK44, h⟩ := zlg h
        have hK44 : ∀ (x42 : Int32) (H : Heap) (locs : List Loc), zMR D cy B S38 H → zX S0 S38 → va_S (fun q => B < q) s.heap H locs → ∀ ls : Array Slot, lv_has ls 4 [(1, .int r2), (2, .int r20), (3, .int r32)] → K44 x42 = some (r, S') → W p l e (headSpec (zws yX12_atom cX12_atom 4 ((some .int))) { frames := 4 * dd + 2, cells := 0, slots := 0, locals := 92 * dd + 46 }).room s m (([.ref (B + a0)] : List Value).toArray) below meth c H locs 0 0 (MQ below (zQi D cy B S0 r S') (([.ref (B + a0)] : List Value).toArray) s 0 0 (fun q => B < q)) (F0 m 114 ls [.int x42]) := by
          intro x42 H locs hM hX43 hS ls hl h
          rw [eK44] at h
          refine lv_iload_n hx hb dX12_atom_114 rfl (lv_at hl 0 rfl) ?_
          refine lv_bipush (v := (91 : Int32)) hx hb dX12_atom_115 (by decide +kernel) ?_
          obtain ⟨K47, eK47, h⟩ := zlg h
          have hK47 : ∀ (x45 : Int32) (H : Heap) (locs : List Loc), zMR D cy B S38 H → zX S0 S38 → va_S (fun q => B < q) s.heap H locs → ∀ ls : Array Slot, lv_has ls 4 [(2, .int r20), (3, .int r32)] → K47 x45 = some (r, S') → W p l e (headSpec (zws yX12_atom cX12_atom 4 ((some .int))) { frames := 4 * dd + 2, cells := 0, slots := 0, locals := 92 * dd + 46 }).room s m (([.ref (B + a0)] : List Value).toArray) below meth c H locs 0 0 (MQ below (zQi D cy B S0 r S') (([.ref (B + a0)] : List Value).toArray) s 0 0 (fun q => B < q)) (F0 m 125 ls [.int x45, .int x42]) := by
            intro x45 H locs hM hX46 hS ls hl h
            rw [eK47] at h
            refine lv_icmp_ne (tgt := 132) hx hb dX12_atom_125 (by decide) (fun hc48 => ?_) (fun hc48 => ?_)
            · have h := zf h hc48
              refine lv_iload_n hx hb dX12_atom_132 rfl (lv_at hl 1 rfl) ?_
              exact z_iret hx hb hr hlk hM hX46 hS (zsp h) dX12_atom_133
            · have h := zt h hc48
              refine lv_iload_n hx hb dX12_atom_128 rfl (lv_at hl 0 rfl) ?_
              refine lv_goto (tgt := 133) hx hb dX12_atom_129 (by decide) ?_
              exact z_iret hx hb hr hlk hM hX46 hS (zsp h) dX12_atom_133
          refine lv_icmp_ne (tgt := 124) hx hb dX12_atom_117 (by decide) (fun hc49 => ?_) (fun hc49 => ?_)
          · have h := zf h hc49
            refine lv_iconst (v := (0 : Int32)) hx hb dX12_atom_124 (by decide +kernel) ?_
            exact hK47 (0 : Int32) _ _ hM hX43 hS _ (lv_sub hl [1, 2] rfl) h
          · have h := zt h hc49
            refine lv_iconst (v := (1 : Int32)) hx hb dX12_atom_120 (by decide +kernel) ?_
            refine lv_goto (tgt := 125) hx hb dX12_atom_121 (by decide) ?_
            exact hK47 (1 : Int32) _ _ hM hX43 hS _ (lv_sub hl [1, 2] rfl) h
        refine lv_icmp_ge (tgt := 113) hx hb dX12_atom_106 (by decide) (fun hc50 => ?_) (fun hc50 => ?_)
        · have h := zt h hc50
          refine lv_iconst (v := (0 : Int32)) hx hb dX12_atom_113 (by decide +kernel) ?_
          exact hK44 (0 : Int32) _ _ hM hX41 hS _ (lv_sub hl [3, 1, 0] rfl) h
        · have h := zf h hc50
          refine lv_iconst (v := (1 : Int32)) hx hb dX12_atom_109 (by decide +kernel) ?_
          refine lv_goto (tgt := 114) hx hb dX12_atom_110 (by decide) ?_
          exact hK44 (1 : Int32) _ _ hM hX41 hS _ (lv_sub hl [3, 1, 0] rfl) h
      refine lv_icmp_eq (tgt := 74) hx hb dX12_atom_65 (by decide) (fun hc51 => ?_) (fun hc51 => ?_)
      · have h := zt h hc51
        exact hK18 _ _ hM hX14 hS h13 _ (lv_sub hl [1, 0] rfl) h
      · have h := zf h hc51
        refine lv_iload_n hx hb dX12_atom_68 rfl (lv_at hl 0 rfl) ?_
        refine lv_bipush (v := (123 : Int32)) hx hb dX12_atom_69 (by decide +kernel) ?_
        refine lv_icmp_ne (tgt := 134) hx hb dX12_atom_71 (by decide) (fun hc52 => ?_) (fun hc52 => ?_)
        · have h := zf h hc52
          refine lv_iload_n hx hb dX12_atom_134 rfl (lv_at hl 0 rfl) ?_
          by_cases hc53 : r2 = (97 : Int32)
          · refine z_lin (off := 77) hx hb hc53 dX12_atom_135 (by decide +kernel) (by decide +kernel) (tgt := 212) (by decide) ?_
            have h := zt h hc53
            refine lv_aload_n hx hb dX12_atom_212 rfl (lv_at hl 1 rfl) ?_
            refine z_getI hx hb hg zin_12 hown hK hM h13 26 rfl (by decide) (hg _ zw_1026) (fun _ h9 => h9) dX12_atom_213 ?_
            exact z_iret hx hb hr hlk hM hX14 hS (zsp h) dX12_atom_216
          · have h := zf h hc53
            by_cases hc54 : r2 = (104 : Int32)
            · refine z_lin (off := 67) hx hb hc54 dX12_atom_135 (by decide +kernel) (by decide +kernel) (tgt := 202) (by decide) ?_
              have h := zt h hc54
              refine lv_aload_n hx hb dX12_atom_202 rfl (lv_at hl 1 rfl) ?_
              refine z_getI hx hb hg zin_12 hown hK hM h13 24 rfl (by decide) (hg _ zw_1024) (fun _ h9 => h9) dX12_atom_203 ?_
              exact z_iret hx hb hr hlk hM hX14 hS (zsp h) dX12_atom_206
            · have h := zf h hc54
              by_cases hc55 : r2 = (109 : Int32)
              · refine z_lin (off := 72) hx hb hc55 dX12_atom_135 (by decide +kernel) (by decide +kernel) (tgt := 207) (by decide) ?_
                have h := zt h hc55
                refine lv_aload_n hx hb dX12_atom_207 rfl (lv_at hl 1 rfl) ?_
                refine z_getI hx hb hg zin_12 hown hK hM h13 25 rfl (by decide) (hg _ zw_1025) (fun _ h9 => h9) dX12_atom_208 ?_
                exact z_iret hx hb hr hlk hM hX14 hS (zsp h) dX12_atom_211
              · have h := zf h hc55
                by_cases hc56 : r2 = (110 : Int32)
                · refine z_lin (off := 62) hx hb hc56 dX12_atom_135 (by decide +kernel) (by decide +kernel) (tgt := 197) (by decide) ?_
                  have h := zt h hc56
                  refine lv_aload_n hx hb dX12_atom_197 rfl (lv_at hl 1 rfl) ?_
                  refine z_getI hx hb hg zin_12 hown hK hM h13 23 rfl (by decide) (hg _ zw_1023) (fun _ h9 => h9) dX12_atom_198 ?_
                  exact z_iret hx hb hr hlk hM hX14 hS (zsp h) dX12_atom_201
                · have h := zf h hc56
                  by_cases hc57 : r2 = (115 : Int32)
                  · refine z_lin (off := 57) hx hb hc57 dX12_atom_135 (by decide +kernel) (by decide +kernel) (tgt := 192) (by decide) ?_
                    have h := zt h hc57
                    refine lv_aload_n hx hb dX12_atom_192 rfl (lv_at hl 1 rfl) ?_
                    refine z_getI hx hb hg zin_12 hown hK hM h13 22 rfl (by decide) (hg _ zw_1022) (fun _ h9 => h9) dX12_atom_193 ?_
                    exact z_iret hx hb hr hlk hM hX14 hS (zsp h) dX12_atom_196
                  · have h := zf h hc57
                    by_cases hc58 : r2 = (122 : Int32)
                    · refine z_lin (off := 82) hx hb hc58 dX12_atom_135 (by decide +kernel) (by decide +kernel) (tgt := 217) (by decide) ?_
                      have h := zt h hc58
                      refine lv_aload_n hx hb dX12_atom_217 rfl (lv_at hl 1 rfl) ?_
                      refine z_getI hx hb hg zin_12 hown hK hM h13 27 rfl (by decide) (hg _ zw_1027) (fun _ h9 => h9) dX12_atom_218 ?_
                      exact z_iret hx hb hr hlk hM hX14 hS (zsp h) dX12_atom_221
                    · have h := zf h hc58
                      refine lv_lookup hx hb dX12_atom_135 (by decide +kernel) (off := 87) (by show Op.lookupswitch.offset [(97, 77), (104, 67), (109, 72), (110, 62), (115, 57), (122, 82)] 87 _ = _; rw [lv_osw hc53 (by decide +kernel), lv_osw hc54 (by decide +kernel), lv_osw hc55 (by decide +kernel), lv_osw hc56 (by decide +kernel), lv_osw hc57 (by decide +kernel), lv_osw hc58 (by decide +kernel)]; rfl) (tgt := 222) (by decide) ?_
                      refine lv_aload_n hx hb dX12_atom_222 rfl (lv_at hl 1 rfl) ?_
                      refine z_getI hx hb hg zin_12 hown hK hM h13 28 rfl (by decide) (hg _ zw_1028) (fun _ h9 => h9) dX12_atom_223 ?_
                      exact z_iret hx hb hr hlk hM hX14 hS (zsp h) dX12_atom_226
        · have h := zt h hc52
          exact hK18 _ _ hM hX14 hS h13 _ (lv_sub hl [1, 0] rfl) h
    · have h := zt h hc15
      refine lv_aload_n hx hb dX12_atom_45 rfl (lv_at hl 1 rfl) ?_
      obtain ⟨r60, S61, hr59, h⟩ := zb2 h
      refine z_runi (va_runV (As := []) (rest := []) ⟨hx, hb, hml, hown, hg⟩ (hrc h13 hr59) (z_cwV hg zw_1276 zw_1277 zw_1510 zw_13 zw_1278 zh_X12_sumOf ⟨by show 4 * dd + 1 ≤ 4 * dd + 2; omega, by show 8 + (4 + 11) + (92 * dd) ≤ 92 * dd + 46; omega⟩) (zPV hC hM h13 (by decide) rfl) rfl rfl hl.1 rfl (lv_room (Nat.le_of_ble_eq_true rfl)) dX12_atom_46 ⟨(Nat.le_of_ble_eq_true rfl), (Nat.le_of_ble_eq_true rfl)⟩) hS (fun H locs hM hX62 hS => ?_)
      have h64 := h13.mo hX62
      have hX65 := hX14.tr hX62
      refine lv_istore_n (i := 2) (lv' := [(2, .int r60), (1, .int r2), (0, .ref (B + a0))]) hx hb dX12_atom_49 rfl hl (by decide) rfl (fun ls hl => ?_)
      refine lv_aload_n hx hb dX12_atom_50 rfl (lv_at hl 2 rfl) ?_
      refine lv_dup hx hb dX12_atom_51 rfl ?_
      refine z_getI hx hb hg zin_12 hown hK hM h64 12 rfl (by decide) (hg _ zw_1012) (fun _ h9 => h9) dX12_atom_52 ?_
      refine lv_iconst (v := (1 : Int32)) hx hb dX12_atom_55 (by decide +kernel) ?_
      refine lv_iadd hx hb dX12_atom_56 ?_
      refine z_putI hx hb hg zin_12 tyX12 tyX12_ok nmX12 hown hK hM hS h64 12 rfl (by decide) (hg _ zw_1012) (fun _ h9 => h9) (Or.inl rfl) (tyX12_ok 12 (by decide)) rfl rfl dX12_atom_57 (fun H locs hM hS => ?_)
      obtain ⟨S66, e67, h⟩ := zlg h
      rw [← e67] at hM
      have hX68 : zX S61 S66 := by rw [e67]; exact zX_pI
      have hX69 := hX65.tr hX68
      refine lv_iload_n hx hb dX12_atom_60 rfl (lv_at hl 0 rfl) ?_
      exact z_iret hx hb hr hlk hM hX69 hS (zsp h) dX12_atom_61
  · have h := zf h hc9
    refine lv_aload_n hx hb dX12_atom_19 rfl (lv_at hl 1 rfl) ?_
    obtain ⟨r71, S72, hr70, h⟩ := zb2 h
    refine z_runi (va_runV (As := []) (rest := []) ⟨hx, hb, hml, hown, hg⟩ (c_X12_readsNumber l D cy B ha0 hr70) (z_cwV hg zw_1254 zw_1255 zw_1505 zw_13 zw_1256 zh_X12_readsNumber ⟨by show 1 + 1 ≤ 4 * dd + 2; omega, by show 8 + (2 + 11) + 25 ≤ 92 * dd + 46; omega⟩) (zPV hC hM ha0 (by decide) rfl) rfl rfl hl.1 rfl (lv_room (Nat.le_of_ble_eq_true rfl)) dX12_atom_20 ⟨(Nat.le_of_ble_eq_true rfl), (Nat.le_of_ble_eq_true rfl)⟩) hS (fun H locs hM hX73 hS => ?_)
    have h75 := ha0.mo hX73
    have hX76 := hX0.tr hX73
    refine lv_istore_n (i := 2) (lv' := [(2, .int r71), (1, .int r2), (0, .ref (B + a0))]) hx hb dX12_atom_23 rfl hl (by decide) rfl (fun ls hl => ?_)
    refine lv_aload_n hx hb dX12_atom_24 rfl (lv_at hl 2 rfl) ?_
    refine z_getI hx hb hg zin_12 hown hK hM h75 16 rfl (by decide) (hg _ zw_1016) (fun _ h9 => h9) dX12_atom_25 ?_
    exact z_iret hx hb hr hlk hM hX76 hS (zsp h) dX12_atom_28
def f_X12_product_L5b (n : Nat) (rc : zM → Nat → Option (Int32 × zM)) (a0 : Nat) (rc : zM → Nat → Option (Int32 × zM)) (K11 : Int32 → zM → Option (Int32 × zM)) (rec5 : Int32 → zM → Option (Int32 × zM)) (x13 : Int32) (S14 : zM) : Option (Int32 × zM) :=
  zB1 (f_X12_sign S14 a0) (fun r17 => zLet (zB1 (f_X12_sign S14 a0) (fun r24 => zLet (zpI S14 a0 12 ((zi S14 a0 12) + (1 : Int32))) (fun S27 => zB2 (f_X12_atom n rc S27 a0) (fun r33 S34 => if r24 = (42 : Int32) then rec5 (x13 * r33) S34 else if r33 = 0 then rec5 (0 : Int32) S34 else zChk (¬ r33 = 0) (rec5 (x13 / r33) S34))))) (fun K22 => if r17 = (42 : Int32) then K22 else zB1 (f_X12_sign S14 a0) (fun r44 => if r44 = (47 : Int32) then K22 else K11 x13 S14)))
def f_X12_product_L5 (n : Nat) (rc : zM → Nat → Option (Int32 × zM)) (a0 : Nat) (rc : zM → Nat → Option (Int32 × zM)) (K11 : Int32 → zM → Option (Int32 × zM)) : Nat → Int32 → zM → Option (Int32 × zM)
  | 0 => fun _ _ => none
  | k + 1 => fun x13 S14 => f_X12_product_L5b n rc a0 rc K11 (f_X12_product_L5 n rc a0 rc K11 k) x13 S14
def f_X12_product (n : Nat) (rc : zM → Nat → Option (Int32 × zM)) (S0 : zM) (a0 : Nat) : Option (Int32 × zM) :=
  zB2 (f_X12_atom n rc S0 a0) (fun r2 S3 => zLet (fun (x8 : Int32) (S9 : zM) => some ((x8, S9))) (fun K11 => f_X12_product_L5 n rc a0 rc K11 n r2 S3))
set_option maxHeartbeats 4000000 in
set_option maxRecDepth 100000 in
theorem c_X12_product (l : Launch) (D : va_G) (cy : Nat → ClassId) (B : Nat) (dd : Nat) {rc : zM → Nat → Option (Int32 × zM)} (hrc : ∀ {S : zM} {b0 : Nat} {q : Int32} {S1 : zM}, zA S b0 12 →  rc S b0 = some (q, S1) → Met l yX12_sumOf (zws yX12_sumOf cX12_sumOf 4 ((some .int))) { frames := 4 * dd, cells := 0, slots := 0, locals := 92 * dd } (zPc D cy B S [.ref (B + b0)]) (zQi D cy B S q S1) 0 0 (fun q => B < q)) {n : Nat} {S0 : zM} {a0 : Nat} {r : Int32} {S' : zM} (ha0 : zA S0 a0 12) (h : f_X12_product n rc S0 a0 = some (r, S')) : Met l yX12_product (zws yX12_product cX12_product 4 ((some .int))) { frames := 4 * dd + 3, cells := 0, slots := 0, locals := 92 * dd + 69 } (zPc D cy B S0 [.ref (B + a0)]) (zQi D cy B S0 r S') 0 0 (fun q => B < q) := by
  refine Met.ofW (cc := cX12_product) (maxL := 4) (ret := ((some .int))) (by decide) rfl ?_
  intro p e s m args below meth c s₁ Bd hml hv
  obtain ⟨rfl, hC, hM⟩ := hv
  obtain ⟨hx, hb, hr, hg, hown, hlk⟩ := z_open Bd
  have hK := hC.1
  have hS : va_S (fun q => B < q) s.heap s.heap [] := va_S.rf
  have hX0 : zX S0 S0 := zX.rf
  refine z_entry (vs := [.ref (B + a0)]) (Nat.le_of_ble_eq_true rfl) (fun ls hl => ?_)
  have hl : lv_has ls 4 [(0, .ref (B + a0))] := hl
  unfold f_X12_product at h
  refine lv_aload_n hx hb dX12_product_0 rfl (lv_at hl 0 rfl) ?_
  obtain ⟨r2, S3, hr1, h⟩ := zb2 h
  refine z_runi (va_runV (As := []) (rest := []) ⟨hx, hb, hml, hown, hg⟩ (c_X12_atom l D cy B dd hrc ha0 hr1) (z_cwV hg zw_1282 zw_1283 zw_1512 zw_13 zw_1284 zh_X12_atom ⟨by show 4 * dd + 2 + 1 ≤ 4 * dd + 3; omega, by show 8 + (4 + 11) + (92 * dd + 46) ≤ 92 * dd + 69; omega⟩) (zPV hC hM ha0 (by decide) rfl) rfl rfl hl.1 rfl (lv_room (Nat.le_of_ble_eq_true rfl)) dX12_product_1 ⟨(Nat.le_of_ble_eq_true rfl), (Nat.le_of_ble_eq_true rfl)⟩) hS (fun H locs hM hX4 hS => ?_)
  have h6 := ha0.mo hX4
  have hX7 := hX0.tr hX4
  refine lv_istore_n (i := 1) (lv' := [(1, .int r2), (0, .ref (B + a0))]) hx hb dX12_product_4 rfl hl (by decide) rfl (fun ls hl => ?_)
  obtain ⟨K11, eK11, h⟩ := zlg h
  have hK11 : ∀ (x8 : Int32) (S9 : zM) (H : Heap) (locs : List Loc), zMR D cy B S9 H → zX S0 S9 → va_S (fun q => B < q) s.heap H locs → ∀ ls : Array Slot, lv_has ls 4 [(1, .int x8)] → K11 x8 S9 = some (r, S') → W p l e (headSpec (zws yX12_product cX12_product 4 ((some .int))) { frames := 4 * dd + 3, cells := 0, slots := 0, locals := 92 * dd + 69 }).room s m (([.ref (B + a0)] : List Value).toArray) below meth c H locs 0 0 (MQ below (zQi D cy B S0 r S') (([.ref (B + a0)] : List Value).toArray) s 0 0 (fun q => B < q)) (F0 m 70 ls []) := by
    intro x8 S9 H locs hM hX10 hS ls hl h
    rw [eK11] at h
    refine lv_iload_n hx hb dX12_product_70 rfl (lv_at hl 0 rfl) ?_
    exact z_iret hx hb hr hlk hM hX10 hS (zsp h) dX12_product_71
  have hL5 : ∀ (k : Nat) (x13 : Int32) (S14 : zM) (H : Heap) (locs : List Loc), zMR D cy B S14 H → zX S0 S14 → va_S (fun q => B < q) s.heap H locs → zA S14 a0 12 → ∀ ls : Array Slot, lv_has ls 4 [(0, .ref (B + a0)), (1, .int x13)] → f_X12_product_L5 n rc a0 rc K11 k x13 S14 = some (r, S') → W p l e (headSpec (zws yX12_product cX12_product 4 ((some .int))) { frames := 4 * dd + 3, cells := 0, slots := 0, locals := 92 * dd + 69 }).room s m (([.ref (B + a0)] : List Value).toArray) below meth c H locs 0 0 (MQ below (zQi D cy B S0 r S') (([.ref (B + a0)] : List Value).toArray) s 0 0 (fun q => B < q)) (F0 m 5 ls []) := by
    intro k
    induction k with
    | zero =>
      intro x13 S14 H locs hM hX15 hS h12 ls hl h
      exact znone h
    | succ k ih5 =>
      intro x13 S14 H locs hM hX15 hS h12 ls hl h
      replace h : f_X12_product_L5b n rc a0 rc K11 (f_X12_product_L5 n rc a0 rc K11 k) x13 S14 = some (r, S') := h
      generalize f_X12_product_L5 n rc a0 rc K11 k = rec5 at ih5 h
      unfold f_X12_product_L5b at h
      refine lv_aload_n hx hb dX12_product_5 rfl (lv_at hl 0 rfl) ?_
      obtain ⟨r17, hr16, h⟩ := zb1 h
      refine z_runi (va_runV (As := []) (rest := []) ⟨hx, hb, hml, hown, hg⟩ (c_X12_sign l D cy B h12 hr16) (z_cwV hg zw_1236 zw_1237 zw_1500 zw_13 zw_1238 zh_X12_sign ⟨by show 0 + 1 ≤ 4 * dd + 3; omega, by show 8 + (1 + 11) + 0 ≤ 92 * dd + 69; omega⟩) (zPV hC hM h12 (by decide) rfl) rfl rfl hl.1 rfl (lv_room (Nat.le_of_ble_eq_true rfl)) dX12_product_6 ⟨(Nat.le_of_ble_eq_true rfl), (Nat.le_of_ble_eq_true rfl)⟩) hS (fun H locs hM hX18 hS => ?_)
      refine lv_bipush (v := (42 : Int32)) hx hb dX12_product_9 (by decide +kernel) ?_
      obtain ⟨K22, eK22, h⟩ := zlg h
      have hK22 : ∀ (H : Heap) (locs : List Loc), zMR D cy B S14 H → zX S0 S14 → va_S (fun q => B < q) s.heap H locs → zA S14 a0 12 → ∀ ls : Array Slot, lv_has ls 4 [(0, .ref (B + a0)), (1, .int x13)] → K22 = some (r, S') → W p l e (headSpec (zws yX12_product cX12_product 4 ((some .int))) { frames := 4 * dd + 3, cells := 0, slots := 0, locals := 92 * dd + 69 }).room s m (([.ref (B + a0)] : List Value).toArray) below meth c H locs 0 0 (MQ below (zQi D cy B S0 r S') (([.ref (B + a0)] : List Value).toArray) s 0 0 (fun q => B < q)) (F0 m 23 ls []) := by
        intro H locs hM hX21 hS h20 ls hl h
        rw [eK22] at h
        refine lv_aload_n hx hb dX12_product_23 rfl (lv_at hl 0 rfl) ?_
        obtain ⟨r24, hr23, h⟩ := zb1 h
        refine z_runi (va_runV (As := []) (rest := []) ⟨hx, hb, hml, hown, hg⟩ (c_X12_sign l D cy B h20 hr23) (z_cwV hg zw_1236 zw_1237 zw_1500 zw_13 zw_1238 zh_X12_sign ⟨by show 0 + 1 ≤ 4 * dd + 3; omega, by show 8 + (1 + 11) + 0 ≤ 92 * dd + 69; omega⟩) (zPV hC hM h20 (by decide) rfl) rfl rfl hl.1 rfl (lv_room (Nat.le_of_ble_eq_true rfl)) dX12_product_24 ⟨(Nat.le_of_ble_eq_true rfl), (Nat.le_of_ble_eq_true rfl)⟩) hS (fun H locs hM hX25 hS => ?_)
        refine lv_istore_n (i := 2) (lv' := [(2, .int r24), (0, .ref (B + a0)), (1, .int x13)]) hx hb dX12_product_27 rfl hl (by decide) rfl (fun ls hl => ?_)
        refine lv_aload_n hx hb dX12_product_28 rfl (lv_at hl 1 rfl) ?_
        refine lv_dup hx hb dX12_product_29 rfl ?_
        refine z_getI hx hb hg zin_12 hown hK hM h20 12 rfl (by decide) (hg _ zw_1012) (fun _ h9 => h9) dX12_product_30 ?_
        refine lv_iconst (v := (1 : Int32)) hx hb dX12_product_33 (by decide +kernel) ?_
        refine lv_iadd hx hb dX12_product_34 ?_
        refine z_putI hx hb hg zin_12 tyX12 tyX12_ok nmX12 hown hK hM hS h20 12 rfl (by decide) (hg _ zw_1012) (fun _ h9 => h9) (Or.inl rfl) (tyX12_ok 12 (by decide)) rfl rfl dX12_product_35 (fun H locs hM hS => ?_)
        obtain ⟨S27, e28, h⟩ := zlg h
        rw [← e28] at hM
        have hX29 : zX S14 S27 := by rw [e28]; exact zX_pI
        have h30 := h20.mo hX29
        have hX31 := hX21.tr hX29
        refine lv_aload_n hx hb dX12_product_38 rfl (lv_at hl 1 rfl) ?_
        obtain ⟨r33, S34, hr32, h⟩ := zb2 h
        refine z_runi (va_runV (As := []) (rest := []) ⟨hx, hb, hml, hown, hg⟩ (c_X12_atom l D cy B dd hrc h30 hr32) (z_cwV hg zw_1282 zw_1283 zw_1512 zw_13 zw_1284 zh_X12_atom ⟨by show 4 * dd + 2 + 1 ≤ 4 * dd + 3; omega, by show 8 + (4 + 11) + (92 * dd + 46) ≤ 92 * dd + 69; omega⟩) (zPV hC hM h30 (by decide) rfl) rfl rfl hl.1 rfl (lv_room (Nat.le_of_ble_eq_true rfl)) dX12_product_39 ⟨(Nat.le_of_ble_eq_true rfl), (Nat.le_of_ble_eq_true rfl)⟩) hS (fun H locs hM hX35 hS => ?_)
        have h37 := h30.mo hX35
        have hX38 := hX31.tr hX35
        refine lv_istore_n (i := 3) (lv' := [(3, .int r33), (2, .int r24), (0, .ref (B + a0)), (1, .int x13)]) hx hb dX12_product_42 rfl hl (by decide) rfl (fun ls hl => ?_)
        refine lv_iload_n hx hb dX12_product_43 rfl (lv_at hl 1 rfl) ?_
        refine lv_bipush (v := (42 : Int32)) hx hb dX12_product_44 (by decide +kernel) ?_
        refine lv_icmp_ne (tgt := 55) hx hb dX12_product_46 (by decide) (fun hc39 => ?_) (fun hc39 => ?_)
        · have h := zf h hc39
          refine lv_iload_n hx hb dX12_product_55 rfl (lv_at hl 0 rfl) ?_
          refine lv_if_ne (tgt := 63) hx hb dX12_product_56 (by decide) (fun hc40 => ?_) (fun hc40 => ?_)
          · have h := zf h hc40
            refine lv_iload_n hx hb dX12_product_63 rfl (lv_at hl 3 rfl) ?_
            refine lv_iload_n hx hb dX12_product_64 rfl (lv_at hl 0 rfl) ?_
            obtain ⟨hq41, h⟩ := zk h
            refine lv_idiv hx hb dX12_product_65 hq41 ?_
            refine lv_istore_n (i := 1) (lv' := [(1, .int (x13 / r33)), (3, .int r33), (2, .int r24), (0, .ref (B + a0))]) hx hb dX12_product_66 rfl hl (by decide) rfl (fun ls hl => ?_)
            refine lv_goto (tgt := 5) hx hb dX12_product_67 (by decide) ?_
            exact ih5 (x13 / r33) S34 _ _ hM hX38 hS h37 _ (lv_sub hl [3, 0] rfl) h
          · have h := zt h hc40
            refine lv_iconst (v := (0 : Int32)) hx hb dX12_product_59 (by decide +kernel) ?_
            refine lv_goto (tgt := 66) hx hb dX12_product_60 (by decide) ?_
            refine lv_istore_n (i := 1) (lv' := [(1, .int (0 : Int32)), (3, .int r33), (2, .int r24), (0, .ref (B + a0))]) hx hb dX12_product_66 rfl hl (by decide) rfl (fun ls hl => ?_)
            refine lv_goto (tgt := 5) hx hb dX12_product_67 (by decide) ?_
            exact ih5 (0 : Int32) S34 _ _ hM hX38 hS h37 _ (lv_sub hl [3, 0] rfl) h
        · have h := zt h hc39
          refine lv_iload_n hx hb dX12_product_49 rfl (lv_at hl 3 rfl) ?_
          refine lv_iload_n hx hb dX12_product_50 rfl (lv_at hl 0 rfl) ?_
          refine lv_imul hx hb dX12_product_51 ?_
          refine lv_goto (tgt := 66) hx hb dX12_product_52 (by decide) ?_
          refine lv_istore_n (i := 1) (lv' := [(1, .int (x13 * r33)), (3, .int r33), (2, .int r24), (0, .ref (B + a0))]) hx hb dX12_product_66 rfl hl (by decide) rfl (fun ls hl => ?_)
          refine lv_goto (tgt := 5) hx hb dX12_product_67 (by decide) ?_
          exact ih5 (x13 * r33) S34 _ _ hM hX38 hS h37 _ (lv_sub hl [3, 0] rfl) h
      refine lv_icmp_eq (tgt := 23) hx hb dX12_product_11 (by decide) (fun hc42 => ?_) (fun hc42 => ?_)
      · have h := zt h hc42
        exact hK22 _ _ hM hX15 hS h12 _ (lv_sub hl [0, 1] rfl) h
      · have h := zf h hc42
        refine lv_aload_n hx hb dX12_product_14 rfl (lv_at hl 0 rfl) ?_
        obtain ⟨r44, hr43, h⟩ := zb1 h
        refine z_runi (va_runV (As := []) (rest := []) ⟨hx, hb, hml, hown, hg⟩ (c_X12_sign l D cy B h12 hr43) (z_cwV hg zw_1236 zw_1237 zw_1500 zw_13 zw_1238 zh_X12_sign ⟨by show 0 + 1 ≤ 4 * dd + 3; omega, by show 8 + (1 + 11) + 0 ≤ 92 * dd + 69; omega⟩) (zPV hC hM h12 (by decide) rfl) rfl rfl hl.1 rfl (lv_room (Nat.le_of_ble_eq_true rfl)) dX12_product_15 ⟨(Nat.le_of_ble_eq_true rfl), (Nat.le_of_ble_eq_true rfl)⟩) hS (fun H locs hM hX45 hS => ?_)
        refine lv_bipush (v := (47 : Int32)) hx hb dX12_product_18 (by decide +kernel) ?_
        refine lv_icmp_ne (tgt := 70) hx hb dX12_product_20 (by decide) (fun hc47 => ?_) (fun hc47 => ?_)
        · have h := zf h hc47
          exact hK11 x13 S14 _ _ hM hX15 hS _ (lv_sub hl [1] rfl) h
        · have h := zt h hc47
          exact hK22 _ _ hM hX15 hS h12 _ (lv_sub hl [0, 1] rfl) h
  exact hL5 n r2 S3 _ _ hM hX7 hS h6 _ (lv_sub hl [1, 0] rfl) h
def f_X12_sumOf_L5b (n : Nat) (rc : zM → Nat → Option (Int32 × zM)) (a0 : Nat) (rc : zM → Nat → Option (Int32 × zM)) (K11 : Int32 → zM → Option (Int32 × zM)) (rec5 : Int32 → zM → Option (Int32 × zM)) (x13 : Int32) (S14 : zM) : Option (Int32 × zM) :=
  zB1 (f_X12_sign S14 a0) (fun r17 => zLet (zB1 (f_X12_sign S14 a0) (fun r24 => zLet (zpI S14 a0 12 ((zi S14 a0 12) + (1 : Int32))) (fun S27 => zB2 (f_X12_product n rc S27 a0) (fun r33 S34 => if r24 = (43 : Int32) then rec5 (x13 + r33) S34 else rec5 (x13 - r33) S34)))) (fun K22 => if r17 = (43 : Int32) then K22 else zB1 (f_X12_sign S14 a0) (fun r42 => if r42 = (45 : Int32) then K22 else K11 x13 S14)))
def f_X12_sumOf_L5 (n : Nat) (rc : zM → Nat → Option (Int32 × zM)) (a0 : Nat) (rc : zM → Nat → Option (Int32 × zM)) (K11 : Int32 → zM → Option (Int32 × zM)) : Nat → Int32 → zM → Option (Int32 × zM)
  | 0 => fun _ _ => none
  | k + 1 => fun x13 S14 => f_X12_sumOf_L5b n rc a0 rc K11 (f_X12_sumOf_L5 n rc a0 rc K11 k) x13 S14
def f_X12_sumOfO (n : Nat) (rc : zM → Nat → Option (Int32 × zM)) (S0 : zM) (a0 : Nat) : Option (Int32 × zM) :=
  zB2 (f_X12_product n rc S0 a0) (fun r2 S3 => zLet (fun (x8 : Int32) (S9 : zM) => some ((x8, S9))) (fun K11 => f_X12_sumOf_L5 n rc a0 rc K11 n r2 S3))
def f_X12_sumOf (n : Nat) : Nat → zM → Nat → Option (Int32 × zM)
  | 0 => fun _ _ => none
  | d + 1 => f_X12_sumOfO n (f_X12_sumOf n d)
set_option maxHeartbeats 4000000 in
set_option maxRecDepth 100000 in
theorem c_X12_sumOfO (l : Launch) (D : va_G) (cy : Nat → ClassId) (B : Nat) (dd : Nat) {rc : zM → Nat → Option (Int32 × zM)} (hrc : ∀ {S : zM} {b0 : Nat} {q : Int32} {S1 : zM}, zA S b0 12 →  rc S b0 = some (q, S1) → Met l yX12_sumOf (zws yX12_sumOf cX12_sumOf 4 ((some .int))) { frames := 4 * dd, cells := 0, slots := 0, locals := 92 * dd } (zPc D cy B S [.ref (B + b0)]) (zQi D cy B S q S1) 0 0 (fun q => B < q)) {n : Nat} {S0 : zM} {a0 : Nat} {r : Int32} {S' : zM} (ha0 : zA S0 a0 12) (h : f_X12_sumOfO n rc S0 a0 = some (r, S')) : Met l yX12_sumOf (zws yX12_sumOf cX12_sumOf 4 ((some .int))) { frames := 4 * dd + 4, cells := 0, slots := 0, locals := 92 * dd + 92 } (zPc D cy B S0 [.ref (B + a0)]) (zQi D cy B S0 r S') 0 0 (fun q => B < q) := by
  refine Met.ofW (cc := cX12_sumOf) (maxL := 4) (ret := ((some .int))) (by decide) rfl ?_
  intro p e s m args below meth c s₁ Bd hml hv
  obtain ⟨rfl, hC, hM⟩ := hv
  obtain ⟨hx, hb, hr, hg, hown, hlk⟩ := z_open Bd
  have hK := hC.1
  have hS : va_S (fun q => B < q) s.heap s.heap [] := va_S.rf
  have hX0 : zX S0 S0 := zX.rf
  refine z_entry (vs := [.ref (B + a0)]) (Nat.le_of_ble_eq_true rfl) (fun ls hl => ?_)
  have hl : lv_has ls 4 [(0, .ref (B + a0))] := hl
  unfold f_X12_sumOfO at h
  refine lv_aload_n hx hb dX12_sumOf_0 rfl (lv_at hl 0 rfl) ?_
  obtain ⟨r2, S3, hr1, h⟩ := zb2 h
  refine z_runi (va_runV (As := []) (rest := []) ⟨hx, hb, hml, hown, hg⟩ (c_X12_product l D cy B dd hrc ha0 hr1) (z_cwV hg zw_1279 zw_1280 zw_1511 zw_13 zw_1281 zh_X12_product ⟨by show 4 * dd + 3 + 1 ≤ 4 * dd + 4; omega, by show 8 + (4 + 11) + (92 * dd + 69) ≤ 92 * dd + 92; omega⟩) (zPV hC hM ha0 (by decide) rfl) rfl rfl hl.1 rfl (lv_room (Nat.le_of_ble_eq_true rfl)) dX12_sumOf_1 ⟨(Nat.le_of_ble_eq_true rfl), (Nat.le_of_ble_eq_true rfl)⟩) hS (fun H locs hM hX4 hS => ?_)
  have h6 := ha0.mo hX4
  have hX7 := hX0.tr hX4
  refine lv_istore_n (i := 1) (lv' := [(1, .int r2), (0, .ref (B + a0))]) hx hb dX12_sumOf_4 rfl hl (by decide) rfl (fun ls hl => ?_)
  obtain ⟨K11, eK11, h⟩ := zlg h
  have hK11 : ∀ (x8 : Int32) (S9 : zM) (H : Heap) (locs : List Loc), zMR D cy B S9 H → zX S0 S9 → va_S (fun q => B < q) s.heap H locs → ∀ ls : Array Slot, lv_has ls 4 [(1, .int x8)] → K11 x8 S9 = some (r, S') → W p l e (headSpec (zws yX12_sumOf cX12_sumOf 4 ((some .int))) { frames := 4 * dd + 4, cells := 0, slots := 0, locals := 92 * dd + 92 }).room s m (([.ref (B + a0)] : List Value).toArray) below meth c H locs 0 0 (MQ below (zQi D cy B S0 r S') (([.ref (B + a0)] : List Value).toArray) s 0 0 (fun q => B < q)) (F0 m 62 ls []) := by
    intro x8 S9 H locs hM hX10 hS ls hl h
    rw [eK11] at h
    refine lv_iload_n hx hb dX12_sumOf_62 rfl (lv_at hl 0 rfl) ?_
    exact z_iret hx hb hr hlk hM hX10 hS (zsp h) dX12_sumOf_63
  have hL5 : ∀ (k : Nat) (x13 : Int32) (S14 : zM) (H : Heap) (locs : List Loc), zMR D cy B S14 H → zX S0 S14 → va_S (fun q => B < q) s.heap H locs → zA S14 a0 12 → ∀ ls : Array Slot, lv_has ls 4 [(0, .ref (B + a0)), (1, .int x13)] → f_X12_sumOf_L5 n rc a0 rc K11 k x13 S14 = some (r, S') → W p l e (headSpec (zws yX12_sumOf cX12_sumOf 4 ((some .int))) { frames := 4 * dd + 4, cells := 0, slots := 0, locals := 92 * dd + 92 }).room s m (([.ref (B + a0)] : List Value).toArray) below meth c H locs 0 0 (MQ below (zQi D cy B S0 r S') (([.ref (B + a0)] : List Value).toArray) s 0 0 (fun q => B < q)) (F0 m 5 ls []) := by
    intro k
    induction k with
    | zero =>
      intro x13 S14 H locs hM hX15 hS h12 ls hl h
      exact znone h
    | succ k ih5 =>
      intro x13 S14 H locs hM hX15 hS h12 ls hl h
      replace h : f_X12_sumOf_L5b n rc a0 rc K11 (f_X12_sumOf_L5 n rc a0 rc K11 k) x13 S14 = some (r, S') := h
      generalize f_X12_sumOf_L5 n rc a0 rc K11 k = rec5 at ih5 h
      unfold f_X12_sumOf_L5b at h
      refine lv_aload_n hx hb dX12_sumOf_5 rfl (lv_at hl 0 rfl) ?_
      obtain ⟨r17, hr16, h⟩ := zb1 h
      refine z_runi (va_runV (As := []) (rest := []) ⟨hx, hb, hml, hown, hg⟩ (c_X12_sign l D cy B h12 hr16) (z_cwV hg zw_1236 zw_1237 zw_1500 zw_13 zw_1238 zh_X12_sign ⟨by show 0 + 1 ≤ 4 * dd + 4; omega, by show 8 + (1 + 11) + 0 ≤ 92 * dd + 92; omega⟩) (zPV hC hM h12 (by decide) rfl) rfl rfl hl.1 rfl (lv_room (Nat.le_of_ble_eq_true rfl)) dX12_sumOf_6 ⟨(Nat.le_of_ble_eq_true rfl), (Nat.le_of_ble_eq_true rfl)⟩) hS (fun H locs hM hX18 hS => ?_)
      refine lv_bipush (v := (43 : Int32)) hx hb dX12_sumOf_9 (by decide +kernel) ?_
      obtain ⟨K22, eK22, h⟩ := zlg h
      have hK22 : ∀ (H : Heap) (locs : List Loc), zMR D cy B S14 H → zX S0 S14 → va_S (fun q => B < q) s.heap H locs → zA S14 a0 12 → ∀ ls : Array Slot, lv_has ls 4 [(0, .ref (B + a0)), (1, .int x13)] → K22 = some (r, S') → W p l e (headSpec (zws yX12_sumOf cX12_sumOf 4 ((some .int))) { frames := 4 * dd + 4, cells := 0, slots := 0, locals := 92 * dd + 92 }).room s m (([.ref (B + a0)] : List Value).toArray) below meth c H locs 0 0 (MQ below (zQi D cy B S0 r S') (([.ref (B + a0)] : List Value).toArray) s 0 0 (fun q => B < q)) (F0 m 23 ls []) := by
        intro H locs hM hX21 hS h20 ls hl h
        rw [eK22] at h
        refine lv_aload_n hx hb dX12_sumOf_23 rfl (lv_at hl 0 rfl) ?_
        obtain ⟨r24, hr23, h⟩ := zb1 h
        refine z_runi (va_runV (As := []) (rest := []) ⟨hx, hb, hml, hown, hg⟩ (c_X12_sign l D cy B h20 hr23) (z_cwV hg zw_1236 zw_1237 zw_1500 zw_13 zw_1238 zh_X12_sign ⟨by show 0 + 1 ≤ 4 * dd + 4; omega, by show 8 + (1 + 11) + 0 ≤ 92 * dd + 92; omega⟩) (zPV hC hM h20 (by decide) rfl) rfl rfl hl.1 rfl (lv_room (Nat.le_of_ble_eq_true rfl)) dX12_sumOf_24 ⟨(Nat.le_of_ble_eq_true rfl), (Nat.le_of_ble_eq_true rfl)⟩) hS (fun H locs hM hX25 hS => ?_)
        refine lv_istore_n (i := 2) (lv' := [(2, .int r24), (0, .ref (B + a0)), (1, .int x13)]) hx hb dX12_sumOf_27 rfl hl (by decide) rfl (fun ls hl => ?_)
        refine lv_aload_n hx hb dX12_sumOf_28 rfl (lv_at hl 1 rfl) ?_
        refine lv_dup hx hb dX12_sumOf_29 rfl ?_
        refine z_getI hx hb hg zin_12 hown hK hM h20 12 rfl (by decide) (hg _ zw_1012) (fun _ h9 => h9) dX12_sumOf_30 ?_
        refine lv_iconst (v := (1 : Int32)) hx hb dX12_sumOf_33 (by decide +kernel) ?_
        refine lv_iadd hx hb dX12_sumOf_34 ?_
        refine z_putI hx hb hg zin_12 tyX12 tyX12_ok nmX12 hown hK hM hS h20 12 rfl (by decide) (hg _ zw_1012) (fun _ h9 => h9) (Or.inl rfl) (tyX12_ok 12 (by decide)) rfl rfl dX12_sumOf_35 (fun H locs hM hS => ?_)
        obtain ⟨S27, e28, h⟩ := zlg h
        rw [← e28] at hM
        have hX29 : zX S14 S27 := by rw [e28]; exact zX_pI
        have h30 := h20.mo hX29
        have hX31 := hX21.tr hX29
        refine lv_aload_n hx hb dX12_sumOf_38 rfl (lv_at hl 1 rfl) ?_
        obtain ⟨r33, S34, hr32, h⟩ := zb2 h
        refine z_runi (va_runV (As := []) (rest := []) ⟨hx, hb, hml, hown, hg⟩ (c_X12_product l D cy B dd hrc h30 hr32) (z_cwV hg zw_1279 zw_1280 zw_1511 zw_13 zw_1281 zh_X12_product ⟨by show 4 * dd + 3 + 1 ≤ 4 * dd + 4; omega, by show 8 + (4 + 11) + (92 * dd + 69) ≤ 92 * dd + 92; omega⟩) (zPV hC hM h30 (by decide) rfl) rfl rfl hl.1 rfl (lv_room (Nat.le_of_ble_eq_true rfl)) dX12_sumOf_39 ⟨(Nat.le_of_ble_eq_true rfl), (Nat.le_of_ble_eq_true rfl)⟩) hS (fun H locs hM hX35 hS => ?_)
        have h37 := h30.mo hX35
        have hX38 := hX31.tr hX35
        refine lv_istore_n (i := 3) (lv' := [(3, .int r33), (2, .int r24), (0, .ref (B + a0)), (1, .int x13)]) hx hb dX12_sumOf_42 rfl hl (by decide) rfl (fun ls hl => ?_)
        refine lv_iload_n hx hb dX12_sumOf_43 rfl (lv_at hl 1 rfl) ?_
        refine lv_bipush (v := (43 : Int32)) hx hb dX12_sumOf_44 (by decide +kernel) ?_
        refine lv_icmp_ne (tgt := 55) hx hb dX12_sumOf_46 (by decide) (fun hc39 => ?_) (fun hc39 => ?_)
        · have h := zf h hc39
          refine lv_iload_n hx hb dX12_sumOf_55 rfl (lv_at hl 3 rfl) ?_
          refine lv_iload_n hx hb dX12_sumOf_56 rfl (lv_at hl 0 rfl) ?_
          refine lv_isub hx hb dX12_sumOf_57 ?_
          refine lv_istore_n (i := 1) (lv' := [(1, .int (x13 - r33)), (3, .int r33), (2, .int r24), (0, .ref (B + a0))]) hx hb dX12_sumOf_58 rfl hl (by decide) rfl (fun ls hl => ?_)
          refine lv_goto (tgt := 5) hx hb dX12_sumOf_59 (by decide) ?_
          exact ih5 (x13 - r33) S34 _ _ hM hX38 hS h37 _ (lv_sub hl [3, 0] rfl) h
        · have h := zt h hc39
          refine lv_iload_n hx hb dX12_sumOf_49 rfl (lv_at hl 3 rfl) ?_
          refine lv_iload_n hx hb dX12_sumOf_50 rfl (lv_at hl 0 rfl) ?_
          refine lv_iadd hx hb dX12_sumOf_51 ?_
          refine lv_goto (tgt := 58) hx hb dX12_sumOf_52 (by decide) ?_
          refine lv_istore_n (i := 1) (lv' := [(1, .int (x13 + r33)), (3, .int r33), (2, .int r24), (0, .ref (B + a0))]) hx hb dX12_sumOf_58 rfl hl (by decide) rfl (fun ls hl => ?_)
          refine lv_goto (tgt := 5) hx hb dX12_sumOf_59 (by decide) ?_
          exact ih5 (x13 + r33) S34 _ _ hM hX38 hS h37 _ (lv_sub hl [3, 0] rfl) h
      refine lv_icmp_eq (tgt := 23) hx hb dX12_sumOf_11 (by decide) (fun hc40 => ?_) (fun hc40 => ?_)
      · have h := zt h hc40
        exact hK22 _ _ hM hX15 hS h12 _ (lv_sub hl [0, 1] rfl) h
      · have h := zf h hc40
        refine lv_aload_n hx hb dX12_sumOf_14 rfl (lv_at hl 0 rfl) ?_
        obtain ⟨r42, hr41, h⟩ := zb1 h
        refine z_runi (va_runV (As := []) (rest := []) ⟨hx, hb, hml, hown, hg⟩ (c_X12_sign l D cy B h12 hr41) (z_cwV hg zw_1236 zw_1237 zw_1500 zw_13 zw_1238 zh_X12_sign ⟨by show 0 + 1 ≤ 4 * dd + 4; omega, by show 8 + (1 + 11) + 0 ≤ 92 * dd + 92; omega⟩) (zPV hC hM h12 (by decide) rfl) rfl rfl hl.1 rfl (lv_room (Nat.le_of_ble_eq_true rfl)) dX12_sumOf_15 ⟨(Nat.le_of_ble_eq_true rfl), (Nat.le_of_ble_eq_true rfl)⟩) hS (fun H locs hM hX43 hS => ?_)
        refine lv_bipush (v := (45 : Int32)) hx hb dX12_sumOf_18 (by decide +kernel) ?_
        refine lv_icmp_ne (tgt := 62) hx hb dX12_sumOf_20 (by decide) (fun hc45 => ?_) (fun hc45 => ?_)
        · have h := zf h hc45
          exact hK11 x13 S14 _ _ hM hX15 hS _ (lv_sub hl [1] rfl) h
        · have h := zt h hc45
          exact hK22 _ _ hM hX15 hS h12 _ (lv_sub hl [0, 1] rfl) h
  exact hL5 n r2 S3 _ _ hM hX7 hS h6 _ (lv_sub hl [1, 0] rfl) h
theorem k_X12_sumOf (l : Launch) (D : va_G) (cy : Nat → ClassId) (B n : Nat) : ∀ (dd : Nat) {S : zM} {b0 : Nat} {q : Int32} {S1 : zM}, zA S b0 12 →  f_X12_sumOf n dd S b0 = some (q, S1) → Met l yX12_sumOf (zws yX12_sumOf cX12_sumOf 4 ((some .int))) { frames := 4 * dd, cells := 0, slots := 0, locals := 92 * dd } (zPc D cy B S [.ref (B + b0)]) (zQi D cy B S q S1) 0 0 (fun q => B < q) := by
  intro dd
  induction dd with
  | zero =>
    intro S _ _ _ g0 h
    exact znone h
  | succ dd ih =>
    intro S _ _ _ g0 h
    exact c_X12_sumOfO l D cy B dd @ih g0 h
theorem c_X12_sumOf (l : Launch) (D : va_G) (cy : Nat → ClassId) (B : Nat) {n : Nat} : ∀ {S : zM} {b0 : Nat} {q : Int32} {S1 : zM}, zA S b0 12 →  f_X12_sumOf n 8 S b0 = some (q, S1) → Met l yX12_sumOf (zws yX12_sumOf cX12_sumOf 4 ((some .int))) { frames := 32, cells := 0, slots := 0, locals := 736 } (zPc D cy B S [.ref (B + b0)]) (zQi D cy B S q S1) 0 0 (fun q => B < q) := by
  intro S _ _ _ g0 h
  exact k_X12_sumOf l D cy B n 8 g0 h
def f_X12_asTold (S0 : zM) (a0 : Nat) : Option (zM) :=
  zLet (zpI S0 a0 29 (-1 : Int32)) (fun S1 => zLet (zpI S1 a0 32 (0 : Int32)) (fun S6 => zChk (¬ (zr S6 a0 0) = 0) (zChk (¬ ((878 : Int32) < 0 ∨ zln S6 (zr S6 a0 0) ≤ ((878 : Int32)).toNatClampNeg)) (zLet (zpI S6 a0 30 (zi S6 (zr S6 a0 0) (Int32.toNatClampNeg (878 : Int32)))) (fun S14 => zChk (¬ (zr S14 a0 0) = 0) (zChk (¬ ((879 : Int32) < 0 ∨ zln S14 (zr S14 a0 0) ≤ ((879 : Int32)).toNatClampNeg)) (zLet (zpI S14 a0 31 (zi S14 (zr S14 a0 0) (Int32.toNatClampNeg (879 : Int32)))) (fun S22 => some S22))))))))
set_option maxHeartbeats 4000000 in
set_option maxRecDepth 100000 in
theorem c_X12_asTold (l : Launch) (D : va_G) (cy : Nat → ClassId) (B : Nat) {S0 : zM} {a0 : Nat} {S' : zM} (ha0 : zA S0 a0 12) (h : f_X12_asTold S0 a0 = some S') : Met l yX12_asTold (zws yX12_asTold cX12_asTold 1 none) { frames := 0, cells := 0, slots := 0, locals := 0 } (zPc D cy B S0 [.ref (B + a0)]) (zQv D cy B S0 S') 0 0 (fun q => B < q) := by
  refine Met.ofW (cc := cX12_asTold) (maxL := 1) (ret := none) (by decide) rfl ?_
  intro p e s m args below meth c s₁ Bd hml hv
  obtain ⟨rfl, hC, hM⟩ := hv
  obtain ⟨hx, hb, hr, hg, hown, hlk⟩ := z_open Bd
  have hK := hC.1
  have hS : va_S (fun q => B < q) s.heap s.heap [] := va_S.rf
  have hX0 : zX S0 S0 := zX.rf
  refine z_entry (vs := [.ref (B + a0)]) (Nat.le_of_ble_eq_true rfl) (fun ls hl => ?_)
  have hl : lv_has ls 1 [(0, .ref (B + a0))] := hl
  unfold f_X12_asTold at h
  refine lv_aload_n hx hb dX12_asTold_0 rfl (lv_at hl 0 rfl) ?_
  refine lv_iconst (v := (-1 : Int32)) hx hb dX12_asTold_1 (by decide +kernel) ?_
  refine z_putI hx hb hg zin_12 tyX12 tyX12_ok nmX12 hown hK hM hS ha0 29 rfl (by decide) (hg _ zw_1029) (fun _ h9 => h9) (Or.inl rfl) (tyX12_ok 29 (by decide)) rfl rfl dX12_asTold_2 (fun H locs hM hS => ?_)
  obtain ⟨S1, e2, h⟩ := zlg h
  rw [← e2] at hM
  have hX3 : zX S0 S1 := by rw [e2]; exact zX_pI
  have h4 := ha0.mo hX3
  have hX5 := hX0.tr hX3
  refine lv_aload_n hx hb dX12_asTold_5 rfl (lv_at hl 0 rfl) ?_
  refine lv_iconst (v := (0 : Int32)) hx hb dX12_asTold_6 (by decide +kernel) ?_
  refine z_putI hx hb hg zin_12 tyX12 tyX12_ok nmX12 hown hK hM hS h4 32 rfl (by decide) (hg _ zw_1032) (fun _ h9 => h9) (Or.inl rfl) (tyX12_ok 32 (by decide)) (by decide +kernel) (by decide +kernel) dX12_asTold_7 (fun H locs hM hS => ?_)
  obtain ⟨S6, e7, h⟩ := zlg h
  rw [← e7] at hM
  have hX8 : zX S1 S6 := by rw [e7]; exact zX_pI
  have h9 := h4.mo hX8
  have hX10 := hX5.tr hX8
  refine lv_aload_n hx hb dX12_asTold_10 rfl (lv_at hl 0 rfl) ?_
  refine lv_aload_n hx hb dX12_asTold_11 rfl (lv_at hl 0 rfl) ?_
  obtain ⟨hq12, h⟩ := zk h
  refine z_getN hx hb hg zin_12 hown hK hM h9 0 rfl (by decide) (hg _ zw_1000) (fun _ h9 => h9) hq12 dX12_asTold_12 (fun h11 => ?_)
  refine lv_sipush (v := (878 : Int32)) hx hb dX12_asTold_15 (by decide +kernel) ?_
  obtain ⟨hq13, h⟩ := zk h
  refine z_iald hx hb hK hM h11 hq13 dX12_asTold_18 ?_
  refine z_putI hx hb hg zin_12 tyX12 tyX12_ok nmX12 hown hK hM hS h9 30 rfl (by decide) (hg _ zw_1030) (fun _ h9 => h9) (Or.inl rfl) (tyX12_ok 30 (by decide)) rfl rfl dX12_asTold_19 (fun H locs hM hS => ?_)
  obtain ⟨S14, e15, h⟩ := zlg h
  rw [← e15] at hM
  have hX16 : zX S6 S14 := by rw [e15]; exact zX_pI
  have h17 := h9.mo hX16
  have hX18 := hX10.tr hX16
  refine lv_aload_n hx hb dX12_asTold_22 rfl (lv_at hl 0 rfl) ?_
  refine lv_aload_n hx hb dX12_asTold_23 rfl (lv_at hl 0 rfl) ?_
  obtain ⟨hq20, h⟩ := zk h
  refine z_getN hx hb hg zin_12 hown hK hM h17 0 rfl (by decide) (hg _ zw_1000) (fun _ h9 => h9) hq20 dX12_asTold_24 (fun h19 => ?_)
  refine lv_sipush (v := (879 : Int32)) hx hb dX12_asTold_27 (by decide +kernel) ?_
  obtain ⟨hq21, h⟩ := zk h
  refine z_iald hx hb hK hM h19 hq21 dX12_asTold_30 ?_
  refine z_putI hx hb hg zin_12 tyX12 tyX12_ok nmX12 hown hK hM hS h17 31 rfl (by decide) (hg _ zw_1031) (fun _ h9 => h9) (Or.inl rfl) (tyX12_ok 31 (by decide)) rfl rfl dX12_asTold_31 (fun H locs hM hS => ?_)
  obtain ⟨S22, e23, h⟩ := zlg h
  rw [← e23] at hM
  have hX24 : zX S14 S22 := by rw [e23]; exact zX_pI
  have hX25 := hX18.tr hX24
  exact z_vret hx hb hr hlk hM hX25 hS (zsm h) dX12_asTold_34
def f_X12_leanIn (S0 : zM) (a0 : Nat) (v1 : Int32) (v2 : Int32) : Option (Int32) :=
  zChk (¬ (zr S0 a0 0) = 0) (zB1 (f_X12_get S0 a0 v1 (1 : Int32)) (fun r4 => zChk (¬ (((2 : Int32) * r4) < 0 ∨ zln S0 (zr S0 a0 0) ≤ (((2 : Int32) * r4)).toNatClampNeg)) (zChk (¬ (((16 : Int32) + ((4 : Int32) * v2)) < 0 ∨ zln S0 (zr S0 a0 0) ≤ (((16 : Int32) + ((4 : Int32) * v2))).toNatClampNeg)) (zLet (zChk (¬ (zr S0 a0 0) = 0) (zChk (¬ (((16 : Int32) + ((4 : Int32) * v2)) < 0 ∨ zln S0 (zr S0 a0 0) ≤ (((16 : Int32) + ((4 : Int32) * v2))).toNatClampNeg)) (if (zi S0 (zr S0 a0 0) (Int32.toNatClampNeg ((16 : Int32) + ((4 : Int32) * v2)))) = (3 : Int32) then zChk (¬ ((((16 : Int32) + ((4 : Int32) * v2)) + (1 : Int32)) < 0 ∨ zln S0 (zr S0 a0 0) ≤ ((((16 : Int32) + ((4 : Int32) * v2)) + (1 : Int32))).toNatClampNeg)) (if (zi S0 (zr S0 a0 0) (Int32.toNatClampNeg ((2 : Int32) * r4))) = (zi S0 (zr S0 a0 0) (Int32.toNatClampNeg (((16 : Int32) + ((4 : Int32) * v2)) + (1 : Int32)))) then zChk (¬ ((((16 : Int32) + ((4 : Int32) * v2)) + (2 : Int32)) < 0 ∨ zln S0 (zr S0 a0 0) ≤ ((((16 : Int32) + ((4 : Int32) * v2)) + (2 : Int32))).toNatClampNeg)) (some (zi S0 (zr S0 a0 0) (Int32.toNatClampNeg (((16 : Int32) + ((4 : Int32) * v2)) + (2 : Int32))))) else zChk (¬ ((((16 : Int32) + ((4 : Int32) * v2)) + (3 : Int32)) < 0 ∨ zln S0 (zr S0 a0 0) ≤ ((((16 : Int32) + ((4 : Int32) * v2)) + (3 : Int32))).toNatClampNeg)) (if (zi S0 (zr S0 a0 0) (Int32.toNatClampNeg ((2 : Int32) * r4))) = (zi S0 (zr S0 a0 0) (Int32.toNatClampNeg (((16 : Int32) + ((4 : Int32) * v2)) + (3 : Int32)))) then zChk (¬ ((((16 : Int32) + ((4 : Int32) * v2)) + (2 : Int32)) < 0 ∨ zln S0 (zr S0 a0 0) ≤ ((((16 : Int32) + ((4 : Int32) * v2)) + (2 : Int32))).toNatClampNeg)) (some (zi S0 (zr S0 a0 0) (Int32.toNatClampNeg (((16 : Int32) + ((4 : Int32) * v2)) + (2 : Int32))))) else some (0 : Int32))) else some (0 : Int32)))) (fun K12 => if (zi S0 (zr S0 a0 0) (Int32.toNatClampNeg ((16 : Int32) + ((4 : Int32) * v2)))) = (2 : Int32) then zChk (¬ ((((16 : Int32) + ((4 : Int32) * v2)) + (1 : Int32)) < 0 ∨ zln S0 (zr S0 a0 0) ≤ ((((16 : Int32) + ((4 : Int32) * v2)) + (1 : Int32))).toNatClampNeg)) (if (zi S0 (zr S0 a0 0) (Int32.toNatClampNeg ((2 : Int32) * r4))) = (zi S0 (zr S0 a0 0) (Int32.toNatClampNeg (((16 : Int32) + ((4 : Int32) * v2)) + (1 : Int32)))) then zChk (¬ ((((16 : Int32) + ((4 : Int32) * v2)) + (2 : Int32)) < 0 ∨ zln S0 (zr S0 a0 0) ≤ ((((16 : Int32) + ((4 : Int32) * v2)) + (2 : Int32))).toNatClampNeg)) (some (zi S0 (zr S0 a0 0) (Int32.toNatClampNeg (((16 : Int32) + ((4 : Int32) * v2)) + (2 : Int32))))) else K12) else K12)))))
set_option maxHeartbeats 4000000 in
set_option maxRecDepth 100000 in
theorem c_X12_leanIn (l : Launch) (D : va_G) (cy : Nat → ClassId) (B : Nat) {S0 : zM} {a0 : Nat} {v1 : Int32} {v2 : Int32} {r : Int32} (ha0 : zA S0 a0 12) (h : f_X12_leanIn S0 a0 v1 v2 = some r) : Met l yX12_leanIn (zws yX12_leanIn cX12_leanIn 5 ((some .int))) { frames := 1, cells := 0, slots := 0, locals := 22 } (zPc D cy B S0 [.ref (B + a0), .int v1, .int v2]) (zQi D cy B S0 r S0) 0 0 (fun q => B < q) := by
  refine Met.ofW (cc := cX12_leanIn) (maxL := 5) (ret := ((some .int))) (by decide) rfl ?_
  intro p e s m args below meth c s₁ Bd hml hv
  obtain ⟨rfl, hC, hM⟩ := hv
  obtain ⟨hx, hb, hr, hg, hown, hlk⟩ := z_open Bd
  have hK := hC.1
  have hS : va_S (fun q => B < q) s.heap s.heap [] := va_S.rf
  have hX0 : zX S0 S0 := zX.rf
  refine z_entry (vs := [.ref (B + a0), .int v1, .int v2]) (Nat.le_of_ble_eq_true rfl) (fun ls hl => ?_)
  have hl : lv_has ls 5 [(0, .ref (B + a0)), (1, .int v1), (2, .int v2)] := hl
  unfold f_X12_leanIn at h
  refine lv_bipush (v := (16 : Int32)) hx hb dX12_leanIn_0 (by decide +kernel) ?_
  refine lv_iconst (v := (4 : Int32)) hx hb dX12_leanIn_2 (by decide +kernel) ?_
  refine lv_iload_n hx hb dX12_leanIn_3 rfl (lv_at hl 2 rfl) ?_
  refine lv_imul hx hb dX12_leanIn_4 ?_
  refine lv_iadd hx hb dX12_leanIn_5 ?_
  refine lv_istore_n (i := 3) (lv' := [(3, .int ((16 : Int32) + ((4 : Int32) * v2))), (0, .ref (B + a0)), (1, .int v1), (2, .int v2)]) hx hb dX12_leanIn_6 rfl hl (by decide) rfl (fun ls hl => ?_)
  refine lv_aload_n hx hb dX12_leanIn_7 rfl (lv_at hl 1 rfl) ?_
  obtain ⟨hq2, h⟩ := zk h
  refine z_getN hx hb hg zin_12 hown hK hM ha0 0 rfl (by decide) (hg _ zw_1000) (fun _ h9 => h9) hq2 dX12_leanIn_8 (fun h1 => ?_)
  refine lv_iconst (v := (2 : Int32)) hx hb dX12_leanIn_11 (by decide +kernel) ?_
  refine lv_aload_n hx hb dX12_leanIn_12 rfl (lv_at hl 1 rfl) ?_
  refine lv_iload_n hx hb dX12_leanIn_13 rfl (lv_at hl 2 rfl) ?_
  refine lv_iconst (v := (1 : Int32)) hx hb dX12_leanIn_14 (by decide +kernel) ?_
  obtain ⟨r4, hr3, h⟩ := zb1 h
  refine z_runi (va_runV (As := [.int v1, .int (1 : Int32)]) (rest := [.int (2 : Int32), .ref (B + (zr S0 a0 0))]) ⟨hx, hb, hml, hown, hg⟩ (c_X12_get l D cy B ha0 hr3) (z_cwV hg zw_1163 zw_1164 zw_1487 zw_13 zw_1165 zh_X12_get ⟨(Nat.le_of_ble_eq_true rfl), (Nat.le_of_ble_eq_true rfl)⟩) (zPV hC hM ha0 (by decide) rfl) rfl rfl hl.1 rfl (lv_room (Nat.le_of_ble_eq_true rfl)) dX12_leanIn_15 ⟨(Nat.le_of_ble_eq_true rfl), (Nat.le_of_ble_eq_true rfl)⟩) hS (fun H locs hM hX5 hS => ?_)
  refine lv_imul hx hb dX12_leanIn_18 ?_
  obtain ⟨hq7, h⟩ := zk h
  refine z_iald hx hb hK hM h1 hq7 dX12_leanIn_19 ?_
  refine lv_istore (i := 4) (lv' := [(4, .int (zi S0 (zr S0 a0 0) (Int32.toNatClampNeg ((2 : Int32) * r4)))), (3, .int ((16 : Int32) + ((4 : Int32) * v2))), (0, .ref (B + a0)), (1, .int v1), (2, .int v2)]) hx hb dX12_leanIn_20 hl (by decide) rfl (fun ls hl => ?_)
  refine lv_aload_n hx hb dX12_leanIn_22 rfl (lv_at hl 2 rfl) ?_
  refine z_getN hx hb hg zin_12 hown hK hM ha0 0 rfl (by decide) (hg _ zw_1000) (fun _ h9 => h9) h1.ne dX12_leanIn_23 (fun h8 => ?_)
  refine lv_iload_n hx hb dX12_leanIn_26 rfl (lv_at hl 1 rfl) ?_
  obtain ⟨hq9, h⟩ := zk h
  refine z_iald hx hb hK hM h8 hq9 dX12_leanIn_27 ?_
  refine lv_iconst (v := (2 : Int32)) hx hb dX12_leanIn_28 (by decide +kernel) ?_
  obtain ⟨K12, eK12, h⟩ := zlg h
  have hK12 : ∀ (H : Heap) (locs : List Loc), zMR D cy B S0 H → zX S0 S0 → va_S (fun q => B < q) s.heap H locs → zA S0 a0 12 → ∀ ls : Array Slot, lv_has ls 5 [(0, .ref (B + a0)), (3, .int ((16 : Int32) + ((4 : Int32) * v2))), (4, .int (zi S0 (zr S0 a0 0) (Int32.toNatClampNeg ((2 : Int32) * r4))))] → K12 = some r → W p l e (headSpec (zws yX12_leanIn cX12_leanIn 5 ((some .int))) { frames := 1, cells := 0, slots := 0, locals := 22 }).room s m (([.ref (B + a0), .int v1, .int v2] : List Value).toArray) below meth c H locs 0 0 (MQ below (zQi D cy B S0 r S0) (([.ref (B + a0), .int v1, .int v2] : List Value).toArray) s 0 0 (fun q => B < q)) (F0 m 45 ls []) := by
    intro H locs hM hX11 hS h10 ls hl h
    rw [eK12] at h
    refine lv_aload_n hx hb dX12_leanIn_45 rfl (lv_at hl 0 rfl) ?_
    obtain ⟨hq14, h⟩ := zk h
    refine z_getN hx hb hg zin_12 hown hK hM h10 0 rfl (by decide) (hg _ zw_1000) (fun _ h9 => h9) hq14 dX12_leanIn_46 (fun h13 => ?_)
    refine lv_iload_n hx hb dX12_leanIn_49 rfl (lv_at hl 1 rfl) ?_
    obtain ⟨hq15, h⟩ := zk h
    refine z_iald hx hb hK hM h13 hq15 dX12_leanIn_50 ?_
    refine lv_iconst (v := (3 : Int32)) hx hb dX12_leanIn_51 (by decide +kernel) ?_
    refine lv_icmp_ne (tgt := 92) hx hb dX12_leanIn_52 (by decide) (fun hc16 => ?_) (fun hc16 => ?_)
    · have h := zf h hc16
      refine lv_iconst (v := (0 : Int32)) hx hb dX12_leanIn_92 (by decide +kernel) ?_
      exact z_iret hx hb hr hlk hM hX11 hS ⟨zsm h, rfl⟩ dX12_leanIn_93
    · have h := zt h hc16
      refine lv_iload hx hb dX12_leanIn_55 (lv_at hl 2 rfl) ?_
      refine lv_aload_n hx hb dX12_leanIn_57 rfl (lv_at hl 0 rfl) ?_
      refine z_getN hx hb hg zin_12 hown hK hM h10 0 rfl (by decide) (hg _ zw_1000) (fun _ h9 => h9) h13.ne dX12_leanIn_58 (fun h17 => ?_)
      refine lv_iload_n hx hb dX12_leanIn_61 rfl (lv_at hl 1 rfl) ?_
      refine lv_iconst (v := (1 : Int32)) hx hb dX12_leanIn_62 (by decide +kernel) ?_
      refine lv_iadd hx hb dX12_leanIn_63 ?_
      obtain ⟨hq18, h⟩ := zk h
      refine z_iald hx hb hK hM h17 hq18 dX12_leanIn_64 ?_
      refine lv_icmp_eq (tgt := 81) hx hb dX12_leanIn_65 (by decide) (fun hc19 => ?_) (fun hc19 => ?_)
      · have h := zt h hc19
        refine lv_aload_n hx hb dX12_leanIn_81 rfl (lv_at hl 0 rfl) ?_
        refine z_getN hx hb hg zin_12 hown hK hM h10 0 rfl (by decide) (hg _ zw_1000) (fun _ h9 => h9) h17.ne dX12_leanIn_82 (fun h20 => ?_)
        refine lv_iload_n hx hb dX12_leanIn_85 rfl (lv_at hl 1 rfl) ?_
        refine lv_iconst (v := (2 : Int32)) hx hb dX12_leanIn_86 (by decide +kernel) ?_
        refine lv_iadd hx hb dX12_leanIn_87 ?_
        obtain ⟨hq21, h⟩ := zk h
        refine z_iald hx hb hK hM h20 hq21 dX12_leanIn_88 ?_
        refine lv_goto (tgt := 93) hx hb dX12_leanIn_89 (by decide) ?_
        exact z_iret hx hb hr hlk hM hX11 hS ⟨zsm h, rfl⟩ dX12_leanIn_93
      · have h := zf h hc19
        refine lv_iload hx hb dX12_leanIn_68 (lv_at hl 2 rfl) ?_
        refine lv_aload_n hx hb dX12_leanIn_70 rfl (lv_at hl 0 rfl) ?_
        refine z_getN hx hb hg zin_12 hown hK hM h10 0 rfl (by decide) (hg _ zw_1000) (fun _ h9 => h9) h17.ne dX12_leanIn_71 (fun h22 => ?_)
        refine lv_iload_n hx hb dX12_leanIn_74 rfl (lv_at hl 1 rfl) ?_
        refine lv_iconst (v := (3 : Int32)) hx hb dX12_leanIn_75 (by decide +kernel) ?_
        refine lv_iadd hx hb dX12_leanIn_76 ?_
        obtain ⟨hq23, h⟩ := zk h
        refine z_iald hx hb hK hM h22 hq23 dX12_leanIn_77 ?_
        refine lv_icmp_ne (tgt := 92) hx hb dX12_leanIn_78 (by decide) (fun hc24 => ?_) (fun hc24 => ?_)
        · have h := zf h hc24
          refine lv_iconst (v := (0 : Int32)) hx hb dX12_leanIn_92 (by decide +kernel) ?_
          exact z_iret hx hb hr hlk hM hX11 hS ⟨zsm h, rfl⟩ dX12_leanIn_93
        · have h := zt h hc24
          refine lv_aload_n hx hb dX12_leanIn_81 rfl (lv_at hl 0 rfl) ?_
          refine z_getN hx hb hg zin_12 hown hK hM h10 0 rfl (by decide) (hg _ zw_1000) (fun _ h9 => h9) h22.ne dX12_leanIn_82 (fun h25 => ?_)
          refine lv_iload_n hx hb dX12_leanIn_85 rfl (lv_at hl 1 rfl) ?_
          refine lv_iconst (v := (2 : Int32)) hx hb dX12_leanIn_86 (by decide +kernel) ?_
          refine lv_iadd hx hb dX12_leanIn_87 ?_
          obtain ⟨hq26, h⟩ := zk h
          refine z_iald hx hb hK hM h25 hq26 dX12_leanIn_88 ?_
          refine lv_goto (tgt := 93) hx hb dX12_leanIn_89 (by decide) ?_
          exact z_iret hx hb hr hlk hM hX11 hS ⟨zsm h, rfl⟩ dX12_leanIn_93
  refine lv_icmp_ne (tgt := 45) hx hb dX12_leanIn_29 (by decide) (fun hc27 => ?_) (fun hc27 => ?_)
  · have h := zf h hc27
    exact hK12 _ _ hM hX0 hS ha0 _ (lv_sub hl [2, 1, 0] rfl) h
  · have h := zt h hc27
    refine lv_iload hx hb dX12_leanIn_32 (lv_at hl 0 rfl) ?_
    refine lv_aload_n hx hb dX12_leanIn_34 rfl (lv_at hl 2 rfl) ?_
    refine z_getN hx hb hg zin_12 hown hK hM ha0 0 rfl (by decide) (hg _ zw_1000) (fun _ h9 => h9) h8.ne dX12_leanIn_35 (fun h28 => ?_)
    refine lv_iload_n hx hb dX12_leanIn_38 rfl (lv_at hl 1 rfl) ?_
    refine lv_iconst (v := (1 : Int32)) hx hb dX12_leanIn_39 (by decide +kernel) ?_
    refine lv_iadd hx hb dX12_leanIn_40 ?_
    obtain ⟨hq29, h⟩ := zk h
    refine z_iald hx hb hK hM h28 hq29 dX12_leanIn_41 ?_
    refine lv_icmp_eq (tgt := 81) hx hb dX12_leanIn_42 (by decide) (fun hc30 => ?_) (fun hc30 => ?_)
    · have h := zt h hc30
      refine lv_aload_n hx hb dX12_leanIn_81 rfl (lv_at hl 2 rfl) ?_
      refine z_getN hx hb hg zin_12 hown hK hM ha0 0 rfl (by decide) (hg _ zw_1000) (fun _ h9 => h9) h28.ne dX12_leanIn_82 (fun h31 => ?_)
      refine lv_iload_n hx hb dX12_leanIn_85 rfl (lv_at hl 1 rfl) ?_
      refine lv_iconst (v := (2 : Int32)) hx hb dX12_leanIn_86 (by decide +kernel) ?_
      refine lv_iadd hx hb dX12_leanIn_87 ?_
      obtain ⟨hq32, h⟩ := zk h
      refine z_iald hx hb hK hM h31 hq32 dX12_leanIn_88 ?_
      refine lv_goto (tgt := 93) hx hb dX12_leanIn_89 (by decide) ?_
      exact z_iret hx hb hr hlk hM hX0 hS ⟨zsm h, rfl⟩ dX12_leanIn_93
    · have h := zf h hc30
      exact hK12 _ _ hM hX0 hS ha0 _ (lv_sub hl [2, 1, 0] rfl) h
def f_X12_gathers_L7b (n : Nat) (a0 : Nat) (v1 : Int32) (K8 : zM → Option (zM)) (rec7 : Int32 → zM → Option (zM)) (x10 : Int32) (S11 : zM) : Option (zM) :=
  if (7 : Int32) ≤ x10 then K8 S11 else zB1 (f_X12_markOf S11 a0 v1 x10) (fun r15 => if r15 < 0 then rec7 (x10 + (1 : Int32)) S11 else if x10 = (zi S11 a0 29) then rec7 (x10 + (1 : Int32)) S11 else zB1 (f_X12_get S11 a0 v1 ((12 : Int32) + x10)) (fun r21 => zLet (fun (x25 : Int32) => zLet (fun (x29 : Int32) => zB1 (f_X12_comes n S11 a0 x29) (fun S33 => rec7 (x10 + (1 : Int32)) S33)) (fun K31 => if (((zi S11 a0 33) >>> (x10 &&& 31)) &&& (1 : Int32)) = (1 : Int32) then zB1 (f_X12_get S11 a0 v1 (1 : Int32)) (fun r40 => zLet (fun (x44 : Int32) => K31 x44) (fun K46 => if r40 = (zi S11 a0 34) then K46 (20 : Int32) else K46 (0 : Int32))) else K31 x25)) (fun K27 => if (zi S11 a0 32) = 0 then K27 r15 else if (r21 - (1 : Int32)) < 0 then K27 r15 else zB1 (f_X12_leanIn S11 a0 v1 (r21 - (1 : Int32))) (fun r51 => zLet (fun (x55 : Int32) => K27 x55) (fun K57 => if 0 ≤ (r15 - r51) then zB1 (f_X12_leanIn S11 a0 v1 (r21 - (1 : Int32))) (fun r60 => K57 (r15 - r60)) else K57 (0 : Int32))))))
def f_X12_gathers_L7 (n : Nat) (a0 : Nat) (v1 : Int32) (K8 : zM → Option (zM)) : Nat → Int32 → zM → Option (zM)
  | 0 => fun _ _ => none
  | k + 1 => fun x10 S11 => f_X12_gathers_L7b n a0 v1 K8 (f_X12_gathers_L7 n a0 v1 K8 k) x10 S11
def f_X12_gathers (n : Nat) (S0 : zM) (a0 : Nat) (v1 : Int32) : Option (zM) :=
  zLet (zpI S0 a0 11 (0 : Int32)) (fun S1 => zLet (fun (S6 : zM) => some S6) (fun K8 => f_X12_gathers_L7 n a0 v1 K8 n (0 : Int32) S1))
set_option maxHeartbeats 4000000 in
set_option maxRecDepth 100000 in
theorem c_X12_gathers (l : Launch) (D : va_G) (cy : Nat → ClassId) (B : Nat) {n : Nat} {S0 : zM} {a0 : Nat} {v1 : Int32} {S' : zM} (ha0 : zA S0 a0 12) (h : f_X12_gathers n S0 a0 v1 = some S') : Met l yX12_gathers (zws yX12_gathers cX12_gathers 5 none) { frames := 2, cells := 0, slots := 0, locals := 46 } (zPc D cy B S0 [.ref (B + a0), .int v1]) (zQv D cy B S0 S') 0 0 (fun q => B < q) := by
  refine Met.ofW (cc := cX12_gathers) (maxL := 5) (ret := none) (by decide) rfl ?_
  intro p e s m args below meth c s₁ Bd hml hv
  obtain ⟨rfl, hC, hM⟩ := hv
  obtain ⟨hx, hb, hr, hg, hown, hlk⟩ := z_open Bd
  have hK := hC.1
  have hS : va_S (fun q => B < q) s.heap s.heap [] := va_S.rf
  have hX0 : zX S0 S0 := zX.rf
  refine z_entry (vs := [.ref (B + a0), .int v1]) (Nat.le_of_ble_eq_true rfl) (fun ls hl => ?_)
  have hl : lv_has ls 5 [(0, .ref (B + a0)), (1, .int v1)] := hl
  unfold f_X12_gathers at h
  refine lv_aload_n hx hb dX12_gathers_0 rfl (lv_at hl 0 rfl) ?_
  refine lv_iconst (v := (0 : Int32)) hx hb dX12_gathers_1 (by decide +kernel) ?_
  refine z_putI hx hb hg zin_12 tyX12 tyX12_ok nmX12 hown hK hM hS ha0 11 rfl (by decide) (hg _ zw_1011) (fun _ h9 => h9) (Or.inl rfl) (tyX12_ok 11 (by decide)) rfl rfl dX12_gathers_2 (fun H locs hM hS => ?_)
  obtain ⟨S1, e2, h⟩ := zlg h
  rw [← e2] at hM
  have hX3 : zX S0 S1 := by rw [e2]; exact zX_pI
  have h4 := ha0.mo hX3
  have hX5 := hX0.tr hX3
  refine lv_iconst (v := (0 : Int32)) hx hb dX12_gathers_5 (by decide +kernel) ?_
  refine lv_istore_n (i := 2) (lv' := [(2, .int (0 : Int32)), (0, .ref (B + a0)), (1, .int v1)]) hx hb dX12_gathers_6 rfl hl (by decide) rfl (fun ls hl => ?_)
  obtain ⟨K8, eK8, h⟩ := zlg h
  have hK8 : ∀ (S6 : zM) (H : Heap) (locs : List Loc), zMR D cy B S6 H → zX S0 S6 → va_S (fun q => B < q) s.heap H locs → ∀ ls : Array Slot, lv_has ls 5 [] → K8 S6 = some S' → W p l e (headSpec (zws yX12_gathers cX12_gathers 5 none) { frames := 2, cells := 0, slots := 0, locals := 46 }).room s m (([.ref (B + a0), .int v1] : List Value).toArray) below meth c H locs 0 0 (MQ below (zQv D cy B S0 S') (([.ref (B + a0), .int v1] : List Value).toArray) s 0 0 (fun q => B < q)) (F0 m 129 ls []) := by
    intro S6 H locs hM hX7 hS ls hl h
    rw [eK8] at h
    exact z_vret hx hb hr hlk hM hX7 hS (zsm h) dX12_gathers_129
  have hL7 : ∀ (k : Nat) (x10 : Int32) (S11 : zM) (H : Heap) (locs : List Loc), zMR D cy B S11 H → zX S0 S11 → va_S (fun q => B < q) s.heap H locs → zA S11 a0 12 → ∀ ls : Array Slot, lv_has ls 5 [(0, .ref (B + a0)), (1, .int v1), (2, .int x10)] → f_X12_gathers_L7 n a0 v1 K8 k x10 S11 = some S' → W p l e (headSpec (zws yX12_gathers cX12_gathers 5 none) { frames := 2, cells := 0, slots := 0, locals := 46 }).room s m (([.ref (B + a0), .int v1] : List Value).toArray) below meth c H locs 0 0 (MQ below (zQv D cy B S0 S') (([.ref (B + a0), .int v1] : List Value).toArray) s 0 0 (fun q => B < q)) (F0 m 7 ls []) := by
    intro k
    induction k with
    | zero =>
      intro x10 S11 H locs hM hX12 hS h9 ls hl h
      exact znone h
    | succ k ih7 =>
      intro x10 S11 H locs hM hX12 hS h9 ls hl h
      replace h : f_X12_gathers_L7b n a0 v1 K8 (f_X12_gathers_L7 n a0 v1 K8 k) x10 S11 = some S' := h
      generalize f_X12_gathers_L7 n a0 v1 K8 k = rec7 at ih7 h
      unfold f_X12_gathers_L7b at h
      refine lv_iload_n hx hb dX12_gathers_7 rfl (lv_at hl 2 rfl) ?_
      refine lv_bipush (v := (7 : Int32)) hx hb dX12_gathers_8 (by decide +kernel) ?_
      refine lv_icmp_ge (tgt := 129) hx hb dX12_gathers_10 (by decide) (fun hc13 => ?_) (fun hc13 => ?_)
      · have h := zt h hc13
        exact hK8 S11 _ _ hM hX12 hS _ (lv_sub hl [] rfl) h
      · have h := zf h hc13
        refine lv_aload_n hx hb dX12_gathers_13 rfl (lv_at hl 0 rfl) ?_
        refine lv_iload_n hx hb dX12_gathers_14 rfl (lv_at hl 1 rfl) ?_
        refine lv_iload_n hx hb dX12_gathers_15 rfl (lv_at hl 2 rfl) ?_
        obtain ⟨r15, hr14, h⟩ := zb1 h
        refine z_runi (va_runV (As := [.int v1, .int x10]) (rest := []) ⟨hx, hb, hml, hown, hg⟩ (c_X12_markOf l D cy B h9 hr14) (z_cwV hg zw_1223 zw_1224 zw_1497 zw_13 zw_1225 zh_X12_markOf ⟨(Nat.le_of_ble_eq_true rfl), (Nat.le_of_ble_eq_true rfl)⟩) (zPV hC hM h9 (by decide) rfl) rfl rfl hl.1 rfl (lv_room (Nat.le_of_ble_eq_true rfl)) dX12_gathers_16 ⟨(Nat.le_of_ble_eq_true rfl), (Nat.le_of_ble_eq_true rfl)⟩) hS (fun H locs hM hX16 hS => ?_)
        refine lv_istore_n (i := 3) (lv' := [(3, .int r15), (0, .ref (B + a0)), (1, .int v1), (2, .int x10)]) hx hb dX12_gathers_19 rfl hl (by decide) rfl (fun ls hl => ?_)
        refine lv_iload_n hx hb dX12_gathers_20 rfl (lv_at hl 0 rfl) ?_
        refine lv_if_lt (tgt := 123) hx hb dX12_gathers_21 (by decide) (fun hc18 => ?_) (fun hc18 => ?_)
        · have h := zt h hc18
          refine lv_iinc (v := (x10 + (1 : Int32))) (lv' := [(2, .int (x10 + (1 : Int32))), (3, .int r15), (0, .ref (B + a0)), (1, .int v1)]) hx hb dX12_gathers_123 hl (k := 3) rfl rfl (by decide) rfl (fun ls hl => ?_)
          refine lv_goto (tgt := 7) hx hb dX12_gathers_126 (by decide) ?_
          exact ih7 (x10 + (1 : Int32)) S11 _ _ hM hX12 hS h9 _ (lv_sub hl [2, 3, 0] rfl) h
        · have h := zf h hc18
          refine lv_iload_n hx hb dX12_gathers_24 rfl (lv_at hl 3 rfl) ?_
          refine lv_aload_n hx hb dX12_gathers_25 rfl (lv_at hl 1 rfl) ?_
          refine z_getI hx hb hg zin_12 hown hK hM h9 29 rfl (by decide) (hg _ zw_1029) (fun _ h9 => h9) dX12_gathers_26 ?_
          refine lv_icmp_ne (tgt := 35) hx hb dX12_gathers_29 (by decide) (fun hc19 => ?_) (fun hc19 => ?_)
          · have h := zf h hc19
            refine lv_aload_n hx hb dX12_gathers_35 rfl (lv_at hl 1 rfl) ?_
            refine lv_iload_n hx hb dX12_gathers_36 rfl (lv_at hl 2 rfl) ?_
            refine lv_bipush (v := (12 : Int32)) hx hb dX12_gathers_37 (by decide +kernel) ?_
            refine lv_iload_n hx hb dX12_gathers_39 rfl (lv_at hl 3 rfl) ?_
            refine lv_iadd hx hb dX12_gathers_40 ?_
            obtain ⟨r21, hr20, h⟩ := zb1 h
            refine z_runi (va_runV (As := [.int v1, .int ((12 : Int32) + x10)]) (rest := []) ⟨hx, hb, hml, hown, hg⟩ (c_X12_get l D cy B h9 hr20) (z_cwV hg zw_1163 zw_1164 zw_1487 zw_13 zw_1165 zh_X12_get ⟨(Nat.le_of_ble_eq_true rfl), (Nat.le_of_ble_eq_true rfl)⟩) (zPV hC hM h9 (by decide) rfl) rfl rfl hl.1 rfl (lv_room (Nat.le_of_ble_eq_true rfl)) dX12_gathers_41 ⟨(Nat.le_of_ble_eq_true rfl), (Nat.le_of_ble_eq_true rfl)⟩) hS (fun H locs hM hX22 hS => ?_)
            refine lv_iconst (v := (1 : Int32)) hx hb dX12_gathers_44 (by decide +kernel) ?_
            refine lv_isub hx hb dX12_gathers_45 ?_
            refine lv_istore (i := 4) (lv' := [(4, .int (r21 - (1 : Int32))), (3, .int r15), (0, .ref (B + a0)), (1, .int v1), (2, .int x10)]) hx hb dX12_gathers_46 hl (by decide) rfl (fun ls hl => ?_)
            refine lv_aload_n hx hb dX12_gathers_48 rfl (lv_at hl 2 rfl) ?_
            refine z_getI hx hb hg zin_12 hown hK hM h9 32 rfl (by decide) (hg _ zw_1032) (fun _ h9 => h9) dX12_gathers_49 ?_
            obtain ⟨K27, eK27, h⟩ := zlg h
            have hK27 : ∀ (x25 : Int32) (H : Heap) (locs : List Loc), zMR D cy B S11 H → zX S0 S11 → va_S (fun q => B < q) s.heap H locs → zA S11 a0 12 → ∀ ls : Array Slot, lv_has ls 5 [(0, .ref (B + a0)), (1, .int v1), (2, .int x10), (3, .int x25)] → K27 x25 = some S' → W p l e (headSpec (zws yX12_gathers cX12_gathers 5 none) { frames := 2, cells := 0, slots := 0, locals := 46 }).room s m (([.ref (B + a0), .int v1] : List Value).toArray) below meth c H locs 0 0 (MQ below (zQv D cy B S0 S') (([.ref (B + a0), .int v1] : List Value).toArray) s 0 0 (fun q => B < q)) (F0 m 86 ls []) := by
              intro x25 H locs hM hX26 hS h24 ls hl h
              rw [eK27] at h
              refine lv_aload_n hx hb dX12_gathers_86 rfl (lv_at hl 0 rfl) ?_
              refine z_getI hx hb hg zin_12 hown hK hM h24 33 rfl (by decide) (hg _ zw_1033) (fun _ h9 => h9) dX12_gathers_87 ?_
              refine lv_iload_n hx hb dX12_gathers_90 rfl (lv_at hl 2 rfl) ?_
              refine lv_ishr hx hb dX12_gathers_91 ?_
              refine lv_iconst (v := (1 : Int32)) hx hb dX12_gathers_92 (by decide +kernel) ?_
              refine lv_iand hx hb dX12_gathers_93 ?_
              refine lv_iconst (v := (1 : Int32)) hx hb dX12_gathers_94 (by decide +kernel) ?_
              obtain ⟨K31, eK31, h⟩ := zlg h
              have hK31 : ∀ (x29 : Int32) (H : Heap) (locs : List Loc), zMR D cy B S11 H → zX S0 S11 → va_S (fun q => B < q) s.heap H locs → zA S11 a0 12 → ∀ ls : Array Slot, lv_has ls 5 [(0, .ref (B + a0)), (1, .int v1), (2, .int x10), (3, .int x29)] → K31 x29 = some S' → W p l e (headSpec (zws yX12_gathers cX12_gathers 5 none) { frames := 2, cells := 0, slots := 0, locals := 46 }).room s m (([.ref (B + a0), .int v1] : List Value).toArray) below meth c H locs 0 0 (MQ below (zQv D cy B S0 S') (([.ref (B + a0), .int v1] : List Value).toArray) s 0 0 (fun q => B < q)) (F0 m 118 ls []) := by
                intro x29 H locs hM hX30 hS h28 ls hl h
                rw [eK31] at h
                refine lv_aload_n hx hb dX12_gathers_118 rfl (lv_at hl 0 rfl) ?_
                refine lv_iload_n hx hb dX12_gathers_119 rfl (lv_at hl 3 rfl) ?_
                obtain ⟨S33, hr32, h⟩ := zb1 h
                refine z_runv (va_runV (As := [.int x29]) (rest := []) ⟨hx, hb, hml, hown, hg⟩ (c_X12_comes l D cy B h28 hr32) (z_cwV hg zw_1198 zw_1199 zw_1494 zw_13 zw_1200 zh_X12_comes ⟨(Nat.le_of_ble_eq_true rfl), (Nat.le_of_ble_eq_true rfl)⟩) (zPV hC hM h28 (by decide) rfl) rfl rfl hl.1 rfl (lv_room (Nat.le_of_ble_eq_true rfl)) dX12_gathers_120 ⟨(Nat.le_of_ble_eq_true rfl), (Nat.le_of_ble_eq_true rfl)⟩) hS (fun H locs hM hX34 hS => ?_)
                have h36 := h28.mo hX34
                have hX37 := hX30.tr hX34
                refine lv_iinc (v := (x10 + (1 : Int32))) (lv' := [(2, .int (x10 + (1 : Int32))), (0, .ref (B + a0)), (1, .int v1), (3, .int x29)]) hx hb dX12_gathers_123 hl (k := 2) rfl rfl (by decide) rfl (fun ls hl => ?_)
                refine lv_goto (tgt := 7) hx hb dX12_gathers_126 (by decide) ?_
                exact ih7 (x10 + (1 : Int32)) S33 _ _ hM hX37 hS h36 _ (lv_sub hl [1, 2, 0] rfl) h
              refine lv_icmp_ne (tgt := 118) hx hb dX12_gathers_95 (by decide) (fun hc38 => ?_) (fun hc38 => ?_)
              · have h := zf h hc38
                exact hK31 x25 _ _ hM hX26 hS h24 _ (lv_sub hl [0, 1, 2, 3] rfl) h
              · have h := zt h hc38
                refine lv_aload_n hx hb dX12_gathers_98 rfl (lv_at hl 0 rfl) ?_
                refine lv_iload_n hx hb dX12_gathers_99 rfl (lv_at hl 1 rfl) ?_
                refine lv_iconst (v := (1 : Int32)) hx hb dX12_gathers_100 (by decide +kernel) ?_
                obtain ⟨r40, hr39, h⟩ := zb1 h
                refine z_runi (va_runV (As := [.int v1, .int (1 : Int32)]) (rest := []) ⟨hx, hb, hml, hown, hg⟩ (c_X12_get l D cy B h24 hr39) (z_cwV hg zw_1163 zw_1164 zw_1487 zw_13 zw_1165 zh_X12_get ⟨(Nat.le_of_ble_eq_true rfl), (Nat.le_of_ble_eq_true rfl)⟩) (zPV hC hM h24 (by decide) rfl) rfl rfl hl.1 rfl (lv_room (Nat.le_of_ble_eq_true rfl)) dX12_gathers_101 ⟨(Nat.le_of_ble_eq_true rfl), (Nat.le_of_ble_eq_true rfl)⟩) hS (fun H locs hM hX41 hS => ?_)
                refine lv_aload_n hx hb dX12_gathers_104 rfl (lv_at hl 0 rfl) ?_
                refine z_getI hx hb hg zin_12 hown hK hM h24 34 rfl (by decide) (hg _ zw_1034) (fun _ h9 => h9) dX12_gathers_105 ?_
                obtain ⟨K46, eK46, h⟩ := zlg h
                have hK46 : ∀ (x44 : Int32) (H : Heap) (locs : List Loc), zMR D cy B S11 H → zX S0 S11 → va_S (fun q => B < q) s.heap H locs → zA S11 a0 12 → ∀ ls : Array Slot, lv_has ls 5 [(0, .ref (B + a0)), (1, .int v1), (2, .int x10)] → K46 x44 = some S' → W p l e (headSpec (zws yX12_gathers cX12_gathers 5 none) { frames := 2, cells := 0, slots := 0, locals := 46 }).room s m (([.ref (B + a0), .int v1] : List Value).toArray) below meth c H locs 0 0 (MQ below (zQv D cy B S0 S') (([.ref (B + a0), .int v1] : List Value).toArray) s 0 0 (fun q => B < q)) (F0 m 117 ls [.int x44]) := by
                  intro x44 H locs hM hX45 hS h43 ls hl h
                  rw [eK46] at h
                  refine lv_istore_n (i := 3) (lv' := [(3, .int x44), (0, .ref (B + a0)), (1, .int v1), (2, .int x10)]) hx hb dX12_gathers_117 rfl hl (by decide) rfl (fun ls hl => ?_)
                  exact hK31 x44 _ _ hM hX45 hS h43 _ (lv_sub hl [1, 2, 3, 0] rfl) h
                refine lv_icmp_ne (tgt := 116) hx hb dX12_gathers_108 (by decide) (fun hc47 => ?_) (fun hc47 => ?_)
                · have h := zf h hc47
                  refine lv_iconst (v := (0 : Int32)) hx hb dX12_gathers_116 (by decide +kernel) ?_
                  exact hK46 (0 : Int32) _ _ hM hX26 hS h24 _ (lv_sub hl [0, 1, 2] rfl) h
                · have h := zt h hc47
                  refine lv_bipush (v := (20 : Int32)) hx hb dX12_gathers_111 (by decide +kernel) ?_
                  refine lv_goto (tgt := 117) hx hb dX12_gathers_113 (by decide) ?_
                  exact hK46 (20 : Int32) _ _ hM hX26 hS h24 _ (lv_sub hl [0, 1, 2] rfl) h
            refine lv_if_eq (tgt := 86) hx hb dX12_gathers_52 (by decide) (fun hc48 => ?_) (fun hc48 => ?_)
            · have h := zt h hc48
              exact hK27 r15 _ _ hM hX12 hS h9 _ (lv_sub hl [2, 3, 4, 1] rfl) h
            · have h := zf h hc48
              refine lv_iload hx hb dX12_gathers_55 (lv_at hl 0 rfl) ?_
              refine lv_if_lt (tgt := 86) hx hb dX12_gathers_57 (by decide) (fun hc49 => ?_) (fun hc49 => ?_)
              · have h := zt h hc49
                exact hK27 r15 _ _ hM hX12 hS h9 _ (lv_sub hl [2, 3, 4, 1] rfl) h
              · have h := zf h hc49
                refine lv_iload_n hx hb dX12_gathers_60 rfl (lv_at hl 1 rfl) ?_
                refine lv_aload_n hx hb dX12_gathers_61 rfl (lv_at hl 2 rfl) ?_
                refine lv_iload_n hx hb dX12_gathers_62 rfl (lv_at hl 3 rfl) ?_
                refine lv_iload hx hb dX12_gathers_63 (lv_at hl 0 rfl) ?_
                obtain ⟨r51, hr50, h⟩ := zb1 h
                refine z_runi (va_runV (As := [.int v1, .int (r21 - (1 : Int32))]) (rest := [.int r15]) ⟨hx, hb, hml, hown, hg⟩ (c_X12_leanIn l D cy B h9 hr50) (z_cwV hg zw_1273 zw_1274 zw_1509 zw_13 zw_1275 zh_X12_leanIn ⟨(Nat.le_of_ble_eq_true rfl), (Nat.le_of_ble_eq_true rfl)⟩) (zPV hC hM h9 (by decide) rfl) rfl rfl hl.1 rfl (lv_room (Nat.le_of_ble_eq_true rfl)) dX12_gathers_65 ⟨(Nat.le_of_ble_eq_true rfl), (Nat.le_of_ble_eq_true rfl)⟩) hS (fun H locs hM hX52 hS => ?_)
                refine lv_isub hx hb dX12_gathers_68 ?_
                obtain ⟨K57, eK57, h⟩ := zlg h
                have hK57 : ∀ (x55 : Int32) (H : Heap) (locs : List Loc), zMR D cy B S11 H → zX S0 S11 → va_S (fun q => B < q) s.heap H locs → zA S11 a0 12 → ∀ ls : Array Slot, lv_has ls 5 [(0, .ref (B + a0)), (1, .int v1), (2, .int x10)] → K57 x55 = some S' → W p l e (headSpec (zws yX12_gathers cX12_gathers 5 none) { frames := 2, cells := 0, slots := 0, locals := 46 }).room s m (([.ref (B + a0), .int v1] : List Value).toArray) below meth c H locs 0 0 (MQ below (zQv D cy B S0 S') (([.ref (B + a0), .int v1] : List Value).toArray) s 0 0 (fun q => B < q)) (F0 m 85 ls [.int x55]) := by
                  intro x55 H locs hM hX56 hS h54 ls hl h
                  rw [eK57] at h
                  refine lv_istore_n (i := 3) (lv' := [(3, .int x55), (0, .ref (B + a0)), (1, .int v1), (2, .int x10)]) hx hb dX12_gathers_85 rfl hl (by decide) rfl (fun ls hl => ?_)
                  exact hK27 x55 _ _ hM hX56 hS h54 _ (lv_sub hl [1, 2, 3, 0] rfl) h
                refine lv_if_ge (tgt := 76) hx hb dX12_gathers_69 (by decide) (fun hc58 => ?_) (fun hc58 => ?_)
                · have h := zt h hc58
                  refine lv_iload_n hx hb dX12_gathers_76 rfl (lv_at hl 1 rfl) ?_
                  refine lv_aload_n hx hb dX12_gathers_77 rfl (lv_at hl 2 rfl) ?_
                  refine lv_iload_n hx hb dX12_gathers_78 rfl (lv_at hl 3 rfl) ?_
                  refine lv_iload hx hb dX12_gathers_79 (lv_at hl 0 rfl) ?_
                  obtain ⟨r60, hr59, h⟩ := zb1 h
                  refine z_runi (va_runV (As := [.int v1, .int (r21 - (1 : Int32))]) (rest := [.int r15]) ⟨hx, hb, hml, hown, hg⟩ (c_X12_leanIn l D cy B h9 hr59) (z_cwV hg zw_1273 zw_1274 zw_1509 zw_13 zw_1275 zh_X12_leanIn ⟨(Nat.le_of_ble_eq_true rfl), (Nat.le_of_ble_eq_true rfl)⟩) (zPV hC hM h9 (by decide) rfl) rfl rfl hl.1 rfl (lv_room (Nat.le_of_ble_eq_true rfl)) dX12_gathers_81 ⟨(Nat.le_of_ble_eq_true rfl), (Nat.le_of_ble_eq_true rfl)⟩) hS (fun H locs hM hX61 hS => ?_)
                  refine lv_isub hx hb dX12_gathers_84 ?_
                  exact hK57 (r15 - r60) _ _ hM hX12 hS h9 _ (lv_sub hl [2, 3, 4] rfl) h
                · have h := zf h hc58
                  refine lv_iconst (v := (0 : Int32)) hx hb dX12_gathers_72 (by decide +kernel) ?_
                  refine lv_goto (tgt := 85) hx hb dX12_gathers_73 (by decide) ?_
                  exact hK57 (0 : Int32) _ _ hM hX12 hS h9 _ (lv_sub hl [2, 3, 4] rfl) h
          · have h := zt h hc19
            refine lv_goto (tgt := 123) hx hb dX12_gathers_32 (by decide) ?_
            refine lv_iinc (v := (x10 + (1 : Int32))) (lv' := [(2, .int (x10 + (1 : Int32))), (3, .int r15), (0, .ref (B + a0)), (1, .int v1)]) hx hb dX12_gathers_123 hl (k := 3) rfl rfl (by decide) rfl (fun ls hl => ?_)
            refine lv_goto (tgt := 7) hx hb dX12_gathers_126 (by decide) ?_
            exact ih7 (x10 + (1 : Int32)) S11 _ _ hM hX12 hS h9 _ (lv_sub hl [2, 3, 0] rfl) h
  exact hL7 n (0 : Int32) S1 _ _ hM hX5 hS h4 _ (lv_sub hl [1, 2, 0] rfl) h
def f_X12_middleOf (n : Nat) (S0 : zM) (a0 : Nat) (v1 : Int32) : Option (Int32 × zM) :=
  zB1 (f_X12_asTold S0 a0) (fun S2 => zB1 (f_X12_gathers n S2 a0 v1) (fun S8 => if (zi S8 a0 11) = 0 then some (((-4 : Int32), S8)) else zChk (¬ (zr S8 a0 10) = 0) (zChk (¬ (((zi S8 a0 11) / (2 : Int32)) < 0 ∨ zln S8 (zr S8 a0 10) ≤ (((zi S8 a0 11) / (2 : Int32))).toNatClampNeg)) (some (((zi S8 (zr S8 a0 10) (Int32.toNatClampNeg ((zi S8 a0 11) / (2 : Int32)))), S8))))))
set_option maxHeartbeats 4000000 in
set_option maxRecDepth 100000 in
theorem c_X12_middleOf (l : Launch) (D : va_G) (cy : Nat → ClassId) (B : Nat) {n : Nat} {S0 : zM} {a0 : Nat} {v1 : Int32} {r : Int32} {S' : zM} (ha0 : zA S0 a0 12) (h : f_X12_middleOf n S0 a0 v1 = some (r, S')) : Met l yX12_middleOf (zws yX12_middleOf cX12_middleOf 2 ((some .int))) { frames := 3, cells := 0, slots := 0, locals := 70 } (zPc D cy B S0 [.ref (B + a0), .int v1]) (zQi D cy B S0 r S') 0 0 (fun q => B < q) := by
  refine Met.ofW (cc := cX12_middleOf) (maxL := 2) (ret := ((some .int))) (by decide) rfl ?_
  intro p e s m args below meth c s₁ Bd hml hv
  obtain ⟨rfl, hC, hM⟩ := hv
  obtain ⟨hx, hb, hr, hg, hown, hlk⟩ := z_open Bd
  have hK := hC.1
  have hS : va_S (fun q => B < q) s.heap s.heap [] := va_S.rf
  have hX0 : zX S0 S0 := zX.rf
  refine z_entry (vs := [.ref (B + a0), .int v1]) (Nat.le_of_ble_eq_true rfl) (fun ls hl => ?_)
  have hl : lv_has ls 2 [(0, .ref (B + a0)), (1, .int v1)] := hl
  unfold f_X12_middleOf at h
  refine lv_aload_n hx hb dX12_middleOf_0 rfl (lv_at hl 0 rfl) ?_
  obtain ⟨S2, hr1, h⟩ := zb1 h
  refine z_runv (va_runV (As := []) (rest := []) ⟨hx, hb, hml, hown, hg⟩ (c_X12_asTold l D cy B ha0 hr1) (z_cwV hg zw_1264 zw_1265 zw_1506 zw_13 zw_1266 zh_X12_asTold ⟨(Nat.le_of_ble_eq_true rfl), (Nat.le_of_ble_eq_true rfl)⟩) (zPV hC hM ha0 (by decide) rfl) rfl rfl hl.1 rfl (lv_room (Nat.le_of_ble_eq_true rfl)) dX12_middleOf_1 ⟨(Nat.le_of_ble_eq_true rfl), (Nat.le_of_ble_eq_true rfl)⟩) hS (fun H locs hM hX3 hS => ?_)
  have h5 := ha0.mo hX3
  have hX6 := hX0.tr hX3
  refine lv_aload_n hx hb dX12_middleOf_4 rfl (lv_at hl 0 rfl) ?_
  refine lv_iload_n hx hb dX12_middleOf_5 rfl (lv_at hl 1 rfl) ?_
  obtain ⟨S8, hr7, h⟩ := zb1 h
  refine z_runv (va_runV (As := [.int v1]) (rest := []) ⟨hx, hb, hml, hown, hg⟩ (c_X12_gathers l D cy B h5 hr7) (z_cwV hg zw_1270 zw_1271 zw_1508 zw_13 zw_1272 zh_X12_gathers ⟨(Nat.le_of_ble_eq_true rfl), (Nat.le_of_ble_eq_true rfl)⟩) (zPV hC hM h5 (by decide) rfl) rfl rfl hl.1 rfl (lv_room (Nat.le_of_ble_eq_true rfl)) dX12_middleOf_6 ⟨(Nat.le_of_ble_eq_true rfl), (Nat.le_of_ble_eq_true rfl)⟩) hS (fun H locs hM hX9 hS => ?_)
  have h11 := h5.mo hX9
  have hX12 := hX6.tr hX9
  refine lv_aload_n hx hb dX12_middleOf_9 rfl (lv_at hl 0 rfl) ?_
  refine z_getI hx hb hg zin_12 hown hK hM h11 11 rfl (by decide) (hg _ zw_1011) (fun _ h9 => h9) dX12_middleOf_10 ?_
  refine lv_if_ne (tgt := 21) hx hb dX12_middleOf_13 (by decide) (fun hc13 => ?_) (fun hc13 => ?_)
  · have h := zf h hc13
    refine lv_aload_n hx hb dX12_middleOf_21 rfl (lv_at hl 0 rfl) ?_
    obtain ⟨hq15, h⟩ := zk h
    refine z_getN hx hb hg zin_12 hown hK hM h11 10 rfl (by decide) (hg _ zw_1010) (fun _ h9 => h9) hq15 dX12_middleOf_22 (fun h14 => ?_)
    refine lv_aload_n hx hb dX12_middleOf_25 rfl (lv_at hl 0 rfl) ?_
    refine z_getI hx hb hg zin_12 hown hK hM h11 11 rfl (by decide) (hg _ zw_1011) (fun _ h9 => h9) dX12_middleOf_26 ?_
    refine lv_iconst (v := (2 : Int32)) hx hb dX12_middleOf_29 (by decide +kernel) ?_
    refine lv_idiv hx hb dX12_middleOf_30 (by decide +kernel) ?_
    obtain ⟨hq16, h⟩ := zk h
    refine z_iald hx hb hK hM h14 hq16 dX12_middleOf_31 ?_
    exact z_iret hx hb hr hlk hM hX12 hS (zsp h) dX12_middleOf_32
  · have h := zt h hc13
    refine lv_bipush (v := (-4 : Int32)) hx hb dX12_middleOf_16 (by decide +kernel) ?_
    refine lv_goto (tgt := 32) hx hb dX12_middleOf_18 (by decide) ?_
    exact z_iret hx hb hr hlk hM hX12 hS (zsp h) dX12_middleOf_32
def f_X12_countsNow_L53b (a0 : Nat) (K21 : zM → Option (Int32 × zM)) (rec53 : Int32 → zM → Option (Int32 × zM)) (x95 : Int32) (S96 : zM) : Option (Int32 × zM) :=
  if ((zi S96 a0 11) - (zi S96 a0 30)) ≤ x95 then K21 S96 else zChk (¬ (zr S96 a0 10) = 0) (zChk (¬ (x95 < 0 ∨ zln S96 (zr S96 a0 10) ≤ (x95).toNatClampNeg)) (zLet (zpI S96 a0 22 ((zi S96 a0 22) + (zi S96 (zr S96 a0 10) (Int32.toNatClampNeg x95)))) (fun S102 => rec53 (x95 + (1 : Int32)) S102)))
def f_X12_countsNow_L53 (a0 : Nat) (K21 : zM → Option (Int32 × zM)) : Nat → Int32 → zM → Option (Int32 × zM)
  | 0 => fun _ _ => none
  | k + 1 => fun x95 S96 => f_X12_countsNow_L53b a0 K21 (f_X12_countsNow_L53 a0 K21 k) x95 S96
def f_X12_countsNow (n : Nat) (S0 : zM) (a0 : Nat) (v1 : Int32) : Option (Int32 × zM) :=
  zB1 (f_X12_gathers n S0 a0 v1) (fun S2 => if (((zi S2 a0 30) + (zi S2 a0 31)) + (1 : Int32)) ≤ (zi S2 a0 11) then zLet (zpI S2 a0 22 (0 : Int32)) (fun S8 => zLet (zpI S8 a0 23 (((zi S8 a0 11) - (zi S8 a0 30)) - (zi S8 a0 31))) (fun S13 => zLet (fun (S19 : zM) => zB1 (f_X12_get S19 a0 v1 (4 : Int32)) (fun r23 => zLet (zpI S19 a0 24 r23) (fun S26 => zChk (¬ (zr S26 a0 10) = 0) (zChk (¬ (((zi S26 a0 11) / (2 : Int32)) < 0 ∨ zln S26 (zr S26 a0 10) ≤ (((zi S26 a0 11) / (2 : Int32))).toNatClampNeg)) (zLet (zpI S26 a0 25 (zi S26 (zr S26 a0 10) (Int32.toNatClampNeg ((zi S26 a0 11) / (2 : Int32))))) (fun S34 => zChk (¬ (zr S34 a0 10) = 0) (zChk (¬ (((zi S34 a0 11) - (1 : Int32)) < 0 ∨ zln S34 (zr S34 a0 10) ≤ (((zi S34 a0 11) - (1 : Int32))).toNatClampNeg)) (zLet (zpI S34 a0 26 (zi S34 (zr S34 a0 10) (Int32.toNatClampNeg ((zi S34 a0 11) - (1 : Int32))))) (fun S42 => zChk (¬ (zr S42 a0 10) = 0) (zChk (¬ ((0 : Int32) < 0 ∨ zln S42 (zr S42 a0 10) ≤ ((0 : Int32)).toNatClampNeg)) (zLet (zpI S42 a0 27 (zi S42 (zr S42 a0 10) (Int32.toNatClampNeg (0 : Int32)))) (fun S50 => zB1 (f_X12_get S50 a0 v1 (3 : Int32)) (fun r56 => zLet (zpI S50 a0 28 r56) (fun S59 => zLet (zpR S59 a0 17 (zr S59 a0 0)) (fun S65 => zLet (zpI S65 a0 13 (880 : Int32)) (fun S70 => zChk (¬ (zr S70 a0 0) = 0) (zChk (¬ ((1000 : Int32) < 0 ∨ zln S70 (zr S70 a0 0) ≤ ((1000 : Int32)).toNatClampNeg)) (zLet (zpI S70 a0 14 (zi S70 (zr S70 a0 0) (Int32.toNatClampNeg (1000 : Int32)))) (fun S78 => zLet (zpI S78 a0 12 (0 : Int32)) (fun S83 => zB2 (f_X12_sumOf n 8 S83 a0) (fun r89 S90 => some ((r89, S90))))))))))))))))))))))) (fun K21 => f_X12_countsNow_L53 a0 K21 n (zi S13 a0 31) S13))) else some (((0 : Int32), S2)))
set_option maxHeartbeats 4000000 in
set_option maxRecDepth 100000 in
theorem c_X12_countsNow (l : Launch) (D : va_G) (cy : Nat → ClassId) (B : Nat) {n : Nat} {S0 : zM} {a0 : Nat} {v1 : Int32} {r : Int32} {S' : zM} (ha0 : zA S0 a0 12) (h : f_X12_countsNow n S0 a0 v1 = some (r, S')) : Met l yX12_countsNow (zws yX12_countsNow cX12_countsNow 3 ((some .int))) { frames := 33, cells := 0, slots := 0, locals := 759 } (zPc D cy B S0 [.ref (B + a0), .int v1]) (zQi D cy B S0 r S') 0 0 (fun q => B < q) := by
  refine Met.ofW (cc := cX12_countsNow) (maxL := 3) (ret := ((some .int))) (by decide) rfl ?_
  intro p e s m args below meth c s₁ Bd hml hv
  obtain ⟨rfl, hC, hM⟩ := hv
  obtain ⟨hx, hb, hr, hg, hown, hlk⟩ := z_open Bd
  have hK := hC.1
  have hS : va_S (fun q => B < q) s.heap s.heap [] := va_S.rf
  have hX0 : zX S0 S0 := zX.rf
  refine z_entry (vs := [.ref (B + a0), .int v1]) (Nat.le_of_ble_eq_true rfl) (fun ls hl => ?_)
  have hl : lv_has ls 3 [(0, .ref (B + a0)), (1, .int v1)] := hl
  unfold f_X12_countsNow at h
  refine lv_aload_n hx hb dX12_countsNow_0 rfl (lv_at hl 0 rfl) ?_
  refine lv_iload_n hx hb dX12_countsNow_1 rfl (lv_at hl 1 rfl) ?_
  obtain ⟨S2, hr1, h⟩ := zb1 h
  refine z_runv (va_runV (As := [.int v1]) (rest := []) ⟨hx, hb, hml, hown, hg⟩ (c_X12_gathers l D cy B ha0 hr1) (z_cwV hg zw_1270 zw_1271 zw_1508 zw_13 zw_1272 zh_X12_gathers ⟨(Nat.le_of_ble_eq_true rfl), (Nat.le_of_ble_eq_true rfl)⟩) (zPV hC hM ha0 (by decide) rfl) rfl rfl hl.1 rfl (lv_room (Nat.le_of_ble_eq_true rfl)) dX12_countsNow_2 ⟨(Nat.le_of_ble_eq_true rfl), (Nat.le_of_ble_eq_true rfl)⟩) hS (fun H locs hM hX3 hS => ?_)
  have h5 := ha0.mo hX3
  have hX6 := hX0.tr hX3
  refine lv_aload_n hx hb dX12_countsNow_5 rfl (lv_at hl 0 rfl) ?_
  refine z_getI hx hb hg zin_12 hown hK hM h5 11 rfl (by decide) (hg _ zw_1011) (fun _ h9 => h9) dX12_countsNow_6 ?_
  refine lv_aload_n hx hb dX12_countsNow_9 rfl (lv_at hl 0 rfl) ?_
  refine z_getI hx hb hg zin_12 hown hK hM h5 30 rfl (by decide) (hg _ zw_1030) (fun _ h9 => h9) dX12_countsNow_10 ?_
  refine lv_aload_n hx hb dX12_countsNow_13 rfl (lv_at hl 0 rfl) ?_
  refine z_getI hx hb hg zin_12 hown hK hM h5 31 rfl (by decide) (hg _ zw_1031) (fun _ h9 => h9) dX12_countsNow_14 ?_
  refine lv_iadd hx hb dX12_countsNow_17 ?_
  refine lv_iconst (v := (1 : Int32)) hx hb dX12_countsNow_18 (by decide +kernel) ?_
  refine lv_iadd hx hb dX12_countsNow_19 ?_
  refine lv_icmp_ge (tgt := 25) hx hb dX12_countsNow_20 (by decide) (fun hc7 => ?_) (fun hc7 => ?_)
  · have h := zt h hc7
    refine lv_aload_n hx hb dX12_countsNow_25 rfl (lv_at hl 0 rfl) ?_
    refine lv_iconst (v := (0 : Int32)) hx hb dX12_countsNow_26 (by decide +kernel) ?_
    refine z_putI hx hb hg zin_12 tyX12 tyX12_ok nmX12 hown hK hM hS h5 22 rfl (by decide) (hg _ zw_1022) (fun _ h9 => h9) (Or.inl rfl) (tyX12_ok 22 (by decide)) rfl rfl dX12_countsNow_27 (fun H locs hM hS => ?_)
    obtain ⟨S8, e9, h⟩ := zlg h
    rw [← e9] at hM
    have hX10 : zX S2 S8 := by rw [e9]; exact zX_pI
    have h11 := h5.mo hX10
    have hX12 := hX6.tr hX10
    refine lv_aload_n hx hb dX12_countsNow_30 rfl (lv_at hl 0 rfl) ?_
    refine lv_aload_n hx hb dX12_countsNow_31 rfl (lv_at hl 0 rfl) ?_
    refine z_getI hx hb hg zin_12 hown hK hM h11 11 rfl (by decide) (hg _ zw_1011) (fun _ h9 => h9) dX12_countsNow_32 ?_
    refine lv_aload_n hx hb dX12_countsNow_35 rfl (lv_at hl 0 rfl) ?_
    refine z_getI hx hb hg zin_12 hown hK hM h11 30 rfl (by decide) (hg _ zw_1030) (fun _ h9 => h9) dX12_countsNow_36 ?_
    refine lv_isub hx hb dX12_countsNow_39 ?_
    refine lv_aload_n hx hb dX12_countsNow_40 rfl (lv_at hl 0 rfl) ?_
    refine z_getI hx hb hg zin_12 hown hK hM h11 31 rfl (by decide) (hg _ zw_1031) (fun _ h9 => h9) dX12_countsNow_41 ?_
    refine lv_isub hx hb dX12_countsNow_44 ?_
    refine z_putI hx hb hg zin_12 tyX12 tyX12_ok nmX12 hown hK hM hS h11 23 rfl (by decide) (hg _ zw_1023) (fun _ h9 => h9) (Or.inl rfl) (tyX12_ok 23 (by decide)) rfl rfl dX12_countsNow_45 (fun H locs hM hS => ?_)
    obtain ⟨S13, e14, h⟩ := zlg h
    rw [← e14] at hM
    have hX15 : zX S8 S13 := by rw [e14]; exact zX_pI
    have h16 := h11.mo hX15
    have hX17 := hX12.tr hX15
    refine lv_aload_n hx hb dX12_countsNow_48 rfl (lv_at hl 0 rfl) ?_
    refine z_getI hx hb hg zin_12 hown hK hM h16 31 rfl (by decide) (hg _ zw_1031) (fun _ h9 => h9) dX12_countsNow_49 ?_
    refine lv_istore_n (i := 2) (lv' := [(2, .int (zi S13 a0 31)), (0, .ref (B + a0)), (1, .int v1)]) hx hb dX12_countsNow_52 rfl hl (by decide) rfl (fun ls hl => ?_)
    obtain ⟨K21, eK21, h⟩ := zlg h
    have hK21 : ∀ (S19 : zM) (H : Heap) (locs : List Loc), zMR D cy B S19 H → zX S0 S19 → va_S (fun q => B < q) s.heap H locs → zA S19 a0 12 → ∀ ls : Array Slot, lv_has ls 3 [(0, .ref (B + a0)), (1, .int v1)] → K21 S19 = some (r, S') → W p l e (headSpec (zws yX12_countsNow cX12_countsNow 3 ((some .int))) { frames := 33, cells := 0, slots := 0, locals := 759 }).room s m (([.ref (B + a0), .int v1] : List Value).toArray) below meth c H locs 0 0 (MQ below (zQi D cy B S0 r S') (([.ref (B + a0), .int v1] : List Value).toArray) s 0 0 (fun q => B < q)) (F0 m 87 ls []) := by
      intro S19 H locs hM hX20 hS h18 ls hl h
      rw [eK21] at h
      refine lv_aload_n hx hb dX12_countsNow_87 rfl (lv_at hl 0 rfl) ?_
      refine lv_aload_n hx hb dX12_countsNow_88 rfl (lv_at hl 0 rfl) ?_
      refine lv_iload_n hx hb dX12_countsNow_89 rfl (lv_at hl 1 rfl) ?_
      refine lv_iconst (v := (4 : Int32)) hx hb dX12_countsNow_90 (by decide +kernel) ?_
      obtain ⟨r23, hr22, h⟩ := zb1 h
      refine z_runi (va_runV (As := [.int v1, .int (4 : Int32)]) (rest := [.ref (B + a0)]) ⟨hx, hb, hml, hown, hg⟩ (c_X12_get l D cy B h18 hr22) (z_cwV hg zw_1163 zw_1164 zw_1487 zw_13 zw_1165 zh_X12_get ⟨(Nat.le_of_ble_eq_true rfl), (Nat.le_of_ble_eq_true rfl)⟩) (zPV hC hM h18 (by decide) rfl) rfl rfl hl.1 rfl (lv_room (Nat.le_of_ble_eq_true rfl)) dX12_countsNow_91 ⟨(Nat.le_of_ble_eq_true rfl), (Nat.le_of_ble_eq_true rfl)⟩) hS (fun H locs hM hX24 hS => ?_)
      refine z_putI hx hb hg zin_12 tyX12 tyX12_ok nmX12 hown hK hM hS h18 24 rfl (by decide) (hg _ zw_1024) (fun _ h9 => h9) (Or.inl rfl) (tyX12_ok 24 (by decide)) rfl rfl dX12_countsNow_94 (fun H locs hM hS => ?_)
      obtain ⟨S26, e27, h⟩ := zlg h
      rw [← e27] at hM
      have hX28 : zX S19 S26 := by rw [e27]; exact zX_pI
      have h29 := h18.mo hX28
      have hX30 := hX20.tr hX28
      refine lv_aload_n hx hb dX12_countsNow_97 rfl (lv_at hl 0 rfl) ?_
      refine lv_aload_n hx hb dX12_countsNow_98 rfl (lv_at hl 0 rfl) ?_
      obtain ⟨hq32, h⟩ := zk h
      refine z_getN hx hb hg zin_12 hown hK hM h29 10 rfl (by decide) (hg _ zw_1010) (fun _ h9 => h9) hq32 dX12_countsNow_99 (fun h31 => ?_)
      refine lv_aload_n hx hb dX12_countsNow_102 rfl (lv_at hl 0 rfl) ?_
      refine z_getI hx hb hg zin_12 hown hK hM h29 11 rfl (by decide) (hg _ zw_1011) (fun _ h9 => h9) dX12_countsNow_103 ?_
      refine lv_iconst (v := (2 : Int32)) hx hb dX12_countsNow_106 (by decide +kernel) ?_
      refine lv_idiv hx hb dX12_countsNow_107 (by decide +kernel) ?_
      obtain ⟨hq33, h⟩ := zk h
      refine z_iald hx hb hK hM h31 hq33 dX12_countsNow_108 ?_
      refine z_putI hx hb hg zin_12 tyX12 tyX12_ok nmX12 hown hK hM hS h29 25 rfl (by decide) (hg _ zw_1025) (fun _ h9 => h9) (Or.inl rfl) (tyX12_ok 25 (by decide)) rfl rfl dX12_countsNow_109 (fun H locs hM hS => ?_)
      obtain ⟨S34, e35, h⟩ := zlg h
      rw [← e35] at hM
      have hX36 : zX S26 S34 := by rw [e35]; exact zX_pI
      have h37 := h29.mo hX36
      have hX38 := hX30.tr hX36
      refine lv_aload_n hx hb dX12_countsNow_112 rfl (lv_at hl 0 rfl) ?_
      refine lv_aload_n hx hb dX12_countsNow_113 rfl (lv_at hl 0 rfl) ?_
      obtain ⟨hq40, h⟩ := zk h
      refine z_getN hx hb hg zin_12 hown hK hM h37 10 rfl (by decide) (hg _ zw_1010) (fun _ h9 => h9) hq40 dX12_countsNow_114 (fun h39 => ?_)
      refine lv_aload_n hx hb dX12_countsNow_117 rfl (lv_at hl 0 rfl) ?_
      refine z_getI hx hb hg zin_12 hown hK hM h37 11 rfl (by decide) (hg _ zw_1011) (fun _ h9 => h9) dX12_countsNow_118 ?_
      refine lv_iconst (v := (1 : Int32)) hx hb dX12_countsNow_121 (by decide +kernel) ?_
      refine lv_isub hx hb dX12_countsNow_122 ?_
      obtain ⟨hq41, h⟩ := zk h
      refine z_iald hx hb hK hM h39 hq41 dX12_countsNow_123 ?_
      refine z_putI hx hb hg zin_12 tyX12 tyX12_ok nmX12 hown hK hM hS h37 26 rfl (by decide) (hg _ zw_1026) (fun _ h9 => h9) (Or.inl rfl) (tyX12_ok 26 (by decide)) rfl rfl dX12_countsNow_124 (fun H locs hM hS => ?_)
      obtain ⟨S42, e43, h⟩ := zlg h
      rw [← e43] at hM
      have hX44 : zX S34 S42 := by rw [e43]; exact zX_pI
      have h45 := h37.mo hX44
      have hX46 := hX38.tr hX44
      refine lv_aload_n hx hb dX12_countsNow_127 rfl (lv_at hl 0 rfl) ?_
      refine lv_aload_n hx hb dX12_countsNow_128 rfl (lv_at hl 0 rfl) ?_
      obtain ⟨hq48, h⟩ := zk h
      refine z_getN hx hb hg zin_12 hown hK hM h45 10 rfl (by decide) (hg _ zw_1010) (fun _ h9 => h9) hq48 dX12_countsNow_129 (fun h47 => ?_)
      refine lv_iconst (v := (0 : Int32)) hx hb dX12_countsNow_132 (by decide +kernel) ?_
      obtain ⟨hq49, h⟩ := zk h
      refine z_iald hx hb hK hM h47 hq49 dX12_countsNow_133 ?_
      refine z_putI hx hb hg zin_12 tyX12 tyX12_ok nmX12 hown hK hM hS h45 27 rfl (by decide) (hg _ zw_1027) (fun _ h9 => h9) (Or.inl rfl) (tyX12_ok 27 (by decide)) rfl rfl dX12_countsNow_134 (fun H locs hM hS => ?_)
      obtain ⟨S50, e51, h⟩ := zlg h
      rw [← e51] at hM
      have hX52 : zX S42 S50 := by rw [e51]; exact zX_pI
      have h53 := h45.mo hX52
      have hX54 := hX46.tr hX52
      refine lv_aload_n hx hb dX12_countsNow_137 rfl (lv_at hl 0 rfl) ?_
      refine lv_aload_n hx hb dX12_countsNow_138 rfl (lv_at hl 0 rfl) ?_
      refine lv_iload_n hx hb dX12_countsNow_139 rfl (lv_at hl 1 rfl) ?_
      refine lv_iconst (v := (3 : Int32)) hx hb dX12_countsNow_140 (by decide +kernel) ?_
      obtain ⟨r56, hr55, h⟩ := zb1 h
      refine z_runi (va_runV (As := [.int v1, .int (3 : Int32)]) (rest := [.ref (B + a0)]) ⟨hx, hb, hml, hown, hg⟩ (c_X12_get l D cy B h53 hr55) (z_cwV hg zw_1163 zw_1164 zw_1487 zw_13 zw_1165 zh_X12_get ⟨(Nat.le_of_ble_eq_true rfl), (Nat.le_of_ble_eq_true rfl)⟩) (zPV hC hM h53 (by decide) rfl) rfl rfl hl.1 rfl (lv_room (Nat.le_of_ble_eq_true rfl)) dX12_countsNow_141 ⟨(Nat.le_of_ble_eq_true rfl), (Nat.le_of_ble_eq_true rfl)⟩) hS (fun H locs hM hX57 hS => ?_)
      refine z_putI hx hb hg zin_12 tyX12 tyX12_ok nmX12 hown hK hM hS h53 28 rfl (by decide) (hg _ zw_1028) (fun _ h9 => h9) (Or.inl rfl) (tyX12_ok 28 (by decide)) rfl rfl dX12_countsNow_144 (fun H locs hM hS => ?_)
      obtain ⟨S59, e60, h⟩ := zlg h
      rw [← e60] at hM
      have hX61 : zX S50 S59 := by rw [e60]; exact zX_pI
      have h62 := h53.mo hX61
      have hX63 := hX54.tr hX61
      refine lv_aload_n hx hb dX12_countsNow_147 rfl (lv_at hl 0 rfl) ?_
      refine lv_aload_n hx hb dX12_countsNow_148 rfl (lv_at hl 0 rfl) ?_
      refine z_getR hx hb hg zin_12 hown hK hM h62 0 rfl (by decide) (hg _ zw_1000) (fun _ h9 => h9) dX12_countsNow_149 (fun h64 => ?_)
      refine z_putR (r := (zr S59 a0 0)) hx hb hg zin_12 tyX12 tyX12_ok nmX12 hown hK hM hS h62 17 rfl (by decide) (hg _ zw_1017) (fun _ h9 => h9) (Or.inl rfl) rfl (tyX12_ok 17 (by decide)) (Or.inr ⟨_, rfl⟩) (h64) dX12_countsNow_152 (fun H locs hM hS => ?_)
      obtain ⟨S65, e66, h⟩ := zlg h
      rw [← e66] at hM
      have hX67 : zX S59 S65 := by rw [e66]; exact zX_pR
      have h68 := h62.mo hX67
      have hX69 := hX63.tr hX67
      refine lv_aload_n hx hb dX12_countsNow_155 rfl (lv_at hl 0 rfl) ?_
      refine lv_sipush (v := (880 : Int32)) hx hb dX12_countsNow_156 (by decide +kernel) ?_
      refine z_putI hx hb hg zin_12 tyX12 tyX12_ok nmX12 hown hK hM hS h68 13 rfl (by decide) (hg _ zw_1013) (fun _ h9 => h9) (Or.inl rfl) (tyX12_ok 13 (by decide)) rfl rfl dX12_countsNow_159 (fun H locs hM hS => ?_)
      obtain ⟨S70, e71, h⟩ := zlg h
      rw [← e71] at hM
      have hX72 : zX S65 S70 := by rw [e71]; exact zX_pI
      have h73 := h68.mo hX72
      have hX74 := hX69.tr hX72
      refine lv_aload_n hx hb dX12_countsNow_162 rfl (lv_at hl 0 rfl) ?_
      refine lv_aload_n hx hb dX12_countsNow_163 rfl (lv_at hl 0 rfl) ?_
      obtain ⟨hq76, h⟩ := zk h
      refine z_getN hx hb hg zin_12 hown hK hM h73 0 rfl (by decide) (hg _ zw_1000) (fun _ h9 => h9) hq76 dX12_countsNow_164 (fun h75 => ?_)
      refine lv_sipush (v := (1000 : Int32)) hx hb dX12_countsNow_167 (by decide +kernel) ?_
      obtain ⟨hq77, h⟩ := zk h
      refine z_iald hx hb hK hM h75 hq77 dX12_countsNow_170 ?_
      refine z_putI hx hb hg zin_12 tyX12 tyX12_ok nmX12 hown hK hM hS h73 14 rfl (by decide) (hg _ zw_1014) (fun _ h9 => h9) (Or.inl rfl) (tyX12_ok 14 (by decide)) rfl rfl dX12_countsNow_171 (fun H locs hM hS => ?_)
      obtain ⟨S78, e79, h⟩ := zlg h
      rw [← e79] at hM
      have hX80 : zX S70 S78 := by rw [e79]; exact zX_pI
      have h81 := h73.mo hX80
      have hX82 := hX74.tr hX80
      refine lv_aload_n hx hb dX12_countsNow_174 rfl (lv_at hl 0 rfl) ?_
      refine lv_iconst (v := (0 : Int32)) hx hb dX12_countsNow_175 (by decide +kernel) ?_
      refine z_putI hx hb hg zin_12 tyX12 tyX12_ok nmX12 hown hK hM hS h81 12 rfl (by decide) (hg _ zw_1012) (fun _ h9 => h9) (Or.inl rfl) (tyX12_ok 12 (by decide)) rfl rfl dX12_countsNow_176 (fun H locs hM hS => ?_)
      obtain ⟨S83, e84, h⟩ := zlg h
      rw [← e84] at hM
      have hX85 : zX S78 S83 := by rw [e84]; exact zX_pI
      have h86 := h81.mo hX85
      have hX87 := hX82.tr hX85
      refine lv_aload_n hx hb dX12_countsNow_179 rfl (lv_at hl 0 rfl) ?_
      obtain ⟨r89, S90, hr88, h⟩ := zb2 h
      refine z_runi (va_runV (As := []) (rest := []) ⟨hx, hb, hml, hown, hg⟩ (c_X12_sumOf l D cy B h86 hr88) (z_cwV hg zw_1276 zw_1277 zw_1510 zw_13 zw_1278 zh_X12_sumOf ⟨(Nat.le_of_ble_eq_true rfl), (Nat.le_of_ble_eq_true rfl)⟩) (zPV hC hM h86 (by decide) rfl) rfl rfl hl.1 rfl (lv_room (Nat.le_of_ble_eq_true rfl)) dX12_countsNow_180 ⟨(Nat.le_of_ble_eq_true rfl), (Nat.le_of_ble_eq_true rfl)⟩) hS (fun H locs hM hX91 hS => ?_)
      have hX93 := hX87.tr hX91
      exact z_iret hx hb hr hlk hM hX93 hS (zsp h) dX12_countsNow_183
    have hL53 : ∀ (k : Nat) (x95 : Int32) (S96 : zM) (H : Heap) (locs : List Loc), zMR D cy B S96 H → zX S0 S96 → va_S (fun q => B < q) s.heap H locs → zA S96 a0 12 → ∀ ls : Array Slot, lv_has ls 3 [(0, .ref (B + a0)), (1, .int v1), (2, .int x95)] → f_X12_countsNow_L53 a0 K21 k x95 S96 = some (r, S') → W p l e (headSpec (zws yX12_countsNow cX12_countsNow 3 ((some .int))) { frames := 33, cells := 0, slots := 0, locals := 759 }).room s m (([.ref (B + a0), .int v1] : List Value).toArray) below meth c H locs 0 0 (MQ below (zQi D cy B S0 r S') (([.ref (B + a0), .int v1] : List Value).toArray) s 0 0 (fun q => B < q)) (F0 m 53 ls []) := by
      intro k
      induction k with
      | zero =>
        intro x95 S96 H locs hM hX97 hS h94 ls hl h
        exact znone h
      | succ k ih53 =>
        intro x95 S96 H locs hM hX97 hS h94 ls hl h
        replace h : f_X12_countsNow_L53b a0 K21 (f_X12_countsNow_L53 a0 K21 k) x95 S96 = some (r, S') := h
        generalize f_X12_countsNow_L53 a0 K21 k = rec53 at ih53 h
        unfold f_X12_countsNow_L53b at h
        refine lv_iload_n hx hb dX12_countsNow_53 rfl (lv_at hl 2 rfl) ?_
        refine lv_aload_n hx hb dX12_countsNow_54 rfl (lv_at hl 0 rfl) ?_
        refine z_getI hx hb hg zin_12 hown hK hM h94 11 rfl (by decide) (hg _ zw_1011) (fun _ h9 => h9) dX12_countsNow_55 ?_
        refine lv_aload_n hx hb dX12_countsNow_58 rfl (lv_at hl 0 rfl) ?_
        refine z_getI hx hb hg zin_12 hown hK hM h94 30 rfl (by decide) (hg _ zw_1030) (fun _ h9 => h9) dX12_countsNow_59 ?_
        refine lv_isub hx hb dX12_countsNow_62 ?_
        refine lv_icmp_ge (tgt := 87) hx hb dX12_countsNow_63 (by decide) (fun hc98 => ?_) (fun hc98 => ?_)
        · have h := zt h hc98
          exact hK21 S96 _ _ hM hX97 hS h94 _ (lv_sub hl [0, 1] rfl) h
        · have h := zf h hc98
          refine lv_aload_n hx hb dX12_countsNow_66 rfl (lv_at hl 0 rfl) ?_
          refine lv_dup hx hb dX12_countsNow_67 rfl ?_
          refine z_getI hx hb hg zin_12 hown hK hM h94 22 rfl (by decide) (hg _ zw_1022) (fun _ h9 => h9) dX12_countsNow_68 ?_
          refine lv_aload_n hx hb dX12_countsNow_71 rfl (lv_at hl 0 rfl) ?_
          obtain ⟨hq100, h⟩ := zk h
          refine z_getN hx hb hg zin_12 hown hK hM h94 10 rfl (by decide) (hg _ zw_1010) (fun _ h9 => h9) hq100 dX12_countsNow_72 (fun h99 => ?_)
          refine lv_iload_n hx hb dX12_countsNow_75 rfl (lv_at hl 2 rfl) ?_
          obtain ⟨hq101, h⟩ := zk h
          refine z_iald hx hb hK hM h99 hq101 dX12_countsNow_76 ?_
          refine lv_iadd hx hb dX12_countsNow_77 ?_
          refine z_putI hx hb hg zin_12 tyX12 tyX12_ok nmX12 hown hK hM hS h94 22 rfl (by decide) (hg _ zw_1022) (fun _ h9 => h9) (Or.inl rfl) (tyX12_ok 22 (by decide)) rfl rfl dX12_countsNow_78 (fun H locs hM hS => ?_)
          obtain ⟨S102, e103, h⟩ := zlg h
          rw [← e103] at hM
          have hX104 : zX S96 S102 := by rw [e103]; exact zX_pI
          have h105 := h94.mo hX104
          have hX106 := hX97.tr hX104
          refine lv_iinc (v := (x95 + (1 : Int32))) (lv' := [(2, .int (x95 + (1 : Int32))), (0, .ref (B + a0)), (1, .int v1)]) hx hb dX12_countsNow_81 hl (k := 2) rfl rfl (by decide) rfl (fun ls hl => ?_)
          refine lv_goto (tgt := 53) hx hb dX12_countsNow_84 (by decide) ?_
          exact ih53 (x95 + (1 : Int32)) S102 _ _ hM hX106 hS h105 _ (lv_sub hl [1, 2, 0] rfl) h
    exact hL53 n (zi S13 a0 31) S13 _ _ hM hX17 hS h16 _ (lv_sub hl [1, 2, 0] rfl) h
  · have h := zf h hc7
    refine lv_iconst (v := (0 : Int32)) hx hb dX12_countsNow_23 (by decide +kernel) ?_
    exact z_iret hx hb hr hlk hM hX6 hS (zsp h) dX12_countsNow_24
def f_X12_counts (n : Nat) (S0 : zM) (a0 : Nat) (v1 : Int32) : Option (Int32 × zM) :=
  zB1 (f_X12_isDive S0 a0 v1) (fun r2 => if r2 = 0 then some (((-1000000001 : Int32), S0)) else zB1 (f_X12_asTold S0 a0) (fun S7 => zB2 (f_X12_countsNow n S7 a0 v1) (fun r13 S14 => some ((r13, S14)))))
set_option maxHeartbeats 4000000 in
set_option maxRecDepth 100000 in
theorem c_X12_counts (l : Launch) (D : va_G) (cy : Nat → ClassId) (B : Nat) {n : Nat} {S0 : zM} {a0 : Nat} {v1 : Int32} {r : Int32} {S' : zM} (ha0 : zA S0 a0 12) (h : f_X12_counts n S0 a0 v1 = some (r, S')) : Met l yX12_counts (zws yX12_counts cX12_counts 2 ((some .int))) { frames := 34, cells := 0, slots := 0, locals := 781 } (zPc D cy B S0 [.ref (B + a0), .int v1]) (zQi D cy B S0 r S') 0 0 (fun q => B < q) := by
  refine Met.ofW (cc := cX12_counts) (maxL := 2) (ret := ((some .int))) (by decide) rfl ?_
  intro p e s m args below meth c s₁ Bd hml hv
  obtain ⟨rfl, hC, hM⟩ := hv
  obtain ⟨hx, hb, hr, hg, hown, hlk⟩ := z_open Bd
  have hK := hC.1
  have hS : va_S (fun q => B < q) s.heap s.heap [] := va_S.rf
  have hX0 : zX S0 S0 := zX.rf
  refine z_entry (vs := [.ref (B + a0), .int v1]) (Nat.le_of_ble_eq_true rfl) (fun ls hl => ?_)
  have hl : lv_has ls 2 [(0, .ref (B + a0)), (1, .int v1)] := hl
  unfold f_X12_counts at h
  refine lv_aload_n hx hb dX12_counts_0 rfl (lv_at hl 0 rfl) ?_
  refine lv_iload_n hx hb dX12_counts_1 rfl (lv_at hl 1 rfl) ?_
  obtain ⟨r2, hr1, h⟩ := zb1 h
  refine z_runi (va_runV (As := [.int v1]) (rest := []) ⟨hx, hb, hml, hown, hg⟩ (c_X12_isDive l D cy B ha0 hr1) (z_cwV hg zw_1160 zw_1161 zw_1486 zw_13 zw_1162 zh_X12_isDive ⟨(Nat.le_of_ble_eq_true rfl), (Nat.le_of_ble_eq_true rfl)⟩) (zPV hC hM ha0 (by decide) rfl) rfl rfl hl.1 rfl (lv_room (Nat.le_of_ble_eq_true rfl)) dX12_counts_2 ⟨(Nat.le_of_ble_eq_true rfl), (Nat.le_of_ble_eq_true rfl)⟩) hS (fun H locs hM hX3 hS => ?_)
  refine lv_if_ne (tgt := 12) hx hb dX12_counts_5 (by decide) (fun hc5 => ?_) (fun hc5 => ?_)
  · have h := zf h hc5
    refine lv_aload_n hx hb dX12_counts_12 rfl (lv_at hl 0 rfl) ?_
    obtain ⟨S7, hr6, h⟩ := zb1 h
    refine z_runv (va_runV (As := []) (rest := []) ⟨hx, hb, hml, hown, hg⟩ (c_X12_asTold l D cy B ha0 hr6) (z_cwV hg zw_1264 zw_1265 zw_1506 zw_13 zw_1266 zh_X12_asTold ⟨(Nat.le_of_ble_eq_true rfl), (Nat.le_of_ble_eq_true rfl)⟩) (zPV hC hM ha0 (by decide) rfl) rfl rfl hl.1 rfl (lv_room (Nat.le_of_ble_eq_true rfl)) dX12_counts_13 ⟨(Nat.le_of_ble_eq_true rfl), (Nat.le_of_ble_eq_true rfl)⟩) hS (fun H locs hM hX8 hS => ?_)
    have h10 := ha0.mo hX8
    have hX11 := hX0.tr hX8
    refine lv_aload_n hx hb dX12_counts_16 rfl (lv_at hl 0 rfl) ?_
    refine lv_iload_n hx hb dX12_counts_17 rfl (lv_at hl 1 rfl) ?_
    obtain ⟨r13, S14, hr12, h⟩ := zb2 h
    refine z_runi (va_runV (As := [.int v1]) (rest := []) ⟨hx, hb, hml, hown, hg⟩ (c_X12_countsNow l D cy B h10 hr12) (z_cwV hg zw_1267 zw_1268 zw_1507 zw_13 zw_1269 zh_X12_countsNow ⟨(Nat.le_of_ble_eq_true rfl), (Nat.le_of_ble_eq_true rfl)⟩) (zPV hC hM h10 (by decide) rfl) rfl rfl hl.1 rfl (lv_room (Nat.le_of_ble_eq_true rfl)) dX12_counts_18 ⟨(Nat.le_of_ble_eq_true rfl), (Nat.le_of_ble_eq_true rfl)⟩) hS (fun H locs hM hX15 hS => ?_)
    have hX17 := hX11.tr hX15
    exact z_iret hx hb hr hlk hM hX17 hS (zsp h) dX12_counts_21
  · have h := zt h hc5
    refine lv_ldcw (v := (-1000000001 : Int32)) hx hb hown (hg _ zw_1263) dX12_counts_8 ?_
    exact z_iret hx hb hr hlk hM hX0 hS (zsp h) dX12_counts_11
def f_X12_dives_L2b (S0 : zM) (a0 : Nat) (v1 : Int32) (v2 : Int32) (rec2 : Int32 → Option (Int32)) (x2 : Int32) : Option (Int32) :=
  zChk (¬ (zr S0 a0 0) = 0) (zChk (¬ ((1003 : Int32) < 0 ∨ zln S0 (zr S0 a0 0) ≤ ((1003 : Int32)).toNatClampNeg)) (if (zi S0 (zr S0 a0 0) (Int32.toNatClampNeg (1003 : Int32))) ≤ x2 then some (0 : Int32) else zB1 (f_X12_get S0 a0 x2 (0 : Int32)) (fun r9 => if r9 = v1 then zB1 (f_X12_get S0 a0 x2 (1 : Int32)) (fun r14 => if r14 = v2 then some (1 : Int32) else rec2 (x2 + (1 : Int32))) else rec2 (x2 + (1 : Int32)))))
def f_X12_dives_L2 (S0 : zM) (a0 : Nat) (v1 : Int32) (v2 : Int32) : Nat → Int32 → Option (Int32)
  | 0 => fun _ => none
  | k + 1 => fun x2 => f_X12_dives_L2b S0 a0 v1 v2 (f_X12_dives_L2 S0 a0 v1 v2 k) x2
def f_X12_dives (n : Nat) (S0 : zM) (a0 : Nat) (v1 : Int32) (v2 : Int32) : Option (Int32) :=
  f_X12_dives_L2 S0 a0 v1 v2 n (0 : Int32)
set_option maxHeartbeats 4000000 in
set_option maxRecDepth 100000 in
theorem c_X12_dives (l : Launch) (D : va_G) (cy : Nat → ClassId) (B : Nat) {n : Nat} {S0 : zM} {a0 : Nat} {v1 : Int32} {v2 : Int32} {r : Int32} (ha0 : zA S0 a0 12) (h : f_X12_dives n S0 a0 v1 v2 = some r) : Met l yX12_dives (zws yX12_dives cX12_dives 4 ((some .boolean))) { frames := 1, cells := 0, slots := 0, locals := 22 } (zPc D cy B S0 [.ref (B + a0), .int v1, .int v2]) (zQi D cy B S0 r S0) 0 0 (fun q => B < q) := by
  refine Met.ofW (cc := cX12_dives) (maxL := 4) (ret := ((some .boolean))) (by decide) rfl ?_
  intro p e s m args below meth c s₁ Bd hml hv
  obtain ⟨rfl, hC, hM⟩ := hv
  obtain ⟨hx, hb, hr, hg, hown, hlk⟩ := z_open Bd
  have hK := hC.1
  have hS : va_S (fun q => B < q) s.heap s.heap [] := va_S.rf
  have hX0 : zX S0 S0 := zX.rf
  refine z_entry (vs := [.ref (B + a0), .int v1, .int v2]) (Nat.le_of_ble_eq_true rfl) (fun ls hl => ?_)
  have hl : lv_has ls 4 [(0, .ref (B + a0)), (1, .int v1), (2, .int v2)] := hl
  unfold f_X12_dives at h
  refine lv_iconst (v := (0 : Int32)) hx hb dX12_dives_0 (by decide +kernel) ?_
  refine lv_istore_n (i := 3) (lv' := [(3, .int (0 : Int32)), (0, .ref (B + a0)), (1, .int v1), (2, .int v2)]) hx hb dX12_dives_1 rfl hl (by decide) rfl (fun ls hl => ?_)
  have hL2 : ∀ (k : Nat) (x2 : Int32) (H : Heap) (locs : List Loc), zMR D cy B S0 H → zX S0 S0 → va_S (fun q => B < q) s.heap H locs → zA S0 a0 12 → ∀ ls : Array Slot, lv_has ls 4 [(0, .ref (B + a0)), (1, .int v1), (2, .int v2), (3, .int x2)] → f_X12_dives_L2 S0 a0 v1 v2 k x2 = some r → W p l e (headSpec (zws yX12_dives cX12_dives 4 ((some .boolean))) { frames := 1, cells := 0, slots := 0, locals := 22 }).room s m (([.ref (B + a0), .int v1, .int v2] : List Value).toArray) below meth c H locs 0 0 (MQ below (zQi D cy B S0 r S0) (([.ref (B + a0), .int v1, .int v2] : List Value).toArray) s 0 0 (fun q => B < q)) (F0 m 2 ls []) := by
    intro k
    induction k with
    | zero =>
      intro x2 H locs hM hX3 hS h1 ls hl h
      exact znone h
    | succ k ih2 =>
      intro x2 H locs hM hX3 hS h1 ls hl h
      replace h : f_X12_dives_L2b S0 a0 v1 v2 (f_X12_dives_L2 S0 a0 v1 v2 k) x2 = some r := h
      generalize f_X12_dives_L2 S0 a0 v1 v2 k = rec2 at ih2 h
      unfold f_X12_dives_L2b at h
      refine lv_iload_n hx hb dX12_dives_2 rfl (lv_at hl 3 rfl) ?_
      refine lv_aload_n hx hb dX12_dives_3 rfl (lv_at hl 0 rfl) ?_
      obtain ⟨hq5, h⟩ := zk h
      refine z_getN hx hb hg zin_12 hown hK hM h1 0 rfl (by decide) (hg _ zw_1000) (fun _ h9 => h9) hq5 dX12_dives_4 (fun h4 => ?_)
      refine lv_sipush (v := (1003 : Int32)) hx hb dX12_dives_7 (by decide +kernel) ?_
      obtain ⟨hq6, h⟩ := zk h
      refine z_iald hx hb hK hM h4 hq6 dX12_dives_10 ?_
      refine lv_icmp_ge (tgt := 42) hx hb dX12_dives_11 (by decide) (fun hc7 => ?_) (fun hc7 => ?_)
      · have h := zt h hc7
        refine lv_iconst (v := (0 : Int32)) hx hb dX12_dives_42 (by decide +kernel) ?_
        exact z_zret (by decide +kernel) hx hb hr hlk hM hX3 hS ⟨zsm h, rfl⟩ dX12_dives_43
      · have h := zf h hc7
        refine lv_aload_n hx hb dX12_dives_14 rfl (lv_at hl 0 rfl) ?_
        refine lv_iload_n hx hb dX12_dives_15 rfl (lv_at hl 3 rfl) ?_
        refine lv_iconst (v := (0 : Int32)) hx hb dX12_dives_16 (by decide +kernel) ?_
        obtain ⟨r9, hr8, h⟩ := zb1 h
        refine z_runi (va_runV (As := [.int x2, .int (0 : Int32)]) (rest := []) ⟨hx, hb, hml, hown, hg⟩ (c_X12_get l D cy B h1 hr8) (z_cwV hg zw_1163 zw_1164 zw_1487 zw_13 zw_1165 zh_X12_get ⟨(Nat.le_of_ble_eq_true rfl), (Nat.le_of_ble_eq_true rfl)⟩) (zPV hC hM h1 (by decide) rfl) rfl rfl hl.1 rfl (lv_room (Nat.le_of_ble_eq_true rfl)) dX12_dives_17 ⟨(Nat.le_of_ble_eq_true rfl), (Nat.le_of_ble_eq_true rfl)⟩) hS (fun H locs hM hX10 hS => ?_)
        refine lv_iload_n hx hb dX12_dives_20 rfl (lv_at hl 1 rfl) ?_
        refine lv_icmp_ne (tgt := 36) hx hb dX12_dives_21 (by decide) (fun hc12 => ?_) (fun hc12 => ?_)
        · have h := zf h hc12
          refine lv_iinc (v := (x2 + (1 : Int32))) (lv' := [(3, .int (x2 + (1 : Int32))), (0, .ref (B + a0)), (1, .int v1), (2, .int v2)]) hx hb dX12_dives_36 hl (k := 3) rfl rfl (by decide) rfl (fun ls hl => ?_)
          refine lv_goto (tgt := 2) hx hb dX12_dives_39 (by decide) ?_
          exact ih2 (x2 + (1 : Int32)) _ _ hM hX3 hS h1 _ (lv_sub hl [1, 2, 3, 0] rfl) h
        · have h := zt h hc12
          refine lv_aload_n hx hb dX12_dives_24 rfl (lv_at hl 0 rfl) ?_
          refine lv_iload_n hx hb dX12_dives_25 rfl (lv_at hl 3 rfl) ?_
          refine lv_iconst (v := (1 : Int32)) hx hb dX12_dives_26 (by decide +kernel) ?_
          obtain ⟨r14, hr13, h⟩ := zb1 h
          refine z_runi (va_runV (As := [.int x2, .int (1 : Int32)]) (rest := []) ⟨hx, hb, hml, hown, hg⟩ (c_X12_get l D cy B h1 hr13) (z_cwV hg zw_1163 zw_1164 zw_1487 zw_13 zw_1165 zh_X12_get ⟨(Nat.le_of_ble_eq_true rfl), (Nat.le_of_ble_eq_true rfl)⟩) (zPV hC hM h1 (by decide) rfl) rfl rfl hl.1 rfl (lv_room (Nat.le_of_ble_eq_true rfl)) dX12_dives_27 ⟨(Nat.le_of_ble_eq_true rfl), (Nat.le_of_ble_eq_true rfl)⟩) hS (fun H locs hM hX15 hS => ?_)
          refine lv_iload_n hx hb dX12_dives_30 rfl (lv_at hl 2 rfl) ?_
          refine lv_icmp_ne (tgt := 36) hx hb dX12_dives_31 (by decide) (fun hc17 => ?_) (fun hc17 => ?_)
          · have h := zf h hc17
            refine lv_iinc (v := (x2 + (1 : Int32))) (lv' := [(3, .int (x2 + (1 : Int32))), (0, .ref (B + a0)), (1, .int v1), (2, .int v2)]) hx hb dX12_dives_36 hl (k := 3) rfl rfl (by decide) rfl (fun ls hl => ?_)
            refine lv_goto (tgt := 2) hx hb dX12_dives_39 (by decide) ?_
            exact ih2 (x2 + (1 : Int32)) _ _ hM hX3 hS h1 _ (lv_sub hl [1, 2, 3, 0] rfl) h
          · have h := zt h hc17
            refine lv_iconst (v := (1 : Int32)) hx hb dX12_dives_34 (by decide +kernel) ?_
            exact z_zret (by decide +kernel) hx hb hr hlk hM hX3 hS ⟨zsm h, rfl⟩ dX12_dives_35
  exact hL2 n (0 : Int32) _ _ hM hX0 hS ha0 _ (lv_sub hl [1, 2, 3, 0] rfl) h
def f_X12_totalNow_L5b (n : Nat) (a0 : Nat) (v1 : Int32) (v2 : Int32) (K4 : Int64 → zM → Option (Int64 × zM)) (rec5 : Int64 → Int32 → zM → Option (Int64 × zM)) (y6 : Int64) (x7 : Int32) (S8 : zM) : Option (Int64 × zM) :=
  zChk (¬ (zr S8 a0 0) = 0) (zChk (¬ ((1003 : Int32) < 0 ∨ zln S8 (zr S8 a0 0) ≤ ((1003 : Int32)).toNatClampNeg)) (if (zi S8 (zr S8 a0 0) (Int32.toNatClampNeg (1003 : Int32))) ≤ x7 then K4 y6 S8 else zB1 (f_X12_get S8 a0 x7 (0 : Int32)) (fun r15 => zLet (fun (y19 : Int64) (S20 : zM) => rec5 (y6 + y19) (x7 + (1 : Int32)) S20) (fun K22 => zLet (K22 (0 : Int64) S8) (fun K25 => if r15 = v1 then zB1 (f_X12_get S8 a0 x7 (1 : Int32)) (fun r28 => if r28 = v2 then zB2 (f_X12_countsNow n S8 a0 x7) (fun r33 S34 => K22 (Int32.toInt64 r33) S34) else K25) else K25)))))
def f_X12_totalNow_L5 (n : Nat) (a0 : Nat) (v1 : Int32) (v2 : Int32) (K4 : Int64 → zM → Option (Int64 × zM)) : Nat → Int64 → Int32 → zM → Option (Int64 × zM)
  | 0 => fun _ _ _ => none
  | k + 1 => fun y6 x7 S8 => f_X12_totalNow_L5b n a0 v1 v2 K4 (f_X12_totalNow_L5 n a0 v1 v2 K4 k) y6 x7 S8
def f_X12_totalNow (n : Nat) (S0 : zM) (a0 : Nat) (v1 : Int32) (v2 : Int32) : Option (Int64 × zM) :=
  zLet (fun (y1 : Int64) (S2 : zM) => some ((y1, S2))) (fun K4 => f_X12_totalNow_L5 n a0 v1 v2 K4 n (0 : Int64) (0 : Int32) S0)
set_option maxHeartbeats 4000000 in
set_option maxRecDepth 100000 in
theorem c_X12_totalNow (l : Launch) (D : va_G) (cy : Nat → ClassId) (B : Nat) {n : Nat} {S0 : zM} {a0 : Nat} {v1 : Int32} {v2 : Int32} {r : Int64} {S' : zM} (ha0 : zA S0 a0 12) (h : f_X12_totalNow n S0 a0 v1 v2 = some (r, S')) : Met l yX12_totalNow (zws yX12_totalNow cX12_totalNow 6 ((some .long))) { frames := 34, cells := 0, slots := 0, locals := 781 } (zPc D cy B S0 [.ref (B + a0), .int v1, .int v2]) (zQl D cy B S0 r S') 0 0 (fun q => B < q) := by
  refine Met.ofW (cc := cX12_totalNow) (maxL := 6) (ret := ((some .long))) (by decide) rfl ?_
  intro p e s m args below meth c s₁ Bd hml hv
  obtain ⟨rfl, hC, hM⟩ := hv
  obtain ⟨hx, hb, hr, hg, hown, hlk⟩ := z_open Bd
  have hK := hC.1
  have hS : va_S (fun q => B < q) s.heap s.heap [] := va_S.rf
  have hX0 : zX S0 S0 := zX.rf
  refine z_entry (vs := [.ref (B + a0), .int v1, .int v2]) (Nat.le_of_ble_eq_true rfl) (fun ls hl => ?_)
  have hl : lv_has ls 6 [(0, .ref (B + a0)), (1, .int v1), (2, .int v2)] := hl
  unfold f_X12_totalNow at h
  refine lv_lconst (v := (0 : Int64)) hx hb dX12_totalNow_0 (by decide +kernel) ?_
  refine lv_lstore_n (i := 3) (lv' := [(3, .long (0 : Int64)), (0, .ref (B + a0)), (1, .int v1), (2, .int v2)]) hx hb dX12_totalNow_1 rfl hl (by decide) rfl (fun ls hl => ?_)
  refine lv_iconst (v := (0 : Int32)) hx hb dX12_totalNow_2 (by decide +kernel) ?_
  refine lv_istore (i := 5) (lv' := [(5, .int (0 : Int32)), (3, .long (0 : Int64)), (0, .ref (B + a0)), (1, .int v1), (2, .int v2)]) hx hb dX12_totalNow_3 hl (by decide) rfl (fun ls hl => ?_)
  obtain ⟨K4, eK4, h⟩ := zlg h
  have hK4 : ∀ (y1 : Int64) (S2 : zM) (H : Heap) (locs : List Loc), zMR D cy B S2 H → zX S0 S2 → va_S (fun q => B < q) s.heap H locs → ∀ ls : Array Slot, lv_has ls 6 [(3, .long y1)] → K4 y1 S2 = some (r, S') → W p l e (headSpec (zws yX12_totalNow cX12_totalNow 6 ((some .long))) { frames := 34, cells := 0, slots := 0, locals := 781 }).room s m (([.ref (B + a0), .int v1, .int v2] : List Value).toArray) below meth c H locs 0 0 (MQ below (zQl D cy B S0 r S') (([.ref (B + a0), .int v1, .int v2] : List Value).toArray) s 0 0 (fun q => B < q)) (F0 m 60 ls []) := by
    intro y1 S2 H locs hM hX3 hS ls hl h
    rw [eK4] at h
    refine lv_lload_n hx hb dX12_totalNow_60 rfl (lv_at hl 0 rfl) ?_
    exact z_lret hx hb hr hlk hM hX3 hS (zsp h) dX12_totalNow_61
  have hL5 : ∀ (k : Nat) (y6 : Int64) (x7 : Int32) (S8 : zM) (H : Heap) (locs : List Loc), zMR D cy B S8 H → zX S0 S8 → va_S (fun q => B < q) s.heap H locs → zA S8 a0 12 → ∀ ls : Array Slot, lv_has ls 6 [(0, .ref (B + a0)), (1, .int v1), (2, .int v2), (3, .long y6), (5, .int x7)] → f_X12_totalNow_L5 n a0 v1 v2 K4 k y6 x7 S8 = some (r, S') → W p l e (headSpec (zws yX12_totalNow cX12_totalNow 6 ((some .long))) { frames := 34, cells := 0, slots := 0, locals := 781 }).room s m (([.ref (B + a0), .int v1, .int v2] : List Value).toArray) below meth c H locs 0 0 (MQ below (zQl D cy B S0 r S') (([.ref (B + a0), .int v1, .int v2] : List Value).toArray) s 0 0 (fun q => B < q)) (F0 m 5 ls []) := by
    intro k
    induction k with
    | zero =>
      intro y6 x7 S8 H locs hM hX9 hS h5 ls hl h
      exact znone h
    | succ k ih5 =>
      intro y6 x7 S8 H locs hM hX9 hS h5 ls hl h
      replace h : f_X12_totalNow_L5b n a0 v1 v2 K4 (f_X12_totalNow_L5 n a0 v1 v2 K4 k) y6 x7 S8 = some (r, S') := h
      generalize f_X12_totalNow_L5 n a0 v1 v2 K4 k = rec5 at ih5 h
      unfold f_X12_totalNow_L5b at h
      refine lv_iload hx hb dX12_totalNow_5 (lv_at hl 4 rfl) ?_
      refine lv_aload_n hx hb dX12_totalNow_7 rfl (lv_at hl 0 rfl) ?_
      obtain ⟨hq11, h⟩ := zk h
      refine z_getN hx hb hg zin_12 hown hK hM h5 0 rfl (by decide) (hg _ zw_1000) (fun _ h9 => h9) hq11 dX12_totalNow_8 (fun h10 => ?_)
      refine lv_sipush (v := (1003 : Int32)) hx hb dX12_totalNow_11 (by decide +kernel) ?_
      obtain ⟨hq12, h⟩ := zk h
      refine z_iald hx hb hK hM h10 hq12 dX12_totalNow_14 ?_
      refine lv_icmp_ge (tgt := 60) hx hb dX12_totalNow_15 (by decide) (fun hc13 => ?_) (fun hc13 => ?_)
      · have h := zt h hc13
        exact hK4 y6 S8 _ _ hM hX9 hS _ (lv_sub hl [3] rfl) h
      · have h := zf h hc13
        refine lv_lload_n hx hb dX12_totalNow_18 rfl (lv_at hl 3 rfl) ?_
        refine lv_aload_n hx hb dX12_totalNow_19 rfl (lv_at hl 0 rfl) ?_
        refine lv_iload hx hb dX12_totalNow_20 (lv_at hl 4 rfl) ?_
        refine lv_iconst (v := (0 : Int32)) hx hb dX12_totalNow_22 (by decide +kernel) ?_
        obtain ⟨r15, hr14, h⟩ := zb1 h
        refine z_runi (va_runV (As := [.int x7, .int (0 : Int32)]) (rest := [.long y6]) ⟨hx, hb, hml, hown, hg⟩ (c_X12_get l D cy B h5 hr14) (z_cwV hg zw_1163 zw_1164 zw_1487 zw_13 zw_1165 zh_X12_get ⟨(Nat.le_of_ble_eq_true rfl), (Nat.le_of_ble_eq_true rfl)⟩) (zPV hC hM h5 (by decide) rfl) rfl rfl hl.1 rfl (lv_room (Nat.le_of_ble_eq_true rfl)) dX12_totalNow_23 ⟨(Nat.le_of_ble_eq_true rfl), (Nat.le_of_ble_eq_true rfl)⟩) hS (fun H locs hM hX16 hS => ?_)
        refine lv_iload_n hx hb dX12_totalNow_26 rfl (lv_at hl 1 rfl) ?_
        obtain ⟨K22, eK22, h⟩ := zlg h
        have hK22 : ∀ (y19 : Int64) (S20 : zM) (H : Heap) (locs : List Loc), zMR D cy B S20 H → zX S0 S20 → va_S (fun q => B < q) s.heap H locs → zA S20 a0 12 → ∀ ls : Array Slot, lv_has ls 6 [(0, .ref (B + a0)), (1, .int v1), (2, .int v2), (5, .int x7)] → K22 y19 S20 = some (r, S') → W p l e (headSpec (zws yX12_totalNow cX12_totalNow 6 ((some .long))) { frames := 34, cells := 0, slots := 0, locals := 781 }).room s m (([.ref (B + a0), .int v1, .int v2] : List Value).toArray) below meth c H locs 0 0 (MQ below (zQl D cy B S0 r S') (([.ref (B + a0), .int v1, .int v2] : List Value).toArray) s 0 0 (fun q => B < q)) (F0 m 52 ls [.long y19, .long y6]) := by
          intro y19 S20 H locs hM hX21 hS h18 ls hl h
          rw [eK22] at h
          refine lv_ladd hx hb dX12_totalNow_52 ?_
          refine lv_lstore_n (i := 3) (lv' := [(3, .long (y6 + y19)), (0, .ref (B + a0)), (1, .int v1), (2, .int v2), (5, .int x7)]) hx hb dX12_totalNow_53 rfl hl (by decide) rfl (fun ls hl => ?_)
          refine lv_iinc (v := (x7 + (1 : Int32))) (lv' := [(5, .int (x7 + (1 : Int32))), (3, .long (y6 + y19)), (0, .ref (B + a0)), (1, .int v1), (2, .int v2)]) hx hb dX12_totalNow_54 hl (k := 4) rfl rfl (by decide) rfl (fun ls hl => ?_)
          refine lv_goto (tgt := 5) hx hb dX12_totalNow_57 (by decide) ?_
          exact ih5 (y6 + y19) (x7 + (1 : Int32)) S20 _ _ hM hX21 hS h18 _ (lv_sub hl [2, 3, 4, 1, 0] rfl) h
        obtain ⟨K25, eK25, h⟩ := zlg h
        have hK25 : ∀ (H : Heap) (locs : List Loc), zMR D cy B S8 H → zX S0 S8 → va_S (fun q => B < q) s.heap H locs → zA S8 a0 12 → ∀ ls : Array Slot, lv_has ls 6 [(0, .ref (B + a0)), (1, .int v1), (2, .int v2), (5, .int x7)] → K25 = some (r, S') → W p l e (headSpec (zws yX12_totalNow cX12_totalNow 6 ((some .long))) { frames := 34, cells := 0, slots := 0, locals := 781 }).room s m (([.ref (B + a0), .int v1, .int v2] : List Value).toArray) below meth c H locs 0 0 (MQ below (zQl D cy B S0 r S') (([.ref (B + a0), .int v1, .int v2] : List Value).toArray) s 0 0 (fun q => B < q)) (F0 m 51 ls [.long y6]) := by
          intro H locs hM hX24 hS h23 ls hl h
          rw [eK25] at h
          refine lv_lconst (v := (0 : Int64)) hx hb dX12_totalNow_51 (by decide +kernel) ?_
          exact hK22 (0 : Int64) S8 _ _ hM hX24 hS h23 _ (lv_sub hl [0, 1, 2, 3] rfl) h
        refine lv_icmp_ne (tgt := 51) hx hb dX12_totalNow_27 (by decide) (fun hc26 => ?_) (fun hc26 => ?_)
        · have h := zf h hc26
          exact hK25 _ _ hM hX9 hS h5 _ (lv_sub hl [0, 1, 2, 4] rfl) h
        · have h := zt h hc26
          refine lv_aload_n hx hb dX12_totalNow_30 rfl (lv_at hl 0 rfl) ?_
          refine lv_iload hx hb dX12_totalNow_31 (lv_at hl 4 rfl) ?_
          refine lv_iconst (v := (1 : Int32)) hx hb dX12_totalNow_33 (by decide +kernel) ?_
          obtain ⟨r28, hr27, h⟩ := zb1 h
          refine z_runi (va_runV (As := [.int x7, .int (1 : Int32)]) (rest := [.long y6]) ⟨hx, hb, hml, hown, hg⟩ (c_X12_get l D cy B h5 hr27) (z_cwV hg zw_1163 zw_1164 zw_1487 zw_13 zw_1165 zh_X12_get ⟨(Nat.le_of_ble_eq_true rfl), (Nat.le_of_ble_eq_true rfl)⟩) (zPV hC hM h5 (by decide) rfl) rfl rfl hl.1 rfl (lv_room (Nat.le_of_ble_eq_true rfl)) dX12_totalNow_34 ⟨(Nat.le_of_ble_eq_true rfl), (Nat.le_of_ble_eq_true rfl)⟩) hS (fun H locs hM hX29 hS => ?_)
          refine lv_iload_n hx hb dX12_totalNow_37 rfl (lv_at hl 2 rfl) ?_
          refine lv_icmp_ne (tgt := 51) hx hb dX12_totalNow_38 (by decide) (fun hc31 => ?_) (fun hc31 => ?_)
          · have h := zf h hc31
            exact hK25 _ _ hM hX9 hS h5 _ (lv_sub hl [0, 1, 2, 4] rfl) h
          · have h := zt h hc31
            refine lv_aload_n hx hb dX12_totalNow_41 rfl (lv_at hl 0 rfl) ?_
            refine lv_iload hx hb dX12_totalNow_42 (lv_at hl 4 rfl) ?_
            obtain ⟨r33, S34, hr32, h⟩ := zb2 h
            refine z_runi (va_runV (As := [.int x7]) (rest := [.long y6]) ⟨hx, hb, hml, hown, hg⟩ (c_X12_countsNow l D cy B h5 hr32) (z_cwV hg zw_1267 zw_1268 zw_1507 zw_13 zw_1269 zh_X12_countsNow ⟨(Nat.le_of_ble_eq_true rfl), (Nat.le_of_ble_eq_true rfl)⟩) (zPV hC hM h5 (by decide) rfl) rfl rfl hl.1 rfl (lv_room (Nat.le_of_ble_eq_true rfl)) dX12_totalNow_44 ⟨(Nat.le_of_ble_eq_true rfl), (Nat.le_of_ble_eq_true rfl)⟩) hS (fun H locs hM hX35 hS => ?_)
            have h37 := h5.mo hX35
            have hX38 := hX9.tr hX35
            refine lv_i2l hx hb dX12_totalNow_47 rfl ?_
            refine lv_goto (tgt := 52) hx hb dX12_totalNow_48 (by decide) ?_
            exact hK22 (Int32.toInt64 r33) S34 _ _ hM hX38 hS h37 _ (lv_sub hl [0, 1, 2, 4] rfl) h
  exact hL5 n (0 : Int64) (0 : Int32) S0 _ _ hM hX0 hS ha0 _ (lv_sub hl [2, 3, 4, 1, 0] rfl) h
def f_X12_total (n : Nat) (S0 : zM) (a0 : Nat) (v1 : Int32) (v2 : Int32) : Option (Int64 × zM) :=
  zB1 (f_X12_isHall v1) (fun r2 => if r2 = 0 then some (((-4611686018427387904 : Int64), S0)) else zB1 (f_X12_isDiver S0 a0 v2) (fun r7 => if r7 = 0 then some (((-4611686018427387904 : Int64), S0)) else zB1 (f_X12_dives n S0 a0 v1 v2) (fun r12 => if r12 = 0 then some (((-4611686018427387904 : Int64), S0)) else zB1 (f_X12_asTold S0 a0) (fun S17 => zB2 (f_X12_totalNow n S17 a0 v1 v2) (fun r23 S24 => some ((r23, S24)))))))
set_option maxHeartbeats 4000000 in
set_option maxRecDepth 100000 in
theorem c_X12_total (l : Launch) (D : va_G) (cy : Nat → ClassId) (B : Nat) {n : Nat} {S0 : zM} {a0 : Nat} {v1 : Int32} {v2 : Int32} {r : Int64} {S' : zM} (ha0 : zA S0 a0 12) (h : f_X12_total n S0 a0 v1 v2 = some (r, S')) : Met l yX12_total (zws yX12_total cX12_total 3 ((some .long))) { frames := 35, cells := 0, slots := 0, locals := 806 } (zPc D cy B S0 [.ref (B + a0), .int v1, .int v2]) (zQl D cy B S0 r S') 0 0 (fun q => B < q) := by
  refine Met.ofW (cc := cX12_total) (maxL := 3) (ret := ((some .long))) (by decide) rfl ?_
  intro p e s m args below meth c s₁ Bd hml hv
  obtain ⟨rfl, hC, hM⟩ := hv
  obtain ⟨hx, hb, hr, hg, hown, hlk⟩ := z_open Bd
  have hK := hC.1
  have hS : va_S (fun q => B < q) s.heap s.heap [] := va_S.rf
  have hX0 : zX S0 S0 := zX.rf
  refine z_entry (vs := [.ref (B + a0), .int v1, .int v2]) (Nat.le_of_ble_eq_true rfl) (fun ls hl => ?_)
  have hl : lv_has ls 3 [(0, .ref (B + a0)), (1, .int v1), (2, .int v2)] := hl
  unfold f_X12_total at h
  refine lv_iload_n hx hb dX12_total_0 rfl (lv_at hl 1 rfl) ?_
  obtain ⟨r2, hr1, h⟩ := zb1 h
  refine z_runi (va_runS (As := [.int v1]) (rest := []) ⟨hx, hb, hml, hown, hg⟩ (c_X12_isHall l D cy B hr1) (z_cwS hg zw_1125 zw_1126 zw_13 zw_1127 zh_X12_isHall.2 ⟨(Nat.le_of_ble_eq_true rfl), (Nat.le_of_ble_eq_true rfl)⟩) (zPS hC hM) rfl rfl hl.1 rfl (lv_room (Nat.le_of_ble_eq_true rfl)) dX12_total_1 ⟨(Nat.le_of_ble_eq_true rfl), (Nat.le_of_ble_eq_true rfl)⟩) hS (fun H locs hM hX3 hS => ?_)
  refine lv_if_eq (tgt := 24) hx hb dX12_total_4 (by decide) (fun hc5 => ?_) (fun hc5 => ?_)
  · have h := zt h hc5
    refine lv_ldc2 (v := (-4611686018427387904 : Int64)) hx hb hown (hg _ zw_1292) dX12_total_24 ?_
    exact z_lret hx hb hr hlk hM hX0 hS (zsp h) dX12_total_27
  · have h := zf h hc5
    refine lv_aload_n hx hb dX12_total_7 rfl (lv_at hl 0 rfl) ?_
    refine lv_iload_n hx hb dX12_total_8 rfl (lv_at hl 2 rfl) ?_
    obtain ⟨r7, hr6, h⟩ := zb1 h
    refine z_runi (va_runV (As := [.int v2]) (rest := []) ⟨hx, hb, hml, hown, hg⟩ (c_X12_isDiver l D cy B ha0 hr6) (z_cwV hg zw_1150 zw_1151 zw_1485 zw_13 zw_1152 zh_X12_isDiver ⟨(Nat.le_of_ble_eq_true rfl), (Nat.le_of_ble_eq_true rfl)⟩) (zPV hC hM ha0 (by decide) rfl) rfl rfl hl.1 rfl (lv_room (Nat.le_of_ble_eq_true rfl)) dX12_total_9 ⟨(Nat.le_of_ble_eq_true rfl), (Nat.le_of_ble_eq_true rfl)⟩) hS (fun H locs hM hX8 hS => ?_)
    refine lv_if_eq (tgt := 24) hx hb dX12_total_12 (by decide) (fun hc10 => ?_) (fun hc10 => ?_)
    · have h := zt h hc10
      refine lv_ldc2 (v := (-4611686018427387904 : Int64)) hx hb hown (hg _ zw_1292) dX12_total_24 ?_
      exact z_lret hx hb hr hlk hM hX0 hS (zsp h) dX12_total_27
    · have h := zf h hc10
      refine lv_aload_n hx hb dX12_total_15 rfl (lv_at hl 0 rfl) ?_
      refine lv_iload_n hx hb dX12_total_16 rfl (lv_at hl 1 rfl) ?_
      refine lv_iload_n hx hb dX12_total_17 rfl (lv_at hl 2 rfl) ?_
      obtain ⟨r12, hr11, h⟩ := zb1 h
      refine z_runi (va_runV (As := [.int v1, .int v2]) (rest := []) ⟨hx, hb, hml, hown, hg⟩ (c_X12_dives l D cy B ha0 hr11) (z_cwV hg zw_1289 zw_1290 zw_1513 zw_13 zw_1291 zh_X12_dives ⟨(Nat.le_of_ble_eq_true rfl), (Nat.le_of_ble_eq_true rfl)⟩) (zPV hC hM ha0 (by decide) rfl) rfl rfl hl.1 rfl (lv_room (Nat.le_of_ble_eq_true rfl)) dX12_total_18 ⟨(Nat.le_of_ble_eq_true rfl), (Nat.le_of_ble_eq_true rfl)⟩) hS (fun H locs hM hX13 hS => ?_)
      refine lv_if_ne (tgt := 28) hx hb dX12_total_21 (by decide) (fun hc15 => ?_) (fun hc15 => ?_)
      · have h := zf h hc15
        refine lv_aload_n hx hb dX12_total_28 rfl (lv_at hl 0 rfl) ?_
        obtain ⟨S17, hr16, h⟩ := zb1 h
        refine z_runv (va_runV (As := []) (rest := []) ⟨hx, hb, hml, hown, hg⟩ (c_X12_asTold l D cy B ha0 hr16) (z_cwV hg zw_1264 zw_1265 zw_1506 zw_13 zw_1266 zh_X12_asTold ⟨(Nat.le_of_ble_eq_true rfl), (Nat.le_of_ble_eq_true rfl)⟩) (zPV hC hM ha0 (by decide) rfl) rfl rfl hl.1 rfl (lv_room (Nat.le_of_ble_eq_true rfl)) dX12_total_29 ⟨(Nat.le_of_ble_eq_true rfl), (Nat.le_of_ble_eq_true rfl)⟩) hS (fun H locs hM hX18 hS => ?_)
        have h20 := ha0.mo hX18
        have hX21 := hX0.tr hX18
        refine lv_aload_n hx hb dX12_total_32 rfl (lv_at hl 0 rfl) ?_
        refine lv_iload_n hx hb dX12_total_33 rfl (lv_at hl 1 rfl) ?_
        refine lv_iload_n hx hb dX12_total_34 rfl (lv_at hl 2 rfl) ?_
        obtain ⟨r23, S24, hr22, h⟩ := zb2 h
        refine z_runl (va_runV (As := [.int v1, .int v2]) (rest := []) ⟨hx, hb, hml, hown, hg⟩ (c_X12_totalNow l D cy B h20 hr22) (z_cwV hg zw_1293 zw_1294 zw_1514 zw_13 zw_1295 zh_X12_totalNow ⟨(Nat.le_of_ble_eq_true rfl), (Nat.le_of_ble_eq_true rfl)⟩) (zPV hC hM h20 (by decide) rfl) rfl rfl hl.1 rfl (lv_room (Nat.le_of_ble_eq_true rfl)) dX12_total_35 ⟨(Nat.le_of_ble_eq_true rfl), (Nat.le_of_ble_eq_true rfl)⟩) hS (fun H locs hM hX25 hS => ?_)
        have hX27 := hX21.tr hX25
        exact z_lret hx hb hr hlk hM hX27 hS (zsp h) dX12_total_38
      · have h := zt h hc15
        refine lv_ldc2 (v := (-4611686018427387904 : Int64)) hx hb hown (hg _ zw_1292) dX12_total_24 ?_
        exact z_lret hx hb hr hlk hM hX0 hS (zsp h) dX12_total_27
def f_X12_placeNow_L13b (n : Nat) (a0 : Nat) (v1 : Int32) (v2 : Int32) (r2 : Int64) (K11 : Int32 → zM → Option (Int32 × zM)) (rec13 : Int32 → Int32 → zM → Option (Int32 × zM)) (x13 : Int32) (x14 : Int32) (S15 : zM) : Option (Int32 × zM) :=
  zChk (¬ (zr S15 a0 0) = 0) (zChk (¬ ((1001 : Int32) < 0 ∨ zln S15 (zr S15 a0 0) ≤ ((1001 : Int32)).toNatClampNeg)) (if (zi S15 (zr S15 a0 0) (Int32.toNatClampNeg (1001 : Int32))) ≤ x14 then K11 x13 S15 else zLet (fun (x22 : Int32) (S23 : zM) => rec13 (x13 + x22) (x14 + (1 : Int32)) S23) (fun K25 => zLet (fun (S27 : zM) => K25 (0 : Int32) S27) (fun K29 => if x14 = v2 then K29 S15 else zB1 (f_X12_dives n S15 a0 v1 x14) (fun r32 => if r32 = 0 then K29 S15 else zB2 (f_X12_totalNow n S15 a0 v1 x14) (fun r37 S38 => if (lg_cmp r37 r2) ≤ 0 then K29 S38 else K25 (1 : Int32) S38))))))
def f_X12_placeNow_L13 (n : Nat) (a0 : Nat) (v1 : Int32) (v2 : Int32) (r2 : Int64) (K11 : Int32 → zM → Option (Int32 × zM)) : Nat → Int32 → Int32 → zM → Option (Int32 × zM)
  | 0 => fun _ _ _ => none
  | k + 1 => fun x13 x14 S15 => f_X12_placeNow_L13b n a0 v1 v2 r2 K11 (f_X12_placeNow_L13 n a0 v1 v2 r2 K11 k) x13 x14 S15
def f_X12_placeNow (n : Nat) (S0 : zM) (a0 : Nat) (v1 : Int32) (v2 : Int32) : Option (Int32 × zM) :=
  zB2 (f_X12_totalNow n S0 a0 v1 v2) (fun r2 S3 => zLet (fun (x8 : Int32) (S9 : zM) => some ((x8, S9))) (fun K11 => f_X12_placeNow_L13 n a0 v1 v2 r2 K11 n (1 : Int32) (0 : Int32) S3))
set_option maxHeartbeats 4000000 in
set_option maxRecDepth 100000 in
theorem c_X12_placeNow (l : Launch) (D : va_G) (cy : Nat → ClassId) (B : Nat) {n : Nat} {S0 : zM} {a0 : Nat} {v1 : Int32} {v2 : Int32} {r : Int32} {S' : zM} (ha0 : zA S0 a0 12) (h : f_X12_placeNow n S0 a0 v1 v2 = some (r, S')) : Met l yX12_placeNow (zws yX12_placeNow cX12_placeNow 7 ((some .int))) { frames := 35, cells := 0, slots := 0, locals := 806 } (zPc D cy B S0 [.ref (B + a0), .int v1, .int v2]) (zQi D cy B S0 r S') 0 0 (fun q => B < q) := by
  refine Met.ofW (cc := cX12_placeNow) (maxL := 7) (ret := ((some .int))) (by decide) rfl ?_
  intro p e s m args below meth c s₁ Bd hml hv
  obtain ⟨rfl, hC, hM⟩ := hv
  obtain ⟨hx, hb, hr, hg, hown, hlk⟩ := z_open Bd
  have hK := hC.1
  have hS : va_S (fun q => B < q) s.heap s.heap [] := va_S.rf
  have hX0 : zX S0 S0 := zX.rf
  refine z_entry (vs := [.ref (B + a0), .int v1, .int v2]) (Nat.le_of_ble_eq_true rfl) (fun ls hl => ?_)
  have hl : lv_has ls 7 [(0, .ref (B + a0)), (1, .int v1), (2, .int v2)] := hl
  unfold f_X12_placeNow at h
  refine lv_aload_n hx hb dX12_placeNow_0 rfl (lv_at hl 0 rfl) ?_
  refine lv_iload_n hx hb dX12_placeNow_1 rfl (lv_at hl 1 rfl) ?_
  refine lv_iload_n hx hb dX12_placeNow_2 rfl (lv_at hl 2 rfl) ?_
  obtain ⟨r2, S3, hr1, h⟩ := zb2 h
  refine z_runl (va_runV (As := [.int v1, .int v2]) (rest := []) ⟨hx, hb, hml, hown, hg⟩ (c_X12_totalNow l D cy B ha0 hr1) (z_cwV hg zw_1293 zw_1294 zw_1514 zw_13 zw_1295 zh_X12_totalNow ⟨(Nat.le_of_ble_eq_true rfl), (Nat.le_of_ble_eq_true rfl)⟩) (zPV hC hM ha0 (by decide) rfl) rfl rfl hl.1 rfl (lv_room (Nat.le_of_ble_eq_true rfl)) dX12_placeNow_3 ⟨(Nat.le_of_ble_eq_true rfl), (Nat.le_of_ble_eq_true rfl)⟩) hS (fun H locs hM hX4 hS => ?_)
  have h6 := ha0.mo hX4
  have hX7 := hX0.tr hX4
  refine lv_lstore_n (i := 3) (lv' := [(3, .long r2), (0, .ref (B + a0)), (1, .int v1), (2, .int v2)]) hx hb dX12_placeNow_6 rfl hl (by decide) rfl (fun ls hl => ?_)
  refine lv_iconst (v := (1 : Int32)) hx hb dX12_placeNow_7 (by decide +kernel) ?_
  refine lv_istore (i := 5) (lv' := [(5, .int (1 : Int32)), (3, .long r2), (0, .ref (B + a0)), (1, .int v1), (2, .int v2)]) hx hb dX12_placeNow_8 hl (by decide) rfl (fun ls hl => ?_)
  refine lv_iconst (v := (0 : Int32)) hx hb dX12_placeNow_10 (by decide +kernel) ?_
  refine lv_istore (i := 6) (lv' := [(6, .int (0 : Int32)), (5, .int (1 : Int32)), (3, .long r2), (0, .ref (B + a0)), (1, .int v1), (2, .int v2)]) hx hb dX12_placeNow_11 hl (by decide) rfl (fun ls hl => ?_)
  obtain ⟨K11, eK11, h⟩ := zlg h
  have hK11 : ∀ (x8 : Int32) (S9 : zM) (H : Heap) (locs : List Loc), zMR D cy B S9 H → zX S0 S9 → va_S (fun q => B < q) s.heap H locs → ∀ ls : Array Slot, lv_has ls 7 [(5, .int x8)] → K11 x8 S9 = some (r, S') → W p l e (headSpec (zws yX12_placeNow cX12_placeNow 7 ((some .int))) { frames := 35, cells := 0, slots := 0, locals := 806 }).room s m (([.ref (B + a0), .int v1, .int v2] : List Value).toArray) below meth c H locs 0 0 (MQ below (zQi D cy B S0 r S') (([.ref (B + a0), .int v1, .int v2] : List Value).toArray) s 0 0 (fun q => B < q)) (F0 m 70 ls []) := by
    intro x8 S9 H locs hM hX10 hS ls hl h
    rw [eK11] at h
    refine lv_iload hx hb dX12_placeNow_70 (lv_at hl 0 rfl) ?_
    exact z_iret hx hb hr hlk hM hX10 hS (zsp h) dX12_placeNow_72
  have hL13 : ∀ (k : Nat) (x13 : Int32) (x14 : Int32) (S15 : zM) (H : Heap) (locs : List Loc), zMR D cy B S15 H → zX S0 S15 → va_S (fun q => B < q) s.heap H locs → zA S15 a0 12 → ∀ ls : Array Slot, lv_has ls 7 [(0, .ref (B + a0)), (1, .int v1), (2, .int v2), (3, .long r2), (5, .int x13), (6, .int x14)] → f_X12_placeNow_L13 n a0 v1 v2 r2 K11 k x13 x14 S15 = some (r, S') → W p l e (headSpec (zws yX12_placeNow cX12_placeNow 7 ((some .int))) { frames := 35, cells := 0, slots := 0, locals := 806 }).room s m (([.ref (B + a0), .int v1, .int v2] : List Value).toArray) below meth c H locs 0 0 (MQ below (zQi D cy B S0 r S') (([.ref (B + a0), .int v1, .int v2] : List Value).toArray) s 0 0 (fun q => B < q)) (F0 m 13 ls []) := by
    intro k
    induction k with
    | zero =>
      intro x13 x14 S15 H locs hM hX16 hS h12 ls hl h
      exact znone h
    | succ k ih13 =>
      intro x13 x14 S15 H locs hM hX16 hS h12 ls hl h
      replace h : f_X12_placeNow_L13b n a0 v1 v2 r2 K11 (f_X12_placeNow_L13 n a0 v1 v2 r2 K11 k) x13 x14 S15 = some (r, S') := h
      generalize f_X12_placeNow_L13 n a0 v1 v2 r2 K11 k = rec13 at ih13 h
      unfold f_X12_placeNow_L13b at h
      refine lv_iload hx hb dX12_placeNow_13 (lv_at hl 5 rfl) ?_
      refine lv_aload_n hx hb dX12_placeNow_15 rfl (lv_at hl 0 rfl) ?_
      obtain ⟨hq18, h⟩ := zk h
      refine z_getN hx hb hg zin_12 hown hK hM h12 0 rfl (by decide) (hg _ zw_1000) (fun _ h9 => h9) hq18 dX12_placeNow_16 (fun h17 => ?_)
      refine lv_sipush (v := (1001 : Int32)) hx hb dX12_placeNow_19 (by decide +kernel) ?_
      obtain ⟨hq19, h⟩ := zk h
      refine z_iald hx hb hK hM h17 hq19 dX12_placeNow_22 ?_
      refine lv_icmp_ge (tgt := 70) hx hb dX12_placeNow_23 (by decide) (fun hc20 => ?_) (fun hc20 => ?_)
      · have h := zt h hc20
        exact hK11 x13 S15 _ _ hM hX16 hS _ (lv_sub hl [4] rfl) h
      · have h := zf h hc20
        refine lv_iload hx hb dX12_placeNow_26 (lv_at hl 4 rfl) ?_
        refine lv_iload hx hb dX12_placeNow_28 (lv_at hl 5 rfl) ?_
        refine lv_iload_n hx hb dX12_placeNow_30 rfl (lv_at hl 2 rfl) ?_
        obtain ⟨K25, eK25, h⟩ := zlg h
        have hK25 : ∀ (x22 : Int32) (S23 : zM) (H : Heap) (locs : List Loc), zMR D cy B S23 H → zX S0 S23 → va_S (fun q => B < q) s.heap H locs → zA S23 a0 12 → ∀ ls : Array Slot, lv_has ls 7 [(0, .ref (B + a0)), (1, .int v1), (2, .int v2), (3, .long r2), (6, .int x14)] → K25 x22 S23 = some (r, S') → W p l e (headSpec (zws yX12_placeNow cX12_placeNow 7 ((some .int))) { frames := 35, cells := 0, slots := 0, locals := 806 }).room s m (([.ref (B + a0), .int v1, .int v2] : List Value).toArray) below meth c H locs 0 0 (MQ below (zQi D cy B S0 r S') (([.ref (B + a0), .int v1, .int v2] : List Value).toArray) s 0 0 (fun q => B < q)) (F0 m 61 ls [.int x22, .int x13]) := by
          intro x22 S23 H locs hM hX24 hS h21 ls hl h
          rw [eK25] at h
          refine lv_iadd hx hb dX12_placeNow_61 ?_
          refine lv_istore (i := 5) (lv' := [(5, .int (x13 + x22)), (0, .ref (B + a0)), (1, .int v1), (2, .int v2), (3, .long r2), (6, .int x14)]) hx hb dX12_placeNow_62 hl (by decide) rfl (fun ls hl => ?_)
          refine lv_iinc (v := (x14 + (1 : Int32))) (lv' := [(6, .int (x14 + (1 : Int32))), (5, .int (x13 + x22)), (0, .ref (B + a0)), (1, .int v1), (2, .int v2), (3, .long r2)]) hx hb dX12_placeNow_64 hl (k := 5) rfl rfl (by decide) rfl (fun ls hl => ?_)
          refine lv_goto (tgt := 13) hx hb dX12_placeNow_67 (by decide) ?_
          exact ih13 (x13 + x22) (x14 + (1 : Int32)) S23 _ _ hM hX24 hS h21 _ (lv_sub hl [2, 3, 4, 5, 1, 0] rfl) h
        obtain ⟨K29, eK29, h⟩ := zlg h
        have hK29 : ∀ (S27 : zM) (H : Heap) (locs : List Loc), zMR D cy B S27 H → zX S0 S27 → va_S (fun q => B < q) s.heap H locs → zA S27 a0 12 → ∀ ls : Array Slot, lv_has ls 7 [(0, .ref (B + a0)), (1, .int v1), (2, .int v2), (3, .long r2), (6, .int x14)] → K29 S27 = some (r, S') → W p l e (headSpec (zws yX12_placeNow cX12_placeNow 7 ((some .int))) { frames := 35, cells := 0, slots := 0, locals := 806 }).room s m (([.ref (B + a0), .int v1, .int v2] : List Value).toArray) below meth c H locs 0 0 (MQ below (zQi D cy B S0 r S') (([.ref (B + a0), .int v1, .int v2] : List Value).toArray) s 0 0 (fun q => B < q)) (F0 m 60 ls [.int x13]) := by
          intro S27 H locs hM hX28 hS h26 ls hl h
          rw [eK29] at h
          refine lv_iconst (v := (0 : Int32)) hx hb dX12_placeNow_60 (by decide +kernel) ?_
          exact hK25 (0 : Int32) S27 _ _ hM hX28 hS h26 _ (lv_sub hl [0, 1, 2, 3, 4] rfl) h
        refine lv_icmp_eq (tgt := 60) hx hb dX12_placeNow_31 (by decide) (fun hc30 => ?_) (fun hc30 => ?_)
        · have h := zt h hc30
          exact hK29 S15 _ _ hM hX16 hS h12 _ (lv_sub hl [0, 1, 2, 3, 5] rfl) h
        · have h := zf h hc30
          refine lv_aload_n hx hb dX12_placeNow_34 rfl (lv_at hl 0 rfl) ?_
          refine lv_iload_n hx hb dX12_placeNow_35 rfl (lv_at hl 1 rfl) ?_
          refine lv_iload hx hb dX12_placeNow_36 (lv_at hl 5 rfl) ?_
          obtain ⟨r32, hr31, h⟩ := zb1 h
          refine z_runi (va_runV (As := [.int v1, .int x14]) (rest := [.int x13]) ⟨hx, hb, hml, hown, hg⟩ (c_X12_dives l D cy B h12 hr31) (z_cwV hg zw_1289 zw_1290 zw_1513 zw_13 zw_1291 zh_X12_dives ⟨(Nat.le_of_ble_eq_true rfl), (Nat.le_of_ble_eq_true rfl)⟩) (zPV hC hM h12 (by decide) rfl) rfl rfl hl.1 rfl (lv_room (Nat.le_of_ble_eq_true rfl)) dX12_placeNow_38 ⟨(Nat.le_of_ble_eq_true rfl), (Nat.le_of_ble_eq_true rfl)⟩) hS (fun H locs hM hX33 hS => ?_)
          refine lv_if_eq (tgt := 60) hx hb dX12_placeNow_41 (by decide) (fun hc35 => ?_) (fun hc35 => ?_)
          · have h := zt h hc35
            exact hK29 S15 _ _ hM hX16 hS h12 _ (lv_sub hl [0, 1, 2, 3, 5] rfl) h
          · have h := zf h hc35
            refine lv_aload_n hx hb dX12_placeNow_44 rfl (lv_at hl 0 rfl) ?_
            refine lv_iload_n hx hb dX12_placeNow_45 rfl (lv_at hl 1 rfl) ?_
            refine lv_iload hx hb dX12_placeNow_46 (lv_at hl 5 rfl) ?_
            obtain ⟨r37, S38, hr36, h⟩ := zb2 h
            refine z_runl (va_runV (As := [.int v1, .int x14]) (rest := [.int x13]) ⟨hx, hb, hml, hown, hg⟩ (c_X12_totalNow l D cy B h12 hr36) (z_cwV hg zw_1293 zw_1294 zw_1514 zw_13 zw_1295 zh_X12_totalNow ⟨(Nat.le_of_ble_eq_true rfl), (Nat.le_of_ble_eq_true rfl)⟩) (zPV hC hM h12 (by decide) rfl) rfl rfl hl.1 rfl (lv_room (Nat.le_of_ble_eq_true rfl)) dX12_placeNow_48 ⟨(Nat.le_of_ble_eq_true rfl), (Nat.le_of_ble_eq_true rfl)⟩) hS (fun H locs hM hX39 hS => ?_)
            have h41 := h12.mo hX39
            have hX42 := hX16.tr hX39
            refine lv_lload_n hx hb dX12_placeNow_51 rfl (lv_at hl 3 rfl) ?_
            refine W.lcmp hx hb dX12_placeNow_52 ?_
            refine lv_if_le (tgt := 60) hx hb dX12_placeNow_53 (by decide) (fun hc43 => ?_) (fun hc43 => ?_)
            · have h := zt h hc43
              exact hK29 S38 _ _ hM hX42 hS h41 _ (lv_sub hl [0, 1, 2, 3, 5] rfl) h
            · have h := zf h hc43
              refine lv_iconst (v := (1 : Int32)) hx hb dX12_placeNow_56 (by decide +kernel) ?_
              refine lv_goto (tgt := 61) hx hb dX12_placeNow_57 (by decide) ?_
              exact hK25 (1 : Int32) S38 _ _ hM hX42 hS h41 _ (lv_sub hl [0, 1, 2, 3, 5] rfl) h
  exact hL13 n (1 : Int32) (0 : Int32) S3 _ _ hM hX7 hS h6 _ (lv_sub hl [3, 4, 5, 2, 1, 0] rfl) h
def f_X12_place (n : Nat) (S0 : zM) (a0 : Nat) (v1 : Int32) (v2 : Int32) : Option (Int32 × zM) :=
  zB1 (f_X12_isHall v1) (fun r2 => if r2 = 0 then some (((-1 : Int32), S0)) else zB1 (f_X12_isDiver S0 a0 v2) (fun r7 => if r7 = 0 then some (((-1 : Int32), S0)) else zB1 (f_X12_asTold S0 a0) (fun S12 => zB1 (f_X12_dives n S12 a0 v1 v2) (fun r18 => if r18 = 0 then some (((-4 : Int32), S12)) else zB2 (f_X12_placeNow n S12 a0 v1 v2) (fun r23 S24 => some ((r23, S24)))))))
set_option maxHeartbeats 4000000 in
set_option maxRecDepth 100000 in
theorem c_X12_place (l : Launch) (D : va_G) (cy : Nat → ClassId) (B : Nat) {n : Nat} {S0 : zM} {a0 : Nat} {v1 : Int32} {v2 : Int32} {r : Int32} {S' : zM} (ha0 : zA S0 a0 12) (h : f_X12_place n S0 a0 v1 v2 = some (r, S')) : Met l yX12_place (zws yX12_place cX12_place 3 ((some .int))) { frames := 36, cells := 0, slots := 0, locals := 832 } (zPc D cy B S0 [.ref (B + a0), .int v1, .int v2]) (zQi D cy B S0 r S') 0 0 (fun q => B < q) := by
  refine Met.ofW (cc := cX12_place) (maxL := 3) (ret := ((some .int))) (by decide) rfl ?_
  intro p e s m args below meth c s₁ Bd hml hv
  obtain ⟨rfl, hC, hM⟩ := hv
  obtain ⟨hx, hb, hr, hg, hown, hlk⟩ := z_open Bd
  have hK := hC.1
  have hS : va_S (fun q => B < q) s.heap s.heap [] := va_S.rf
  have hX0 : zX S0 S0 := zX.rf
  refine z_entry (vs := [.ref (B + a0), .int v1, .int v2]) (Nat.le_of_ble_eq_true rfl) (fun ls hl => ?_)
  have hl : lv_has ls 3 [(0, .ref (B + a0)), (1, .int v1), (2, .int v2)] := hl
  unfold f_X12_place at h
  refine lv_iload_n hx hb dX12_place_0 rfl (lv_at hl 1 rfl) ?_
  obtain ⟨r2, hr1, h⟩ := zb1 h
  refine z_runi (va_runS (As := [.int v1]) (rest := []) ⟨hx, hb, hml, hown, hg⟩ (c_X12_isHall l D cy B hr1) (z_cwS hg zw_1125 zw_1126 zw_13 zw_1127 zh_X12_isHall.2 ⟨(Nat.le_of_ble_eq_true rfl), (Nat.le_of_ble_eq_true rfl)⟩) (zPS hC hM) rfl rfl hl.1 rfl (lv_room (Nat.le_of_ble_eq_true rfl)) dX12_place_1 ⟨(Nat.le_of_ble_eq_true rfl), (Nat.le_of_ble_eq_true rfl)⟩) hS (fun H locs hM hX3 hS => ?_)
  refine lv_if_eq (tgt := 15) hx hb dX12_place_4 (by decide) (fun hc5 => ?_) (fun hc5 => ?_)
  · have h := zt h hc5
    refine lv_iconst (v := (-1 : Int32)) hx hb dX12_place_15 (by decide +kernel) ?_
    exact z_iret hx hb hr hlk hM hX0 hS (zsp h) dX12_place_16
  · have h := zf h hc5
    refine lv_aload_n hx hb dX12_place_7 rfl (lv_at hl 0 rfl) ?_
    refine lv_iload_n hx hb dX12_place_8 rfl (lv_at hl 2 rfl) ?_
    obtain ⟨r7, hr6, h⟩ := zb1 h
    refine z_runi (va_runV (As := [.int v2]) (rest := []) ⟨hx, hb, hml, hown, hg⟩ (c_X12_isDiver l D cy B ha0 hr6) (z_cwV hg zw_1150 zw_1151 zw_1485 zw_13 zw_1152 zh_X12_isDiver ⟨(Nat.le_of_ble_eq_true rfl), (Nat.le_of_ble_eq_true rfl)⟩) (zPV hC hM ha0 (by decide) rfl) rfl rfl hl.1 rfl (lv_room (Nat.le_of_ble_eq_true rfl)) dX12_place_9 ⟨(Nat.le_of_ble_eq_true rfl), (Nat.le_of_ble_eq_true rfl)⟩) hS (fun H locs hM hX8 hS => ?_)
    refine lv_if_ne (tgt := 17) hx hb dX12_place_12 (by decide) (fun hc10 => ?_) (fun hc10 => ?_)
    · have h := zf h hc10
      refine lv_aload_n hx hb dX12_place_17 rfl (lv_at hl 0 rfl) ?_
      obtain ⟨S12, hr11, h⟩ := zb1 h
      refine z_runv (va_runV (As := []) (rest := []) ⟨hx, hb, hml, hown, hg⟩ (c_X12_asTold l D cy B ha0 hr11) (z_cwV hg zw_1264 zw_1265 zw_1506 zw_13 zw_1266 zh_X12_asTold ⟨(Nat.le_of_ble_eq_true rfl), (Nat.le_of_ble_eq_true rfl)⟩) (zPV hC hM ha0 (by decide) rfl) rfl rfl hl.1 rfl (lv_room (Nat.le_of_ble_eq_true rfl)) dX12_place_18 ⟨(Nat.le_of_ble_eq_true rfl), (Nat.le_of_ble_eq_true rfl)⟩) hS (fun H locs hM hX13 hS => ?_)
      have h15 := ha0.mo hX13
      have hX16 := hX0.tr hX13
      refine lv_aload_n hx hb dX12_place_21 rfl (lv_at hl 0 rfl) ?_
      refine lv_iload_n hx hb dX12_place_22 rfl (lv_at hl 1 rfl) ?_
      refine lv_iload_n hx hb dX12_place_23 rfl (lv_at hl 2 rfl) ?_
      obtain ⟨r18, hr17, h⟩ := zb1 h
      refine z_runi (va_runV (As := [.int v1, .int v2]) (rest := []) ⟨hx, hb, hml, hown, hg⟩ (c_X12_dives l D cy B h15 hr17) (z_cwV hg zw_1289 zw_1290 zw_1513 zw_13 zw_1291 zh_X12_dives ⟨(Nat.le_of_ble_eq_true rfl), (Nat.le_of_ble_eq_true rfl)⟩) (zPV hC hM h15 (by decide) rfl) rfl rfl hl.1 rfl (lv_room (Nat.le_of_ble_eq_true rfl)) dX12_place_24 ⟨(Nat.le_of_ble_eq_true rfl), (Nat.le_of_ble_eq_true rfl)⟩) hS (fun H locs hM hX19 hS => ?_)
      refine lv_if_eq (tgt := 39) hx hb dX12_place_27 (by decide) (fun hc21 => ?_) (fun hc21 => ?_)
      · have h := zt h hc21
        refine lv_bipush (v := (-4 : Int32)) hx hb dX12_place_39 (by decide +kernel) ?_
        exact z_iret hx hb hr hlk hM hX16 hS (zsp h) dX12_place_41
      · have h := zf h hc21
        refine lv_aload_n hx hb dX12_place_30 rfl (lv_at hl 0 rfl) ?_
        refine lv_iload_n hx hb dX12_place_31 rfl (lv_at hl 1 rfl) ?_
        refine lv_iload_n hx hb dX12_place_32 rfl (lv_at hl 2 rfl) ?_
        obtain ⟨r23, S24, hr22, h⟩ := zb2 h
        refine z_runi (va_runV (As := [.int v1, .int v2]) (rest := []) ⟨hx, hb, hml, hown, hg⟩ (c_X12_placeNow l D cy B h15 hr22) (z_cwV hg zw_1300 zw_1301 zw_1515 zw_13 zw_1302 zh_X12_placeNow ⟨(Nat.le_of_ble_eq_true rfl), (Nat.le_of_ble_eq_true rfl)⟩) (zPV hC hM h15 (by decide) rfl) rfl rfl hl.1 rfl (lv_room (Nat.le_of_ble_eq_true rfl)) dX12_place_33 ⟨(Nat.le_of_ble_eq_true rfl), (Nat.le_of_ble_eq_true rfl)⟩) hS (fun H locs hM hX25 hS => ?_)
        have hX27 := hX16.tr hX25
        refine lv_goto (tgt := 41) hx hb dX12_place_36 (by decide) ?_
        exact z_iret hx hb hr hlk hM hX27 hS (zsp h) dX12_place_41
    · have h := zt h hc10
      refine lv_iconst (v := (-1 : Int32)) hx hb dX12_place_15 (by decide +kernel) ?_
      exact z_iret hx hb hr hlk hM hX0 hS (zsp h) dX12_place_16
def f_X12_wonNow_L8b (n : Nat) (a0 : Nat) (v1 : Int32) (K4 : Int32 → zM → Option (Int32 × zM)) (rec8 : Int32 → Int64 → Int32 → zM → Option (Int32 × zM)) (x6 : Int32) (y7 : Int64) (x8 : Int32) (S9 : zM) : Option (Int32 × zM) :=
  zChk (¬ (zr S9 a0 0) = 0) (zChk (¬ ((1001 : Int32) < 0 ∨ zln S9 (zr S9 a0 0) ≤ ((1001 : Int32)).toNatClampNeg)) (if (zi S9 (zr S9 a0 0) (Int32.toNatClampNeg (1001 : Int32))) ≤ x8 then K4 x6 S9 else zB1 (f_X12_dives n S9 a0 v1 x8) (fun r16 => if r16 = 0 then rec8 x6 y7 (x8 + (1 : Int32)) S9 else zB2 (f_X12_totalNow n S9 a0 v1 x8) (fun r21 S22 => zLet (rec8 x8 r21 (x8 + (1 : Int32)) S22) (fun K29 => if x6 < 0 then K29 else if 0 < (lg_cmp r21 y7) then K29 else rec8 x6 y7 (x8 + (1 : Int32)) S22)))))
def f_X12_wonNow_L8 (n : Nat) (a0 : Nat) (v1 : Int32) (K4 : Int32 → zM → Option (Int32 × zM)) : Nat → Int32 → Int64 → Int32 → zM → Option (Int32 × zM)
  | 0 => fun _ _ _ _ => none
  | k + 1 => fun x6 y7 x8 S9 => f_X12_wonNow_L8b n a0 v1 K4 (f_X12_wonNow_L8 n a0 v1 K4 k) x6 y7 x8 S9
def f_X12_wonNow (n : Nat) (S0 : zM) (a0 : Nat) (v1 : Int32) : Option (Int32 × zM) :=
  zLet (fun (x1 : Int32) (S2 : zM) => some ((x1, S2))) (fun K4 => f_X12_wonNow_L8 n a0 v1 K4 n (-4 : Int32) (0 : Int64) (0 : Int32) S0)
set_option maxHeartbeats 4000000 in
set_option maxRecDepth 100000 in
theorem c_X12_wonNow (l : Launch) (D : va_G) (cy : Nat → ClassId) (B : Nat) {n : Nat} {S0 : zM} {a0 : Nat} {v1 : Int32} {r : Int32} {S' : zM} (ha0 : zA S0 a0 12) (h : f_X12_wonNow n S0 a0 v1 = some (r, S')) : Met l yX12_wonNow (zws yX12_wonNow cX12_wonNow 8 ((some .int))) { frames := 35, cells := 0, slots := 0, locals := 806 } (zPc D cy B S0 [.ref (B + a0), .int v1]) (zQi D cy B S0 r S') 0 0 (fun q => B < q) := by
  refine Met.ofW (cc := cX12_wonNow) (maxL := 8) (ret := ((some .int))) (by decide) rfl ?_
  intro p e s m args below meth c s₁ Bd hml hv
  obtain ⟨rfl, hC, hM⟩ := hv
  obtain ⟨hx, hb, hr, hg, hown, hlk⟩ := z_open Bd
  have hK := hC.1
  have hS : va_S (fun q => B < q) s.heap s.heap [] := va_S.rf
  have hX0 : zX S0 S0 := zX.rf
  refine z_entry (vs := [.ref (B + a0), .int v1]) (Nat.le_of_ble_eq_true rfl) (fun ls hl => ?_)
  have hl : lv_has ls 8 [(0, .ref (B + a0)), (1, .int v1)] := hl
  unfold f_X12_wonNow at h
  refine lv_bipush (v := (-4 : Int32)) hx hb dX12_wonNow_0 (by decide +kernel) ?_
  refine lv_istore_n (i := 2) (lv' := [(2, .int (-4 : Int32)), (0, .ref (B + a0)), (1, .int v1)]) hx hb dX12_wonNow_2 rfl hl (by decide) rfl (fun ls hl => ?_)
  refine lv_lconst (v := (0 : Int64)) hx hb dX12_wonNow_3 (by decide +kernel) ?_
  refine lv_lstore_n (i := 3) (lv' := [(3, .long (0 : Int64)), (2, .int (-4 : Int32)), (0, .ref (B + a0)), (1, .int v1)]) hx hb dX12_wonNow_4 rfl hl (by decide) rfl (fun ls hl => ?_)
  refine lv_iconst (v := (0 : Int32)) hx hb dX12_wonNow_5 (by decide +kernel) ?_
  refine lv_istore (i := 5) (lv' := [(5, .int (0 : Int32)), (3, .long (0 : Int64)), (2, .int (-4 : Int32)), (0, .ref (B + a0)), (1, .int v1)]) hx hb dX12_wonNow_6 hl (by decide) rfl (fun ls hl => ?_)
  obtain ⟨K4, eK4, h⟩ := zlg h
  have hK4 : ∀ (x1 : Int32) (S2 : zM) (H : Heap) (locs : List Loc), zMR D cy B S2 H → zX S0 S2 → va_S (fun q => B < q) s.heap H locs → ∀ ls : Array Slot, lv_has ls 8 [(2, .int x1)] → K4 x1 S2 = some (r, S') → W p l e (headSpec (zws yX12_wonNow cX12_wonNow 8 ((some .int))) { frames := 35, cells := 0, slots := 0, locals := 806 }).room s m (([.ref (B + a0), .int v1] : List Value).toArray) below meth c H locs 0 0 (MQ below (zQi D cy B S0 r S') (([.ref (B + a0), .int v1] : List Value).toArray) s 0 0 (fun q => B < q)) (F0 m 69 ls []) := by
    intro x1 S2 H locs hM hX3 hS ls hl h
    rw [eK4] at h
    refine lv_iload_n hx hb dX12_wonNow_69 rfl (lv_at hl 0 rfl) ?_
    exact z_iret hx hb hr hlk hM hX3 hS (zsp h) dX12_wonNow_70
  have hL8 : ∀ (k : Nat) (x6 : Int32) (y7 : Int64) (x8 : Int32) (S9 : zM) (H : Heap) (locs : List Loc), zMR D cy B S9 H → zX S0 S9 → va_S (fun q => B < q) s.heap H locs → zA S9 a0 12 → ∀ ls : Array Slot, lv_has ls 8 [(0, .ref (B + a0)), (1, .int v1), (2, .int x6), (3, .long y7), (5, .int x8)] → f_X12_wonNow_L8 n a0 v1 K4 k x6 y7 x8 S9 = some (r, S') → W p l e (headSpec (zws yX12_wonNow cX12_wonNow 8 ((some .int))) { frames := 35, cells := 0, slots := 0, locals := 806 }).room s m (([.ref (B + a0), .int v1] : List Value).toArray) below meth c H locs 0 0 (MQ below (zQi D cy B S0 r S') (([.ref (B + a0), .int v1] : List Value).toArray) s 0 0 (fun q => B < q)) (F0 m 8 ls []) := by
    intro k
    induction k with
    | zero =>
      intro x6 y7 x8 S9 H locs hM hX10 hS h5 ls hl h
      exact znone h
    | succ k ih8 =>
      intro x6 y7 x8 S9 H locs hM hX10 hS h5 ls hl h
      replace h : f_X12_wonNow_L8b n a0 v1 K4 (f_X12_wonNow_L8 n a0 v1 K4 k) x6 y7 x8 S9 = some (r, S') := h
      generalize f_X12_wonNow_L8 n a0 v1 K4 k = rec8 at ih8 h
      unfold f_X12_wonNow_L8b at h
      refine lv_iload hx hb dX12_wonNow_8 (lv_at hl 4 rfl) ?_
      refine lv_aload_n hx hb dX12_wonNow_10 rfl (lv_at hl 0 rfl) ?_
      obtain ⟨hq12, h⟩ := zk h
      refine z_getN hx hb hg zin_12 hown hK hM h5 0 rfl (by decide) (hg _ zw_1000) (fun _ h9 => h9) hq12 dX12_wonNow_11 (fun h11 => ?_)
      refine lv_sipush (v := (1001 : Int32)) hx hb dX12_wonNow_14 (by decide +kernel) ?_
      obtain ⟨hq13, h⟩ := zk h
      refine z_iald hx hb hK hM h11 hq13 dX12_wonNow_17 ?_
      refine lv_icmp_ge (tgt := 69) hx hb dX12_wonNow_18 (by decide) (fun hc14 => ?_) (fun hc14 => ?_)
      · have h := zt h hc14
        exact hK4 x6 S9 _ _ hM hX10 hS _ (lv_sub hl [2] rfl) h
      · have h := zf h hc14
        refine lv_aload_n hx hb dX12_wonNow_21 rfl (lv_at hl 0 rfl) ?_
        refine lv_iload_n hx hb dX12_wonNow_22 rfl (lv_at hl 1 rfl) ?_
        refine lv_iload hx hb dX12_wonNow_23 (lv_at hl 4 rfl) ?_
        obtain ⟨r16, hr15, h⟩ := zb1 h
        refine z_runi (va_runV (As := [.int v1, .int x8]) (rest := []) ⟨hx, hb, hml, hown, hg⟩ (c_X12_dives l D cy B h5 hr15) (z_cwV hg zw_1289 zw_1290 zw_1513 zw_13 zw_1291 zh_X12_dives ⟨(Nat.le_of_ble_eq_true rfl), (Nat.le_of_ble_eq_true rfl)⟩) (zPV hC hM h5 (by decide) rfl) rfl rfl hl.1 rfl (lv_room (Nat.le_of_ble_eq_true rfl)) dX12_wonNow_25 ⟨(Nat.le_of_ble_eq_true rfl), (Nat.le_of_ble_eq_true rfl)⟩) hS (fun H locs hM hX17 hS => ?_)
        refine lv_if_ne (tgt := 34) hx hb dX12_wonNow_28 (by decide) (fun hc19 => ?_) (fun hc19 => ?_)
        · have h := zf h hc19
          refine lv_aload_n hx hb dX12_wonNow_34 rfl (lv_at hl 0 rfl) ?_
          refine lv_iload_n hx hb dX12_wonNow_35 rfl (lv_at hl 1 rfl) ?_
          refine lv_iload hx hb dX12_wonNow_36 (lv_at hl 4 rfl) ?_
          obtain ⟨r21, S22, hr20, h⟩ := zb2 h
          refine z_runl (va_runV (As := [.int v1, .int x8]) (rest := []) ⟨hx, hb, hml, hown, hg⟩ (c_X12_totalNow l D cy B h5 hr20) (z_cwV hg zw_1293 zw_1294 zw_1514 zw_13 zw_1295 zh_X12_totalNow ⟨(Nat.le_of_ble_eq_true rfl), (Nat.le_of_ble_eq_true rfl)⟩) (zPV hC hM h5 (by decide) rfl) rfl rfl hl.1 rfl (lv_room (Nat.le_of_ble_eq_true rfl)) dX12_wonNow_38 ⟨(Nat.le_of_ble_eq_true rfl), (Nat.le_of_ble_eq_true rfl)⟩) hS (fun H locs hM hX23 hS => ?_)
          have h25 := h5.mo hX23
          have hX26 := hX10.tr hX23
          refine lv_lstore (i := 6) (lv' := [(6, .long r21), (0, .ref (B + a0)), (1, .int v1), (2, .int x6), (3, .long y7), (5, .int x8)]) hx hb dX12_wonNow_41 hl (by decide) rfl (fun ls hl => ?_)
          refine lv_iload_n hx hb dX12_wonNow_43 rfl (lv_at hl 3 rfl) ?_
          obtain ⟨K29, eK29, h⟩ := zlg h
          have hK29 : ∀ (H : Heap) (locs : List Loc), zMR D cy B S22 H → zX S0 S22 → va_S (fun q => B < q) s.heap H locs → zA S22 a0 12 → ∀ ls : Array Slot, lv_has ls 8 [(0, .ref (B + a0)), (1, .int v1), (5, .int x8), (6, .long r21)] → K29 = some (r, S') → W p l e (headSpec (zws yX12_wonNow cX12_wonNow 8 ((some .int))) { frames := 35, cells := 0, slots := 0, locals := 806 }).room s m (([.ref (B + a0), .int v1] : List Value).toArray) below meth c H locs 0 0 (MQ below (zQi D cy B S0 r S') (([.ref (B + a0), .int v1] : List Value).toArray) s 0 0 (fun q => B < q)) (F0 m 57 ls []) := by
            intro H locs hM hX28 hS h27 ls hl h
            rw [eK29] at h
            refine lv_iload hx hb dX12_wonNow_57 (lv_at hl 2 rfl) ?_
            refine lv_istore_n (i := 2) (lv' := [(2, .int x8), (0, .ref (B + a0)), (1, .int v1), (5, .int x8), (6, .long r21)]) hx hb dX12_wonNow_59 rfl hl (by decide) rfl (fun ls hl => ?_)
            refine lv_lload hx hb dX12_wonNow_60 (lv_at hl 4 rfl) ?_
            refine lv_lstore_n (i := 3) (lv' := [(3, .long r21), (2, .int x8), (0, .ref (B + a0)), (1, .int v1), (5, .int x8), (6, .long r21)]) hx hb dX12_wonNow_62 rfl hl (by decide) rfl (fun ls hl => ?_)
            refine lv_iinc (v := (x8 + (1 : Int32))) (lv' := [(5, .int (x8 + (1 : Int32))), (3, .long r21), (2, .int x8), (0, .ref (B + a0)), (1, .int v1), (6, .long r21)]) hx hb dX12_wonNow_63 hl (k := 4) rfl rfl (by decide) rfl (fun ls hl => ?_)
            refine lv_goto (tgt := 8) hx hb dX12_wonNow_66 (by decide) ?_
            exact ih8 x8 r21 (x8 + (1 : Int32)) S22 _ _ hM hX28 hS h27 _ (lv_sub hl [3, 4, 2, 1, 0] rfl) h
          refine lv_if_lt (tgt := 57) hx hb dX12_wonNow_44 (by decide) (fun hc30 => ?_) (fun hc30 => ?_)
          · have h := zt h hc30
            exact hK29 _ _ hM hX26 hS h25 _ (lv_sub hl [1, 2, 5, 0] rfl) h
          · have h := zf h hc30
            refine lv_lload hx hb dX12_wonNow_47 (lv_at hl 0 rfl) ?_
            refine lv_lload_n hx hb dX12_wonNow_49 rfl (lv_at hl 4 rfl) ?_
            refine W.lcmp hx hb dX12_wonNow_50 ?_
            refine lv_if_gt (tgt := 57) hx hb dX12_wonNow_51 (by decide) (fun hc31 => ?_) (fun hc31 => ?_)
            · have h := zt h hc31
              exact hK29 _ _ hM hX26 hS h25 _ (lv_sub hl [1, 2, 5, 0] rfl) h
            · have h := zf h hc31
              refine lv_goto (tgt := 63) hx hb dX12_wonNow_54 (by decide) ?_
              refine lv_iinc (v := (x8 + (1 : Int32))) (lv' := [(5, .int (x8 + (1 : Int32))), (6, .long r21), (0, .ref (B + a0)), (1, .int v1), (2, .int x6), (3, .long y7)]) hx hb dX12_wonNow_63 hl (k := 5) rfl rfl (by decide) rfl (fun ls hl => ?_)
              refine lv_goto (tgt := 8) hx hb dX12_wonNow_66 (by decide) ?_
              exact ih8 x6 y7 (x8 + (1 : Int32)) S22 _ _ hM hX26 hS h25 _ (lv_sub hl [2, 3, 4, 5, 0] rfl) h
        · have h := zt h hc19
          refine lv_goto (tgt := 63) hx hb dX12_wonNow_31 (by decide) ?_
          refine lv_iinc (v := (x8 + (1 : Int32))) (lv' := [(5, .int (x8 + (1 : Int32))), (0, .ref (B + a0)), (1, .int v1), (2, .int x6), (3, .long y7)]) hx hb dX12_wonNow_63 hl (k := 4) rfl rfl (by decide) rfl (fun ls hl => ?_)
          refine lv_goto (tgt := 8) hx hb dX12_wonNow_66 (by decide) ?_
          exact ih8 x6 y7 (x8 + (1 : Int32)) S9 _ _ hM hX10 hS h5 _ (lv_sub hl [1, 2, 3, 4, 0] rfl) h
  exact hL8 n (-4 : Int32) (0 : Int64) (0 : Int32) S0 _ _ hM hX0 hS ha0 _ (lv_sub hl [3, 4, 2, 1, 0] rfl) h
def f_X12_won (n : Nat) (S0 : zM) (a0 : Nat) (v1 : Int32) : Option (Int32 × zM) :=
  zB1 (f_X12_isHall v1) (fun r2 => if r2 = 0 then some (((-1 : Int32), S0)) else zB1 (f_X12_asTold S0 a0) (fun S7 => zB2 (f_X12_wonNow n S7 a0 v1) (fun r13 S14 => some ((r13, S14)))))
set_option maxHeartbeats 4000000 in
set_option maxRecDepth 100000 in
theorem c_X12_won (l : Launch) (D : va_G) (cy : Nat → ClassId) (B : Nat) {n : Nat} {S0 : zM} {a0 : Nat} {v1 : Int32} {r : Int32} {S' : zM} (ha0 : zA S0 a0 12) (h : f_X12_won n S0 a0 v1 = some (r, S')) : Met l yX12_won (zws yX12_won cX12_won 2 ((some .int))) { frames := 36, cells := 0, slots := 0, locals := 833 } (zPc D cy B S0 [.ref (B + a0), .int v1]) (zQi D cy B S0 r S') 0 0 (fun q => B < q) := by
  refine Met.ofW (cc := cX12_won) (maxL := 2) (ret := ((some .int))) (by decide) rfl ?_
  intro p e s m args below meth c s₁ Bd hml hv
  obtain ⟨rfl, hC, hM⟩ := hv
  obtain ⟨hx, hb, hr, hg, hown, hlk⟩ := z_open Bd
  have hK := hC.1
  have hS : va_S (fun q => B < q) s.heap s.heap [] := va_S.rf
  have hX0 : zX S0 S0 := zX.rf
  refine z_entry (vs := [.ref (B + a0), .int v1]) (Nat.le_of_ble_eq_true rfl) (fun ls hl => ?_)
  have hl : lv_has ls 2 [(0, .ref (B + a0)), (1, .int v1)] := hl
  unfold f_X12_won at h
  refine lv_iload_n hx hb dX12_won_0 rfl (lv_at hl 1 rfl) ?_
  obtain ⟨r2, hr1, h⟩ := zb1 h
  refine z_runi (va_runS (As := [.int v1]) (rest := []) ⟨hx, hb, hml, hown, hg⟩ (c_X12_isHall l D cy B hr1) (z_cwS hg zw_1125 zw_1126 zw_13 zw_1127 zh_X12_isHall.2 ⟨(Nat.le_of_ble_eq_true rfl), (Nat.le_of_ble_eq_true rfl)⟩) (zPS hC hM) rfl rfl hl.1 rfl (lv_room (Nat.le_of_ble_eq_true rfl)) dX12_won_1 ⟨(Nat.le_of_ble_eq_true rfl), (Nat.le_of_ble_eq_true rfl)⟩) hS (fun H locs hM hX3 hS => ?_)
  refine lv_if_ne (tgt := 9) hx hb dX12_won_4 (by decide) (fun hc5 => ?_) (fun hc5 => ?_)
  · have h := zf h hc5
    refine lv_aload_n hx hb dX12_won_9 rfl (lv_at hl 0 rfl) ?_
    obtain ⟨S7, hr6, h⟩ := zb1 h
    refine z_runv (va_runV (As := []) (rest := []) ⟨hx, hb, hml, hown, hg⟩ (c_X12_asTold l D cy B ha0 hr6) (z_cwV hg zw_1264 zw_1265 zw_1506 zw_13 zw_1266 zh_X12_asTold ⟨(Nat.le_of_ble_eq_true rfl), (Nat.le_of_ble_eq_true rfl)⟩) (zPV hC hM ha0 (by decide) rfl) rfl rfl hl.1 rfl (lv_room (Nat.le_of_ble_eq_true rfl)) dX12_won_10 ⟨(Nat.le_of_ble_eq_true rfl), (Nat.le_of_ble_eq_true rfl)⟩) hS (fun H locs hM hX8 hS => ?_)
    have h10 := ha0.mo hX8
    have hX11 := hX0.tr hX8
    refine lv_aload_n hx hb dX12_won_13 rfl (lv_at hl 0 rfl) ?_
    refine lv_iload_n hx hb dX12_won_14 rfl (lv_at hl 1 rfl) ?_
    obtain ⟨r13, S14, hr12, h⟩ := zb2 h
    refine z_runi (va_runV (As := [.int v1]) (rest := []) ⟨hx, hb, hml, hown, hg⟩ (c_X12_wonNow l D cy B h10 hr12) (z_cwV hg zw_1307 zw_1308 zw_1516 zw_13 zw_1309 zh_X12_wonNow ⟨(Nat.le_of_ble_eq_true rfl), (Nat.le_of_ble_eq_true rfl)⟩) (zPV hC hM h10 (by decide) rfl) rfl rfl hl.1 rfl (lv_room (Nat.le_of_ble_eq_true rfl)) dX12_won_15 ⟨(Nat.le_of_ble_eq_true rfl), (Nat.le_of_ble_eq_true rfl)⟩) hS (fun H locs hM hX15 hS => ?_)
    have hX17 := hX11.tr hX15
    exact z_iret hx hb hr hlk hM hX17 hS (zsp h) dX12_won_18
  · have h := zt h hc5
    refine lv_iconst (v := (-1 : Int32)) hx hb dX12_won_7 (by decide +kernel) ?_
    exact z_iret hx hb hr hlk hM hX0 hS (zsp h) dX12_won_8
def f_X12_wonIf (n : Nat) (S0 : zM) (a0 : Nat) (v1 : Int32) (v2 : Int32) (v3 : Int32) : Option (Int32 × zM) :=
  zB1 (f_X12_isHall v1) (fun r2 => if r2 = 0 then some (((-1 : Int32), S0)) else zLet (f_X12_isIn (Int32.toInt64 v2) (0 : Int64) (2 : Int64)) (fun r7 => if r7 = 0 then some (((-1 : Int32), S0)) else zLet (zLet (zLet (zB1 (f_X12_asTold S0 a0) (fun S21 => zLet (fun (x27 : Int32) => zLet (zpI S21 a0 29 x27) (fun S30 => zLet (fun (x36 : Int32) => zChk (x36 = 0 ∨ x36 = 1) (zLet (zpI S30 a0 32 x36) (fun S40 => zLet (fun (x46 : Int32) => zLet (zpI S40 a0 30 x46) (fun S49 => zLet (fun (x55 : Int32) => zLet (zpI S49 a0 31 x55) (fun S58 => zB2 (f_X12_wonNow n S58 a0 v1) (fun r64 S65 => zB1 (f_X12_asTold S65 a0) (fun S71 => some ((r64, S71)))))) (fun K57 => if v2 = (1 : Int32) then K57 (v3 - v3 / (10 : Int32) * (10 : Int32)) else K57 (zi S49 a0 31)))) (fun K48 => if v2 = (1 : Int32) then K48 (v3 / (10 : Int32)) else K48 (zi S40 a0 30))))) (fun K38 => if v2 = (2 : Int32) then K38 (1 : Int32) else K38 (0 : Int32)))) (fun K29 => if v2 = 0 then K29 v3 else K29 (-1 : Int32)))) (fun K19 => if v2 = (2 : Int32) then if v3 = 0 then K19 else some (((-1 : Int32), S0)) else K19)) (fun K16 => if v2 = (1 : Int32) then zLet (f_X12_isIn (Int32.toInt64 v3) (0 : Int64) (33 : Int64)) (fun r83 => if r83 = 0 then some (((-1 : Int32), S0)) else if (3 : Int32) < (v3 - v3 / (10 : Int32) * (10 : Int32)) then some (((-1 : Int32), S0)) else K16) else K16)) (fun K13 => if v2 = 0 then zB1 (f_X12_isChair v3) (fun r90 => if r90 = 0 then some (((-1 : Int32), S0)) else K13) else K13)))
set_option maxHeartbeats 4000000 in
set_option maxRecDepth 100000 in
theorem c_X12_wonIf (l : Launch) (D : va_G) (cy : Nat → ClassId) (B : Nat) {n : Nat} {S0 : zM} {a0 : Nat} {v1 : Int32} {v2 : Int32} {v3 : Int32} {r : Int32} {S' : zM} (ha0 : zA S0 a0 12) (h : f_X12_wonIf n S0 a0 v1 v2 v3 = some (r, S')) : Met l yX12_wonIf (zws yX12_wonIf cX12_wonIf 5 ((some .int))) { frames := 36, cells := 0, slots := 0, locals := 833 } (zPc D cy B S0 [.ref (B + a0), .int v1, .int v2, .int v3]) (zQi D cy B S0 r S') 0 0 (fun q => B < q) := by
  refine Met.ofW (cc := cX12_wonIf) (maxL := 5) (ret := ((some .int))) (by decide) rfl ?_
  intro p e s m args below meth c s₁ Bd hml hv
  obtain ⟨rfl, hC, hM⟩ := hv
  obtain ⟨hx, hb, hr, hg, hown, hlk⟩ := z_open Bd
  have hK := hC.1
  have hS : va_S (fun q => B < q) s.heap s.heap [] := va_S.rf
  have hX0 : zX S0 S0 := zX.rf
  refine z_entry (vs := [.ref (B + a0), .int v1, .int v2, .int v3]) (Nat.le_of_ble_eq_true rfl) (fun ls hl => ?_)
  have hl : lv_has ls 5 [(0, .ref (B + a0)), (1, .int v1), (2, .int v2), (3, .int v3)] := hl
  unfold f_X12_wonIf at h
  refine lv_iload_n hx hb dX12_wonIf_0 rfl (lv_at hl 1 rfl) ?_
  obtain ⟨r2, hr1, h⟩ := zb1 h
  refine z_runi (va_runS (As := [.int v1]) (rest := []) ⟨hx, hb, hml, hown, hg⟩ (c_X12_isHall l D cy B hr1) (z_cwS hg zw_1125 zw_1126 zw_13 zw_1127 zh_X12_isHall.2 ⟨(Nat.le_of_ble_eq_true rfl), (Nat.le_of_ble_eq_true rfl)⟩) (zPS hC hM) rfl rfl hl.1 rfl (lv_room (Nat.le_of_ble_eq_true rfl)) dX12_wonIf_1 ⟨(Nat.le_of_ble_eq_true rfl), (Nat.le_of_ble_eq_true rfl)⟩) hS (fun H locs hM hX3 hS => ?_)
  refine lv_if_eq (tgt := 64) hx hb dX12_wonIf_4 (by decide) (fun hc5 => ?_) (fun hc5 => ?_)
  · have h := zt h hc5
    refine lv_iconst (v := (-1 : Int32)) hx hb dX12_wonIf_64 (by decide +kernel) ?_
    exact z_iret hx hb hr hlk hM hX0 hS (zsp h) dX12_wonIf_65
  · have h := zf h hc5
    refine lv_iload_n hx hb dX12_wonIf_7 rfl (lv_at hl 2 rfl) ?_
    refine lv_i2l hx hb dX12_wonIf_8 rfl ?_
    refine lv_lconst (v := (0 : Int64)) hx hb dX12_wonIf_9 (by decide +kernel) ?_
    refine lv_ldc2 (v := (2 : Int64)) hx hb hown (hg _ zw_1314) dX12_wonIf_10 ?_
    obtain ⟨r7, hr6, h⟩ := zlg h
    have hr6 := hr6.symm
    refine z_runi (va_runS (As := [.long (Int32.toInt64 v2), .long (0 : Int64), .long (2 : Int64)]) (rest := []) ⟨hx, hb, hml, hown, hg⟩ (c_X12_isIn l D cy B hr6) (z_cwS hg zw_1111 zw_1112 zw_13 zw_1113 zh_X12_isIn.2 ⟨(Nat.le_of_ble_eq_true rfl), (Nat.le_of_ble_eq_true rfl)⟩) (zPS hC hM) rfl rfl hl.1 rfl (lv_room (Nat.le_of_ble_eq_true rfl)) dX12_wonIf_13 ⟨(Nat.le_of_ble_eq_true rfl), (Nat.le_of_ble_eq_true rfl)⟩) hS (fun H locs hM hX8 hS => ?_)
    refine lv_if_eq (tgt := 64) hx hb dX12_wonIf_16 (by decide) (fun hc10 => ?_) (fun hc10 => ?_)
    · have h := zt h hc10
      refine lv_iconst (v := (-1 : Int32)) hx hb dX12_wonIf_64 (by decide +kernel) ?_
      exact z_iret hx hb hr hlk hM hX0 hS (zsp h) dX12_wonIf_65
    · have h := zf h hc10
      refine lv_iload_n hx hb dX12_wonIf_19 rfl (lv_at hl 2 rfl) ?_
      obtain ⟨K13, eK13, h⟩ := zlg h
      have hK13 : ∀ (H : Heap) (locs : List Loc), zMR D cy B S0 H → zX S0 S0 → va_S (fun q => B < q) s.heap H locs → zA S0 a0 12 → ∀ ls : Array Slot, lv_has ls 5 [(0, .ref (B + a0)), (1, .int v1), (2, .int v2), (3, .int v3)] → K13 = some (r, S') → W p l e (headSpec (zws yX12_wonIf cX12_wonIf 5 ((some .int))) { frames := 36, cells := 0, slots := 0, locals := 833 }).room s m (([.ref (B + a0), .int v1, .int v2, .int v3] : List Value).toArray) below meth c H locs 0 0 (MQ below (zQi D cy B S0 r S') (([.ref (B + a0), .int v1, .int v2, .int v3] : List Value).toArray) s 0 0 (fun q => B < q)) (F0 m 30 ls []) := by
        intro H locs hM hX12 hS h11 ls hl h
        rw [eK13] at h
        refine lv_iload_n hx hb dX12_wonIf_30 rfl (lv_at hl 2 rfl) ?_
        refine lv_iconst (v := (1 : Int32)) hx hb dX12_wonIf_31 (by decide +kernel) ?_
        obtain ⟨K16, eK16, h⟩ := zlg h
        have hK16 : ∀ (H : Heap) (locs : List Loc), zMR D cy B S0 H → zX S0 S0 → va_S (fun q => B < q) s.heap H locs → zA S0 a0 12 → ∀ ls : Array Slot, lv_has ls 5 [(0, .ref (B + a0)), (1, .int v1), (2, .int v2), (3, .int v3)] → K16 = some (r, S') → W p l e (headSpec (zws yX12_wonIf cX12_wonIf 5 ((some .int))) { frames := 36, cells := 0, slots := 0, locals := 833 }).room s m (([.ref (B + a0), .int v1, .int v2, .int v3] : List Value).toArray) below meth c H locs 0 0 (MQ below (zQi D cy B S0 r S') (([.ref (B + a0), .int v1, .int v2, .int v3] : List Value).toArray) s 0 0 (fun q => B < q)) (F0 m 55 ls []) := by
          intro H locs hM hX15 hS h14 ls hl h
          rw [eK16] at h
          refine lv_iload_n hx hb dX12_wonIf_55 rfl (lv_at hl 2 rfl) ?_
          refine lv_iconst (v := (2 : Int32)) hx hb dX12_wonIf_56 (by decide +kernel) ?_
          obtain ⟨K19, eK19, h⟩ := zlg h
          have hK19 : ∀ (H : Heap) (locs : List Loc), zMR D cy B S0 H → zX S0 S0 → va_S (fun q => B < q) s.heap H locs → zA S0 a0 12 → ∀ ls : Array Slot, lv_has ls 5 [(0, .ref (B + a0)), (1, .int v1), (2, .int v2), (3, .int v3)] → K19 = some (r, S') → W p l e (headSpec (zws yX12_wonIf cX12_wonIf 5 ((some .int))) { frames := 36, cells := 0, slots := 0, locals := 833 }).room s m (([.ref (B + a0), .int v1, .int v2, .int v3] : List Value).toArray) below meth c H locs 0 0 (MQ below (zQi D cy B S0 r S') (([.ref (B + a0), .int v1, .int v2, .int v3] : List Value).toArray) s 0 0 (fun q => B < q)) (F0 m 66 ls []) := by
            intro H locs hM hX18 hS h17 ls hl h
            rw [eK19] at h
            refine lv_aload_n hx hb dX12_wonIf_66 rfl (lv_at hl 0 rfl) ?_
            obtain ⟨S21, hr20, h⟩ := zb1 h
            refine z_runv (va_runV (As := []) (rest := []) ⟨hx, hb, hml, hown, hg⟩ (c_X12_asTold l D cy B h17 hr20) (z_cwV hg zw_1264 zw_1265 zw_1506 zw_13 zw_1266 zh_X12_asTold ⟨(Nat.le_of_ble_eq_true rfl), (Nat.le_of_ble_eq_true rfl)⟩) (zPV hC hM h17 (by decide) rfl) rfl rfl hl.1 rfl (lv_room (Nat.le_of_ble_eq_true rfl)) dX12_wonIf_67 ⟨(Nat.le_of_ble_eq_true rfl), (Nat.le_of_ble_eq_true rfl)⟩) hS (fun H locs hM hX22 hS => ?_)
            have h24 := h17.mo hX22
            have hX25 := hX18.tr hX22
            refine lv_aload_n hx hb dX12_wonIf_70 rfl (lv_at hl 0 rfl) ?_
            refine lv_iload_n hx hb dX12_wonIf_71 rfl (lv_at hl 2 rfl) ?_
            obtain ⟨K29, eK29, h⟩ := zlg h
            have hK29 : ∀ (x27 : Int32) (H : Heap) (locs : List Loc), zMR D cy B S21 H → zX S0 S21 → va_S (fun q => B < q) s.heap H locs → zA S21 a0 12 → ∀ ls : Array Slot, lv_has ls 5 [(0, .ref (B + a0)), (1, .int v1), (2, .int v2), (3, .int v3)] → K29 x27 = some (r, S') → W p l e (headSpec (zws yX12_wonIf cX12_wonIf 5 ((some .int))) { frames := 36, cells := 0, slots := 0, locals := 833 }).room s m (([.ref (B + a0), .int v1, .int v2, .int v3] : List Value).toArray) below meth c H locs 0 0 (MQ below (zQi D cy B S0 r S') (([.ref (B + a0), .int v1, .int v2, .int v3] : List Value).toArray) s 0 0 (fun q => B < q)) (F0 m 80 ls [.int x27, .ref (B + a0)]) := by
              intro x27 H locs hM hX28 hS h26 ls hl h
              rw [eK29] at h
              refine z_putI hx hb hg zin_12 tyX12 tyX12_ok nmX12 hown hK hM hS h26 29 rfl (by decide) (hg _ zw_1029) (fun _ h9 => h9) (Or.inl rfl) (tyX12_ok 29 (by decide)) rfl rfl dX12_wonIf_80 (fun H locs hM hS => ?_)
              obtain ⟨S30, e31, h⟩ := zlg h
              rw [← e31] at hM
              have hX32 : zX S21 S30 := by rw [e31]; exact zX_pI
              have h33 := h26.mo hX32
              have hX34 := hX28.tr hX32
              refine lv_aload_n hx hb dX12_wonIf_83 rfl (lv_at hl 0 rfl) ?_
              refine lv_iload_n hx hb dX12_wonIf_84 rfl (lv_at hl 2 rfl) ?_
              refine lv_iconst (v := (2 : Int32)) hx hb dX12_wonIf_85 (by decide +kernel) ?_
              obtain ⟨K38, eK38, h⟩ := zlg h
              have hK38 : ∀ (x36 : Int32) (H : Heap) (locs : List Loc), zMR D cy B S30 H → zX S0 S30 → va_S (fun q => B < q) s.heap H locs → zA S30 a0 12 → ∀ ls : Array Slot, lv_has ls 5 [(0, .ref (B + a0)), (1, .int v1), (2, .int v2), (3, .int v3)] → K38 x36 = some (r, S') → W p l e (headSpec (zws yX12_wonIf cX12_wonIf 5 ((some .int))) { frames := 36, cells := 0, slots := 0, locals := 833 }).room s m (([.ref (B + a0), .int v1, .int v2, .int v3] : List Value).toArray) below meth c H locs 0 0 (MQ below (zQi D cy B S0 r S') (([.ref (B + a0), .int v1, .int v2, .int v3] : List Value).toArray) s 0 0 (fun q => B < q)) (F0 m 94 ls [.int x36, .ref (B + a0)]) := by
                intro x36 H locs hM hX37 hS h35 ls hl h
                rw [eK38] at h
                obtain ⟨hb39, h⟩ := zk h
                refine z_putI hx hb hg zin_12 tyX12 tyX12_ok nmX12 hown hK hM hS h35 32 rfl (by decide) (hg _ zw_1032) (fun _ h9 => h9) (Or.inl rfl) (tyX12_ok 32 (by decide)) (z_bit hb39).1 (z_bit hb39).2 dX12_wonIf_94 (fun H locs hM hS => ?_)
                obtain ⟨S40, e41, h⟩ := zlg h
                rw [← e41] at hM
                have hX42 : zX S30 S40 := by rw [e41]; exact zX_pI
                have h43 := h35.mo hX42
                have hX44 := hX37.tr hX42
                refine lv_aload_n hx hb dX12_wonIf_97 rfl (lv_at hl 0 rfl) ?_
                refine lv_iload_n hx hb dX12_wonIf_98 rfl (lv_at hl 2 rfl) ?_
                refine lv_iconst (v := (1 : Int32)) hx hb dX12_wonIf_99 (by decide +kernel) ?_
                obtain ⟨K48, eK48, h⟩ := zlg h
                have hK48 : ∀ (x46 : Int32) (H : Heap) (locs : List Loc), zMR D cy B S40 H → zX S0 S40 → va_S (fun q => B < q) s.heap H locs → zA S40 a0 12 → ∀ ls : Array Slot, lv_has ls 5 [(0, .ref (B + a0)), (1, .int v1), (2, .int v2), (3, .int v3)] → K48 x46 = some (r, S') → W p l e (headSpec (zws yX12_wonIf cX12_wonIf 5 ((some .int))) { frames := 36, cells := 0, slots := 0, locals := 833 }).room s m (([.ref (B + a0), .int v1, .int v2, .int v3] : List Value).toArray) below meth c H locs 0 0 (MQ below (zQi D cy B S0 r S') (([.ref (B + a0), .int v1, .int v2, .int v3] : List Value).toArray) s 0 0 (fun q => B < q)) (F0 m 114 ls [.int x46, .ref (B + a0)]) := by
                  intro x46 H locs hM hX47 hS h45 ls hl h
                  rw [eK48] at h
                  refine z_putI hx hb hg zin_12 tyX12 tyX12_ok nmX12 hown hK hM hS h45 30 rfl (by decide) (hg _ zw_1030) (fun _ h9 => h9) (Or.inl rfl) (tyX12_ok 30 (by decide)) rfl rfl dX12_wonIf_114 (fun H locs hM hS => ?_)
                  obtain ⟨S49, e50, h⟩ := zlg h
                  rw [← e50] at hM
                  have hX51 : zX S40 S49 := by rw [e50]; exact zX_pI
                  have h52 := h45.mo hX51
                  have hX53 := hX47.tr hX51
                  refine lv_aload_n hx hb dX12_wonIf_117 rfl (lv_at hl 0 rfl) ?_
                  refine lv_iload_n hx hb dX12_wonIf_118 rfl (lv_at hl 2 rfl) ?_
                  refine lv_iconst (v := (1 : Int32)) hx hb dX12_wonIf_119 (by decide +kernel) ?_
                  obtain ⟨K57, eK57, h⟩ := zlg h
                  have hK57 : ∀ (x55 : Int32) (H : Heap) (locs : List Loc), zMR D cy B S49 H → zX S0 S49 → va_S (fun q => B < q) s.heap H locs → zA S49 a0 12 → ∀ ls : Array Slot, lv_has ls 5 [(0, .ref (B + a0)), (1, .int v1)] → K57 x55 = some (r, S') → W p l e (headSpec (zws yX12_wonIf cX12_wonIf 5 ((some .int))) { frames := 36, cells := 0, slots := 0, locals := 833 }).room s m (([.ref (B + a0), .int v1, .int v2, .int v3] : List Value).toArray) below meth c H locs 0 0 (MQ below (zQi D cy B S0 r S') (([.ref (B + a0), .int v1, .int v2, .int v3] : List Value).toArray) s 0 0 (fun q => B < q)) (F0 m 134 ls [.int x55, .ref (B + a0)]) := by
                    intro x55 H locs hM hX56 hS h54 ls hl h
                    rw [eK57] at h
                    refine z_putI hx hb hg zin_12 tyX12 tyX12_ok nmX12 hown hK hM hS h54 31 rfl (by decide) (hg _ zw_1031) (fun _ h9 => h9) (Or.inl rfl) (tyX12_ok 31 (by decide)) rfl rfl dX12_wonIf_134 (fun H locs hM hS => ?_)
                    obtain ⟨S58, e59, h⟩ := zlg h
                    rw [← e59] at hM
                    have hX60 : zX S49 S58 := by rw [e59]; exact zX_pI
                    have h61 := h54.mo hX60
                    have hX62 := hX56.tr hX60
                    refine lv_aload_n hx hb dX12_wonIf_137 rfl (lv_at hl 0 rfl) ?_
                    refine lv_iload_n hx hb dX12_wonIf_138 rfl (lv_at hl 1 rfl) ?_
                    obtain ⟨r64, S65, hr63, h⟩ := zb2 h
                    refine z_runi (va_runV (As := [.int v1]) (rest := []) ⟨hx, hb, hml, hown, hg⟩ (c_X12_wonNow l D cy B h61 hr63) (z_cwV hg zw_1307 zw_1308 zw_1516 zw_13 zw_1309 zh_X12_wonNow ⟨(Nat.le_of_ble_eq_true rfl), (Nat.le_of_ble_eq_true rfl)⟩) (zPV hC hM h61 (by decide) rfl) rfl rfl hl.1 rfl (lv_room (Nat.le_of_ble_eq_true rfl)) dX12_wonIf_139 ⟨(Nat.le_of_ble_eq_true rfl), (Nat.le_of_ble_eq_true rfl)⟩) hS (fun H locs hM hX66 hS => ?_)
                    have h68 := h61.mo hX66
                    have hX69 := hX62.tr hX66
                    refine lv_istore (i := 4) (lv' := [(4, .int r64), (0, .ref (B + a0)), (1, .int v1)]) hx hb dX12_wonIf_142 hl (by decide) rfl (fun ls hl => ?_)
                    refine lv_aload_n hx hb dX12_wonIf_144 rfl (lv_at hl 1 rfl) ?_
                    obtain ⟨S71, hr70, h⟩ := zb1 h
                    refine z_runv (va_runV (As := []) (rest := []) ⟨hx, hb, hml, hown, hg⟩ (c_X12_asTold l D cy B h68 hr70) (z_cwV hg zw_1264 zw_1265 zw_1506 zw_13 zw_1266 zh_X12_asTold ⟨(Nat.le_of_ble_eq_true rfl), (Nat.le_of_ble_eq_true rfl)⟩) (zPV hC hM h68 (by decide) rfl) rfl rfl hl.1 rfl (lv_room (Nat.le_of_ble_eq_true rfl)) dX12_wonIf_145 ⟨(Nat.le_of_ble_eq_true rfl), (Nat.le_of_ble_eq_true rfl)⟩) hS (fun H locs hM hX72 hS => ?_)
                    have hX74 := hX69.tr hX72
                    refine lv_iload hx hb dX12_wonIf_148 (lv_at hl 0 rfl) ?_
                    exact z_iret hx hb hr hlk hM hX74 hS (zsp h) dX12_wonIf_150
                  refine lv_icmp_ne (tgt := 130) hx hb dX12_wonIf_120 (by decide) (fun hc75 => ?_) (fun hc75 => ?_)
                  · have h := zf h hc75
                    refine lv_aload_n hx hb dX12_wonIf_130 rfl (lv_at hl 0 rfl) ?_
                    refine z_getI hx hb hg zin_12 hown hK hM h52 31 rfl (by decide) (hg _ zw_1031) (fun _ h9 => h9) dX12_wonIf_131 ?_
                    exact hK57 (zi S49 a0 31) _ _ hM hX53 hS h52 _ (lv_sub hl [0, 1] rfl) h
                  · have h := zt h hc75
                    refine lv_iload_n hx hb dX12_wonIf_123 rfl (lv_at hl 3 rfl) ?_
                    refine lv_bipush (v := (10 : Int32)) hx hb dX12_wonIf_124 (by decide +kernel) ?_
                    refine lv_irem hx hb dX12_wonIf_126 (by decide +kernel) ?_
                    refine lv_goto (tgt := 134) hx hb dX12_wonIf_127 (by decide) ?_
                    exact hK57 (v3 - v3 / (10 : Int32) * (10 : Int32)) _ _ hM hX53 hS h52 _ (lv_sub hl [0, 1] rfl) h
                refine lv_icmp_ne (tgt := 110) hx hb dX12_wonIf_100 (by decide) (fun hc76 => ?_) (fun hc76 => ?_)
                · have h := zf h hc76
                  refine lv_aload_n hx hb dX12_wonIf_110 rfl (lv_at hl 0 rfl) ?_
                  refine z_getI hx hb hg zin_12 hown hK hM h43 30 rfl (by decide) (hg _ zw_1030) (fun _ h9 => h9) dX12_wonIf_111 ?_
                  exact hK48 (zi S40 a0 30) _ _ hM hX44 hS h43 _ (lv_sub hl [0, 1, 2, 3] rfl) h
                · have h := zt h hc76
                  refine lv_iload_n hx hb dX12_wonIf_103 rfl (lv_at hl 3 rfl) ?_
                  refine lv_bipush (v := (10 : Int32)) hx hb dX12_wonIf_104 (by decide +kernel) ?_
                  refine lv_idiv hx hb dX12_wonIf_106 (by decide +kernel) ?_
                  refine lv_goto (tgt := 114) hx hb dX12_wonIf_107 (by decide) ?_
                  exact hK48 (v3 / (10 : Int32)) _ _ hM hX44 hS h43 _ (lv_sub hl [0, 1, 2, 3] rfl) h
              refine lv_icmp_ne (tgt := 93) hx hb dX12_wonIf_86 (by decide) (fun hc77 => ?_) (fun hc77 => ?_)
              · have h := zf h hc77
                refine lv_iconst (v := (0 : Int32)) hx hb dX12_wonIf_93 (by decide +kernel) ?_
                exact hK38 (0 : Int32) _ _ hM hX34 hS h33 _ (lv_sub hl [0, 1, 2, 3] rfl) h
              · have h := zt h hc77
                refine lv_iconst (v := (1 : Int32)) hx hb dX12_wonIf_89 (by decide +kernel) ?_
                refine lv_goto (tgt := 94) hx hb dX12_wonIf_90 (by decide) ?_
                exact hK38 (1 : Int32) _ _ hM hX34 hS h33 _ (lv_sub hl [0, 1, 2, 3] rfl) h
            refine lv_if_ne (tgt := 79) hx hb dX12_wonIf_72 (by decide) (fun hc78 => ?_) (fun hc78 => ?_)
            · have h := zf h hc78
              refine lv_iconst (v := (-1 : Int32)) hx hb dX12_wonIf_79 (by decide +kernel) ?_
              exact hK29 (-1 : Int32) _ _ hM hX25 hS h24 _ (lv_sub hl [0, 1, 2, 3] rfl) h
            · have h := zt h hc78
              refine lv_iload_n hx hb dX12_wonIf_75 rfl (lv_at hl 3 rfl) ?_
              refine lv_goto (tgt := 80) hx hb dX12_wonIf_76 (by decide) ?_
              exact hK29 v3 _ _ hM hX25 hS h24 _ (lv_sub hl [0, 1, 2, 3] rfl) h
          refine lv_icmp_ne (tgt := 66) hx hb dX12_wonIf_57 (by decide) (fun hc79 => ?_) (fun hc79 => ?_)
          · have h := zf h hc79
            exact hK19 _ _ hM hX15 hS h14 _ (lv_sub hl [0, 1, 2, 3] rfl) h
          · have h := zt h hc79
            refine lv_iload_n hx hb dX12_wonIf_60 rfl (lv_at hl 3 rfl) ?_
            refine lv_if_eq (tgt := 66) hx hb dX12_wonIf_61 (by decide) (fun hc80 => ?_) (fun hc80 => ?_)
            · have h := zt h hc80
              exact hK19 _ _ hM hX15 hS h14 _ (lv_sub hl [0, 1, 2, 3] rfl) h
            · have h := zf h hc80
              refine lv_iconst (v := (-1 : Int32)) hx hb dX12_wonIf_64 (by decide +kernel) ?_
              exact z_iret hx hb hr hlk hM hX15 hS (zsp h) dX12_wonIf_65
        refine lv_icmp_ne (tgt := 55) hx hb dX12_wonIf_32 (by decide) (fun hc81 => ?_) (fun hc81 => ?_)
        · have h := zf h hc81
          exact hK16 _ _ hM hX12 hS h11 _ (lv_sub hl [0, 1, 2, 3] rfl) h
        · have h := zt h hc81
          refine lv_iload_n hx hb dX12_wonIf_35 rfl (lv_at hl 3 rfl) ?_
          refine lv_i2l hx hb dX12_wonIf_36 rfl ?_
          refine lv_lconst (v := (0 : Int64)) hx hb dX12_wonIf_37 (by decide +kernel) ?_
          refine lv_ldc2 (v := (33 : Int64)) hx hb hown (hg _ zw_1315) dX12_wonIf_38 ?_
          obtain ⟨r83, hr82, h⟩ := zlg h
          have hr82 := hr82.symm
          refine z_runi (va_runS (As := [.long (Int32.toInt64 v3), .long (0 : Int64), .long (33 : Int64)]) (rest := []) ⟨hx, hb, hml, hown, hg⟩ (c_X12_isIn l D cy B hr82) (z_cwS hg zw_1111 zw_1112 zw_13 zw_1113 zh_X12_isIn.2 ⟨(Nat.le_of_ble_eq_true rfl), (Nat.le_of_ble_eq_true rfl)⟩) (zPS hC hM) rfl rfl hl.1 rfl (lv_room (Nat.le_of_ble_eq_true rfl)) dX12_wonIf_41 ⟨(Nat.le_of_ble_eq_true rfl), (Nat.le_of_ble_eq_true rfl)⟩) hS (fun H locs hM hX84 hS => ?_)
          refine lv_if_eq (tgt := 64) hx hb dX12_wonIf_44 (by decide) (fun hc86 => ?_) (fun hc86 => ?_)
          · have h := zt h hc86
            refine lv_iconst (v := (-1 : Int32)) hx hb dX12_wonIf_64 (by decide +kernel) ?_
            exact z_iret hx hb hr hlk hM hX12 hS (zsp h) dX12_wonIf_65
          · have h := zf h hc86
            refine lv_iload_n hx hb dX12_wonIf_47 rfl (lv_at hl 3 rfl) ?_
            refine lv_bipush (v := (10 : Int32)) hx hb dX12_wonIf_48 (by decide +kernel) ?_
            refine lv_irem hx hb dX12_wonIf_50 (by decide +kernel) ?_
            refine lv_iconst (v := (3 : Int32)) hx hb dX12_wonIf_51 (by decide +kernel) ?_
            refine lv_icmp_gt (tgt := 64) hx hb dX12_wonIf_52 (by decide) (fun hc87 => ?_) (fun hc87 => ?_)
            · have h := zt h hc87
              refine lv_iconst (v := (-1 : Int32)) hx hb dX12_wonIf_64 (by decide +kernel) ?_
              exact z_iret hx hb hr hlk hM hX12 hS (zsp h) dX12_wonIf_65
            · have h := zf h hc87
              exact hK16 _ _ hM hX12 hS h11 _ (lv_sub hl [0, 1, 2, 3] rfl) h
      refine lv_if_ne (tgt := 30) hx hb dX12_wonIf_20 (by decide) (fun hc88 => ?_) (fun hc88 => ?_)
      · have h := zf h hc88
        exact hK13 _ _ hM hX0 hS ha0 _ (lv_sub hl [0, 1, 2, 3] rfl) h
      · have h := zt h hc88
        refine lv_iload_n hx hb dX12_wonIf_23 rfl (lv_at hl 3 rfl) ?_
        obtain ⟨r90, hr89, h⟩ := zb1 h
        refine z_runi (va_runS (As := [.int v3]) (rest := []) ⟨hx, hb, hml, hown, hg⟩ (c_X12_isChair l D cy B hr89) (z_cwS hg zw_1136 zw_1137 zw_13 zw_1138 zh_X12_isChair.2 ⟨(Nat.le_of_ble_eq_true rfl), (Nat.le_of_ble_eq_true rfl)⟩) (zPS hC hM) rfl rfl hl.1 rfl (lv_room (Nat.le_of_ble_eq_true rfl)) dX12_wonIf_24 ⟨(Nat.le_of_ble_eq_true rfl), (Nat.le_of_ble_eq_true rfl)⟩) hS (fun H locs hM hX91 hS => ?_)
        refine lv_if_eq (tgt := 64) hx hb dX12_wonIf_27 (by decide) (fun hc93 => ?_) (fun hc93 => ?_)
        · have h := zt h hc93
          refine lv_iconst (v := (-1 : Int32)) hx hb dX12_wonIf_64 (by decide +kernel) ?_
          exact z_iret hx hb hr hlk hM hX0 hS (zsp h) dX12_wonIf_65
        · have h := zf h hc93
          exact hK13 _ _ hM hX0 hS ha0 _ (lv_sub hl [0, 1, 2, 3] rfl) h
def f_X12_bits_L4b (K3 : Int32 → Option (Int32)) (rec4 : Int32 → Int32 → Option (Int32)) (x4 : Int32) (x5 : Int32) : Option (Int32) :=
  if x5 ≤ 0 then K3 x4 else rec4 (x4 + (x5 &&& (1 : Int32))) (x5 >>> ((1 : Int32) &&& 31))
def f_X12_bits_L4 (K3 : Int32 → Option (Int32)) : Nat → Int32 → Int32 → Option (Int32)
  | 0 => fun _ _ => none
  | k + 1 => fun x4 x5 => f_X12_bits_L4b K3 (f_X12_bits_L4 K3 k) x4 x5
def f_X12_bits (n : Nat) (v0 : Int32) : Option (Int32) :=
  zLet (fun (x1 : Int32) => some x1) (fun K3 => f_X12_bits_L4 K3 n (0 : Int32) v0)
set_option maxHeartbeats 4000000 in
set_option maxRecDepth 100000 in
theorem c_X12_bits (l : Launch) (D : va_G) (cy : Nat → ClassId) (B : Nat) {n : Nat} {S0 : zM} {v0 : Int32} {r : Int32}  (h : f_X12_bits n v0 = some r) : Met l yX12_bits (zws yX12_bits cX12_bits 3 ((some .int))) { frames := 0, cells := 0, slots := 0, locals := 0 } (zPc D cy B S0 [.int v0]) (zQi D cy B S0 r S0) 0 0 (fun q => B < q) := by
  refine Met.ofW (cc := cX12_bits) (maxL := 3) (ret := ((some .int))) (by decide) rfl ?_
  intro p e s m args below meth c s₁ Bd hml hv
  obtain ⟨rfl, hC, hM⟩ := hv
  obtain ⟨hx, hb, hr, hg, hown, hlk⟩ := z_open Bd
  have hK := hC.1
  have hS : va_S (fun q => B < q) s.heap s.heap [] := va_S.rf
  have hX0 : zX S0 S0 := zX.rf
  refine z_entry (vs := [.int v0]) (Nat.le_of_ble_eq_true rfl) (fun ls hl => ?_)
  have hl : lv_has ls 3 [(0, .int v0)] := hl
  unfold f_X12_bits at h
  refine lv_iconst (v := (0 : Int32)) hx hb dX12_bits_0 (by decide +kernel) ?_
  refine lv_istore_n (i := 1) (lv' := [(1, .int (0 : Int32)), (0, .int v0)]) hx hb dX12_bits_1 rfl hl (by decide) rfl (fun ls hl => ?_)
  refine lv_iload_n hx hb dX12_bits_2 rfl (lv_at hl 1 rfl) ?_
  refine lv_istore_n (i := 2) (lv' := [(2, .int v0), (1, .int (0 : Int32)), (0, .int v0)]) hx hb dX12_bits_3 rfl hl (by decide) rfl (fun ls hl => ?_)
  obtain ⟨K3, eK3, h⟩ := zlg h
  have hK3 : ∀ (x1 : Int32) (H : Heap) (locs : List Loc), zMR D cy B S0 H → zX S0 S0 → va_S (fun q => B < q) s.heap H locs → ∀ ls : Array Slot, lv_has ls 3 [(1, .int x1)] → K3 x1 = some r → W p l e (headSpec (zws yX12_bits cX12_bits 3 ((some .int))) { frames := 0, cells := 0, slots := 0, locals := 0 }).room s m (([.int v0] : List Value).toArray) below meth c H locs 0 0 (MQ below (zQi D cy B S0 r S0) (([.int v0] : List Value).toArray) s 0 0 (fun q => B < q)) (F0 m 21 ls []) := by
    intro x1 H locs hM hX2 hS ls hl h
    rw [eK3] at h
    refine lv_iload_n hx hb dX12_bits_21 rfl (lv_at hl 0 rfl) ?_
    exact z_iret hx hb hr hlk hM hX2 hS ⟨zsm h, rfl⟩ dX12_bits_22
  have hL4 : ∀ (k : Nat) (x4 : Int32) (x5 : Int32) (H : Heap) (locs : List Loc), zMR D cy B S0 H → zX S0 S0 → va_S (fun q => B < q) s.heap H locs → ∀ ls : Array Slot, lv_has ls 3 [(1, .int x4), (2, .int x5)] → f_X12_bits_L4 K3 k x4 x5 = some r → W p l e (headSpec (zws yX12_bits cX12_bits 3 ((some .int))) { frames := 0, cells := 0, slots := 0, locals := 0 }).room s m (([.int v0] : List Value).toArray) below meth c H locs 0 0 (MQ below (zQi D cy B S0 r S0) (([.int v0] : List Value).toArray) s 0 0 (fun q => B < q)) (F0 m 4 ls []) := by
    intro k
    induction k with
    | zero =>
      intro x4 x5 H locs hM hX6 hS ls hl h
      exact znone h
    | succ k ih4 =>
      intro x4 x5 H locs hM hX6 hS ls hl h
      replace h : f_X12_bits_L4b K3 (f_X12_bits_L4 K3 k) x4 x5 = some r := h
      generalize f_X12_bits_L4 K3 k = rec4 at ih4 h
      unfold f_X12_bits_L4b at h
      refine lv_iload_n hx hb dX12_bits_4 rfl (lv_at hl 1 rfl) ?_
      refine lv_if_le (tgt := 21) hx hb dX12_bits_5 (by decide) (fun hc7 => ?_) (fun hc7 => ?_)
      · have h := zt h hc7
        exact hK3 x4 _ _ hM hX6 hS _ (lv_sub hl [0] rfl) h
      · have h := zf h hc7
        refine lv_iload_n hx hb dX12_bits_8 rfl (lv_at hl 0 rfl) ?_
        refine lv_iload_n hx hb dX12_bits_9 rfl (lv_at hl 1 rfl) ?_
        refine lv_iconst (v := (1 : Int32)) hx hb dX12_bits_10 (by decide +kernel) ?_
        refine lv_iand hx hb dX12_bits_11 ?_
        refine lv_iadd hx hb dX12_bits_12 ?_
        refine lv_istore_n (i := 1) (lv' := [(1, .int (x4 + (x5 &&& (1 : Int32)))), (2, .int x5)]) hx hb dX12_bits_13 rfl hl (by decide) rfl (fun ls hl => ?_)
        refine lv_iload_n hx hb dX12_bits_14 rfl (lv_at hl 1 rfl) ?_
        refine lv_iconst (v := (1 : Int32)) hx hb dX12_bits_15 (by decide +kernel) ?_
        refine lv_ishr hx hb dX12_bits_16 ?_
        refine lv_istore_n (i := 2) (lv' := [(2, .int (x5 >>> ((1 : Int32) &&& 31))), (1, .int (x4 + (x5 &&& (1 : Int32))))]) hx hb dX12_bits_17 rfl hl (by decide) rfl (fun ls hl => ?_)
        refine lv_goto (tgt := 4) hx hb dX12_bits_18 (by decide) ?_
        exact ih4 (x4 + (x5 &&& (1 : Int32))) (x5 >>> ((1 : Int32) &&& 31)) _ _ hM hX6 hS _ (lv_sub hl [1, 0] rfl) h
  exact hL4 n (0 : Int32) v0 _ _ hM hX0 hS _ (lv_sub hl [1, 0] rfl) h
def f_X12_moved_L71b (n : Nat) (a0 : Nat) (v1 : Int32) (v2 : Int32) (v3 : Int32) (K42 : Int32 → Int32 → zM → Option (Int32 × zM)) (rec71 : Int32 → Int32 → Int32 → zM → Option (Int32 × zM)) (x49 : Int32) (x50 : Int32) (x51 : Int32) (S52 : zM) : Option (Int32 × zM) :=
  if (128 : Int32) ≤ x51 then K42 x49 x50 S52 else zB1 (f_X12_bits n x51) (fun r56 => if r56 = v3 then zLet (zpI S52 a0 33 x51) (fun S60 => zB2 (f_X12_placeNow n S60 a0 v1 v2) (fun r66 S67 => zLet (rec71 x51 r66 (x51 + (1 : Int32)) S67) (fun K74 => if x49 < 0 then K74 else if r66 < x50 then K74 else rec71 x49 x50 (x51 + (1 : Int32)) S67))) else rec71 x49 x50 (x51 + (1 : Int32)) S52)
def f_X12_moved_L71 (n : Nat) (a0 : Nat) (v1 : Int32) (v2 : Int32) (v3 : Int32) (K42 : Int32 → Int32 → zM → Option (Int32 × zM)) : Nat → Int32 → Int32 → Int32 → zM → Option (Int32 × zM)
  | 0 => fun _ _ _ _ => none
  | k + 1 => fun x49 x50 x51 S52 => f_X12_moved_L71b n a0 v1 v2 v3 K42 (f_X12_moved_L71 n a0 v1 v2 v3 K42 k) x49 x50 x51 S52
def f_X12_moved (n : Nat) (S0 : zM) (a0 : Nat) (v1 : Int32) (v2 : Int32) (v3 : Int32) (v4 : Int32) : Option (Int32 × zM) :=
  zB1 (f_X12_isHall v1) (fun r2 => if r2 = 0 then some (((-1 : Int32), S0)) else zB1 (f_X12_isDiver S0 a0 v2) (fun r7 => if r7 = 0 then some (((-1 : Int32), S0)) else zLet (f_X12_isIn (Int32.toInt64 v3) (1 : Int64) (3 : Int64)) (fun r12 => if r12 = 0 then some (((-1 : Int32), S0)) else zLet (f_X12_isIn (Int32.toInt64 v4) (0 : Int64) (1 : Int64)) (fun r17 => if r17 = 0 then some (((-1 : Int32), S0)) else zB1 (f_X12_dives n S0 a0 v1 v2) (fun r22 => if r22 = 0 then some (((-4 : Int32), S0)) else zB1 (f_X12_asTold S0 a0) (fun S27 => zLet (zpI S27 a0 34 v2) (fun S32 => zLet (fun (x38 : Int32) (x39 : Int32) (S40 : zM) => zLet (zpI S40 a0 33 (0 : Int32)) (fun S43 => if v4 = 0 then some ((x39, S43)) else some ((x38, S43)))) (fun K42 => f_X12_moved_L71 n a0 v1 v2 v3 K42 n (-4 : Int32) (0 : Int32) (0 : Int32) S32))))))))
set_option maxHeartbeats 4000000 in
set_option maxRecDepth 100000 in
theorem c_X12_moved (l : Launch) (D : va_G) (cy : Nat → ClassId) (B : Nat) {n : Nat} {S0 : zM} {a0 : Nat} {v1 : Int32} {v2 : Int32} {v3 : Int32} {v4 : Int32} {r : Int32} {S' : zM} (ha0 : zA S0 a0 12) (h : f_X12_moved n S0 a0 v1 v2 v3 v4 = some (r, S')) : Met l yX12_moved (zws yX12_moved cX12_moved 9 ((some .int))) { frames := 36, cells := 0, slots := 0, locals := 832 } (zPc D cy B S0 [.ref (B + a0), .int v1, .int v2, .int v3, .int v4]) (zQi D cy B S0 r S') 0 0 (fun q => B < q) := by
  refine Met.ofW (cc := cX12_moved) (maxL := 9) (ret := ((some .int))) (by decide) rfl ?_
  intro p e s m args below meth c s₁ Bd hml hv
  obtain ⟨rfl, hC, hM⟩ := hv
  obtain ⟨hx, hb, hr, hg, hown, hlk⟩ := z_open Bd
  have hK := hC.1
  have hS : va_S (fun q => B < q) s.heap s.heap [] := va_S.rf
  have hX0 : zX S0 S0 := zX.rf
  refine z_entry (vs := [.ref (B + a0), .int v1, .int v2, .int v3, .int v4]) (Nat.le_of_ble_eq_true rfl) (fun ls hl => ?_)
  have hl : lv_has ls 9 [(0, .ref (B + a0)), (1, .int v1), (2, .int v2), (3, .int v3), (4, .int v4)] := hl
  unfold f_X12_moved at h
  refine lv_iload_n hx hb dX12_moved_0 rfl (lv_at hl 1 rfl) ?_
  obtain ⟨r2, hr1, h⟩ := zb1 h
  refine z_runi (va_runS (As := [.int v1]) (rest := []) ⟨hx, hb, hml, hown, hg⟩ (c_X12_isHall l D cy B hr1) (z_cwS hg zw_1125 zw_1126 zw_13 zw_1127 zh_X12_isHall.2 ⟨(Nat.le_of_ble_eq_true rfl), (Nat.le_of_ble_eq_true rfl)⟩) (zPS hC hM) rfl rfl hl.1 rfl (lv_room (Nat.le_of_ble_eq_true rfl)) dX12_moved_1 ⟨(Nat.le_of_ble_eq_true rfl), (Nat.le_of_ble_eq_true rfl)⟩) hS (fun H locs hM hX3 hS => ?_)
  refine lv_if_eq (tgt := 38) hx hb dX12_moved_4 (by decide) (fun hc5 => ?_) (fun hc5 => ?_)
  · have h := zt h hc5
    refine lv_iconst (v := (-1 : Int32)) hx hb dX12_moved_38 (by decide +kernel) ?_
    exact z_iret hx hb hr hlk hM hX0 hS (zsp h) dX12_moved_39
  · have h := zf h hc5
    refine lv_aload_n hx hb dX12_moved_7 rfl (lv_at hl 0 rfl) ?_
    refine lv_iload_n hx hb dX12_moved_8 rfl (lv_at hl 2 rfl) ?_
    obtain ⟨r7, hr6, h⟩ := zb1 h
    refine z_runi (va_runV (As := [.int v2]) (rest := []) ⟨hx, hb, hml, hown, hg⟩ (c_X12_isDiver l D cy B ha0 hr6) (z_cwV hg zw_1150 zw_1151 zw_1485 zw_13 zw_1152 zh_X12_isDiver ⟨(Nat.le_of_ble_eq_true rfl), (Nat.le_of_ble_eq_true rfl)⟩) (zPV hC hM ha0 (by decide) rfl) rfl rfl hl.1 rfl (lv_room (Nat.le_of_ble_eq_true rfl)) dX12_moved_9 ⟨(Nat.le_of_ble_eq_true rfl), (Nat.le_of_ble_eq_true rfl)⟩) hS (fun H locs hM hX8 hS => ?_)
    refine lv_if_eq (tgt := 38) hx hb dX12_moved_12 (by decide) (fun hc10 => ?_) (fun hc10 => ?_)
    · have h := zt h hc10
      refine lv_iconst (v := (-1 : Int32)) hx hb dX12_moved_38 (by decide +kernel) ?_
      exact z_iret hx hb hr hlk hM hX0 hS (zsp h) dX12_moved_39
    · have h := zf h hc10
      refine lv_iload_n hx hb dX12_moved_15 rfl (lv_at hl 3 rfl) ?_
      refine lv_i2l hx hb dX12_moved_16 rfl ?_
      refine lv_lconst (v := (1 : Int64)) hx hb dX12_moved_17 (by decide +kernel) ?_
      refine lv_ldc2 (v := (3 : Int64)) hx hb hown (hg _ zw_1320) dX12_moved_18 ?_
      obtain ⟨r12, hr11, h⟩ := zlg h
      have hr11 := hr11.symm
      refine z_runi (va_runS (As := [.long (Int32.toInt64 v3), .long (1 : Int64), .long (3 : Int64)]) (rest := []) ⟨hx, hb, hml, hown, hg⟩ (c_X12_isIn l D cy B hr11) (z_cwS hg zw_1111 zw_1112 zw_13 zw_1113 zh_X12_isIn.2 ⟨(Nat.le_of_ble_eq_true rfl), (Nat.le_of_ble_eq_true rfl)⟩) (zPS hC hM) rfl rfl hl.1 rfl (lv_room (Nat.le_of_ble_eq_true rfl)) dX12_moved_21 ⟨(Nat.le_of_ble_eq_true rfl), (Nat.le_of_ble_eq_true rfl)⟩) hS (fun H locs hM hX13 hS => ?_)
      refine lv_if_eq (tgt := 38) hx hb dX12_moved_24 (by decide) (fun hc15 => ?_) (fun hc15 => ?_)
      · have h := zt h hc15
        refine lv_iconst (v := (-1 : Int32)) hx hb dX12_moved_38 (by decide +kernel) ?_
        exact z_iret hx hb hr hlk hM hX0 hS (zsp h) dX12_moved_39
      · have h := zf h hc15
        refine lv_iload hx hb dX12_moved_27 (lv_at hl 4 rfl) ?_
        refine lv_i2l hx hb dX12_moved_29 rfl ?_
        refine lv_lconst (v := (0 : Int64)) hx hb dX12_moved_30 (by decide +kernel) ?_
        refine lv_lconst (v := (1 : Int64)) hx hb dX12_moved_31 (by decide +kernel) ?_
        obtain ⟨r17, hr16, h⟩ := zlg h
        have hr16 := hr16.symm
        refine z_runi (va_runS (As := [.long (Int32.toInt64 v4), .long (0 : Int64), .long (1 : Int64)]) (rest := []) ⟨hx, hb, hml, hown, hg⟩ (c_X12_isIn l D cy B hr16) (z_cwS hg zw_1111 zw_1112 zw_13 zw_1113 zh_X12_isIn.2 ⟨(Nat.le_of_ble_eq_true rfl), (Nat.le_of_ble_eq_true rfl)⟩) (zPS hC hM) rfl rfl hl.1 rfl (lv_room (Nat.le_of_ble_eq_true rfl)) dX12_moved_32 ⟨(Nat.le_of_ble_eq_true rfl), (Nat.le_of_ble_eq_true rfl)⟩) hS (fun H locs hM hX18 hS => ?_)
        refine lv_if_ne (tgt := 40) hx hb dX12_moved_35 (by decide) (fun hc20 => ?_) (fun hc20 => ?_)
        · have h := zf h hc20
          refine lv_aload_n hx hb dX12_moved_40 rfl (lv_at hl 0 rfl) ?_
          refine lv_iload_n hx hb dX12_moved_41 rfl (lv_at hl 1 rfl) ?_
          refine lv_iload_n hx hb dX12_moved_42 rfl (lv_at hl 2 rfl) ?_
          obtain ⟨r22, hr21, h⟩ := zb1 h
          refine z_runi (va_runV (As := [.int v1, .int v2]) (rest := []) ⟨hx, hb, hml, hown, hg⟩ (c_X12_dives l D cy B ha0 hr21) (z_cwV hg zw_1289 zw_1290 zw_1513 zw_13 zw_1291 zh_X12_dives ⟨(Nat.le_of_ble_eq_true rfl), (Nat.le_of_ble_eq_true rfl)⟩) (zPV hC hM ha0 (by decide) rfl) rfl rfl hl.1 rfl (lv_room (Nat.le_of_ble_eq_true rfl)) dX12_moved_43 ⟨(Nat.le_of_ble_eq_true rfl), (Nat.le_of_ble_eq_true rfl)⟩) hS (fun H locs hM hX23 hS => ?_)
          refine lv_if_ne (tgt := 52) hx hb dX12_moved_46 (by decide) (fun hc25 => ?_) (fun hc25 => ?_)
          · have h := zf h hc25
            refine lv_aload_n hx hb dX12_moved_52 rfl (lv_at hl 0 rfl) ?_
            obtain ⟨S27, hr26, h⟩ := zb1 h
            refine z_runv (va_runV (As := []) (rest := []) ⟨hx, hb, hml, hown, hg⟩ (c_X12_asTold l D cy B ha0 hr26) (z_cwV hg zw_1264 zw_1265 zw_1506 zw_13 zw_1266 zh_X12_asTold ⟨(Nat.le_of_ble_eq_true rfl), (Nat.le_of_ble_eq_true rfl)⟩) (zPV hC hM ha0 (by decide) rfl) rfl rfl hl.1 rfl (lv_room (Nat.le_of_ble_eq_true rfl)) dX12_moved_53 ⟨(Nat.le_of_ble_eq_true rfl), (Nat.le_of_ble_eq_true rfl)⟩) hS (fun H locs hM hX28 hS => ?_)
            have h30 := ha0.mo hX28
            have hX31 := hX0.tr hX28
            refine lv_bipush (v := (-4 : Int32)) hx hb dX12_moved_56 (by decide +kernel) ?_
            refine lv_istore (i := 5) (lv' := [(5, .int (-4 : Int32)), (0, .ref (B + a0)), (1, .int v1), (2, .int v2), (3, .int v3), (4, .int v4)]) hx hb dX12_moved_58 hl (by decide) rfl (fun ls hl => ?_)
            refine lv_iconst (v := (0 : Int32)) hx hb dX12_moved_60 (by decide +kernel) ?_
            refine lv_istore (i := 6) (lv' := [(6, .int (0 : Int32)), (5, .int (-4 : Int32)), (0, .ref (B + a0)), (1, .int v1), (2, .int v2), (3, .int v3), (4, .int v4)]) hx hb dX12_moved_61 hl (by decide) rfl (fun ls hl => ?_)
            refine lv_aload_n hx hb dX12_moved_63 rfl (lv_at hl 2 rfl) ?_
            refine lv_iload_n hx hb dX12_moved_64 rfl (lv_at hl 4 rfl) ?_
            refine z_putI hx hb hg zin_12 tyX12 tyX12_ok nmX12 hown hK hM hS h30 34 rfl (by decide) (hg _ zw_1034) (fun _ h9 => h9) (Or.inl rfl) (tyX12_ok 34 (by decide)) rfl rfl dX12_moved_65 (fun H locs hM hS => ?_)
            obtain ⟨S32, e33, h⟩ := zlg h
            rw [← e33] at hM
            have hX34 : zX S27 S32 := by rw [e33]; exact zX_pI
            have h35 := h30.mo hX34
            have hX36 := hX31.tr hX34
            refine lv_iconst (v := (0 : Int32)) hx hb dX12_moved_68 (by decide +kernel) ?_
            refine lv_istore (i := 7) (lv' := [(7, .int (0 : Int32)), (6, .int (0 : Int32)), (5, .int (-4 : Int32)), (0, .ref (B + a0)), (1, .int v1), (2, .int v2), (3, .int v3), (4, .int v4)]) hx hb dX12_moved_69 hl (by decide) rfl (fun ls hl => ?_)
            obtain ⟨K42, eK42, h⟩ := zlg h
            have hK42 : ∀ (x38 : Int32) (x39 : Int32) (S40 : zM) (H : Heap) (locs : List Loc), zMR D cy B S40 H → zX S0 S40 → va_S (fun q => B < q) s.heap H locs → zA S40 a0 12 → ∀ ls : Array Slot, lv_has ls 9 [(0, .ref (B + a0)), (4, .int v4), (5, .int x38), (6, .int x39)] → K42 x38 x39 S40 = some (r, S') → W p l e (headSpec (zws yX12_moved cX12_moved 9 ((some .int))) { frames := 36, cells := 0, slots := 0, locals := 832 }).room s m (([.ref (B + a0), .int v1, .int v2, .int v3, .int v4] : List Value).toArray) below meth c H locs 0 0 (MQ below (zQi D cy B S0 r S') (([.ref (B + a0), .int v1, .int v2, .int v3, .int v4] : List Value).toArray) s 0 0 (fun q => B < q)) (F0 m 134 ls []) := by
              intro x38 x39 S40 H locs hM hX41 hS h37 ls hl h
              rw [eK42] at h
              refine lv_aload_n hx hb dX12_moved_134 rfl (lv_at hl 0 rfl) ?_
              refine lv_iconst (v := (0 : Int32)) hx hb dX12_moved_135 (by decide +kernel) ?_
              refine z_putI hx hb hg zin_12 tyX12 tyX12_ok nmX12 hown hK hM hS h37 33 rfl (by decide) (hg _ zw_1033) (fun _ h9 => h9) (Or.inl rfl) (tyX12_ok 33 (by decide)) rfl rfl dX12_moved_136 (fun H locs hM hS => ?_)
              obtain ⟨S43, e44, h⟩ := zlg h
              rw [← e44] at hM
              have hX45 : zX S40 S43 := by rw [e44]; exact zX_pI
              have hX46 := hX41.tr hX45
              refine lv_iload hx hb dX12_moved_139 (lv_at hl 1 rfl) ?_
              refine lv_if_ne (tgt := 149) hx hb dX12_moved_141 (by decide) (fun hc47 => ?_) (fun hc47 => ?_)
              · have h := zf h hc47
                refine lv_iload hx hb dX12_moved_149 (lv_at hl 2 rfl) ?_
                exact z_iret hx hb hr hlk hM hX46 hS (zsp h) dX12_moved_151
              · have h := zt h hc47
                refine lv_iload hx hb dX12_moved_144 (lv_at hl 3 rfl) ?_
                refine lv_goto (tgt := 151) hx hb dX12_moved_146 (by decide) ?_
                exact z_iret hx hb hr hlk hM hX46 hS (zsp h) dX12_moved_151
            have hL71 : ∀ (k : Nat) (x49 : Int32) (x50 : Int32) (x51 : Int32) (S52 : zM) (H : Heap) (locs : List Loc), zMR D cy B S52 H → zX S0 S52 → va_S (fun q => B < q) s.heap H locs → zA S52 a0 12 → ∀ ls : Array Slot, lv_has ls 9 [(0, .ref (B + a0)), (1, .int v1), (2, .int v2), (3, .int v3), (4, .int v4), (5, .int x49), (6, .int x50), (7, .int x51)] → f_X12_moved_L71 n a0 v1 v2 v3 K42 k x49 x50 x51 S52 = some (r, S') → W p l e (headSpec (zws yX12_moved cX12_moved 9 ((some .int))) { frames := 36, cells := 0, slots := 0, locals := 832 }).room s m (([.ref (B + a0), .int v1, .int v2, .int v3, .int v4] : List Value).toArray) below meth c H locs 0 0 (MQ below (zQi D cy B S0 r S') (([.ref (B + a0), .int v1, .int v2, .int v3, .int v4] : List Value).toArray) s 0 0 (fun q => B < q)) (F0 m 71 ls []) := by
              intro k
              induction k with
              | zero =>
                intro x49 x50 x51 S52 H locs hM hX53 hS h48 ls hl h
                exact znone h
              | succ k ih71 =>
                intro x49 x50 x51 S52 H locs hM hX53 hS h48 ls hl h
                replace h : f_X12_moved_L71b n a0 v1 v2 v3 K42 (f_X12_moved_L71 n a0 v1 v2 v3 K42 k) x49 x50 x51 S52 = some (r, S') := h
                generalize f_X12_moved_L71 n a0 v1 v2 v3 K42 k = rec71 at ih71 h
                unfold f_X12_moved_L71b at h
                refine lv_iload hx hb dX12_moved_71 (lv_at hl 7 rfl) ?_
                refine lv_sipush (v := (128 : Int32)) hx hb dX12_moved_73 (by decide +kernel) ?_
                refine lv_icmp_ge (tgt := 134) hx hb dX12_moved_76 (by decide) (fun hc54 => ?_) (fun hc54 => ?_)
                · have h := zt h hc54
                  exact hK42 x49 x50 S52 _ _ hM hX53 hS h48 _ (lv_sub hl [0, 4, 5, 6] rfl) h
                · have h := zf h hc54
                  refine lv_iload hx hb dX12_moved_79 (lv_at hl 7 rfl) ?_
                  obtain ⟨r56, hr55, h⟩ := zb1 h
                  refine z_runi (va_runS (As := [.int x51]) (rest := []) ⟨hx, hb, hml, hown, hg⟩ (c_X12_bits l D cy B hr55) (z_cwS hg zw_1321 zw_1322 zw_13 zw_1323 zh_X12_bits.2 ⟨(Nat.le_of_ble_eq_true rfl), (Nat.le_of_ble_eq_true rfl)⟩) (zPS hC hM) rfl rfl hl.1 rfl (lv_room (Nat.le_of_ble_eq_true rfl)) dX12_moved_81 ⟨(Nat.le_of_ble_eq_true rfl), (Nat.le_of_ble_eq_true rfl)⟩) hS (fun H locs hM hX57 hS => ?_)
                  refine lv_iload_n hx hb dX12_moved_84 rfl (lv_at hl 3 rfl) ?_
                  refine lv_icmp_eq (tgt := 91) hx hb dX12_moved_85 (by decide) (fun hc59 => ?_) (fun hc59 => ?_)
                  · have h := zt h hc59
                    refine lv_aload_n hx hb dX12_moved_91 rfl (lv_at hl 0 rfl) ?_
                    refine lv_iload hx hb dX12_moved_92 (lv_at hl 7 rfl) ?_
                    refine z_putI hx hb hg zin_12 tyX12 tyX12_ok nmX12 hown hK hM hS h48 33 rfl (by decide) (hg _ zw_1033) (fun _ h9 => h9) (Or.inl rfl) (tyX12_ok 33 (by decide)) rfl rfl dX12_moved_94 (fun H locs hM hS => ?_)
                    obtain ⟨S60, e61, h⟩ := zlg h
                    rw [← e61] at hM
                    have hX62 : zX S52 S60 := by rw [e61]; exact zX_pI
                    have h63 := h48.mo hX62
                    have hX64 := hX53.tr hX62
                    refine lv_aload_n hx hb dX12_moved_97 rfl (lv_at hl 0 rfl) ?_
                    refine lv_iload_n hx hb dX12_moved_98 rfl (lv_at hl 1 rfl) ?_
                    refine lv_iload_n hx hb dX12_moved_99 rfl (lv_at hl 2 rfl) ?_
                    obtain ⟨r66, S67, hr65, h⟩ := zb2 h
                    refine z_runi (va_runV (As := [.int v1, .int v2]) (rest := []) ⟨hx, hb, hml, hown, hg⟩ (c_X12_placeNow l D cy B h63 hr65) (z_cwV hg zw_1300 zw_1301 zw_1515 zw_13 zw_1302 zh_X12_placeNow ⟨(Nat.le_of_ble_eq_true rfl), (Nat.le_of_ble_eq_true rfl)⟩) (zPV hC hM h63 (by decide) rfl) rfl rfl hl.1 rfl (lv_room (Nat.le_of_ble_eq_true rfl)) dX12_moved_100 ⟨(Nat.le_of_ble_eq_true rfl), (Nat.le_of_ble_eq_true rfl)⟩) hS (fun H locs hM hX68 hS => ?_)
                    have h70 := h63.mo hX68
                    have hX71 := hX64.tr hX68
                    refine lv_istore (i := 8) (lv' := [(8, .int r66), (0, .ref (B + a0)), (1, .int v1), (2, .int v2), (3, .int v3), (4, .int v4), (5, .int x49), (6, .int x50), (7, .int x51)]) hx hb dX12_moved_103 hl (by decide) rfl (fun ls hl => ?_)
                    refine lv_iload hx hb dX12_moved_105 (lv_at hl 6 rfl) ?_
                    obtain ⟨K74, eK74, h⟩ := zlg h
                    have hK74 : ∀ (H : Heap) (locs : List Loc), zMR D cy B S67 H → zX S0 S67 → va_S (fun q => B < q) s.heap H locs → zA S67 a0 12 → ∀ ls : Array Slot, lv_has ls 9 [(0, .ref (B + a0)), (1, .int v1), (2, .int v2), (3, .int v3), (4, .int v4), (7, .int x51), (8, .int r66)] → K74 = some (r, S') → W p l e (headSpec (zws yX12_moved cX12_moved 9 ((some .int))) { frames := 36, cells := 0, slots := 0, locals := 832 }).room s m (([.ref (B + a0), .int v1, .int v2, .int v3, .int v4] : List Value).toArray) below meth c H locs 0 0 (MQ below (zQi D cy B S0 r S') (([.ref (B + a0), .int v1, .int v2, .int v3, .int v4] : List Value).toArray) s 0 0 (fun q => B < q)) (F0 m 120 ls []) := by
                      intro H locs hM hX73 hS h72 ls hl h
                      rw [eK74] at h
                      refine lv_iload hx hb dX12_moved_120 (lv_at hl 5 rfl) ?_
                      refine lv_istore (i := 5) (lv' := [(5, .int x51), (0, .ref (B + a0)), (1, .int v1), (2, .int v2), (3, .int v3), (4, .int v4), (7, .int x51), (8, .int r66)]) hx hb dX12_moved_122 hl (by decide) rfl (fun ls hl => ?_)
                      refine lv_iload hx hb dX12_moved_124 (lv_at hl 7 rfl) ?_
                      refine lv_istore (i := 6) (lv' := [(6, .int r66), (5, .int x51), (0, .ref (B + a0)), (1, .int v1), (2, .int v2), (3, .int v3), (4, .int v4), (7, .int x51), (8, .int r66)]) hx hb dX12_moved_126 hl (by decide) rfl (fun ls hl => ?_)
                      refine lv_iinc (v := (x51 + (1 : Int32))) (lv' := [(7, .int (x51 + (1 : Int32))), (6, .int r66), (5, .int x51), (0, .ref (B + a0)), (1, .int v1), (2, .int v2), (3, .int v3), (4, .int v4), (8, .int r66)]) hx hb dX12_moved_128 hl (k := 7) rfl rfl (by decide) rfl (fun ls hl => ?_)
                      refine lv_goto (tgt := 71) hx hb dX12_moved_131 (by decide) ?_
                      exact ih71 x51 r66 (x51 + (1 : Int32)) S67 _ _ hM hX73 hS h72 _ (lv_sub hl [3, 4, 5, 6, 7, 2, 1, 0] rfl) h
                    refine lv_if_lt (tgt := 120) hx hb dX12_moved_107 (by decide) (fun hc75 => ?_) (fun hc75 => ?_)
                    · have h := zt h hc75
                      exact hK74 _ _ hM hX71 hS h70 _ (lv_sub hl [1, 2, 3, 4, 5, 8, 0] rfl) h
                    · have h := zf h hc75
                      refine lv_iload hx hb dX12_moved_110 (lv_at hl 0 rfl) ?_
                      refine lv_iload hx hb dX12_moved_112 (lv_at hl 7 rfl) ?_
                      refine lv_icmp_lt (tgt := 120) hx hb dX12_moved_114 (by decide) (fun hc76 => ?_) (fun hc76 => ?_)
                      · have h := zt h hc76
                        exact hK74 _ _ hM hX71 hS h70 _ (lv_sub hl [1, 2, 3, 4, 5, 8, 0] rfl) h
                      · have h := zf h hc76
                        refine lv_goto (tgt := 128) hx hb dX12_moved_117 (by decide) ?_
                        refine lv_iinc (v := (x51 + (1 : Int32))) (lv' := [(7, .int (x51 + (1 : Int32))), (8, .int r66), (0, .ref (B + a0)), (1, .int v1), (2, .int v2), (3, .int v3), (4, .int v4), (5, .int x49), (6, .int x50)]) hx hb dX12_moved_128 hl (k := 8) rfl rfl (by decide) rfl (fun ls hl => ?_)
                        refine lv_goto (tgt := 71) hx hb dX12_moved_131 (by decide) ?_
                        exact ih71 x49 x50 (x51 + (1 : Int32)) S67 _ _ hM hX71 hS h70 _ (lv_sub hl [2, 3, 4, 5, 6, 7, 8, 0] rfl) h
                  · have h := zf h hc59
                    refine lv_goto (tgt := 128) hx hb dX12_moved_88 (by decide) ?_
                    refine lv_iinc (v := (x51 + (1 : Int32))) (lv' := [(7, .int (x51 + (1 : Int32))), (0, .ref (B + a0)), (1, .int v1), (2, .int v2), (3, .int v3), (4, .int v4), (5, .int x49), (6, .int x50)]) hx hb dX12_moved_128 hl (k := 7) rfl rfl (by decide) rfl (fun ls hl => ?_)
                    refine lv_goto (tgt := 71) hx hb dX12_moved_131 (by decide) ?_
                    exact ih71 x49 x50 (x51 + (1 : Int32)) S52 _ _ hM hX53 hS h48 _ (lv_sub hl [1, 2, 3, 4, 5, 6, 7, 0] rfl) h
            exact hL71 n (-4 : Int32) (0 : Int32) (0 : Int32) S32 _ _ hM hX36 hS h35 _ (lv_sub hl [3, 4, 5, 6, 7, 2, 1, 0] rfl) h
          · have h := zt h hc25
            refine lv_bipush (v := (-4 : Int32)) hx hb dX12_moved_49 (by decide +kernel) ?_
            exact z_iret hx hb hr hlk hM hX0 hS (zsp h) dX12_moved_51
        · have h := zt h hc20
          refine lv_iconst (v := (-1 : Int32)) hx hb dX12_moved_38 (by decide +kernel) ?_
          exact z_iret hx hb hr hlk hM hX0 hS (zsp h) dX12_moved_39
def f_X12_findLean_L54b (a0 : Nat) (v1 : Int32) (x15 : Int32) (r30 : Int32) (K39 : zM → Option (zM)) (rec54 : Int32 → zM → Option (zM)) (x41 : Int32) (S42 : zM) : Option (zM) :=
  if (7 : Int32) ≤ x41 then K39 S42 else zB1 (f_X12_markOf S42 a0 x15 x41) (fun r46 => if r46 < 0 then rec54 (x41 + (1 : Int32)) S42 else zB1 (f_X12_get S42 a0 x15 ((12 : Int32) + x41)) (fun r51 => if (r51 - (1 : Int32)) = v1 then zB1 (f_X12_markOf S42 a0 x15 x41) (fun r56 => zLet (zpI S42 a0 35 ((zi S42 a0 35) + (r56 - r30))) (fun S59 => zLet (fun (x65 : Int32) => zLet (zpI S59 a0 37 x65) (fun S68 => zLet (fun (x74 : Int32) => zLet (zpI S68 a0 38 x74) (fun S77 => zLet (zpI S77 a0 36 ((zi S77 a0 36) + (1 : Int32))) (fun S82 => rec54 (x41 + (1 : Int32)) S82))) (fun K76 => zLet (K76 (r56 - r30)) (fun K89 => if (zi S68 a0 36) = 0 then K89 else if (r56 - r30) ≤ (zi S68 a0 38) then K76 (zi S68 a0 38) else K89)))) (fun K67 => zLet (K67 (r56 - r30)) (fun K94 => if (zi S59 a0 36) = 0 then K94 else if (zi S59 a0 37) ≤ (r56 - r30) then K67 (zi S59 a0 37) else K94)))) else rec54 (x41 + (1 : Int32)) S42))
def f_X12_findLean_L54 (a0 : Nat) (v1 : Int32) (x15 : Int32) (r30 : Int32) (K39 : zM → Option (zM)) : Nat → Int32 → zM → Option (zM)
  | 0 => fun _ _ => none
  | k + 1 => fun x41 S42 => f_X12_findLean_L54b a0 v1 x15 r30 K39 (f_X12_findLean_L54 a0 v1 x15 r30 K39 k) x41 S42
def f_X12_findLean_L12b (n : Nat) (a0 : Nat) (v1 : Int32) (v2 : Int32) (K13 : zM → Option (zM)) (rec12 : Int32 → zM → Option (zM)) (x15 : Int32) (S16 : zM) : Option (zM) :=
  zChk (¬ (zr S16 a0 0) = 0) (zChk (¬ ((1003 : Int32) < 0 ∨ zln S16 (zr S16 a0 0) ≤ ((1003 : Int32)).toNatClampNeg)) (if (zi S16 (zr S16 a0 0) (Int32.toNatClampNeg (1003 : Int32))) ≤ x15 then K13 S16 else zB1 (f_X12_get S16 a0 x15 (1 : Int32)) (fun r24 => zChk (¬ (((2 : Int32) * r24) < 0 ∨ zln S16 (zr S16 a0 0) ≤ (((2 : Int32) * r24)).toNatClampNeg)) (if (zi S16 (zr S16 a0 0) (Int32.toNatClampNeg ((2 : Int32) * r24))) = v2 then zB2 (f_X12_middleOf n S16 a0 x15) (fun r30 S31 => zLet (fun (S37 : zM) => rec12 (x15 + (1 : Int32)) S37) (fun K39 => f_X12_findLean_L54 a0 v1 x15 r30 K39 n (0 : Int32) S31)) else rec12 (x15 + (1 : Int32)) S16))))
def f_X12_findLean_L12 (n : Nat) (a0 : Nat) (v1 : Int32) (v2 : Int32) (K13 : zM → Option (zM)) : Nat → Int32 → zM → Option (zM)
  | 0 => fun _ _ => none
  | k + 1 => fun x15 S16 => f_X12_findLean_L12b n a0 v1 v2 K13 (f_X12_findLean_L12 n a0 v1 v2 K13 k) x15 S16
def f_X12_findLean (n : Nat) (S0 : zM) (a0 : Nat) (v1 : Int32) (v2 : Int32) : Option (zM) :=
  zLet (zpI S0 a0 35 (0 : Int32)) (fun S1 => zLet (zpI S1 a0 36 (0 : Int32)) (fun S6 => zLet (fun (S11 : zM) => some S11) (fun K13 => f_X12_findLean_L12 n a0 v1 v2 K13 n (0 : Int32) S6)))
set_option maxHeartbeats 4000000 in
set_option maxRecDepth 100000 in
theorem c_X12_findLean (l : Launch) (D : va_G) (cy : Nat → ClassId) (B : Nat) {n : Nat} {S0 : zM} {a0 : Nat} {v1 : Int32} {v2 : Int32} {S' : zM} (ha0 : zA S0 a0 12) (h : f_X12_findLean n S0 a0 v1 v2 = some S') : Met l yX12_findLean (zws yX12_findLean cX12_findLean 7 none) { frames := 4, cells := 0, slots := 0, locals := 91 } (zPc D cy B S0 [.ref (B + a0), .int v1, .int v2]) (zQv D cy B S0 S') 0 0 (fun q => B < q) := by
  refine Met.ofW (cc := cX12_findLean) (maxL := 7) (ret := none) (by decide) rfl ?_
  intro p e s m args below meth c s₁ Bd hml hv
  obtain ⟨rfl, hC, hM⟩ := hv
  obtain ⟨hx, hb, hr, hg, hown, hlk⟩ := z_open Bd
  have hK := hC.1
  have hS : va_S (fun q => B < q) s.heap s.heap [] := va_S.rf
  have hX0 : zX S0 S0 := zX.rf
  refine z_entry (vs := [.ref (B + a0), .int v1, .int v2]) (Nat.le_of_ble_eq_true rfl) (fun ls hl => ?_)
  have hl : lv_has ls 7 [(0, .ref (B + a0)), (1, .int v1), (2, .int v2)] := hl
  unfold f_X12_findLean at h
  refine lv_aload_n hx hb dX12_findLean_0 rfl (lv_at hl 0 rfl) ?_
  refine lv_iconst (v := (0 : Int32)) hx hb dX12_findLean_1 (by decide +kernel) ?_
  refine z_putI hx hb hg zin_12 tyX12 tyX12_ok nmX12 hown hK hM hS ha0 35 rfl (by decide) (hg _ zw_1035) (fun _ h9 => h9) (Or.inl rfl) (tyX12_ok 35 (by decide)) rfl rfl dX12_findLean_2 (fun H locs hM hS => ?_)
  obtain ⟨S1, e2, h⟩ := zlg h
  rw [← e2] at hM
  have hX3 : zX S0 S1 := by rw [e2]; exact zX_pI
  have h4 := ha0.mo hX3
  have hX5 := hX0.tr hX3
  refine lv_aload_n hx hb dX12_findLean_5 rfl (lv_at hl 0 rfl) ?_
  refine lv_iconst (v := (0 : Int32)) hx hb dX12_findLean_6 (by decide +kernel) ?_
  refine z_putI hx hb hg zin_12 tyX12 tyX12_ok nmX12 hown hK hM hS h4 36 rfl (by decide) (hg _ zw_1036) (fun _ h9 => h9) (Or.inl rfl) (tyX12_ok 36 (by decide)) rfl rfl dX12_findLean_7 (fun H locs hM hS => ?_)
  obtain ⟨S6, e7, h⟩ := zlg h
  rw [← e7] at hM
  have hX8 : zX S1 S6 := by rw [e7]; exact zX_pI
  have h9 := h4.mo hX8
  have hX10 := hX5.tr hX8
  refine lv_iconst (v := (0 : Int32)) hx hb dX12_findLean_10 (by decide +kernel) ?_
  refine lv_istore_n (i := 3) (lv' := [(3, .int (0 : Int32)), (0, .ref (B + a0)), (1, .int v1), (2, .int v2)]) hx hb dX12_findLean_11 rfl hl (by decide) rfl (fun ls hl => ?_)
  obtain ⟨K13, eK13, h⟩ := zlg h
  have hK13 : ∀ (S11 : zM) (H : Heap) (locs : List Loc), zMR D cy B S11 H → zX S0 S11 → va_S (fun q => B < q) s.heap H locs → ∀ ls : Array Slot, lv_has ls 7 [] → K13 S11 = some S' → W p l e (headSpec (zws yX12_findLean cX12_findLean 7 none) { frames := 4, cells := 0, slots := 0, locals := 91 }).room s m (([.ref (B + a0), .int v1, .int v2] : List Value).toArray) below meth c H locs 0 0 (MQ below (zQv D cy B S0 S') (([.ref (B + a0), .int v1, .int v2] : List Value).toArray) s 0 0 (fun q => B < q)) (F0 m 193 ls []) := by
    intro S11 H locs hM hX12 hS ls hl h
    rw [eK13] at h
    exact z_vret hx hb hr hlk hM hX12 hS (zsm h) dX12_findLean_193
  have hL12 : ∀ (k : Nat) (x15 : Int32) (S16 : zM) (H : Heap) (locs : List Loc), zMR D cy B S16 H → zX S0 S16 → va_S (fun q => B < q) s.heap H locs → zA S16 a0 12 → ∀ ls : Array Slot, lv_has ls 7 [(0, .ref (B + a0)), (1, .int v1), (2, .int v2), (3, .int x15)] → f_X12_findLean_L12 n a0 v1 v2 K13 k x15 S16 = some S' → W p l e (headSpec (zws yX12_findLean cX12_findLean 7 none) { frames := 4, cells := 0, slots := 0, locals := 91 }).room s m (([.ref (B + a0), .int v1, .int v2] : List Value).toArray) below meth c H locs 0 0 (MQ below (zQv D cy B S0 S') (([.ref (B + a0), .int v1, .int v2] : List Value).toArray) s 0 0 (fun q => B < q)) (F0 m 12 ls []) := by
    intro k
    induction k with
    | zero =>
      intro x15 S16 H locs hM hX17 hS h14 ls hl h
      exact znone h
    | succ k ih12 =>
      intro x15 S16 H locs hM hX17 hS h14 ls hl h
      replace h : f_X12_findLean_L12b n a0 v1 v2 K13 (f_X12_findLean_L12 n a0 v1 v2 K13 k) x15 S16 = some S' := h
      generalize f_X12_findLean_L12 n a0 v1 v2 K13 k = rec12 at ih12 h
      unfold f_X12_findLean_L12b at h
      refine lv_iload_n hx hb dX12_findLean_12 rfl (lv_at hl 3 rfl) ?_
      refine lv_aload_n hx hb dX12_findLean_13 rfl (lv_at hl 0 rfl) ?_
      obtain ⟨hq19, h⟩ := zk h
      refine z_getN hx hb hg zin_12 hown hK hM h14 0 rfl (by decide) (hg _ zw_1000) (fun _ h9 => h9) hq19 dX12_findLean_14 (fun h18 => ?_)
      refine lv_sipush (v := (1003 : Int32)) hx hb dX12_findLean_17 (by decide +kernel) ?_
      obtain ⟨hq20, h⟩ := zk h
      refine z_iald hx hb hK hM h18 hq20 dX12_findLean_20 ?_
      refine lv_icmp_ge (tgt := 193) hx hb dX12_findLean_21 (by decide) (fun hc21 => ?_) (fun hc21 => ?_)
      · have h := zt h hc21
        exact hK13 S16 _ _ hM hX17 hS _ (lv_sub hl [] rfl) h
      · have h := zf h hc21
        refine lv_aload_n hx hb dX12_findLean_24 rfl (lv_at hl 0 rfl) ?_
        refine z_getN hx hb hg zin_12 hown hK hM h14 0 rfl (by decide) (hg _ zw_1000) (fun _ h9 => h9) h18.ne dX12_findLean_25 (fun h22 => ?_)
        refine lv_iconst (v := (2 : Int32)) hx hb dX12_findLean_28 (by decide +kernel) ?_
        refine lv_aload_n hx hb dX12_findLean_29 rfl (lv_at hl 0 rfl) ?_
        refine lv_iload_n hx hb dX12_findLean_30 rfl (lv_at hl 3 rfl) ?_
        refine lv_iconst (v := (1 : Int32)) hx hb dX12_findLean_31 (by decide +kernel) ?_
        obtain ⟨r24, hr23, h⟩ := zb1 h
        refine z_runi (va_runV (As := [.int x15, .int (1 : Int32)]) (rest := [.int (2 : Int32), .ref (B + (zr S16 a0 0))]) ⟨hx, hb, hml, hown, hg⟩ (c_X12_get l D cy B h14 hr23) (z_cwV hg zw_1163 zw_1164 zw_1487 zw_13 zw_1165 zh_X12_get ⟨(Nat.le_of_ble_eq_true rfl), (Nat.le_of_ble_eq_true rfl)⟩) (zPV hC hM h14 (by decide) rfl) rfl rfl hl.1 rfl (lv_room (Nat.le_of_ble_eq_true rfl)) dX12_findLean_32 ⟨(Nat.le_of_ble_eq_true rfl), (Nat.le_of_ble_eq_true rfl)⟩) hS (fun H locs hM hX25 hS => ?_)
        refine lv_imul hx hb dX12_findLean_35 ?_
        obtain ⟨hq27, h⟩ := zk h
        refine z_iald hx hb hK hM h22 hq27 dX12_findLean_36 ?_
        refine lv_iload_n hx hb dX12_findLean_37 rfl (lv_at hl 2 rfl) ?_
        refine lv_icmp_eq (tgt := 44) hx hb dX12_findLean_38 (by decide) (fun hc28 => ?_) (fun hc28 => ?_)
        · have h := zt h hc28
          refine lv_aload_n hx hb dX12_findLean_44 rfl (lv_at hl 0 rfl) ?_
          refine lv_iload_n hx hb dX12_findLean_45 rfl (lv_at hl 3 rfl) ?_
          obtain ⟨r30, S31, hr29, h⟩ := zb2 h
          refine z_runi (va_runV (As := [.int x15]) (rest := []) ⟨hx, hb, hml, hown, hg⟩ (c_X12_middleOf l D cy B h14 hr29) (z_cwV hg zw_1331 zw_1332 zw_1518 zw_13 zw_1333 zh_X12_middleOf ⟨(Nat.le_of_ble_eq_true rfl), (Nat.le_of_ble_eq_true rfl)⟩) (zPV hC hM h14 (by decide) rfl) rfl rfl hl.1 rfl (lv_room (Nat.le_of_ble_eq_true rfl)) dX12_findLean_46 ⟨(Nat.le_of_ble_eq_true rfl), (Nat.le_of_ble_eq_true rfl)⟩) hS (fun H locs hM hX32 hS => ?_)
          have h34 := h14.mo hX32
          have hX35 := hX17.tr hX32
          refine lv_istore (i := 4) (lv' := [(4, .int r30), (0, .ref (B + a0)), (1, .int v1), (2, .int v2), (3, .int x15)]) hx hb dX12_findLean_49 hl (by decide) rfl (fun ls hl => ?_)
          refine lv_iconst (v := (0 : Int32)) hx hb dX12_findLean_51 (by decide +kernel) ?_
          refine lv_istore (i := 5) (lv' := [(5, .int (0 : Int32)), (4, .int r30), (0, .ref (B + a0)), (1, .int v1), (2, .int v2), (3, .int x15)]) hx hb dX12_findLean_52 hl (by decide) rfl (fun ls hl => ?_)
          obtain ⟨K39, eK39, h⟩ := zlg h
          have hK39 : ∀ (S37 : zM) (H : Heap) (locs : List Loc), zMR D cy B S37 H → zX S0 S37 → va_S (fun q => B < q) s.heap H locs → zA S37 a0 12 → ∀ ls : Array Slot, lv_has ls 7 [(0, .ref (B + a0)), (1, .int v1), (2, .int v2), (3, .int x15)] → K39 S37 = some S' → W p l e (headSpec (zws yX12_findLean cX12_findLean 7 none) { frames := 4, cells := 0, slots := 0, locals := 91 }).room s m (([.ref (B + a0), .int v1, .int v2] : List Value).toArray) below meth c H locs 0 0 (MQ below (zQv D cy B S0 S') (([.ref (B + a0), .int v1, .int v2] : List Value).toArray) s 0 0 (fun q => B < q)) (F0 m 187 ls []) := by
            intro S37 H locs hM hX38 hS h36 ls hl h
            rw [eK39] at h
            refine lv_iinc (v := (x15 + (1 : Int32))) (lv' := [(3, .int (x15 + (1 : Int32))), (0, .ref (B + a0)), (1, .int v1), (2, .int v2)]) hx hb dX12_findLean_187 hl (k := 3) rfl rfl (by decide) rfl (fun ls hl => ?_)
            refine lv_goto (tgt := 12) hx hb dX12_findLean_190 (by decide) ?_
            exact ih12 (x15 + (1 : Int32)) S37 _ _ hM hX38 hS h36 _ (lv_sub hl [1, 2, 3, 0] rfl) h
          have hL54 : ∀ (k : Nat) (x41 : Int32) (S42 : zM) (H : Heap) (locs : List Loc), zMR D cy B S42 H → zX S0 S42 → va_S (fun q => B < q) s.heap H locs → zA S42 a0 12 → ∀ ls : Array Slot, lv_has ls 7 [(0, .ref (B + a0)), (1, .int v1), (2, .int v2), (3, .int x15), (4, .int r30), (5, .int x41)] → f_X12_findLean_L54 a0 v1 x15 r30 K39 k x41 S42 = some S' → W p l e (headSpec (zws yX12_findLean cX12_findLean 7 none) { frames := 4, cells := 0, slots := 0, locals := 91 }).room s m (([.ref (B + a0), .int v1, .int v2] : List Value).toArray) below meth c H locs 0 0 (MQ below (zQv D cy B S0 S') (([.ref (B + a0), .int v1, .int v2] : List Value).toArray) s 0 0 (fun q => B < q)) (F0 m 54 ls []) := by
            intro k
            induction k with
            | zero =>
              intro x41 S42 H locs hM hX43 hS h40 ls hl h
              exact znone h
            | succ k ih54 =>
              intro x41 S42 H locs hM hX43 hS h40 ls hl h
              replace h : f_X12_findLean_L54b a0 v1 x15 r30 K39 (f_X12_findLean_L54 a0 v1 x15 r30 K39 k) x41 S42 = some S' := h
              generalize f_X12_findLean_L54 a0 v1 x15 r30 K39 k = rec54 at ih54 h
              unfold f_X12_findLean_L54b at h
              refine lv_iload hx hb dX12_findLean_54 (lv_at hl 5 rfl) ?_
              refine lv_bipush (v := (7 : Int32)) hx hb dX12_findLean_56 (by decide +kernel) ?_
              refine lv_icmp_ge (tgt := 187) hx hb dX12_findLean_58 (by decide) (fun hc44 => ?_) (fun hc44 => ?_)
              · have h := zt h hc44
                exact hK39 S42 _ _ hM hX43 hS h40 _ (lv_sub hl [0, 1, 2, 3] rfl) h
              · have h := zf h hc44
                refine lv_aload_n hx hb dX12_findLean_61 rfl (lv_at hl 0 rfl) ?_
                refine lv_iload_n hx hb dX12_findLean_62 rfl (lv_at hl 3 rfl) ?_
                refine lv_iload hx hb dX12_findLean_63 (lv_at hl 5 rfl) ?_
                obtain ⟨r46, hr45, h⟩ := zb1 h
                refine z_runi (va_runV (As := [.int x15, .int x41]) (rest := []) ⟨hx, hb, hml, hown, hg⟩ (c_X12_markOf l D cy B h40 hr45) (z_cwV hg zw_1223 zw_1224 zw_1497 zw_13 zw_1225 zh_X12_markOf ⟨(Nat.le_of_ble_eq_true rfl), (Nat.le_of_ble_eq_true rfl)⟩) (zPV hC hM h40 (by decide) rfl) rfl rfl hl.1 rfl (lv_room (Nat.le_of_ble_eq_true rfl)) dX12_findLean_65 ⟨(Nat.le_of_ble_eq_true rfl), (Nat.le_of_ble_eq_true rfl)⟩) hS (fun H locs hM hX47 hS => ?_)
                refine lv_if_lt (tgt := 181) hx hb dX12_findLean_68 (by decide) (fun hc49 => ?_) (fun hc49 => ?_)
                · have h := zt h hc49
                  refine lv_iinc (v := (x41 + (1 : Int32))) (lv' := [(5, .int (x41 + (1 : Int32))), (0, .ref (B + a0)), (1, .int v1), (2, .int v2), (3, .int x15), (4, .int r30)]) hx hb dX12_findLean_181 hl (k := 5) rfl rfl (by decide) rfl (fun ls hl => ?_)
                  refine lv_goto (tgt := 54) hx hb dX12_findLean_184 (by decide) ?_
                  exact ih54 (x41 + (1 : Int32)) S42 _ _ hM hX43 hS h40 _ (lv_sub hl [1, 2, 3, 4, 5, 0] rfl) h
                · have h := zf h hc49
                  refine lv_aload_n hx hb dX12_findLean_71 rfl (lv_at hl 0 rfl) ?_
                  refine lv_iload_n hx hb dX12_findLean_72 rfl (lv_at hl 3 rfl) ?_
                  refine lv_bipush (v := (12 : Int32)) hx hb dX12_findLean_73 (by decide +kernel) ?_
                  refine lv_iload hx hb dX12_findLean_75 (lv_at hl 5 rfl) ?_
                  refine lv_iadd hx hb dX12_findLean_77 ?_
                  obtain ⟨r51, hr50, h⟩ := zb1 h
                  refine z_runi (va_runV (As := [.int x15, .int ((12 : Int32) + x41)]) (rest := []) ⟨hx, hb, hml, hown, hg⟩ (c_X12_get l D cy B h40 hr50) (z_cwV hg zw_1163 zw_1164 zw_1487 zw_13 zw_1165 zh_X12_get ⟨(Nat.le_of_ble_eq_true rfl), (Nat.le_of_ble_eq_true rfl)⟩) (zPV hC hM h40 (by decide) rfl) rfl rfl hl.1 rfl (lv_room (Nat.le_of_ble_eq_true rfl)) dX12_findLean_78 ⟨(Nat.le_of_ble_eq_true rfl), (Nat.le_of_ble_eq_true rfl)⟩) hS (fun H locs hM hX52 hS => ?_)
                  refine lv_iconst (v := (1 : Int32)) hx hb dX12_findLean_81 (by decide +kernel) ?_
                  refine lv_isub hx hb dX12_findLean_82 ?_
                  refine lv_iload_n hx hb dX12_findLean_83 rfl (lv_at hl 1 rfl) ?_
                  refine lv_icmp_eq (tgt := 90) hx hb dX12_findLean_84 (by decide) (fun hc54 => ?_) (fun hc54 => ?_)
                  · have h := zt h hc54
                    refine lv_aload_n hx hb dX12_findLean_90 rfl (lv_at hl 0 rfl) ?_
                    refine lv_iload_n hx hb dX12_findLean_91 rfl (lv_at hl 3 rfl) ?_
                    refine lv_iload hx hb dX12_findLean_92 (lv_at hl 5 rfl) ?_
                    obtain ⟨r56, hr55, h⟩ := zb1 h
                    refine z_runi (va_runV (As := [.int x15, .int x41]) (rest := []) ⟨hx, hb, hml, hown, hg⟩ (c_X12_markOf l D cy B h40 hr55) (z_cwV hg zw_1223 zw_1224 zw_1497 zw_13 zw_1225 zh_X12_markOf ⟨(Nat.le_of_ble_eq_true rfl), (Nat.le_of_ble_eq_true rfl)⟩) (zPV hC hM h40 (by decide) rfl) rfl rfl hl.1 rfl (lv_room (Nat.le_of_ble_eq_true rfl)) dX12_findLean_94 ⟨(Nat.le_of_ble_eq_true rfl), (Nat.le_of_ble_eq_true rfl)⟩) hS (fun H locs hM hX57 hS => ?_)
                    refine lv_iload hx hb dX12_findLean_97 (lv_at hl 4 rfl) ?_
                    refine lv_isub hx hb dX12_findLean_99 ?_
                    refine lv_istore (i := 6) (lv' := [(6, .int (r56 - r30)), (0, .ref (B + a0)), (1, .int v1), (2, .int v2), (3, .int x15), (4, .int r30), (5, .int x41)]) hx hb dX12_findLean_100 hl (by decide) rfl (fun ls hl => ?_)
                    refine lv_aload_n hx hb dX12_findLean_102 rfl (lv_at hl 1 rfl) ?_
                    refine lv_dup hx hb dX12_findLean_103 rfl ?_
                    refine z_getI hx hb hg zin_12 hown hK hM h40 35 rfl (by decide) (hg _ zw_1035) (fun _ h9 => h9) dX12_findLean_104 ?_
                    refine lv_iload hx hb dX12_findLean_107 (lv_at hl 0 rfl) ?_
                    refine lv_iadd hx hb dX12_findLean_109 ?_
                    refine z_putI hx hb hg zin_12 tyX12 tyX12_ok nmX12 hown hK hM hS h40 35 rfl (by decide) (hg _ zw_1035) (fun _ h9 => h9) (Or.inl rfl) (tyX12_ok 35 (by decide)) rfl rfl dX12_findLean_110 (fun H locs hM hS => ?_)
                    obtain ⟨S59, e60, h⟩ := zlg h
                    rw [← e60] at hM
                    have hX61 : zX S42 S59 := by rw [e60]; exact zX_pI
                    have h62 := h40.mo hX61
                    have hX63 := hX43.tr hX61
                    refine lv_aload_n hx hb dX12_findLean_113 rfl (lv_at hl 1 rfl) ?_
                    refine lv_aload_n hx hb dX12_findLean_114 rfl (lv_at hl 1 rfl) ?_
                    refine z_getI hx hb hg zin_12 hown hK hM h62 36 rfl (by decide) (hg _ zw_1036) (fun _ h9 => h9) dX12_findLean_115 ?_
                    obtain ⟨K67, eK67, h⟩ := zlg h
                    have hK67 : ∀ (x65 : Int32) (H : Heap) (locs : List Loc), zMR D cy B S59 H → zX S0 S59 → va_S (fun q => B < q) s.heap H locs → zA S59 a0 12 → ∀ ls : Array Slot, lv_has ls 7 [(0, .ref (B + a0)), (1, .int v1), (2, .int v2), (3, .int x15), (4, .int r30), (5, .int x41), (6, .int (r56 - r30))] → K67 x65 = some S' → W p l e (headSpec (zws yX12_findLean cX12_findLean 7 none) { frames := 4, cells := 0, slots := 0, locals := 91 }).room s m (([.ref (B + a0), .int v1, .int v2] : List Value).toArray) below meth c H locs 0 0 (MQ below (zQv D cy B S0 S') (([.ref (B + a0), .int v1, .int v2] : List Value).toArray) s 0 0 (fun q => B < q)) (F0 m 139 ls [.int x65, .ref (B + a0)]) := by
                      intro x65 H locs hM hX66 hS h64 ls hl h
                      rw [eK67] at h
                      refine z_putI hx hb hg zin_12 tyX12 tyX12_ok nmX12 hown hK hM hS h64 37 rfl (by decide) (hg _ zw_1037) (fun _ h9 => h9) (Or.inl rfl) (tyX12_ok 37 (by decide)) rfl rfl dX12_findLean_139 (fun H locs hM hS => ?_)
                      obtain ⟨S68, e69, h⟩ := zlg h
                      rw [← e69] at hM
                      have hX70 : zX S59 S68 := by rw [e69]; exact zX_pI
                      have h71 := h64.mo hX70
                      have hX72 := hX66.tr hX70
                      refine lv_aload_n hx hb dX12_findLean_142 rfl (lv_at hl 0 rfl) ?_
                      refine lv_aload_n hx hb dX12_findLean_143 rfl (lv_at hl 0 rfl) ?_
                      refine z_getI hx hb hg zin_12 hown hK hM h71 36 rfl (by decide) (hg _ zw_1036) (fun _ h9 => h9) dX12_findLean_144 ?_
                      obtain ⟨K76, eK76, h⟩ := zlg h
                      have hK76 : ∀ (x74 : Int32) (H : Heap) (locs : List Loc), zMR D cy B S68 H → zX S0 S68 → va_S (fun q => B < q) s.heap H locs → zA S68 a0 12 → ∀ ls : Array Slot, lv_has ls 7 [(0, .ref (B + a0)), (1, .int v1), (2, .int v2), (3, .int x15), (4, .int r30), (5, .int x41)] → K76 x74 = some S' → W p l e (headSpec (zws yX12_findLean cX12_findLean 7 none) { frames := 4, cells := 0, slots := 0, locals := 91 }).room s m (([.ref (B + a0), .int v1, .int v2] : List Value).toArray) below meth c H locs 0 0 (MQ below (zQv D cy B S0 S') (([.ref (B + a0), .int v1, .int v2] : List Value).toArray) s 0 0 (fun q => B < q)) (F0 m 168 ls [.int x74, .ref (B + a0)]) := by
                        intro x74 H locs hM hX75 hS h73 ls hl h
                        rw [eK76] at h
                        refine z_putI hx hb hg zin_12 tyX12 tyX12_ok nmX12 hown hK hM hS h73 38 rfl (by decide) (hg _ zw_1038) (fun _ h9 => h9) (Or.inl rfl) (tyX12_ok 38 (by decide)) rfl rfl dX12_findLean_168 (fun H locs hM hS => ?_)
                        obtain ⟨S77, e78, h⟩ := zlg h
                        rw [← e78] at hM
                        have hX79 : zX S68 S77 := by rw [e78]; exact zX_pI
                        have h80 := h73.mo hX79
                        have hX81 := hX75.tr hX79
                        refine lv_aload_n hx hb dX12_findLean_171 rfl (lv_at hl 0 rfl) ?_
                        refine lv_dup hx hb dX12_findLean_172 rfl ?_
                        refine z_getI hx hb hg zin_12 hown hK hM h80 36 rfl (by decide) (hg _ zw_1036) (fun _ h9 => h9) dX12_findLean_173 ?_
                        refine lv_iconst (v := (1 : Int32)) hx hb dX12_findLean_176 (by decide +kernel) ?_
                        refine lv_iadd hx hb dX12_findLean_177 ?_
                        refine z_putI hx hb hg zin_12 tyX12 tyX12_ok nmX12 hown hK hM hS h80 36 rfl (by decide) (hg _ zw_1036) (fun _ h9 => h9) (Or.inl rfl) (tyX12_ok 36 (by decide)) rfl rfl dX12_findLean_178 (fun H locs hM hS => ?_)
                        obtain ⟨S82, e83, h⟩ := zlg h
                        rw [← e83] at hM
                        have hX84 : zX S77 S82 := by rw [e83]; exact zX_pI
                        have h85 := h80.mo hX84
                        have hX86 := hX81.tr hX84
                        refine lv_iinc (v := (x41 + (1 : Int32))) (lv' := [(5, .int (x41 + (1 : Int32))), (0, .ref (B + a0)), (1, .int v1), (2, .int v2), (3, .int x15), (4, .int r30)]) hx hb dX12_findLean_181 hl (k := 5) rfl rfl (by decide) rfl (fun ls hl => ?_)
                        refine lv_goto (tgt := 54) hx hb dX12_findLean_184 (by decide) ?_
                        exact ih54 (x41 + (1 : Int32)) S82 _ _ hM hX86 hS h85 _ (lv_sub hl [1, 2, 3, 4, 5, 0] rfl) h
                      obtain ⟨K89, eK89, h⟩ := zlg h
                      have hK89 : ∀ (H : Heap) (locs : List Loc), zMR D cy B S68 H → zX S0 S68 → va_S (fun q => B < q) s.heap H locs → zA S68 a0 12 → ∀ ls : Array Slot, lv_has ls 7 [(0, .ref (B + a0)), (1, .int v1), (2, .int v2), (3, .int x15), (4, .int r30), (5, .int x41), (6, .int (r56 - r30))] → K89 = some S' → W p l e (headSpec (zws yX12_findLean cX12_findLean 7 none) { frames := 4, cells := 0, slots := 0, locals := 91 }).room s m (([.ref (B + a0), .int v1, .int v2] : List Value).toArray) below meth c H locs 0 0 (MQ below (zQv D cy B S0 S') (([.ref (B + a0), .int v1, .int v2] : List Value).toArray) s 0 0 (fun q => B < q)) (F0 m 159 ls [.ref (B + a0)]) := by
                        intro H locs hM hX88 hS h87 ls hl h
                        rw [eK89] at h
                        refine lv_iload hx hb dX12_findLean_159 (lv_at hl 6 rfl) ?_
                        refine lv_goto (tgt := 168) hx hb dX12_findLean_161 (by decide) ?_
                        exact hK76 (r56 - r30) _ _ hM hX88 hS h87 _ (lv_sub hl [0, 1, 2, 3, 4, 5] rfl) h
                      refine lv_if_eq (tgt := 159) hx hb dX12_findLean_147 (by decide) (fun hc90 => ?_) (fun hc90 => ?_)
                      · have h := zt h hc90
                        exact hK89 _ _ hM hX72 hS h71 _ (lv_sub hl [0, 1, 2, 3, 4, 5, 6] rfl) h
                      · have h := zf h hc90
                        refine lv_iload hx hb dX12_findLean_150 (lv_at hl 6 rfl) ?_
                        refine lv_aload_n hx hb dX12_findLean_152 rfl (lv_at hl 0 rfl) ?_
                        refine z_getI hx hb hg zin_12 hown hK hM h71 38 rfl (by decide) (hg _ zw_1038) (fun _ h9 => h9) dX12_findLean_153 ?_
                        refine lv_icmp_le (tgt := 164) hx hb dX12_findLean_156 (by decide) (fun hc91 => ?_) (fun hc91 => ?_)
                        · have h := zt h hc91
                          refine lv_aload_n hx hb dX12_findLean_164 rfl (lv_at hl 0 rfl) ?_
                          refine z_getI hx hb hg zin_12 hown hK hM h71 38 rfl (by decide) (hg _ zw_1038) (fun _ h9 => h9) dX12_findLean_165 ?_
                          exact hK76 (zi S68 a0 38) _ _ hM hX72 hS h71 _ (lv_sub hl [0, 1, 2, 3, 4, 5] rfl) h
                        · have h := zf h hc91
                          exact hK89 _ _ hM hX72 hS h71 _ (lv_sub hl [0, 1, 2, 3, 4, 5, 6] rfl) h
                    obtain ⟨K94, eK94, h⟩ := zlg h
                    have hK94 : ∀ (H : Heap) (locs : List Loc), zMR D cy B S59 H → zX S0 S59 → va_S (fun q => B < q) s.heap H locs → zA S59 a0 12 → ∀ ls : Array Slot, lv_has ls 7 [(0, .ref (B + a0)), (1, .int v1), (2, .int v2), (3, .int x15), (4, .int r30), (5, .int x41), (6, .int (r56 - r30))] → K94 = some S' → W p l e (headSpec (zws yX12_findLean cX12_findLean 7 none) { frames := 4, cells := 0, slots := 0, locals := 91 }).room s m (([.ref (B + a0), .int v1, .int v2] : List Value).toArray) below meth c H locs 0 0 (MQ below (zQv D cy B S0 S') (([.ref (B + a0), .int v1, .int v2] : List Value).toArray) s 0 0 (fun q => B < q)) (F0 m 130 ls [.ref (B + a0)]) := by
                      intro H locs hM hX93 hS h92 ls hl h
                      rw [eK94] at h
                      refine lv_iload hx hb dX12_findLean_130 (lv_at hl 6 rfl) ?_
                      refine lv_goto (tgt := 139) hx hb dX12_findLean_132 (by decide) ?_
                      exact hK67 (r56 - r30) _ _ hM hX93 hS h92 _ (lv_sub hl [0, 1, 2, 3, 4, 5, 6] rfl) h
                    refine lv_if_eq (tgt := 130) hx hb dX12_findLean_118 (by decide) (fun hc95 => ?_) (fun hc95 => ?_)
                    · have h := zt h hc95
                      exact hK94 _ _ hM hX63 hS h62 _ (lv_sub hl [1, 2, 3, 4, 5, 6, 0] rfl) h
                    · have h := zf h hc95
                      refine lv_iload hx hb dX12_findLean_121 (lv_at hl 0 rfl) ?_
                      refine lv_aload_n hx hb dX12_findLean_123 rfl (lv_at hl 1 rfl) ?_
                      refine z_getI hx hb hg zin_12 hown hK hM h62 37 rfl (by decide) (hg _ zw_1037) (fun _ h9 => h9) dX12_findLean_124 ?_
                      refine lv_icmp_ge (tgt := 135) hx hb dX12_findLean_127 (by decide) (fun hc96 => ?_) (fun hc96 => ?_)
                      · have h := zt h hc96
                        refine lv_aload_n hx hb dX12_findLean_135 rfl (lv_at hl 1 rfl) ?_
                        refine z_getI hx hb hg zin_12 hown hK hM h62 37 rfl (by decide) (hg _ zw_1037) (fun _ h9 => h9) dX12_findLean_136 ?_
                        exact hK67 (zi S59 a0 37) _ _ hM hX63 hS h62 _ (lv_sub hl [1, 2, 3, 4, 5, 6, 0] rfl) h
                      · have h := zf h hc96
                        exact hK94 _ _ hM hX63 hS h62 _ (lv_sub hl [1, 2, 3, 4, 5, 6, 0] rfl) h
                  · have h := zf h hc54
                    refine lv_goto (tgt := 181) hx hb dX12_findLean_87 (by decide) ?_
                    refine lv_iinc (v := (x41 + (1 : Int32))) (lv' := [(5, .int (x41 + (1 : Int32))), (0, .ref (B + a0)), (1, .int v1), (2, .int v2), (3, .int x15), (4, .int r30)]) hx hb dX12_findLean_181 hl (k := 5) rfl rfl (by decide) rfl (fun ls hl => ?_)
                    refine lv_goto (tgt := 54) hx hb dX12_findLean_184 (by decide) ?_
                    exact ih54 (x41 + (1 : Int32)) S42 _ _ hM hX43 hS h40 _ (lv_sub hl [1, 2, 3, 4, 5, 0] rfl) h
          exact hL54 n (0 : Int32) S31 _ _ hM hX35 hS h34 _ (lv_sub hl [2, 3, 4, 5, 1, 0] rfl) h
        · have h := zf h hc28
          refine lv_goto (tgt := 187) hx hb dX12_findLean_41 (by decide) ?_
          refine lv_iinc (v := (x15 + (1 : Int32))) (lv' := [(3, .int (x15 + (1 : Int32))), (0, .ref (B + a0)), (1, .int v1), (2, .int v2)]) hx hb dX12_findLean_187 hl (k := 3) rfl rfl (by decide) rfl (fun ls hl => ?_)
          refine lv_goto (tgt := 12) hx hb dX12_findLean_190 (by decide) ?_
          exact ih12 (x15 + (1 : Int32)) S16 _ _ hM hX17 hS h14 _ (lv_sub hl [1, 2, 3, 0] rfl) h
  exact hL12 n (0 : Int32) S6 _ _ hM hX10 hS h9 _ (lv_sub hl [1, 2, 3, 0] rfl) h
def f_X12_lean (n : Nat) (S0 : zM) (a0 : Nat) (v1 : Int32) (v2 : Int32) (v3 : Int32) : Option (Int32 × zM) :=
  zB1 (f_X12_isJudge S0 a0 v1) (fun r2 => if r2 = 0 then some (((-1000000001 : Int32), S0)) else zLet (f_X12_isIn (Int32.toInt64 v2) (0 : Int64) (5 : Int64)) (fun r7 => if r7 = 0 then some (((-1000000001 : Int32), S0)) else zLet (f_X12_isIn (Int32.toInt64 v3) (0 : Int64) (3 : Int64)) (fun r12 => if r12 = 0 then some (((-1000000001 : Int32), S0)) else zB1 (f_X12_findLean n S0 a0 v1 v2) (fun S17 => if v3 = 0 then some (((zi S17 a0 35), S17)) else if v3 = (1 : Int32) then some (((zi S17 a0 36), S17)) else if (zi S17 a0 36) = 0 then some (((-1000000004 : Int32), S17)) else if v3 = (2 : Int32) then some (((zi S17 a0 37), S17)) else some (((zi S17 a0 38), S17))))))
set_option maxHeartbeats 4000000 in
set_option maxRecDepth 100000 in
theorem c_X12_lean (l : Launch) (D : va_G) (cy : Nat → ClassId) (B : Nat) {n : Nat} {S0 : zM} {a0 : Nat} {v1 : Int32} {v2 : Int32} {v3 : Int32} {r : Int32} {S' : zM} (ha0 : zA S0 a0 12) (h : f_X12_lean n S0 a0 v1 v2 v3 = some (r, S')) : Met l yX12_lean (zws yX12_lean cX12_lean 4 ((some .int))) { frames := 5, cells := 0, slots := 0, locals := 117 } (zPc D cy B S0 [.ref (B + a0), .int v1, .int v2, .int v3]) (zQi D cy B S0 r S') 0 0 (fun q => B < q) := by
  refine Met.ofW (cc := cX12_lean) (maxL := 4) (ret := ((some .int))) (by decide) rfl ?_
  intro p e s m args below meth c s₁ Bd hml hv
  obtain ⟨rfl, hC, hM⟩ := hv
  obtain ⟨hx, hb, hr, hg, hown, hlk⟩ := z_open Bd
  have hK := hC.1
  have hS : va_S (fun q => B < q) s.heap s.heap [] := va_S.rf
  have hX0 : zX S0 S0 := zX.rf
  refine z_entry (vs := [.ref (B + a0), .int v1, .int v2, .int v3]) (Nat.le_of_ble_eq_true rfl) (fun ls hl => ?_)
  have hl : lv_has ls 4 [(0, .ref (B + a0)), (1, .int v1), (2, .int v2), (3, .int v3)] := hl
  unfold f_X12_lean at h
  refine lv_aload_n hx hb dX12_lean_0 rfl (lv_at hl 0 rfl) ?_
  refine lv_iload_n hx hb dX12_lean_1 rfl (lv_at hl 1 rfl) ?_
  obtain ⟨r2, hr1, h⟩ := zb1 h
  refine z_runi (va_runV (As := [.int v1]) (rest := []) ⟨hx, hb, hml, hown, hg⟩ (c_X12_isJudge l D cy B ha0 hr1) (z_cwV hg zw_1140 zw_1141 zw_1483 zw_13 zw_1142 zh_X12_isJudge ⟨(Nat.le_of_ble_eq_true rfl), (Nat.le_of_ble_eq_true rfl)⟩) (zPV hC hM ha0 (by decide) rfl) rfl rfl hl.1 rfl (lv_room (Nat.le_of_ble_eq_true rfl)) dX12_lean_2 ⟨(Nat.le_of_ble_eq_true rfl), (Nat.le_of_ble_eq_true rfl)⟩) hS (fun H locs hM hX3 hS => ?_)
  refine lv_if_eq (tgt := 32) hx hb dX12_lean_5 (by decide) (fun hc5 => ?_) (fun hc5 => ?_)
  · have h := zt h hc5
    refine lv_ldcw (v := (-1000000001 : Int32)) hx hb hown (hg _ zw_1263) dX12_lean_32 ?_
    exact z_iret hx hb hr hlk hM hX0 hS (zsp h) dX12_lean_35
  · have h := zf h hc5
    refine lv_iload_n hx hb dX12_lean_8 rfl (lv_at hl 2 rfl) ?_
    refine lv_i2l hx hb dX12_lean_9 rfl ?_
    refine lv_lconst (v := (0 : Int64)) hx hb dX12_lean_10 (by decide +kernel) ?_
    refine lv_ldc2 (v := (5 : Int64)) hx hb hown (hg _ zw_1110) dX12_lean_11 ?_
    obtain ⟨r7, hr6, h⟩ := zlg h
    have hr6 := hr6.symm
    refine z_runi (va_runS (As := [.long (Int32.toInt64 v2), .long (0 : Int64), .long (5 : Int64)]) (rest := []) ⟨hx, hb, hml, hown, hg⟩ (c_X12_isIn l D cy B hr6) (z_cwS hg zw_1111 zw_1112 zw_13 zw_1113 zh_X12_isIn.2 ⟨(Nat.le_of_ble_eq_true rfl), (Nat.le_of_ble_eq_true rfl)⟩) (zPS hC hM) rfl rfl hl.1 rfl (lv_room (Nat.le_of_ble_eq_true rfl)) dX12_lean_14 ⟨(Nat.le_of_ble_eq_true rfl), (Nat.le_of_ble_eq_true rfl)⟩) hS (fun H locs hM hX8 hS => ?_)
    refine lv_if_eq (tgt := 32) hx hb dX12_lean_17 (by decide) (fun hc10 => ?_) (fun hc10 => ?_)
    · have h := zt h hc10
      refine lv_ldcw (v := (-1000000001 : Int32)) hx hb hown (hg _ zw_1263) dX12_lean_32 ?_
      exact z_iret hx hb hr hlk hM hX0 hS (zsp h) dX12_lean_35
    · have h := zf h hc10
      refine lv_iload_n hx hb dX12_lean_20 rfl (lv_at hl 3 rfl) ?_
      refine lv_i2l hx hb dX12_lean_21 rfl ?_
      refine lv_lconst (v := (0 : Int64)) hx hb dX12_lean_22 (by decide +kernel) ?_
      refine lv_ldc2 (v := (3 : Int64)) hx hb hown (hg _ zw_1320) dX12_lean_23 ?_
      obtain ⟨r12, hr11, h⟩ := zlg h
      have hr11 := hr11.symm
      refine z_runi (va_runS (As := [.long (Int32.toInt64 v3), .long (0 : Int64), .long (3 : Int64)]) (rest := []) ⟨hx, hb, hml, hown, hg⟩ (c_X12_isIn l D cy B hr11) (z_cwS hg zw_1111 zw_1112 zw_13 zw_1113 zh_X12_isIn.2 ⟨(Nat.le_of_ble_eq_true rfl), (Nat.le_of_ble_eq_true rfl)⟩) (zPS hC hM) rfl rfl hl.1 rfl (lv_room (Nat.le_of_ble_eq_true rfl)) dX12_lean_26 ⟨(Nat.le_of_ble_eq_true rfl), (Nat.le_of_ble_eq_true rfl)⟩) hS (fun H locs hM hX13 hS => ?_)
      refine lv_if_ne (tgt := 36) hx hb dX12_lean_29 (by decide) (fun hc15 => ?_) (fun hc15 => ?_)
      · have h := zf h hc15
        refine lv_aload_n hx hb dX12_lean_36 rfl (lv_at hl 0 rfl) ?_
        refine lv_iload_n hx hb dX12_lean_37 rfl (lv_at hl 1 rfl) ?_
        refine lv_iload_n hx hb dX12_lean_38 rfl (lv_at hl 2 rfl) ?_
        obtain ⟨S17, hr16, h⟩ := zb1 h
        refine z_runv (va_runV (As := [.int v1, .int v2]) (rest := []) ⟨hx, hb, hml, hown, hg⟩ (c_X12_findLean l D cy B ha0 hr16) (z_cwV hg zw_1328 zw_1329 zw_1517 zw_13 zw_1330 zh_X12_findLean ⟨(Nat.le_of_ble_eq_true rfl), (Nat.le_of_ble_eq_true rfl)⟩) (zPV hC hM ha0 (by decide) rfl) rfl rfl hl.1 rfl (lv_room (Nat.le_of_ble_eq_true rfl)) dX12_lean_39 ⟨(Nat.le_of_ble_eq_true rfl), (Nat.le_of_ble_eq_true rfl)⟩) hS (fun H locs hM hX18 hS => ?_)
        have h20 := ha0.mo hX18
        have hX21 := hX0.tr hX18
        refine lv_iload_n hx hb dX12_lean_42 rfl (lv_at hl 3 rfl) ?_
        refine lv_if_ne (tgt := 53) hx hb dX12_lean_43 (by decide) (fun hc22 => ?_) (fun hc22 => ?_)
        · have h := zf h hc22
          refine lv_iload_n hx hb dX12_lean_53 rfl (lv_at hl 3 rfl) ?_
          refine lv_iconst (v := (1 : Int32)) hx hb dX12_lean_54 (by decide +kernel) ?_
          refine lv_icmp_ne (tgt := 65) hx hb dX12_lean_55 (by decide) (fun hc23 => ?_) (fun hc23 => ?_)
          · have h := zf h hc23
            refine lv_aload_n hx hb dX12_lean_65 rfl (lv_at hl 0 rfl) ?_
            refine z_getI hx hb hg zin_12 hown hK hM h20 36 rfl (by decide) (hg _ zw_1036) (fun _ h9 => h9) dX12_lean_66 ?_
            refine lv_if_ne (tgt := 78) hx hb dX12_lean_69 (by decide) (fun hc24 => ?_) (fun hc24 => ?_)
            · have h := zf h hc24
              refine lv_iload_n hx hb dX12_lean_78 rfl (lv_at hl 3 rfl) ?_
              refine lv_iconst (v := (2 : Int32)) hx hb dX12_lean_79 (by decide +kernel) ?_
              refine lv_icmp_ne (tgt := 90) hx hb dX12_lean_80 (by decide) (fun hc25 => ?_) (fun hc25 => ?_)
              · have h := zf h hc25
                refine lv_aload_n hx hb dX12_lean_90 rfl (lv_at hl 0 rfl) ?_
                refine z_getI hx hb hg zin_12 hown hK hM h20 38 rfl (by decide) (hg _ zw_1038) (fun _ h9 => h9) dX12_lean_91 ?_
                exact z_iret hx hb hr hlk hM hX21 hS (zsp h) dX12_lean_94
              · have h := zt h hc25
                refine lv_aload_n hx hb dX12_lean_83 rfl (lv_at hl 0 rfl) ?_
                refine z_getI hx hb hg zin_12 hown hK hM h20 37 rfl (by decide) (hg _ zw_1037) (fun _ h9 => h9) dX12_lean_84 ?_
                refine lv_goto (tgt := 94) hx hb dX12_lean_87 (by decide) ?_
                exact z_iret hx hb hr hlk hM hX21 hS (zsp h) dX12_lean_94
            · have h := zt h hc24
              refine lv_ldcw (v := (-1000000004 : Int32)) hx hb hown (hg _ zw_1334) dX12_lean_72 ?_
              refine lv_goto (tgt := 94) hx hb dX12_lean_75 (by decide) ?_
              exact z_iret hx hb hr hlk hM hX21 hS (zsp h) dX12_lean_94
          · have h := zt h hc23
            refine lv_aload_n hx hb dX12_lean_58 rfl (lv_at hl 0 rfl) ?_
            refine z_getI hx hb hg zin_12 hown hK hM h20 36 rfl (by decide) (hg _ zw_1036) (fun _ h9 => h9) dX12_lean_59 ?_
            refine lv_goto (tgt := 94) hx hb dX12_lean_62 (by decide) ?_
            exact z_iret hx hb hr hlk hM hX21 hS (zsp h) dX12_lean_94
        · have h := zt h hc22
          refine lv_aload_n hx hb dX12_lean_46 rfl (lv_at hl 0 rfl) ?_
          refine z_getI hx hb hg zin_12 hown hK hM h20 35 rfl (by decide) (hg _ zw_1035) (fun _ h9 => h9) dX12_lean_47 ?_
          refine lv_goto (tgt := 94) hx hb dX12_lean_50 (by decide) ?_
          exact z_iret hx hb hr hlk hM hX21 hS (zsp h) dX12_lean_94
      · have h := zt h hc15
        refine lv_ldcw (v := (-1000000001 : Int32)) hx hb hown (hg _ zw_1263) dX12_lean_32 ?_
        exact z_iret hx hb hr hlk hM hX0 hS (zsp h) dX12_lean_35
def f_X12_sits_L17b (S0 : zM) (a0 : Nat) (v1 : Int32) (v2 : Int32) (x2 : Int32) (K9 : Int32 → Int32 → Option (Int32)) (rec17 : Int32 → Int32 → Int32 → Option (Int32)) (x13 : Int32) (x14 : Int32) (x15 : Int32) : Option (Int32) :=
  if (7 : Int32) ≤ x15 then K9 x13 x14 else zLet (fun (x19 : Int32) => zLet (rec17 x19 (1 : Int32) (x15 + (1 : Int32))) (fun K24 => if x14 = 0 then zB1 (f_X12_onChair S0 a0 x2 x15) (fun r27 => if r27 = v2 then K24 else rec17 x19 (0 : Int32) (x15 + (1 : Int32))) else K24)) (fun K21 => zLet (K21 (1 : Int32)) (fun K33 => if x13 = 0 then zB1 (f_X12_onChair S0 a0 x2 x15) (fun r36 => if r36 = v1 then K33 else K21 (0 : Int32)) else K33))
def f_X12_sits_L17 (S0 : zM) (a0 : Nat) (v1 : Int32) (v2 : Int32) (x2 : Int32) (K9 : Int32 → Int32 → Option (Int32)) : Nat → Int32 → Int32 → Int32 → Option (Int32)
  | 0 => fun _ _ _ => none
  | k + 1 => fun x13 x14 x15 => f_X12_sits_L17b S0 a0 v1 v2 x2 K9 (f_X12_sits_L17 S0 a0 v1 v2 x2 K9 k) x13 x14 x15
def f_X12_sits_L2b (n : Nat) (S0 : zM) (a0 : Nat) (v1 : Int32) (v2 : Int32) (rec2 : Int32 → Option (Int32)) (x2 : Int32) : Option (Int32) :=
  if (6 : Int32) ≤ x2 then some (0 : Int32) else zLet (fun (x6 : Int32) (x7 : Int32) => if x6 = 0 then rec2 (x2 + (1 : Int32)) else if x7 = 0 then rec2 (x2 + (1 : Int32)) else some (1 : Int32)) (fun K9 => f_X12_sits_L17 S0 a0 v1 v2 x2 K9 n (0 : Int32) (0 : Int32) (0 : Int32))
def f_X12_sits_L2 (n : Nat) (S0 : zM) (a0 : Nat) (v1 : Int32) (v2 : Int32) : Nat → Int32 → Option (Int32)
  | 0 => fun _ => none
  | k + 1 => fun x2 => f_X12_sits_L2b n S0 a0 v1 v2 (f_X12_sits_L2 n S0 a0 v1 v2 k) x2
def f_X12_sits (n : Nat) (S0 : zM) (a0 : Nat) (v1 : Int32) (v2 : Int32) : Option (Int32) :=
  f_X12_sits_L2 n S0 a0 v1 v2 n (0 : Int32)
set_option maxHeartbeats 4000000 in
set_option maxRecDepth 100000 in
theorem c_X12_sits (l : Launch) (D : va_G) (cy : Nat → ClassId) (B : Nat) {n : Nat} {S0 : zM} {a0 : Nat} {v1 : Int32} {v2 : Int32} {r : Int32} (ha0 : zA S0 a0 12) (h : f_X12_sits n S0 a0 v1 v2 = some r) : Met l yX12_sits (zws yX12_sits cX12_sits 7 ((some .boolean))) { frames := 1, cells := 0, slots := 0, locals := 22 } (zPc D cy B S0 [.ref (B + a0), .int v1, .int v2]) (zQi D cy B S0 r S0) 0 0 (fun q => B < q) := by
  refine Met.ofW (cc := cX12_sits) (maxL := 7) (ret := ((some .boolean))) (by decide) rfl ?_
  intro p e s m args below meth c s₁ Bd hml hv
  obtain ⟨rfl, hC, hM⟩ := hv
  obtain ⟨hx, hb, hr, hg, hown, hlk⟩ := z_open Bd
  have hK := hC.1
  have hS : va_S (fun q => B < q) s.heap s.heap [] := va_S.rf
  have hX0 : zX S0 S0 := zX.rf
  refine z_entry (vs := [.ref (B + a0), .int v1, .int v2]) (Nat.le_of_ble_eq_true rfl) (fun ls hl => ?_)
  have hl : lv_has ls 7 [(0, .ref (B + a0)), (1, .int v1), (2, .int v2)] := hl
  unfold f_X12_sits at h
  refine lv_iconst (v := (0 : Int32)) hx hb dX12_sits_0 (by decide +kernel) ?_
  refine lv_istore_n (i := 3) (lv' := [(3, .int (0 : Int32)), (0, .ref (B + a0)), (1, .int v1), (2, .int v2)]) hx hb dX12_sits_1 rfl hl (by decide) rfl (fun ls hl => ?_)
  have hL2 : ∀ (k : Nat) (x2 : Int32) (H : Heap) (locs : List Loc), zMR D cy B S0 H → zX S0 S0 → va_S (fun q => B < q) s.heap H locs → zA S0 a0 12 → ∀ ls : Array Slot, lv_has ls 7 [(0, .ref (B + a0)), (1, .int v1), (2, .int v2), (3, .int x2)] → f_X12_sits_L2 n S0 a0 v1 v2 k x2 = some r → W p l e (headSpec (zws yX12_sits cX12_sits 7 ((some .boolean))) { frames := 1, cells := 0, slots := 0, locals := 22 }).room s m (([.ref (B + a0), .int v1, .int v2] : List Value).toArray) below meth c H locs 0 0 (MQ below (zQi D cy B S0 r S0) (([.ref (B + a0), .int v1, .int v2] : List Value).toArray) s 0 0 (fun q => B < q)) (F0 m 2 ls []) := by
    intro k
    induction k with
    | zero =>
      intro x2 H locs hM hX3 hS h1 ls hl h
      exact znone h
    | succ k ih2 =>
      intro x2 H locs hM hX3 hS h1 ls hl h
      replace h : f_X12_sits_L2b n S0 a0 v1 v2 (f_X12_sits_L2 n S0 a0 v1 v2 k) x2 = some r := h
      generalize f_X12_sits_L2 n S0 a0 v1 v2 k = rec2 at ih2 h
      unfold f_X12_sits_L2b at h
      refine lv_iload_n hx hb dX12_sits_2 rfl (lv_at hl 3 rfl) ?_
      refine lv_bipush (v := (6 : Int32)) hx hb dX12_sits_3 (by decide +kernel) ?_
      refine lv_icmp_ge (tgt := 94) hx hb dX12_sits_5 (by decide) (fun hc4 => ?_) (fun hc4 => ?_)
      · have h := zt h hc4
        refine lv_iconst (v := (0 : Int32)) hx hb dX12_sits_94 (by decide +kernel) ?_
        exact z_zret (by decide +kernel) hx hb hr hlk hM hX3 hS ⟨zsm h, rfl⟩ dX12_sits_95
      · have h := zf h hc4
        refine lv_iconst (v := (0 : Int32)) hx hb dX12_sits_8 (by decide +kernel) ?_
        refine lv_istore (i := 4) (lv' := [(4, .int (0 : Int32)), (0, .ref (B + a0)), (1, .int v1), (2, .int v2), (3, .int x2)]) hx hb dX12_sits_9 hl (by decide) rfl (fun ls hl => ?_)
        refine lv_iconst (v := (0 : Int32)) hx hb dX12_sits_11 (by decide +kernel) ?_
        refine lv_istore (i := 5) (lv' := [(5, .int (0 : Int32)), (4, .int (0 : Int32)), (0, .ref (B + a0)), (1, .int v1), (2, .int v2), (3, .int x2)]) hx hb dX12_sits_12 hl (by decide) rfl (fun ls hl => ?_)
        refine lv_iconst (v := (0 : Int32)) hx hb dX12_sits_14 (by decide +kernel) ?_
        refine lv_istore (i := 6) (lv' := [(6, .int (0 : Int32)), (5, .int (0 : Int32)), (4, .int (0 : Int32)), (0, .ref (B + a0)), (1, .int v1), (2, .int v2), (3, .int x2)]) hx hb dX12_sits_15 hl (by decide) rfl (fun ls hl => ?_)
        obtain ⟨K9, eK9, h⟩ := zlg h
        have hK9 : ∀ (x6 : Int32) (x7 : Int32) (H : Heap) (locs : List Loc), zMR D cy B S0 H → zX S0 S0 → va_S (fun q => B < q) s.heap H locs → zA S0 a0 12 → ∀ ls : Array Slot, lv_has ls 7 [(0, .ref (B + a0)), (1, .int v1), (2, .int v2), (3, .int x2), (4, .int x6), (5, .int x7)] → K9 x6 x7 = some r → W p l e (headSpec (zws yX12_sits cX12_sits 7 ((some .boolean))) { frames := 1, cells := 0, slots := 0, locals := 22 }).room s m (([.ref (B + a0), .int v1, .int v2] : List Value).toArray) below meth c H locs 0 0 (MQ below (zQi D cy B S0 r S0) (([.ref (B + a0), .int v1, .int v2] : List Value).toArray) s 0 0 (fun q => B < q)) (F0 m 76 ls []) := by
          intro x6 x7 H locs hM hX8 hS h5 ls hl h
          rw [eK9] at h
          refine lv_iload hx hb dX12_sits_76 (lv_at hl 4 rfl) ?_
          refine lv_if_eq (tgt := 88) hx hb dX12_sits_78 (by decide) (fun hc10 => ?_) (fun hc10 => ?_)
          · have h := zt h hc10
            refine lv_iinc (v := (x2 + (1 : Int32))) (lv' := [(3, .int (x2 + (1 : Int32))), (0, .ref (B + a0)), (1, .int v1), (2, .int v2), (4, .int x6), (5, .int x7)]) hx hb dX12_sits_88 hl (k := 3) rfl rfl (by decide) rfl (fun ls hl => ?_)
            refine lv_goto (tgt := 2) hx hb dX12_sits_91 (by decide) ?_
            exact ih2 (x2 + (1 : Int32)) _ _ hM hX8 hS h5 _ (lv_sub hl [1, 2, 3, 0] rfl) h
          · have h := zf h hc10
            refine lv_iload hx hb dX12_sits_81 (lv_at hl 5 rfl) ?_
            refine lv_if_eq (tgt := 88) hx hb dX12_sits_83 (by decide) (fun hc11 => ?_) (fun hc11 => ?_)
            · have h := zt h hc11
              refine lv_iinc (v := (x2 + (1 : Int32))) (lv' := [(3, .int (x2 + (1 : Int32))), (0, .ref (B + a0)), (1, .int v1), (2, .int v2), (4, .int x6), (5, .int x7)]) hx hb dX12_sits_88 hl (k := 3) rfl rfl (by decide) rfl (fun ls hl => ?_)
              refine lv_goto (tgt := 2) hx hb dX12_sits_91 (by decide) ?_
              exact ih2 (x2 + (1 : Int32)) _ _ hM hX8 hS h5 _ (lv_sub hl [1, 2, 3, 0] rfl) h
            · have h := zf h hc11
              refine lv_iconst (v := (1 : Int32)) hx hb dX12_sits_86 (by decide +kernel) ?_
              exact z_zret (by decide +kernel) hx hb hr hlk hM hX8 hS ⟨zsm h, rfl⟩ dX12_sits_87
        have hL17 : ∀ (k : Nat) (x13 : Int32) (x14 : Int32) (x15 : Int32) (H : Heap) (locs : List Loc), zMR D cy B S0 H → zX S0 S0 → va_S (fun q => B < q) s.heap H locs → zA S0 a0 12 → ∀ ls : Array Slot, lv_has ls 7 [(0, .ref (B + a0)), (1, .int v1), (2, .int v2), (3, .int x2), (4, .int x13), (5, .int x14), (6, .int x15)] → f_X12_sits_L17 S0 a0 v1 v2 x2 K9 k x13 x14 x15 = some r → W p l e (headSpec (zws yX12_sits cX12_sits 7 ((some .boolean))) { frames := 1, cells := 0, slots := 0, locals := 22 }).room s m (([.ref (B + a0), .int v1, .int v2] : List Value).toArray) below meth c H locs 0 0 (MQ below (zQi D cy B S0 r S0) (([.ref (B + a0), .int v1, .int v2] : List Value).toArray) s 0 0 (fun q => B < q)) (F0 m 17 ls []) := by
          intro k
          induction k with
          | zero =>
            intro x13 x14 x15 H locs hM hX16 hS h12 ls hl h
            exact znone h
          | succ k ih17 =>
            intro x13 x14 x15 H locs hM hX16 hS h12 ls hl h
            replace h : f_X12_sits_L17b S0 a0 v1 v2 x2 K9 (f_X12_sits_L17 S0 a0 v1 v2 x2 K9 k) x13 x14 x15 = some r := h
            generalize f_X12_sits_L17 S0 a0 v1 v2 x2 K9 k = rec17 at ih17 h
            unfold f_X12_sits_L17b at h
            refine lv_iload hx hb dX12_sits_17 (lv_at hl 6 rfl) ?_
            refine lv_bipush (v := (7 : Int32)) hx hb dX12_sits_19 (by decide +kernel) ?_
            refine lv_icmp_ge (tgt := 76) hx hb dX12_sits_21 (by decide) (fun hc17 => ?_) (fun hc17 => ?_)
            · have h := zt h hc17
              exact hK9 x13 x14 _ _ hM hX16 hS h12 _ (lv_sub hl [0, 1, 2, 3, 4, 5] rfl) h
            · have h := zf h hc17
              refine lv_iload hx hb dX12_sits_24 (lv_at hl 4 rfl) ?_
              obtain ⟨K21, eK21, h⟩ := zlg h
              have hK21 : ∀ (x19 : Int32) (H : Heap) (locs : List Loc), zMR D cy B S0 H → zX S0 S0 → va_S (fun q => B < q) s.heap H locs → zA S0 a0 12 → ∀ ls : Array Slot, lv_has ls 7 [(0, .ref (B + a0)), (1, .int v1), (2, .int v2), (3, .int x2), (5, .int x14), (6, .int x15)] → K21 x19 = some r → W p l e (headSpec (zws yX12_sits cX12_sits 7 ((some .boolean))) { frames := 1, cells := 0, slots := 0, locals := 22 }).room s m (([.ref (B + a0), .int v1, .int v2] : List Value).toArray) below meth c H locs 0 0 (MQ below (zQi D cy B S0 r S0) (([.ref (B + a0), .int v1, .int v2] : List Value).toArray) s 0 0 (fun q => B < q)) (F0 m 45 ls [.int x19]) := by
                intro x19 H locs hM hX20 hS h18 ls hl h
                rw [eK21] at h
                refine lv_istore (i := 4) (lv' := [(4, .int x19), (0, .ref (B + a0)), (1, .int v1), (2, .int v2), (3, .int x2), (5, .int x14), (6, .int x15)]) hx hb dX12_sits_45 hl (by decide) rfl (fun ls hl => ?_)
                refine lv_iload hx hb dX12_sits_47 (lv_at hl 5 rfl) ?_
                obtain ⟨K24, eK24, h⟩ := zlg h
                have hK24 : ∀ (H : Heap) (locs : List Loc), zMR D cy B S0 H → zX S0 S0 → va_S (fun q => B < q) s.heap H locs → zA S0 a0 12 → ∀ ls : Array Slot, lv_has ls 7 [(0, .ref (B + a0)), (1, .int v1), (2, .int v2), (3, .int x2), (4, .int x19), (6, .int x15)] → K24 = some r → W p l e (headSpec (zws yX12_sits cX12_sits 7 ((some .boolean))) { frames := 1, cells := 0, slots := 0, locals := 22 }).room s m (([.ref (B + a0), .int v1, .int v2] : List Value).toArray) below meth c H locs 0 0 (MQ below (zQi D cy B S0 r S0) (([.ref (B + a0), .int v1, .int v2] : List Value).toArray) s 0 0 (fun q => B < q)) (F0 m 63 ls []) := by
                  intro H locs hM hX23 hS h22 ls hl h
                  rw [eK24] at h
                  refine lv_iconst (v := (1 : Int32)) hx hb dX12_sits_63 (by decide +kernel) ?_
                  refine lv_goto (tgt := 68) hx hb dX12_sits_64 (by decide) ?_
                  refine lv_istore (i := 5) (lv' := [(5, .int (1 : Int32)), (0, .ref (B + a0)), (1, .int v1), (2, .int v2), (3, .int x2), (4, .int x19), (6, .int x15)]) hx hb dX12_sits_68 hl (by decide) rfl (fun ls hl => ?_)
                  refine lv_iinc (v := (x15 + (1 : Int32))) (lv' := [(6, .int (x15 + (1 : Int32))), (5, .int (1 : Int32)), (0, .ref (B + a0)), (1, .int v1), (2, .int v2), (3, .int x2), (4, .int x19)]) hx hb dX12_sits_70 hl (k := 6) rfl rfl (by decide) rfl (fun ls hl => ?_)
                  refine lv_goto (tgt := 17) hx hb dX12_sits_73 (by decide) ?_
                  exact ih17 x19 (1 : Int32) (x15 + (1 : Int32)) _ _ hM hX23 hS h22 _ (lv_sub hl [2, 3, 4, 5, 6, 1, 0] rfl) h
                refine lv_if_ne (tgt := 63) hx hb dX12_sits_49 (by decide) (fun hc25 => ?_) (fun hc25 => ?_)
                · have h := zf h hc25
                  exact hK24 _ _ hM hX20 hS h18 _ (lv_sub hl [1, 2, 3, 4, 0, 6] rfl) h
                · have h := zt h hc25
                  refine lv_aload_n hx hb dX12_sits_52 rfl (lv_at hl 1 rfl) ?_
                  refine lv_iload_n hx hb dX12_sits_53 rfl (lv_at hl 4 rfl) ?_
                  refine lv_iload hx hb dX12_sits_54 (lv_at hl 6 rfl) ?_
                  obtain ⟨r27, hr26, h⟩ := zb1 h
                  refine z_runi (va_runV (As := [.int x2, .int x15]) (rest := []) ⟨hx, hb, hml, hown, hg⟩ (c_X12_onChair l D cy B h18 hr26) (z_cwV hg zw_1143 zw_1144 zw_1484 zw_13 zw_1145 zh_X12_onChair ⟨(Nat.le_of_ble_eq_true rfl), (Nat.le_of_ble_eq_true rfl)⟩) (zPV hC hM h18 (by decide) rfl) rfl rfl hl.1 rfl (lv_room (Nat.le_of_ble_eq_true rfl)) dX12_sits_56 ⟨(Nat.le_of_ble_eq_true rfl), (Nat.le_of_ble_eq_true rfl)⟩) hS (fun H locs hM hX28 hS => ?_)
                  refine lv_iload_n hx hb dX12_sits_59 rfl (lv_at hl 3 rfl) ?_
                  refine lv_icmp_ne (tgt := 67) hx hb dX12_sits_60 (by decide) (fun hc30 => ?_) (fun hc30 => ?_)
                  · have h := zf h hc30
                    refine lv_iconst (v := (0 : Int32)) hx hb dX12_sits_67 (by decide +kernel) ?_
                    refine lv_istore (i := 5) (lv' := [(5, .int (0 : Int32)), (4, .int x19), (0, .ref (B + a0)), (1, .int v1), (2, .int v2), (3, .int x2), (6, .int x15)]) hx hb dX12_sits_68 hl (by decide) rfl (fun ls hl => ?_)
                    refine lv_iinc (v := (x15 + (1 : Int32))) (lv' := [(6, .int (x15 + (1 : Int32))), (5, .int (0 : Int32)), (4, .int x19), (0, .ref (B + a0)), (1, .int v1), (2, .int v2), (3, .int x2)]) hx hb dX12_sits_70 hl (k := 6) rfl rfl (by decide) rfl (fun ls hl => ?_)
                    refine lv_goto (tgt := 17) hx hb dX12_sits_73 (by decide) ?_
                    exact ih17 x19 (0 : Int32) (x15 + (1 : Int32)) _ _ hM hX20 hS h18 _ (lv_sub hl [3, 4, 5, 6, 2, 1, 0] rfl) h
                  · have h := zt h hc30
                    exact hK24 _ _ hM hX20 hS h18 _ (lv_sub hl [1, 2, 3, 4, 0, 6] rfl) h
              obtain ⟨K33, eK33, h⟩ := zlg h
              have hK33 : ∀ (H : Heap) (locs : List Loc), zMR D cy B S0 H → zX S0 S0 → va_S (fun q => B < q) s.heap H locs → zA S0 a0 12 → ∀ ls : Array Slot, lv_has ls 7 [(0, .ref (B + a0)), (1, .int v1), (2, .int v2), (3, .int x2), (5, .int x14), (6, .int x15)] → K33 = some r → W p l e (headSpec (zws yX12_sits cX12_sits 7 ((some .boolean))) { frames := 1, cells := 0, slots := 0, locals := 22 }).room s m (([.ref (B + a0), .int v1, .int v2] : List Value).toArray) below meth c H locs 0 0 (MQ below (zQi D cy B S0 r S0) (([.ref (B + a0), .int v1, .int v2] : List Value).toArray) s 0 0 (fun q => B < q)) (F0 m 40 ls []) := by
                intro H locs hM hX32 hS h31 ls hl h
                rw [eK33] at h
                refine lv_iconst (v := (1 : Int32)) hx hb dX12_sits_40 (by decide +kernel) ?_
                refine lv_goto (tgt := 45) hx hb dX12_sits_41 (by decide) ?_
                exact hK21 (1 : Int32) _ _ hM hX32 hS h31 _ (lv_sub hl [0, 1, 2, 3, 4, 5] rfl) h
              refine lv_if_ne (tgt := 40) hx hb dX12_sits_26 (by decide) (fun hc34 => ?_) (fun hc34 => ?_)
              · have h := zf h hc34
                exact hK33 _ _ hM hX16 hS h12 _ (lv_sub hl [0, 1, 2, 3, 5, 6] rfl) h
              · have h := zt h hc34
                refine lv_aload_n hx hb dX12_sits_29 rfl (lv_at hl 0 rfl) ?_
                refine lv_iload_n hx hb dX12_sits_30 rfl (lv_at hl 3 rfl) ?_
                refine lv_iload hx hb dX12_sits_31 (lv_at hl 6 rfl) ?_
                obtain ⟨r36, hr35, h⟩ := zb1 h
                refine z_runi (va_runV (As := [.int x2, .int x15]) (rest := []) ⟨hx, hb, hml, hown, hg⟩ (c_X12_onChair l D cy B h12 hr35) (z_cwV hg zw_1143 zw_1144 zw_1484 zw_13 zw_1145 zh_X12_onChair ⟨(Nat.le_of_ble_eq_true rfl), (Nat.le_of_ble_eq_true rfl)⟩) (zPV hC hM h12 (by decide) rfl) rfl rfl hl.1 rfl (lv_room (Nat.le_of_ble_eq_true rfl)) dX12_sits_33 ⟨(Nat.le_of_ble_eq_true rfl), (Nat.le_of_ble_eq_true rfl)⟩) hS (fun H locs hM hX37 hS => ?_)
                refine lv_iload_n hx hb dX12_sits_36 rfl (lv_at hl 1 rfl) ?_
                refine lv_icmp_ne (tgt := 44) hx hb dX12_sits_37 (by decide) (fun hc39 => ?_) (fun hc39 => ?_)
                · have h := zf h hc39
                  refine lv_iconst (v := (0 : Int32)) hx hb dX12_sits_44 (by decide +kernel) ?_
                  exact hK21 (0 : Int32) _ _ hM hX16 hS h12 _ (lv_sub hl [0, 1, 2, 3, 5, 6] rfl) h
                · have h := zt h hc39
                  exact hK33 _ _ hM hX16 hS h12 _ (lv_sub hl [0, 1, 2, 3, 5, 6] rfl) h
        exact hL17 n (0 : Int32) (0 : Int32) (0 : Int32) _ _ hM hX3 hS h1 _ (lv_sub hl [3, 4, 5, 6, 2, 1, 0] rfl) h
  exact hL2 n (0 : Int32) _ _ hM hX0 hS ha0 _ (lv_sub hl [1, 2, 3, 0] rfl) h
def f_X12_findSums_L70b (n : Nat) (a0 : Nat) (x5 : Int32) (K29 : zM → Option (zM)) (rec70 : Int32 → zM → Option (zM)) (x31 : Int32) (S32 : zM) : Option (zM) :=
  zChk (¬ (zr S32 a0 0) = 0) (zChk (¬ ((1002 : Int32) < 0 ∨ zln S32 (zr S32 a0 0) ≤ ((1002 : Int32)).toNatClampNeg)) (if (zi S32 (zr S32 a0 0) (Int32.toNatClampNeg (1002 : Int32))) ≤ x31 then K29 S32 else zChk (¬ (zr S32 a0 41) = 0) (zB1 (f_X12_sits n S32 a0 x5 x31) (fun r41 => zChk (¬ ((((12 : Int32) * x5) + x31) < 0 ∨ zln S32 (zr S32 a0 41) ≤ ((((12 : Int32) * x5) + x31)).toNatClampNeg)) (zChk (r41 = 0 ∨ r41 = 1) (zLet (zpI S32 (zr S32 a0 41) (Int32.toNatClampNeg (((12 : Int32) * x5) + x31)) r41) (fun S46 => rec70 (x31 + (1 : Int32)) S46)))))))
def f_X12_findSums_L70 (n : Nat) (a0 : Nat) (x5 : Int32) (K29 : zM → Option (zM)) : Nat → Int32 → zM → Option (zM)
  | 0 => fun _ _ => none
  | k + 1 => fun x31 S32 => f_X12_findSums_L70b n a0 x5 K29 (f_X12_findSums_L70 n a0 x5 K29 k) x31 S32
def f_X12_findSums_L35b (n : Nat) (a0 : Nat) (x5 : Int32) (K25 : zM → Option (zM)) (rec35 : Int32 → zM → Option (zM)) (x52 : Int32) (S53 : zM) : Option (zM) :=
  if (6 : Int32) ≤ x52 then K25 S53 else zB1 (f_X12_findLean n S53 a0 x5 x52) (fun S57 => zChk (¬ (zr S57 a0 39) = 0) (zChk (¬ ((((6 : Int32) * x5) + x52) < 0 ∨ zln S57 (zr S57 a0 39) ≤ ((((6 : Int32) * x5) + x52)).toNatClampNeg)) (zLet (zpI S57 (zr S57 a0 39) (Int32.toNatClampNeg (((6 : Int32) * x5) + x52)) (zi S57 a0 35)) (fun S65 => rec35 (x52 + (1 : Int32)) S65))))
def f_X12_findSums_L35 (n : Nat) (a0 : Nat) (x5 : Int32) (K25 : zM → Option (zM)) : Nat → Int32 → zM → Option (zM)
  | 0 => fun _ _ => none
  | k + 1 => fun x52 S53 => f_X12_findSums_L35b n a0 x5 K25 (f_X12_findSums_L35 n a0 x5 K25 k) x52 S53
def f_X12_findSums_L2b (n : Nat) (a0 : Nat) (K3 : zM → Option (zM)) (rec2 : Int32 → zM → Option (zM)) (x5 : Int32) (S6 : zM) : Option (zM) :=
  zChk (¬ (zr S6 a0 0) = 0) (zChk (¬ ((1002 : Int32) < 0 ∨ zln S6 (zr S6 a0 0) ≤ ((1002 : Int32)).toNatClampNeg)) (if (zi S6 (zr S6 a0 0) (Int32.toNatClampNeg (1002 : Int32))) ≤ x5 then K3 S6 else zChk (¬ (zr S6 a0 40) = 0) (zChk (¬ ((((16 : Int32) + ((4 : Int32) * x5)) + (1 : Int32)) < 0 ∨ zln S6 (zr S6 a0 0) ≤ ((((16 : Int32) + ((4 : Int32) * x5)) + (1 : Int32))).toNatClampNeg)) (zChk (¬ (x5 < 0 ∨ zln S6 (zr S6 a0 40) ≤ (x5).toNatClampNeg)) (zLet (zpI S6 (zr S6 a0 40) (Int32.toNatClampNeg x5) (zi S6 (zr S6 a0 0) (Int32.toNatClampNeg (((16 : Int32) + ((4 : Int32) * x5)) + (1 : Int32))))) (fun S17 => zLet (fun (S23 : zM) => zLet (fun (S27 : zM) => rec2 (x5 + (1 : Int32)) S27) (fun K29 => f_X12_findSums_L70 n a0 x5 K29 n (0 : Int32) S23)) (fun K25 => f_X12_findSums_L35 n a0 x5 K25 n (0 : Int32) S17)))))))
def f_X12_findSums_L2 (n : Nat) (a0 : Nat) (K3 : zM → Option (zM)) : Nat → Int32 → zM → Option (zM)
  | 0 => fun _ _ => none
  | k + 1 => fun x5 S6 => f_X12_findSums_L2b n a0 K3 (f_X12_findSums_L2 n a0 K3 k) x5 S6
def f_X12_findSums (n : Nat) (S0 : zM) (a0 : Nat) : Option (zM) :=
  zLet (fun (S1 : zM) => some S1) (fun K3 => f_X12_findSums_L2 n a0 K3 n (0 : Int32) S0)
set_option maxHeartbeats 4000000 in
set_option maxRecDepth 100000 in
theorem c_X12_findSums (l : Launch) (D : va_G) (cy : Nat → ClassId) (B : Nat) {n : Nat} {S0 : zM} {a0 : Nat} {S' : zM} (ha0 : zA S0 a0 12) (h : f_X12_findSums n S0 a0 = some S') : Met l yX12_findSums (zws yX12_findSums cX12_findSums 3 none) { frames := 5, cells := 0, slots := 0, locals := 117 } (zPc D cy B S0 [.ref (B + a0)]) (zQv D cy B S0 S') 0 0 (fun q => B < q) := by
  refine Met.ofW (cc := cX12_findSums) (maxL := 3) (ret := none) (by decide) rfl ?_
  intro p e s m args below meth c s₁ Bd hml hv
  obtain ⟨rfl, hC, hM⟩ := hv
  obtain ⟨hx, hb, hr, hg, hown, hlk⟩ := z_open Bd
  have hK := hC.1
  have hS : va_S (fun q => B < q) s.heap s.heap [] := va_S.rf
  have hX0 : zX S0 S0 := zX.rf
  refine z_entry (vs := [.ref (B + a0)]) (Nat.le_of_ble_eq_true rfl) (fun ls hl => ?_)
  have hl : lv_has ls 3 [(0, .ref (B + a0))] := hl
  unfold f_X12_findSums at h
  refine lv_iconst (v := (0 : Int32)) hx hb dX12_findSums_0 (by decide +kernel) ?_
  refine lv_istore_n (i := 1) (lv' := [(1, .int (0 : Int32)), (0, .ref (B + a0))]) hx hb dX12_findSums_1 rfl hl (by decide) rfl (fun ls hl => ?_)
  obtain ⟨K3, eK3, h⟩ := zlg h
  have hK3 : ∀ (S1 : zM) (H : Heap) (locs : List Loc), zMR D cy B S1 H → zX S0 S1 → va_S (fun q => B < q) s.heap H locs → ∀ ls : Array Slot, lv_has ls 3 [] → K3 S1 = some S' → W p l e (headSpec (zws yX12_findSums cX12_findSums 3 none) { frames := 5, cells := 0, slots := 0, locals := 117 }).room s m (([.ref (B + a0)] : List Value).toArray) below meth c H locs 0 0 (MQ below (zQv D cy B S0 S') (([.ref (B + a0)] : List Value).toArray) s 0 0 (fun q => B < q)) (F0 m 111 ls []) := by
    intro S1 H locs hM hX2 hS ls hl h
    rw [eK3] at h
    exact z_vret hx hb hr hlk hM hX2 hS (zsm h) dX12_findSums_111
  have hL2 : ∀ (k : Nat) (x5 : Int32) (S6 : zM) (H : Heap) (locs : List Loc), zMR D cy B S6 H → zX S0 S6 → va_S (fun q => B < q) s.heap H locs → zA S6 a0 12 → ∀ ls : Array Slot, lv_has ls 3 [(0, .ref (B + a0)), (1, .int x5)] → f_X12_findSums_L2 n a0 K3 k x5 S6 = some S' → W p l e (headSpec (zws yX12_findSums cX12_findSums 3 none) { frames := 5, cells := 0, slots := 0, locals := 117 }).room s m (([.ref (B + a0)] : List Value).toArray) below meth c H locs 0 0 (MQ below (zQv D cy B S0 S') (([.ref (B + a0)] : List Value).toArray) s 0 0 (fun q => B < q)) (F0 m 2 ls []) := by
    intro k
    induction k with
    | zero =>
      intro x5 S6 H locs hM hX7 hS h4 ls hl h
      exact znone h
    | succ k ih2 =>
      intro x5 S6 H locs hM hX7 hS h4 ls hl h
      replace h : f_X12_findSums_L2b n a0 K3 (f_X12_findSums_L2 n a0 K3 k) x5 S6 = some S' := h
      generalize f_X12_findSums_L2 n a0 K3 k = rec2 at ih2 h
      unfold f_X12_findSums_L2b at h
      refine lv_iload_n hx hb dX12_findSums_2 rfl (lv_at hl 1 rfl) ?_
      refine lv_aload_n hx hb dX12_findSums_3 rfl (lv_at hl 0 rfl) ?_
      obtain ⟨hq9, h⟩ := zk h
      refine z_getN hx hb hg zin_12 hown hK hM h4 0 rfl (by decide) (hg _ zw_1000) (fun _ h9 => h9) hq9 dX12_findSums_4 (fun h8 => ?_)
      refine lv_sipush (v := (1002 : Int32)) hx hb dX12_findSums_7 (by decide +kernel) ?_
      obtain ⟨hq10, h⟩ := zk h
      refine z_iald hx hb hK hM h8 hq10 dX12_findSums_10 ?_
      refine lv_icmp_ge (tgt := 111) hx hb dX12_findSums_11 (by decide) (fun hc11 => ?_) (fun hc11 => ?_)
      · have h := zt h hc11
        exact hK3 S6 _ _ hM hX7 hS _ (lv_sub hl [] rfl) h
      · have h := zf h hc11
        refine lv_aload_n hx hb dX12_findSums_14 rfl (lv_at hl 0 rfl) ?_
        obtain ⟨hq13, h⟩ := zk h
        refine z_getN hx hb hg zin_12 hown hK hM h4 40 rfl (by decide) (hg _ zw_1040) (fun _ h9 => h9) hq13 dX12_findSums_15 (fun h12 => ?_)
        refine lv_iload_n hx hb dX12_findSums_18 rfl (lv_at hl 1 rfl) ?_
        refine lv_aload_n hx hb dX12_findSums_19 rfl (lv_at hl 0 rfl) ?_
        refine z_getN hx hb hg zin_12 hown hK hM h4 0 rfl (by decide) (hg _ zw_1000) (fun _ h9 => h9) h8.ne dX12_findSums_20 (fun h14 => ?_)
        refine lv_bipush (v := (16 : Int32)) hx hb dX12_findSums_23 (by decide +kernel) ?_
        refine lv_iconst (v := (4 : Int32)) hx hb dX12_findSums_25 (by decide +kernel) ?_
        refine lv_iload_n hx hb dX12_findSums_26 rfl (lv_at hl 1 rfl) ?_
        refine lv_imul hx hb dX12_findSums_27 ?_
        refine lv_iadd hx hb dX12_findSums_28 ?_
        refine lv_iconst (v := (1 : Int32)) hx hb dX12_findSums_29 (by decide +kernel) ?_
        refine lv_iadd hx hb dX12_findSums_30 ?_
        obtain ⟨hq15, h⟩ := zk h
        refine z_iald hx hb hK hM h14 hq15 dX12_findSums_31 ?_
        obtain ⟨hq16, h⟩ := zk h
        refine z_iast hx hb hK hM hS h12 hq16 dX12_findSums_32 (fun H locs hM hS => ?_)
        obtain ⟨S17, e18, h⟩ := zlg h
        rw [← e18] at hM
        have hX19 : zX S6 S17 := by rw [e18]; exact zX_pI
        have h20 := h4.mo hX19
        have hX21 := hX7.tr hX19
        refine lv_iconst (v := (0 : Int32)) hx hb dX12_findSums_33 (by decide +kernel) ?_
        refine lv_istore_n (i := 2) (lv' := [(2, .int (0 : Int32)), (0, .ref (B + a0)), (1, .int x5)]) hx hb dX12_findSums_34 rfl hl (by decide) rfl (fun ls hl => ?_)
        obtain ⟨K25, eK25, h⟩ := zlg h
        have hK25 : ∀ (S23 : zM) (H : Heap) (locs : List Loc), zMR D cy B S23 H → zX S0 S23 → va_S (fun q => B < q) s.heap H locs → zA S23 a0 12 → ∀ ls : Array Slot, lv_has ls 3 [(0, .ref (B + a0)), (1, .int x5)] → K25 S23 = some S' → W p l e (headSpec (zws yX12_findSums cX12_findSums 3 none) { frames := 5, cells := 0, slots := 0, locals := 117 }).room s m (([.ref (B + a0)] : List Value).toArray) below meth c H locs 0 0 (MQ below (zQv D cy B S0 S') (([.ref (B + a0)] : List Value).toArray) s 0 0 (fun q => B < q)) (F0 m 68 ls []) := by
          intro S23 H locs hM hX24 hS h22 ls hl h
          rw [eK25] at h
          refine lv_iconst (v := (0 : Int32)) hx hb dX12_findSums_68 (by decide +kernel) ?_
          refine lv_istore_n (i := 2) (lv' := [(2, .int (0 : Int32)), (0, .ref (B + a0)), (1, .int x5)]) hx hb dX12_findSums_69 rfl hl (by decide) rfl (fun ls hl => ?_)
          obtain ⟨K29, eK29, h⟩ := zlg h
          have hK29 : ∀ (S27 : zM) (H : Heap) (locs : List Loc), zMR D cy B S27 H → zX S0 S27 → va_S (fun q => B < q) s.heap H locs → zA S27 a0 12 → ∀ ls : Array Slot, lv_has ls 3 [(0, .ref (B + a0)), (1, .int x5)] → K29 S27 = some S' → W p l e (headSpec (zws yX12_findSums cX12_findSums 3 none) { frames := 5, cells := 0, slots := 0, locals := 117 }).room s m (([.ref (B + a0)] : List Value).toArray) below meth c H locs 0 0 (MQ below (zQv D cy B S0 S') (([.ref (B + a0)] : List Value).toArray) s 0 0 (fun q => B < q)) (F0 m 105 ls []) := by
            intro S27 H locs hM hX28 hS h26 ls hl h
            rw [eK29] at h
            refine lv_iinc (v := (x5 + (1 : Int32))) (lv' := [(1, .int (x5 + (1 : Int32))), (0, .ref (B + a0))]) hx hb dX12_findSums_105 hl (k := 1) rfl rfl (by decide) rfl (fun ls hl => ?_)
            refine lv_goto (tgt := 2) hx hb dX12_findSums_108 (by decide) ?_
            exact ih2 (x5 + (1 : Int32)) S27 _ _ hM hX28 hS h26 _ (lv_sub hl [1, 0] rfl) h
          have hL70 : ∀ (k : Nat) (x31 : Int32) (S32 : zM) (H : Heap) (locs : List Loc), zMR D cy B S32 H → zX S0 S32 → va_S (fun q => B < q) s.heap H locs → zA S32 a0 12 → ∀ ls : Array Slot, lv_has ls 3 [(0, .ref (B + a0)), (1, .int x5), (2, .int x31)] → f_X12_findSums_L70 n a0 x5 K29 k x31 S32 = some S' → W p l e (headSpec (zws yX12_findSums cX12_findSums 3 none) { frames := 5, cells := 0, slots := 0, locals := 117 }).room s m (([.ref (B + a0)] : List Value).toArray) below meth c H locs 0 0 (MQ below (zQv D cy B S0 S') (([.ref (B + a0)] : List Value).toArray) s 0 0 (fun q => B < q)) (F0 m 70 ls []) := by
            intro k
            induction k with
            | zero =>
              intro x31 S32 H locs hM hX33 hS h30 ls hl h
              exact znone h
            | succ k ih70 =>
              intro x31 S32 H locs hM hX33 hS h30 ls hl h
              replace h : f_X12_findSums_L70b n a0 x5 K29 (f_X12_findSums_L70 n a0 x5 K29 k) x31 S32 = some S' := h
              generalize f_X12_findSums_L70 n a0 x5 K29 k = rec70 at ih70 h
              unfold f_X12_findSums_L70b at h
              refine lv_iload_n hx hb dX12_findSums_70 rfl (lv_at hl 2 rfl) ?_
              refine lv_aload_n hx hb dX12_findSums_71 rfl (lv_at hl 0 rfl) ?_
              obtain ⟨hq35, h⟩ := zk h
              refine z_getN hx hb hg zin_12 hown hK hM h30 0 rfl (by decide) (hg _ zw_1000) (fun _ h9 => h9) hq35 dX12_findSums_72 (fun h34 => ?_)
              refine lv_sipush (v := (1002 : Int32)) hx hb dX12_findSums_75 (by decide +kernel) ?_
              obtain ⟨hq36, h⟩ := zk h
              refine z_iald hx hb hK hM h34 hq36 dX12_findSums_78 ?_
              refine lv_icmp_ge (tgt := 105) hx hb dX12_findSums_79 (by decide) (fun hc37 => ?_) (fun hc37 => ?_)
              · have h := zt h hc37
                exact hK29 S32 _ _ hM hX33 hS h30 _ (lv_sub hl [0, 1] rfl) h
              · have h := zf h hc37
                refine lv_aload_n hx hb dX12_findSums_82 rfl (lv_at hl 0 rfl) ?_
                obtain ⟨hq39, h⟩ := zk h
                refine z_getN hx hb hg zin_12 hown hK hM h30 41 rfl (by decide) (hg _ zw_1041) (fun _ h9 => h9) hq39 dX12_findSums_83 (fun h38 => ?_)
                refine lv_bipush (v := (12 : Int32)) hx hb dX12_findSums_86 (by decide +kernel) ?_
                refine lv_iload_n hx hb dX12_findSums_88 rfl (lv_at hl 1 rfl) ?_
                refine lv_imul hx hb dX12_findSums_89 ?_
                refine lv_iload_n hx hb dX12_findSums_90 rfl (lv_at hl 2 rfl) ?_
                refine lv_iadd hx hb dX12_findSums_91 ?_
                refine lv_aload_n hx hb dX12_findSums_92 rfl (lv_at hl 0 rfl) ?_
                refine lv_iload_n hx hb dX12_findSums_93 rfl (lv_at hl 1 rfl) ?_
                refine lv_iload_n hx hb dX12_findSums_94 rfl (lv_at hl 2 rfl) ?_
                obtain ⟨r41, hr40, h⟩ := zb1 h
                refine z_runi (va_runV (As := [.int x5, .int x31]) (rest := [.int (((12 : Int32) * x5) + x31), .ref (B + (zr S32 a0 41))]) ⟨hx, hb, hml, hown, hg⟩ (c_X12_sits l D cy B h30 hr40) (z_cwV hg zw_1342 zw_1343 zw_1520 zw_13 zw_1344 zh_X12_sits ⟨(Nat.le_of_ble_eq_true rfl), (Nat.le_of_ble_eq_true rfl)⟩) (zPV hC hM h30 (by decide) rfl) rfl rfl hl.1 rfl (lv_room (Nat.le_of_ble_eq_true rfl)) dX12_findSums_95 ⟨(Nat.le_of_ble_eq_true rfl), (Nat.le_of_ble_eq_true rfl)⟩) hS (fun H locs hM hX42 hS => ?_)
                obtain ⟨hq44, h⟩ := zk h
                obtain ⟨hb45, h⟩ := zk h
                refine z_zast hx hb hK hM hS h38 (z_bit hb45).1 hq44 dX12_findSums_98 (fun H locs hM hS => ?_)
                obtain ⟨S46, e47, h⟩ := zlg h
                rw [← e47] at hM
                have hX48 : zX S32 S46 := by rw [e47]; exact zX_pI
                have h49 := h30.mo hX48
                have hX50 := hX33.tr hX48
                refine lv_iinc (v := (x31 + (1 : Int32))) (lv' := [(2, .int (x31 + (1 : Int32))), (0, .ref (B + a0)), (1, .int x5)]) hx hb dX12_findSums_99 hl (k := 2) rfl rfl (by decide) rfl (fun ls hl => ?_)
                refine lv_goto (tgt := 70) hx hb dX12_findSums_102 (by decide) ?_
                exact ih70 (x31 + (1 : Int32)) S46 _ _ hM hX50 hS h49 _ (lv_sub hl [1, 2, 0] rfl) h
          exact hL70 n (0 : Int32) S23 _ _ hM hX24 hS h22 _ (lv_sub hl [1, 2, 0] rfl) h
        have hL35 : ∀ (k : Nat) (x52 : Int32) (S53 : zM) (H : Heap) (locs : List Loc), zMR D cy B S53 H → zX S0 S53 → va_S (fun q => B < q) s.heap H locs → zA S53 a0 12 → ∀ ls : Array Slot, lv_has ls 3 [(0, .ref (B + a0)), (1, .int x5), (2, .int x52)] → f_X12_findSums_L35 n a0 x5 K25 k x52 S53 = some S' → W p l e (headSpec (zws yX12_findSums cX12_findSums 3 none) { frames := 5, cells := 0, slots := 0, locals := 117 }).room s m (([.ref (B + a0)] : List Value).toArray) below meth c H locs 0 0 (MQ below (zQv D cy B S0 S') (([.ref (B + a0)] : List Value).toArray) s 0 0 (fun q => B < q)) (F0 m 35 ls []) := by
          intro k
          induction k with
          | zero =>
            intro x52 S53 H locs hM hX54 hS h51 ls hl h
            exact znone h
          | succ k ih35 =>
            intro x52 S53 H locs hM hX54 hS h51 ls hl h
            replace h : f_X12_findSums_L35b n a0 x5 K25 (f_X12_findSums_L35 n a0 x5 K25 k) x52 S53 = some S' := h
            generalize f_X12_findSums_L35 n a0 x5 K25 k = rec35 at ih35 h
            unfold f_X12_findSums_L35b at h
            refine lv_iload_n hx hb dX12_findSums_35 rfl (lv_at hl 2 rfl) ?_
            refine lv_bipush (v := (6 : Int32)) hx hb dX12_findSums_36 (by decide +kernel) ?_
            refine lv_icmp_ge (tgt := 68) hx hb dX12_findSums_38 (by decide) (fun hc55 => ?_) (fun hc55 => ?_)
            · have h := zt h hc55
              exact hK25 S53 _ _ hM hX54 hS h51 _ (lv_sub hl [0, 1] rfl) h
            · have h := zf h hc55
              refine lv_aload_n hx hb dX12_findSums_41 rfl (lv_at hl 0 rfl) ?_
              refine lv_iload_n hx hb dX12_findSums_42 rfl (lv_at hl 1 rfl) ?_
              refine lv_iload_n hx hb dX12_findSums_43 rfl (lv_at hl 2 rfl) ?_
              obtain ⟨S57, hr56, h⟩ := zb1 h
              refine z_runv (va_runV (As := [.int x5, .int x52]) (rest := []) ⟨hx, hb, hml, hown, hg⟩ (c_X12_findLean l D cy B h51 hr56) (z_cwV hg zw_1328 zw_1329 zw_1517 zw_13 zw_1330 zh_X12_findLean ⟨(Nat.le_of_ble_eq_true rfl), (Nat.le_of_ble_eq_true rfl)⟩) (zPV hC hM h51 (by decide) rfl) rfl rfl hl.1 rfl (lv_room (Nat.le_of_ble_eq_true rfl)) dX12_findSums_44 ⟨(Nat.le_of_ble_eq_true rfl), (Nat.le_of_ble_eq_true rfl)⟩) hS (fun H locs hM hX58 hS => ?_)
              have h60 := h51.mo hX58
              have hX61 := hX54.tr hX58
              refine lv_aload_n hx hb dX12_findSums_47 rfl (lv_at hl 0 rfl) ?_
              obtain ⟨hq63, h⟩ := zk h
              refine z_getN hx hb hg zin_12 hown hK hM h60 39 rfl (by decide) (hg _ zw_1039) (fun _ h9 => h9) hq63 dX12_findSums_48 (fun h62 => ?_)
              refine lv_bipush (v := (6 : Int32)) hx hb dX12_findSums_51 (by decide +kernel) ?_
              refine lv_iload_n hx hb dX12_findSums_53 rfl (lv_at hl 1 rfl) ?_
              refine lv_imul hx hb dX12_findSums_54 ?_
              refine lv_iload_n hx hb dX12_findSums_55 rfl (lv_at hl 2 rfl) ?_
              refine lv_iadd hx hb dX12_findSums_56 ?_
              refine lv_aload_n hx hb dX12_findSums_57 rfl (lv_at hl 0 rfl) ?_
              refine z_getI hx hb hg zin_12 hown hK hM h60 35 rfl (by decide) (hg _ zw_1035) (fun _ h9 => h9) dX12_findSums_58 ?_
              obtain ⟨hq64, h⟩ := zk h
              refine z_iast hx hb hK hM hS h62 hq64 dX12_findSums_61 (fun H locs hM hS => ?_)
              obtain ⟨S65, e66, h⟩ := zlg h
              rw [← e66] at hM
              have hX67 : zX S57 S65 := by rw [e66]; exact zX_pI
              have h68 := h60.mo hX67
              have hX69 := hX61.tr hX67
              refine lv_iinc (v := (x52 + (1 : Int32))) (lv' := [(2, .int (x52 + (1 : Int32))), (0, .ref (B + a0)), (1, .int x5)]) hx hb dX12_findSums_62 hl (k := 2) rfl rfl (by decide) rfl (fun ls hl => ?_)
              refine lv_goto (tgt := 35) hx hb dX12_findSums_65 (by decide) ?_
              exact ih35 (x52 + (1 : Int32)) S65 _ _ hM hX69 hS h68 _ (lv_sub hl [1, 2, 0] rfl) h
        exact hL35 n (0 : Int32) S17 _ _ hM hX21 hS h20 _ (lv_sub hl [1, 2, 0] rfl) h
  exact hL2 n (0 : Int32) S0 _ _ hM hX0 hS ha0 _ (lv_sub hl [1, 0] rfl) h
def f_X12_pairsNow_L18b (S0 : zM) (a0 : Nat) (x6 : Int32) (K15 : Int32 → Option (Int32)) (rec18 : Int32 → Int32 → Option (Int32)) (x17 : Int32) (x18 : Int32) : Option (Int32) :=
  if x6 ≤ x18 then K15 x17 else zChk (¬ (zr S0 a0 40) = 0) (zChk (¬ (x6 < 0 ∨ zln S0 (zr S0 a0 40) ≤ (x6).toNatClampNeg)) (zChk (¬ (x18 < 0 ∨ zln S0 (zr S0 a0 40) ≤ (x18).toNatClampNeg)) (zLet (fun (x27 : Int32) => rec18 (x17 + x27) (x18 + (1 : Int32))) (fun K29 => zLet (K29 (0 : Int32)) (fun K32 => if (zi S0 (zr S0 a0 40) (Int32.toNatClampNeg x6)) = (zi S0 (zr S0 a0 40) (Int32.toNatClampNeg x18)) then K32 else zChk (¬ (zr S0 a0 41) = 0) (zChk (¬ ((((12 : Int32) * x6) + x18) < 0 ∨ zln S0 (zr S0 a0 41) ≤ ((((12 : Int32) * x6) + x18)).toNatClampNeg)) (if (zi S0 (zr S0 a0 41) (Int32.toNatClampNeg (((12 : Int32) * x6) + x18))) = 0 then zChk (¬ (zr S0 a0 39) = 0) (zChk (¬ (x18 < 0 ∨ zln S0 (zr S0 a0 40) ≤ (x18).toNatClampNeg)) (zChk (¬ ((((6 : Int32) * x6) + (zi S0 (zr S0 a0 40) (Int32.toNatClampNeg x18))) < 0 ∨ zln S0 (zr S0 a0 39) ≤ ((((6 : Int32) * x6) + (zi S0 (zr S0 a0 40) (Int32.toNatClampNeg x18)))).toNatClampNeg)) (if (zi S0 (zr S0 a0 39) (Int32.toNatClampNeg (((6 : Int32) * x6) + (zi S0 (zr S0 a0 40) (Int32.toNatClampNeg x18))))) ≤ 0 then K32 else zChk (¬ (x6 < 0 ∨ zln S0 (zr S0 a0 40) ≤ (x6).toNatClampNeg)) (zChk (¬ ((((6 : Int32) * x18) + (zi S0 (zr S0 a0 40) (Int32.toNatClampNeg x6))) < 0 ∨ zln S0 (zr S0 a0 39) ≤ ((((6 : Int32) * x18) + (zi S0 (zr S0 a0 40) (Int32.toNatClampNeg x6)))).toNatClampNeg)) (if (zi S0 (zr S0 a0 39) (Int32.toNatClampNeg (((6 : Int32) * x18) + (zi S0 (zr S0 a0 40) (Int32.toNatClampNeg x6))))) ≤ 0 then K32 else K29 (1 : Int32)))))) else K32)))))))
def f_X12_pairsNow_L18 (S0 : zM) (a0 : Nat) (x6 : Int32) (K15 : Int32 → Option (Int32)) : Nat → Int32 → Int32 → Option (Int32)
  | 0 => fun _ _ => none
  | k + 1 => fun x17 x18 => f_X12_pairsNow_L18b S0 a0 x6 K15 (f_X12_pairsNow_L18 S0 a0 x6 K15 k) x17 x18
def f_X12_pairsNow_L4b (n : Nat) (S0 : zM) (a0 : Nat) (K3 : Int32 → Option (Int32)) (rec4 : Int32 → Int32 → Option (Int32)) (x5 : Int32) (x6 : Int32) : Option (Int32) :=
  zChk (¬ (zr S0 a0 0) = 0) (zChk (¬ ((1002 : Int32) < 0 ∨ zln S0 (zr S0 a0 0) ≤ ((1002 : Int32)).toNatClampNeg)) (if (zi S0 (zr S0 a0 0) (Int32.toNatClampNeg (1002 : Int32))) ≤ x6 then K3 x5 else zLet (fun (x13 : Int32) => rec4 x13 (x6 + (1 : Int32))) (fun K15 => f_X12_pairsNow_L18 S0 a0 x6 K15 n x5 (0 : Int32))))
def f_X12_pairsNow_L4 (n : Nat) (S0 : zM) (a0 : Nat) (K3 : Int32 → Option (Int32)) : Nat → Int32 → Int32 → Option (Int32)
  | 0 => fun _ _ => none
  | k + 1 => fun x5 x6 => f_X12_pairsNow_L4b n S0 a0 K3 (f_X12_pairsNow_L4 n S0 a0 K3 k) x5 x6
def f_X12_pairsNow (n : Nat) (S0 : zM) (a0 : Nat) : Option (Int32) :=
  zLet (fun (x1 : Int32) => some x1) (fun K3 => f_X12_pairsNow_L4 n S0 a0 K3 n (0 : Int32) (0 : Int32))
set_option maxHeartbeats 4000000 in
set_option maxRecDepth 100000 in
theorem c_X12_pairsNow (l : Launch) (D : va_G) (cy : Nat → ClassId) (B : Nat) {n : Nat} {S0 : zM} {a0 : Nat} {r : Int32} (ha0 : zA S0 a0 12) (h : f_X12_pairsNow n S0 a0 = some r) : Met l yX12_pairsNow (zws yX12_pairsNow cX12_pairsNow 4 ((some .int))) { frames := 0, cells := 0, slots := 0, locals := 0 } (zPc D cy B S0 [.ref (B + a0)]) (zQi D cy B S0 r S0) 0 0 (fun q => B < q) := by
  refine Met.ofW (cc := cX12_pairsNow) (maxL := 4) (ret := ((some .int))) (by decide) rfl ?_
  intro p e s m args below meth c s₁ Bd hml hv
  obtain ⟨rfl, hC, hM⟩ := hv
  obtain ⟨hx, hb, hr, hg, hown, hlk⟩ := z_open Bd
  have hK := hC.1
  have hS : va_S (fun q => B < q) s.heap s.heap [] := va_S.rf
  have hX0 : zX S0 S0 := zX.rf
  refine z_entry (vs := [.ref (B + a0)]) (Nat.le_of_ble_eq_true rfl) (fun ls hl => ?_)
  have hl : lv_has ls 4 [(0, .ref (B + a0))] := hl
  unfold f_X12_pairsNow at h
  refine lv_iconst (v := (0 : Int32)) hx hb dX12_pairsNow_0 (by decide +kernel) ?_
  refine lv_istore_n (i := 1) (lv' := [(1, .int (0 : Int32)), (0, .ref (B + a0))]) hx hb dX12_pairsNow_1 rfl hl (by decide) rfl (fun ls hl => ?_)
  refine lv_iconst (v := (0 : Int32)) hx hb dX12_pairsNow_2 (by decide +kernel) ?_
  refine lv_istore_n (i := 2) (lv' := [(2, .int (0 : Int32)), (1, .int (0 : Int32)), (0, .ref (B + a0))]) hx hb dX12_pairsNow_3 rfl hl (by decide) rfl (fun ls hl => ?_)
  obtain ⟨K3, eK3, h⟩ := zlg h
  have hK3 : ∀ (x1 : Int32) (H : Heap) (locs : List Loc), zMR D cy B S0 H → zX S0 S0 → va_S (fun q => B < q) s.heap H locs → ∀ ls : Array Slot, lv_has ls 4 [(1, .int x1)] → K3 x1 = some r → W p l e (headSpec (zws yX12_pairsNow cX12_pairsNow 4 ((some .int))) { frames := 0, cells := 0, slots := 0, locals := 0 }).room s m (([.ref (B + a0)] : List Value).toArray) below meth c H locs 0 0 (MQ below (zQi D cy B S0 r S0) (([.ref (B + a0)] : List Value).toArray) s 0 0 (fun q => B < q)) (F0 m 110 ls []) := by
    intro x1 H locs hM hX2 hS ls hl h
    rw [eK3] at h
    refine lv_iload_n hx hb dX12_pairsNow_110 rfl (lv_at hl 0 rfl) ?_
    exact z_iret hx hb hr hlk hM hX2 hS ⟨zsm h, rfl⟩ dX12_pairsNow_111
  have hL4 : ∀ (k : Nat) (x5 : Int32) (x6 : Int32) (H : Heap) (locs : List Loc), zMR D cy B S0 H → zX S0 S0 → va_S (fun q => B < q) s.heap H locs → zA S0 a0 12 → ∀ ls : Array Slot, lv_has ls 4 [(0, .ref (B + a0)), (1, .int x5), (2, .int x6)] → f_X12_pairsNow_L4 n S0 a0 K3 k x5 x6 = some r → W p l e (headSpec (zws yX12_pairsNow cX12_pairsNow 4 ((some .int))) { frames := 0, cells := 0, slots := 0, locals := 0 }).room s m (([.ref (B + a0)] : List Value).toArray) below meth c H locs 0 0 (MQ below (zQi D cy B S0 r S0) (([.ref (B + a0)] : List Value).toArray) s 0 0 (fun q => B < q)) (F0 m 4 ls []) := by
    intro k
    induction k with
    | zero =>
      intro x5 x6 H locs hM hX7 hS h4 ls hl h
      exact znone h
    | succ k ih4 =>
      intro x5 x6 H locs hM hX7 hS h4 ls hl h
      replace h : f_X12_pairsNow_L4b n S0 a0 K3 (f_X12_pairsNow_L4 n S0 a0 K3 k) x5 x6 = some r := h
      generalize f_X12_pairsNow_L4 n S0 a0 K3 k = rec4 at ih4 h
      unfold f_X12_pairsNow_L4b at h
      refine lv_iload_n hx hb dX12_pairsNow_4 rfl (lv_at hl 2 rfl) ?_
      refine lv_aload_n hx hb dX12_pairsNow_5 rfl (lv_at hl 0 rfl) ?_
      obtain ⟨hq9, h⟩ := zk h
      refine z_getN hx hb hg zin_12 hown hK hM h4 0 rfl (by decide) (hg _ zw_1000) (fun _ h9 => h9) hq9 dX12_pairsNow_6 (fun h8 => ?_)
      refine lv_sipush (v := (1002 : Int32)) hx hb dX12_pairsNow_9 (by decide +kernel) ?_
      obtain ⟨hq10, h⟩ := zk h
      refine z_iald hx hb hK hM h8 hq10 dX12_pairsNow_12 ?_
      refine lv_icmp_ge (tgt := 110) hx hb dX12_pairsNow_13 (by decide) (fun hc11 => ?_) (fun hc11 => ?_)
      · have h := zt h hc11
        exact hK3 x5 _ _ hM hX7 hS _ (lv_sub hl [1] rfl) h
      · have h := zf h hc11
        refine lv_iconst (v := (0 : Int32)) hx hb dX12_pairsNow_16 (by decide +kernel) ?_
        refine lv_istore_n (i := 3) (lv' := [(3, .int (0 : Int32)), (0, .ref (B + a0)), (1, .int x5), (2, .int x6)]) hx hb dX12_pairsNow_17 rfl hl (by decide) rfl (fun ls hl => ?_)
        obtain ⟨K15, eK15, h⟩ := zlg h
        have hK15 : ∀ (x13 : Int32) (H : Heap) (locs : List Loc), zMR D cy B S0 H → zX S0 S0 → va_S (fun q => B < q) s.heap H locs → zA S0 a0 12 → ∀ ls : Array Slot, lv_has ls 4 [(0, .ref (B + a0)), (1, .int x13), (2, .int x6)] → K15 x13 = some r → W p l e (headSpec (zws yX12_pairsNow cX12_pairsNow 4 ((some .int))) { frames := 0, cells := 0, slots := 0, locals := 0 }).room s m (([.ref (B + a0)] : List Value).toArray) below meth c H locs 0 0 (MQ below (zQi D cy B S0 r S0) (([.ref (B + a0)] : List Value).toArray) s 0 0 (fun q => B < q)) (F0 m 104 ls []) := by
          intro x13 H locs hM hX14 hS h12 ls hl h
          rw [eK15] at h
          refine lv_iinc (v := (x6 + (1 : Int32))) (lv' := [(2, .int (x6 + (1 : Int32))), (0, .ref (B + a0)), (1, .int x13)]) hx hb dX12_pairsNow_104 hl (k := 2) rfl rfl (by decide) rfl (fun ls hl => ?_)
          refine lv_goto (tgt := 4) hx hb dX12_pairsNow_107 (by decide) ?_
          exact ih4 x13 (x6 + (1 : Int32)) _ _ hM hX14 hS h12 _ (lv_sub hl [1, 2, 0] rfl) h
        have hL18 : ∀ (k : Nat) (x17 : Int32) (x18 : Int32) (H : Heap) (locs : List Loc), zMR D cy B S0 H → zX S0 S0 → va_S (fun q => B < q) s.heap H locs → zA S0 a0 12 → ∀ ls : Array Slot, lv_has ls 4 [(0, .ref (B + a0)), (1, .int x17), (2, .int x6), (3, .int x18)] → f_X12_pairsNow_L18 S0 a0 x6 K15 k x17 x18 = some r → W p l e (headSpec (zws yX12_pairsNow cX12_pairsNow 4 ((some .int))) { frames := 0, cells := 0, slots := 0, locals := 0 }).room s m (([.ref (B + a0)] : List Value).toArray) below meth c H locs 0 0 (MQ below (zQi D cy B S0 r S0) (([.ref (B + a0)] : List Value).toArray) s 0 0 (fun q => B < q)) (F0 m 18 ls []) := by
          intro k
          induction k with
          | zero =>
            intro x17 x18 H locs hM hX19 hS h16 ls hl h
            exact znone h
          | succ k ih18 =>
            intro x17 x18 H locs hM hX19 hS h16 ls hl h
            replace h : f_X12_pairsNow_L18b S0 a0 x6 K15 (f_X12_pairsNow_L18 S0 a0 x6 K15 k) x17 x18 = some r := h
            generalize f_X12_pairsNow_L18 S0 a0 x6 K15 k = rec18 at ih18 h
            unfold f_X12_pairsNow_L18b at h
            refine lv_iload_n hx hb dX12_pairsNow_18 rfl (lv_at hl 3 rfl) ?_
            refine lv_iload_n hx hb dX12_pairsNow_19 rfl (lv_at hl 2 rfl) ?_
            refine lv_icmp_ge (tgt := 104) hx hb dX12_pairsNow_20 (by decide) (fun hc20 => ?_) (fun hc20 => ?_)
            · have h := zt h hc20
              exact hK15 x17 _ _ hM hX19 hS h16 _ (lv_sub hl [0, 1, 2] rfl) h
            · have h := zf h hc20
              refine lv_iload_n hx hb dX12_pairsNow_23 rfl (lv_at hl 1 rfl) ?_
              refine lv_aload_n hx hb dX12_pairsNow_24 rfl (lv_at hl 0 rfl) ?_
              obtain ⟨hq22, h⟩ := zk h
              refine z_getN hx hb hg zin_12 hown hK hM h16 40 rfl (by decide) (hg _ zw_1040) (fun _ h9 => h9) hq22 dX12_pairsNow_25 (fun h21 => ?_)
              refine lv_iload_n hx hb dX12_pairsNow_28 rfl (lv_at hl 2 rfl) ?_
              obtain ⟨hq23, h⟩ := zk h
              refine z_iald hx hb hK hM h21 hq23 dX12_pairsNow_29 ?_
              refine lv_aload_n hx hb dX12_pairsNow_30 rfl (lv_at hl 0 rfl) ?_
              refine z_getN hx hb hg zin_12 hown hK hM h16 40 rfl (by decide) (hg _ zw_1040) (fun _ h9 => h9) h21.ne dX12_pairsNow_31 (fun h24 => ?_)
              refine lv_iload_n hx hb dX12_pairsNow_34 rfl (lv_at hl 3 rfl) ?_
              obtain ⟨hq25, h⟩ := zk h
              refine z_iald hx hb hK hM h24 hq25 dX12_pairsNow_35 ?_
              obtain ⟨K29, eK29, h⟩ := zlg h
              have hK29 : ∀ (x27 : Int32) (H : Heap) (locs : List Loc), zMR D cy B S0 H → zX S0 S0 → va_S (fun q => B < q) s.heap H locs → zA S0 a0 12 → ∀ ls : Array Slot, lv_has ls 4 [(0, .ref (B + a0)), (2, .int x6), (3, .int x18)] → K29 x27 = some r → W p l e (headSpec (zws yX12_pairsNow cX12_pairsNow 4 ((some .int))) { frames := 0, cells := 0, slots := 0, locals := 0 }).room s m (([.ref (B + a0)] : List Value).toArray) below meth c H locs 0 0 (MQ below (zQi D cy B S0 r S0) (([.ref (B + a0)] : List Value).toArray) s 0 0 (fun q => B < q)) (F0 m 96 ls [.int x27, .int x17]) := by
                intro x27 H locs hM hX28 hS h26 ls hl h
                rw [eK29] at h
                refine lv_iadd hx hb dX12_pairsNow_96 ?_
                refine lv_istore_n (i := 1) (lv' := [(1, .int (x17 + x27)), (0, .ref (B + a0)), (2, .int x6), (3, .int x18)]) hx hb dX12_pairsNow_97 rfl hl (by decide) rfl (fun ls hl => ?_)
                refine lv_iinc (v := (x18 + (1 : Int32))) (lv' := [(3, .int (x18 + (1 : Int32))), (1, .int (x17 + x27)), (0, .ref (B + a0)), (2, .int x6)]) hx hb dX12_pairsNow_98 hl (k := 3) rfl rfl (by decide) rfl (fun ls hl => ?_)
                refine lv_goto (tgt := 18) hx hb dX12_pairsNow_101 (by decide) ?_
                exact ih18 (x17 + x27) (x18 + (1 : Int32)) _ _ hM hX28 hS h26 _ (lv_sub hl [2, 1, 3, 0] rfl) h
              obtain ⟨K32, eK32, h⟩ := zlg h
              have hK32 : ∀ (H : Heap) (locs : List Loc), zMR D cy B S0 H → zX S0 S0 → va_S (fun q => B < q) s.heap H locs → zA S0 a0 12 → ∀ ls : Array Slot, lv_has ls 4 [(0, .ref (B + a0)), (2, .int x6), (3, .int x18)] → K32 = some r → W p l e (headSpec (zws yX12_pairsNow cX12_pairsNow 4 ((some .int))) { frames := 0, cells := 0, slots := 0, locals := 0 }).room s m (([.ref (B + a0)] : List Value).toArray) below meth c H locs 0 0 (MQ below (zQi D cy B S0 r S0) (([.ref (B + a0)] : List Value).toArray) s 0 0 (fun q => B < q)) (F0 m 95 ls [.int x17]) := by
                intro H locs hM hX31 hS h30 ls hl h
                rw [eK32] at h
                refine lv_iconst (v := (0 : Int32)) hx hb dX12_pairsNow_95 (by decide +kernel) ?_
                exact hK29 (0 : Int32) _ _ hM hX31 hS h30 _ (lv_sub hl [0, 1, 2] rfl) h
              refine lv_icmp_eq (tgt := 95) hx hb dX12_pairsNow_36 (by decide) (fun hc33 => ?_) (fun hc33 => ?_)
              · have h := zt h hc33
                exact hK32 _ _ hM hX19 hS h16 _ (lv_sub hl [0, 2, 3] rfl) h
              · have h := zf h hc33
                refine lv_aload_n hx hb dX12_pairsNow_39 rfl (lv_at hl 0 rfl) ?_
                obtain ⟨hq35, h⟩ := zk h
                refine z_getN hx hb hg zin_12 hown hK hM h16 41 rfl (by decide) (hg _ zw_1041) (fun _ h9 => h9) hq35 dX12_pairsNow_40 (fun h34 => ?_)
                refine lv_bipush (v := (12 : Int32)) hx hb dX12_pairsNow_43 (by decide +kernel) ?_
                refine lv_iload_n hx hb dX12_pairsNow_45 rfl (lv_at hl 2 rfl) ?_
                refine lv_imul hx hb dX12_pairsNow_46 ?_
                refine lv_iload_n hx hb dX12_pairsNow_47 rfl (lv_at hl 3 rfl) ?_
                refine lv_iadd hx hb dX12_pairsNow_48 ?_
                obtain ⟨hq36, h⟩ := zk h
                refine z_zald hx hb hK hM h34 hq36 dX12_pairsNow_49 ?_
                refine lv_if_ne (tgt := 95) hx hb dX12_pairsNow_50 (by decide) (fun hc37 => ?_) (fun hc37 => ?_)
                · have h := zf h hc37
                  exact hK32 _ _ hM hX19 hS h16 _ (lv_sub hl [0, 2, 3] rfl) h
                · have h := zt h hc37
                  refine lv_aload_n hx hb dX12_pairsNow_53 rfl (lv_at hl 0 rfl) ?_
                  obtain ⟨hq39, h⟩ := zk h
                  refine z_getN hx hb hg zin_12 hown hK hM h16 39 rfl (by decide) (hg _ zw_1039) (fun _ h9 => h9) hq39 dX12_pairsNow_54 (fun h38 => ?_)
                  refine lv_bipush (v := (6 : Int32)) hx hb dX12_pairsNow_57 (by decide +kernel) ?_
                  refine lv_iload_n hx hb dX12_pairsNow_59 rfl (lv_at hl 2 rfl) ?_
                  refine lv_imul hx hb dX12_pairsNow_60 ?_
                  refine lv_aload_n hx hb dX12_pairsNow_61 rfl (lv_at hl 0 rfl) ?_
                  refine z_getN hx hb hg zin_12 hown hK hM h16 40 rfl (by decide) (hg _ zw_1040) (fun _ h9 => h9) h24.ne dX12_pairsNow_62 (fun h40 => ?_)
                  refine lv_iload_n hx hb dX12_pairsNow_65 rfl (lv_at hl 3 rfl) ?_
                  obtain ⟨hq41, h⟩ := zk h
                  refine z_iald hx hb hK hM h40 hq41 dX12_pairsNow_66 ?_
                  refine lv_iadd hx hb dX12_pairsNow_67 ?_
                  obtain ⟨hq42, h⟩ := zk h
                  refine z_iald hx hb hK hM h38 hq42 dX12_pairsNow_68 ?_
                  refine lv_if_le (tgt := 95) hx hb dX12_pairsNow_69 (by decide) (fun hc43 => ?_) (fun hc43 => ?_)
                  · have h := zt h hc43
                    exact hK32 _ _ hM hX19 hS h16 _ (lv_sub hl [0, 2, 3] rfl) h
                  · have h := zf h hc43
                    refine lv_aload_n hx hb dX12_pairsNow_72 rfl (lv_at hl 0 rfl) ?_
                    refine z_getN hx hb hg zin_12 hown hK hM h16 39 rfl (by decide) (hg _ zw_1039) (fun _ h9 => h9) h38.ne dX12_pairsNow_73 (fun h44 => ?_)
                    refine lv_bipush (v := (6 : Int32)) hx hb dX12_pairsNow_76 (by decide +kernel) ?_
                    refine lv_iload_n hx hb dX12_pairsNow_78 rfl (lv_at hl 3 rfl) ?_
                    refine lv_imul hx hb dX12_pairsNow_79 ?_
                    refine lv_aload_n hx hb dX12_pairsNow_80 rfl (lv_at hl 0 rfl) ?_
                    refine z_getN hx hb hg zin_12 hown hK hM h16 40 rfl (by decide) (hg _ zw_1040) (fun _ h9 => h9) h40.ne dX12_pairsNow_81 (fun h45 => ?_)
                    refine lv_iload_n hx hb dX12_pairsNow_84 rfl (lv_at hl 2 rfl) ?_
                    obtain ⟨hq46, h⟩ := zk h
                    refine z_iald hx hb hK hM h45 hq46 dX12_pairsNow_85 ?_
                    refine lv_iadd hx hb dX12_pairsNow_86 ?_
                    obtain ⟨hq47, h⟩ := zk h
                    refine z_iald hx hb hK hM h44 hq47 dX12_pairsNow_87 ?_
                    refine lv_if_le (tgt := 95) hx hb dX12_pairsNow_88 (by decide) (fun hc48 => ?_) (fun hc48 => ?_)
                    · have h := zt h hc48
                      exact hK32 _ _ hM hX19 hS h16 _ (lv_sub hl [0, 2, 3] rfl) h
                    · have h := zf h hc48
                      refine lv_iconst (v := (1 : Int32)) hx hb dX12_pairsNow_91 (by decide +kernel) ?_
                      refine lv_goto (tgt := 96) hx hb dX12_pairsNow_92 (by decide) ?_
                      exact hK29 (1 : Int32) _ _ hM hX19 hS h16 _ (lv_sub hl [0, 2, 3] rfl) h
        exact hL18 n x5 (0 : Int32) _ _ hM hX7 hS h4 _ (lv_sub hl [1, 2, 3, 0] rfl) h
  exact hL4 n (0 : Int32) (0 : Int32) _ _ hM hX0 hS ha0 _ (lv_sub hl [2, 1, 0] rfl) h
def f_X12_pairs (n : Nat) (S0 : zM) (a0 : Nat) : Option (Int32 × zM) :=
  zB1 (f_X12_findSums n S0 a0) (fun S2 => zB1 (f_X12_pairsNow n S2 a0) (fun r8 => some ((r8, S2))))
set_option maxHeartbeats 4000000 in
set_option maxRecDepth 100000 in
theorem c_X12_pairs (l : Launch) (D : va_G) (cy : Nat → ClassId) (B : Nat) {n : Nat} {S0 : zM} {a0 : Nat} {r : Int32} {S' : zM} (ha0 : zA S0 a0 12) (h : f_X12_pairs n S0 a0 = some (r, S')) : Met l yX12_pairs (zws yX12_pairs cX12_pairs 1 ((some .int))) { frames := 6, cells := 0, slots := 0, locals := 139 } (zPc D cy B S0 [.ref (B + a0)]) (zQi D cy B S0 r S') 0 0 (fun q => B < q) := by
  refine Met.ofW (cc := cX12_pairs) (maxL := 1) (ret := ((some .int))) (by decide) rfl ?_
  intro p e s m args below meth c s₁ Bd hml hv
  obtain ⟨rfl, hC, hM⟩ := hv
  obtain ⟨hx, hb, hr, hg, hown, hlk⟩ := z_open Bd
  have hK := hC.1
  have hS : va_S (fun q => B < q) s.heap s.heap [] := va_S.rf
  have hX0 : zX S0 S0 := zX.rf
  refine z_entry (vs := [.ref (B + a0)]) (Nat.le_of_ble_eq_true rfl) (fun ls hl => ?_)
  have hl : lv_has ls 1 [(0, .ref (B + a0))] := hl
  unfold f_X12_pairs at h
  refine lv_aload_n hx hb dX12_pairs_0 rfl (lv_at hl 0 rfl) ?_
  obtain ⟨S2, hr1, h⟩ := zb1 h
  refine z_runv (va_runV (As := []) (rest := []) ⟨hx, hb, hml, hown, hg⟩ (c_X12_findSums l D cy B ha0 hr1) (z_cwV hg zw_1339 zw_1340 zw_1519 zw_13 zw_1341 zh_X12_findSums ⟨(Nat.le_of_ble_eq_true rfl), (Nat.le_of_ble_eq_true rfl)⟩) (zPV hC hM ha0 (by decide) rfl) rfl rfl hl.1 rfl (lv_room (Nat.le_of_ble_eq_true rfl)) dX12_pairs_1 ⟨(Nat.le_of_ble_eq_true rfl), (Nat.le_of_ble_eq_true rfl)⟩) hS (fun H locs hM hX3 hS => ?_)
  have h5 := ha0.mo hX3
  have hX6 := hX0.tr hX3
  refine lv_aload_n hx hb dX12_pairs_4 rfl (lv_at hl 0 rfl) ?_
  obtain ⟨r8, hr7, h⟩ := zb1 h
  refine z_runi (va_runV (As := []) (rest := []) ⟨hx, hb, hml, hown, hg⟩ (c_X12_pairsNow l D cy B h5 hr7) (z_cwV hg zw_1345 zw_1346 zw_1521 zw_13 zw_1347 zh_X12_pairsNow ⟨(Nat.le_of_ble_eq_true rfl), (Nat.le_of_ble_eq_true rfl)⟩) (zPV hC hM h5 (by decide) rfl) rfl rfl hl.1 rfl (lv_room (Nat.le_of_ble_eq_true rfl)) dX12_pairs_5 ⟨(Nat.le_of_ble_eq_true rfl), (Nat.le_of_ble_eq_true rfl)⟩) hS (fun H locs hM hX9 hS => ?_)
  exact z_iret hx hb hr hlk hM hX6 hS (zsp h) dX12_pairs_8
def f_X12_deals_L48b (rc : zM → Nat → Int32 → Int32 → Int32 → Option (zM)) (a0 : Nat) (v1 : Int32) (v2 : Int32) (v3 : Int32) (rc : zM → Nat → Int32 → Int32 → Int32 → Option (zM)) (K7 : zM → Option (zM)) (rec48 : Int32 → zM → Option (zM)) (x9 : Int32) (S10 : zM) : Option (zM) :=
  zChk (¬ (zr S10 a0 0) = 0) (zChk (¬ ((1002 : Int32) < 0 ∨ zln S10 (zr S10 a0 0) ≤ ((1002 : Int32)).toNatClampNeg)) (if (zi S10 (zr S10 a0 0) (Int32.toNatClampNeg (1002 : Int32))) ≤ x9 then K7 S10 else if ((v2 >>> (x9 &&& 31)) &&& (1 : Int32)) = (1 : Int32) then rec48 (x9 + (1 : Int32)) S10 else zChk (¬ (zr S10 a0 40) = 0) (zChk (¬ ((((16 : Int32) + ((4 : Int32) * x9)) + (1 : Int32)) < 0 ∨ zln S10 (zr S10 a0 0) ≤ ((((16 : Int32) + ((4 : Int32) * x9)) + (1 : Int32))).toNatClampNeg)) (zChk (¬ (v1 < 0 ∨ zln S10 (zr S10 a0 40) ≤ (v1).toNatClampNeg)) (zLet (zpI S10 (zr S10 a0 40) (Int32.toNatClampNeg v1) (zi S10 (zr S10 a0 0) (Int32.toNatClampNeg (((16 : Int32) + ((4 : Int32) * x9)) + (1 : Int32))))) (fun S22 => zB1 (rc S22 a0 (v1 + (1 : Int32)) (v2 ||| ((1 : Int32) <<< (x9 &&& 31))) v3) (fun S28 => rec48 (x9 + (1 : Int32)) S28)))))))
def f_X12_deals_L48 (rc : zM → Nat → Int32 → Int32 → Int32 → Option (zM)) (a0 : Nat) (v1 : Int32) (v2 : Int32) (v3 : Int32) (rc : zM → Nat → Int32 → Int32 → Int32 → Option (zM)) (K7 : zM → Option (zM)) : Nat → Int32 → zM → Option (zM)
  | 0 => fun _ _ => none
  | k + 1 => fun x9 S10 => f_X12_deals_L48b rc a0 v1 v2 v3 rc K7 (f_X12_deals_L48 rc a0 v1 v2 v3 rc K7 k) x9 S10
def f_X12_dealsO (n : Nat) (rc : zM → Nat → Int32 → Int32 → Int32 → Option (zM)) (S0 : zM) (a0 : Nat) (v1 : Int32) (v2 : Int32) (v3 : Int32) : Option (zM) :=
  zChk (¬ (zr S0 a0 0) = 0) (zChk (¬ ((1002 : Int32) < 0 ∨ zln S0 (zr S0 a0 0) ≤ ((1002 : Int32)).toNatClampNeg)) (if v1 = (zi S0 (zr S0 a0 0) (Int32.toNatClampNeg (1002 : Int32))) then zLet (zpI S0 a0 42 ((zi S0 a0 42) + (1 : Int32))) (fun S33 => zB1 (f_X12_pairsNow n S33 a0) (fun r39 => if r39 < v3 then zLet (zpI S33 a0 43 ((zi S33 a0 43) + (0 : Int32))) (fun S43 => some S43) else zLet (zpI S33 a0 43 ((zi S33 a0 43) + (1 : Int32))) (fun S47 => some S47))) else zLet (fun (S5 : zM) => some S5) (fun K7 => f_X12_deals_L48 rc a0 v1 v2 v3 rc K7 n (0 : Int32) S0)))
def f_X12_deals (n : Nat) : Nat → zM → Nat → Int32 → Int32 → Int32 → Option (zM)
  | 0 => fun _ _ _ _ _ => none
  | d + 1 => f_X12_dealsO n (f_X12_deals n d)
set_option maxHeartbeats 4000000 in
set_option maxRecDepth 100000 in
theorem c_X12_dealsO (l : Launch) (D : va_G) (cy : Nat → ClassId) (B : Nat) (dd : Nat) {rc : zM → Nat → Int32 → Int32 → Int32 → Option (zM)} (hrc : ∀ {S : zM} {b0 : Nat} {b1 : Int32} {b2 : Int32} {b3 : Int32} {S1 : zM}, zA S b0 12 →  rc S b0 b1 b2 b3 = some (S1) → Met l yX12_deals (zws yX12_deals cX12_deals 5 none) { frames := 1 * dd, cells := 0, slots := 0, locals := 24 * dd } (zPc D cy B S [.ref (B + b0), .int b1, .int b2, .int b3]) (zQv D cy B S S1) 0 0 (fun q => B < q)) {n : Nat} {S0 : zM} {a0 : Nat} {v1 : Int32} {v2 : Int32} {v3 : Int32} {S' : zM} (ha0 : zA S0 a0 12) (h : f_X12_dealsO n rc S0 a0 v1 v2 v3 = some S') : Met l yX12_deals (zws yX12_deals cX12_deals 5 none) { frames := 1 * dd + 1, cells := 0, slots := 0, locals := 24 * dd + 24 } (zPc D cy B S0 [.ref (B + a0), .int v1, .int v2, .int v3]) (zQv D cy B S0 S') 0 0 (fun q => B < q) := by
  refine Met.ofW (cc := cX12_deals) (maxL := 5) (ret := none) (by decide) rfl ?_
  intro p e s m args below meth c s₁ Bd hml hv
  obtain ⟨rfl, hC, hM⟩ := hv
  obtain ⟨hx, hb, hr, hg, hown, hlk⟩ := z_open Bd
  have hK := hC.1
  have hS : va_S (fun q => B < q) s.heap s.heap [] := va_S.rf
  have hX0 : zX S0 S0 := zX.rf
  refine z_entry (vs := [.ref (B + a0), .int v1, .int v2, .int v3]) (Nat.le_of_ble_eq_true rfl) (fun ls hl => ?_)
  have hl : lv_has ls 5 [(0, .ref (B + a0)), (1, .int v1), (2, .int v2), (3, .int v3)] := hl
  unfold f_X12_dealsO at h
  refine lv_iload_n hx hb dX12_deals_0 rfl (lv_at hl 1 rfl) ?_
  refine lv_aload_n hx hb dX12_deals_1 rfl (lv_at hl 0 rfl) ?_
  obtain ⟨hq2, h⟩ := zk h
  refine z_getN hx hb hg zin_12 hown hK hM ha0 0 rfl (by decide) (hg _ zw_1000) (fun _ h9 => h9) hq2 dX12_deals_2 (fun h1 => ?_)
  refine lv_sipush (v := (1002 : Int32)) hx hb dX12_deals_5 (by decide +kernel) ?_
  obtain ⟨hq3, h⟩ := zk h
  refine z_iald hx hb hK hM h1 hq3 dX12_deals_8 ?_
  refine lv_icmp_ne (tgt := 45) hx hb dX12_deals_9 (by decide) (fun hc4 => ?_) (fun hc4 => ?_)
  · have h := zf h hc4
    refine lv_iconst (v := (0 : Int32)) hx hb dX12_deals_45 (by decide +kernel) ?_
    refine lv_istore (i := 4) (lv' := [(4, .int (0 : Int32)), (0, .ref (B + a0)), (1, .int v1), (2, .int v2), (3, .int v3)]) hx hb dX12_deals_46 hl (by decide) rfl (fun ls hl => ?_)
    obtain ⟨K7, eK7, h⟩ := zlg h
    have hK7 : ∀ (S5 : zM) (H : Heap) (locs : List Loc), zMR D cy B S5 H → zX S0 S5 → va_S (fun q => B < q) s.heap H locs → ∀ ls : Array Slot, lv_has ls 5 [] → K7 S5 = some S' → W p l e (headSpec (zws yX12_deals cX12_deals 5 none) { frames := 1 * dd + 1, cells := 0, slots := 0, locals := 24 * dd + 24 }).room s m (([.ref (B + a0), .int v1, .int v2, .int v3] : List Value).toArray) below meth c H locs 0 0 (MQ below (zQv D cy B S0 S') (([.ref (B + a0), .int v1, .int v2, .int v3] : List Value).toArray) s 0 0 (fun q => B < q)) (F0 m 114 ls []) := by
      intro S5 H locs hM hX6 hS ls hl h
      rw [eK7] at h
      exact z_vret hx hb hr hlk hM hX6 hS (zsm h) dX12_deals_114
    have hL48 : ∀ (k : Nat) (x9 : Int32) (S10 : zM) (H : Heap) (locs : List Loc), zMR D cy B S10 H → zX S0 S10 → va_S (fun q => B < q) s.heap H locs → zA S10 a0 12 → ∀ ls : Array Slot, lv_has ls 5 [(0, .ref (B + a0)), (1, .int v1), (2, .int v2), (3, .int v3), (4, .int x9)] → f_X12_deals_L48 rc a0 v1 v2 v3 rc K7 k x9 S10 = some S' → W p l e (headSpec (zws yX12_deals cX12_deals 5 none) { frames := 1 * dd + 1, cells := 0, slots := 0, locals := 24 * dd + 24 }).room s m (([.ref (B + a0), .int v1, .int v2, .int v3] : List Value).toArray) below meth c H locs 0 0 (MQ below (zQv D cy B S0 S') (([.ref (B + a0), .int v1, .int v2, .int v3] : List Value).toArray) s 0 0 (fun q => B < q)) (F0 m 48 ls []) := by
      intro k
      induction k with
      | zero =>
        intro x9 S10 H locs hM hX11 hS h8 ls hl h
        exact znone h
      | succ k ih48 =>
        intro x9 S10 H locs hM hX11 hS h8 ls hl h
        replace h : f_X12_deals_L48b rc a0 v1 v2 v3 rc K7 (f_X12_deals_L48 rc a0 v1 v2 v3 rc K7 k) x9 S10 = some S' := h
        generalize f_X12_deals_L48 rc a0 v1 v2 v3 rc K7 k = rec48 at ih48 h
        unfold f_X12_deals_L48b at h
        refine lv_iload hx hb dX12_deals_48 (lv_at hl 4 rfl) ?_
        refine lv_aload_n hx hb dX12_deals_50 rfl (lv_at hl 0 rfl) ?_
        obtain ⟨hq13, h⟩ := zk h
        refine z_getN hx hb hg zin_12 hown hK hM h8 0 rfl (by decide) (hg _ zw_1000) (fun _ h9 => h9) hq13 dX12_deals_51 (fun h12 => ?_)
        refine lv_sipush (v := (1002 : Int32)) hx hb dX12_deals_54 (by decide +kernel) ?_
        obtain ⟨hq14, h⟩ := zk h
        refine z_iald hx hb hK hM h12 hq14 dX12_deals_57 ?_
        refine lv_icmp_ge (tgt := 114) hx hb dX12_deals_58 (by decide) (fun hc15 => ?_) (fun hc15 => ?_)
        · have h := zt h hc15
          exact hK7 S10 _ _ hM hX11 hS _ (lv_sub hl [] rfl) h
        · have h := zf h hc15
          refine lv_iload_n hx hb dX12_deals_61 rfl (lv_at hl 2 rfl) ?_
          refine lv_iload hx hb dX12_deals_62 (lv_at hl 4 rfl) ?_
          refine lv_ishr hx hb dX12_deals_64 ?_
          refine lv_iconst (v := (1 : Int32)) hx hb dX12_deals_65 (by decide +kernel) ?_
          refine lv_iand hx hb dX12_deals_66 ?_
          refine lv_iconst (v := (1 : Int32)) hx hb dX12_deals_67 (by decide +kernel) ?_
          refine lv_icmp_ne (tgt := 74) hx hb dX12_deals_68 (by decide) (fun hc16 => ?_) (fun hc16 => ?_)
          · have h := zf h hc16
            refine lv_aload_n hx hb dX12_deals_74 rfl (lv_at hl 0 rfl) ?_
            obtain ⟨hq18, h⟩ := zk h
            refine z_getN hx hb hg zin_12 hown hK hM h8 40 rfl (by decide) (hg _ zw_1040) (fun _ h9 => h9) hq18 dX12_deals_75 (fun h17 => ?_)
            refine lv_iload_n hx hb dX12_deals_78 rfl (lv_at hl 1 rfl) ?_
            refine lv_aload_n hx hb dX12_deals_79 rfl (lv_at hl 0 rfl) ?_
            refine z_getN hx hb hg zin_12 hown hK hM h8 0 rfl (by decide) (hg _ zw_1000) (fun _ h9 => h9) h12.ne dX12_deals_80 (fun h19 => ?_)
            refine lv_bipush (v := (16 : Int32)) hx hb dX12_deals_83 (by decide +kernel) ?_
            refine lv_iconst (v := (4 : Int32)) hx hb dX12_deals_85 (by decide +kernel) ?_
            refine lv_iload hx hb dX12_deals_86 (lv_at hl 4 rfl) ?_
            refine lv_imul hx hb dX12_deals_88 ?_
            refine lv_iadd hx hb dX12_deals_89 ?_
            refine lv_iconst (v := (1 : Int32)) hx hb dX12_deals_90 (by decide +kernel) ?_
            refine lv_iadd hx hb dX12_deals_91 ?_
            obtain ⟨hq20, h⟩ := zk h
            refine z_iald hx hb hK hM h19 hq20 dX12_deals_92 ?_
            obtain ⟨hq21, h⟩ := zk h
            refine z_iast hx hb hK hM hS h17 hq21 dX12_deals_93 (fun H locs hM hS => ?_)
            obtain ⟨S22, e23, h⟩ := zlg h
            rw [← e23] at hM
            have hX24 : zX S10 S22 := by rw [e23]; exact zX_pI
            have h25 := h8.mo hX24
            have hX26 := hX11.tr hX24
            refine lv_aload_n hx hb dX12_deals_94 rfl (lv_at hl 0 rfl) ?_
            refine lv_iload_n hx hb dX12_deals_95 rfl (lv_at hl 1 rfl) ?_
            refine lv_iconst (v := (1 : Int32)) hx hb dX12_deals_96 (by decide +kernel) ?_
            refine lv_iadd hx hb dX12_deals_97 ?_
            refine lv_iload_n hx hb dX12_deals_98 rfl (lv_at hl 2 rfl) ?_
            refine lv_iconst (v := (1 : Int32)) hx hb dX12_deals_99 (by decide +kernel) ?_
            refine lv_iload hx hb dX12_deals_100 (lv_at hl 4 rfl) ?_
            refine lv_ishl hx hb dX12_deals_102 ?_
            refine lv_ior hx hb dX12_deals_103 ?_
            refine lv_iload_n hx hb dX12_deals_104 rfl (lv_at hl 3 rfl) ?_
            obtain ⟨S28, hr27, h⟩ := zb1 h
            refine z_runv (va_runV (As := [.int (v1 + (1 : Int32)), .int (v2 ||| ((1 : Int32) <<< (x9 &&& 31))), .int v3]) (rest := []) ⟨hx, hb, hml, hown, hg⟩ (hrc h25 hr27) (z_cwV hg zw_1352 zw_1353 zw_1522 zw_13 zw_1354 zh_X12_deals ⟨by show 1 * dd + 1 ≤ 1 * dd + 1; omega, by show 8 + (5 + 11) + (24 * dd) ≤ 24 * dd + 24; omega⟩) (zPV hC hM h25 (by decide) rfl) rfl rfl hl.1 rfl (lv_room (Nat.le_of_ble_eq_true rfl)) dX12_deals_105 ⟨(Nat.le_of_ble_eq_true rfl), (Nat.le_of_ble_eq_true rfl)⟩) hS (fun H locs hM hX29 hS => ?_)
            have h31 := h25.mo hX29
            have hX32 := hX26.tr hX29
            refine lv_iinc (v := (x9 + (1 : Int32))) (lv' := [(4, .int (x9 + (1 : Int32))), (0, .ref (B + a0)), (1, .int v1), (2, .int v2), (3, .int v3)]) hx hb dX12_deals_108 hl (k := 4) rfl rfl (by decide) rfl (fun ls hl => ?_)
            refine lv_goto (tgt := 48) hx hb dX12_deals_111 (by decide) ?_
            exact ih48 (x9 + (1 : Int32)) S28 _ _ hM hX32 hS h31 _ (lv_sub hl [1, 2, 3, 4, 0] rfl) h
          · have h := zt h hc16
            refine lv_goto (tgt := 108) hx hb dX12_deals_71 (by decide) ?_
            refine lv_iinc (v := (x9 + (1 : Int32))) (lv' := [(4, .int (x9 + (1 : Int32))), (0, .ref (B + a0)), (1, .int v1), (2, .int v2), (3, .int v3)]) hx hb dX12_deals_108 hl (k := 4) rfl rfl (by decide) rfl (fun ls hl => ?_)
            refine lv_goto (tgt := 48) hx hb dX12_deals_111 (by decide) ?_
            exact ih48 (x9 + (1 : Int32)) S10 _ _ hM hX11 hS h8 _ (lv_sub hl [1, 2, 3, 4, 0] rfl) h
    exact hL48 n (0 : Int32) S0 _ _ hM hX0 hS ha0 _ (lv_sub hl [1, 2, 3, 4, 0] rfl) h
  · have h := zt h hc4
    refine lv_aload_n hx hb dX12_deals_12 rfl (lv_at hl 0 rfl) ?_
    refine lv_dup hx hb dX12_deals_13 rfl ?_
    refine z_getI hx hb hg zin_12 hown hK hM ha0 42 rfl (by decide) (hg _ zw_1042) (fun _ h9 => h9) dX12_deals_14 ?_
    refine lv_iconst (v := (1 : Int32)) hx hb dX12_deals_17 (by decide +kernel) ?_
    refine lv_iadd hx hb dX12_deals_18 ?_
    refine z_putI hx hb hg zin_12 tyX12 tyX12_ok nmX12 hown hK hM hS ha0 42 rfl (by decide) (hg _ zw_1042) (fun _ h9 => h9) (Or.inl rfl) (tyX12_ok 42 (by decide)) rfl rfl dX12_deals_19 (fun H locs hM hS => ?_)
    obtain ⟨S33, e34, h⟩ := zlg h
    rw [← e34] at hM
    have hX35 : zX S0 S33 := by rw [e34]; exact zX_pI
    have h36 := ha0.mo hX35
    have hX37 := hX0.tr hX35
    refine lv_aload_n hx hb dX12_deals_22 rfl (lv_at hl 0 rfl) ?_
    refine lv_dup hx hb dX12_deals_23 rfl ?_
    refine z_getI hx hb hg zin_12 hown hK hM h36 43 rfl (by decide) (hg _ zw_1043) (fun _ h9 => h9) dX12_deals_24 ?_
    refine lv_aload_n hx hb dX12_deals_27 rfl (lv_at hl 0 rfl) ?_
    obtain ⟨r39, hr38, h⟩ := zb1 h
    refine z_runi (va_runV (As := []) (rest := [.int (zi S33 a0 43), .ref (B + a0)]) ⟨hx, hb, hml, hown, hg⟩ (c_X12_pairsNow l D cy B h36 hr38) (z_cwV hg zw_1345 zw_1346 zw_1521 zw_13 zw_1347 zh_X12_pairsNow ⟨by show 0 + 1 ≤ 1 * dd + 1; omega, by show 8 + (4 + 11) + 0 ≤ 24 * dd + 24; omega⟩) (zPV hC hM h36 (by decide) rfl) rfl rfl hl.1 rfl (lv_room (Nat.le_of_ble_eq_true rfl)) dX12_deals_28 ⟨(Nat.le_of_ble_eq_true rfl), (Nat.le_of_ble_eq_true rfl)⟩) hS (fun H locs hM hX40 hS => ?_)
    refine lv_iload_n hx hb dX12_deals_31 rfl (lv_at hl 3 rfl) ?_
    refine lv_icmp_lt (tgt := 39) hx hb dX12_deals_32 (by decide) (fun hc42 => ?_) (fun hc42 => ?_)
    · have h := zt h hc42
      refine lv_iconst (v := (0 : Int32)) hx hb dX12_deals_39 (by decide +kernel) ?_
      refine lv_iadd hx hb dX12_deals_40 ?_
      refine z_putI hx hb hg zin_12 tyX12 tyX12_ok nmX12 hown hK hM hS h36 43 rfl (by decide) (hg _ zw_1043) (fun _ h9 => h9) (Or.inl rfl) (tyX12_ok 43 (by decide)) rfl rfl dX12_deals_41 (fun H locs hM hS => ?_)
      obtain ⟨S43, e44, h⟩ := zlg h
      rw [← e44] at hM
      have hX45 : zX S33 S43 := by rw [e44]; exact zX_pI
      have hX46 := hX37.tr hX45
      exact z_vret hx hb hr hlk hM hX46 hS (zsm h) dX12_deals_44
    · have h := zf h hc42
      refine lv_iconst (v := (1 : Int32)) hx hb dX12_deals_35 (by decide +kernel) ?_
      refine lv_goto (tgt := 40) hx hb dX12_deals_36 (by decide) ?_
      refine lv_iadd hx hb dX12_deals_40 ?_
      refine z_putI hx hb hg zin_12 tyX12 tyX12_ok nmX12 hown hK hM hS h36 43 rfl (by decide) (hg _ zw_1043) (fun _ h9 => h9) (Or.inl rfl) (tyX12_ok 43 (by decide)) rfl rfl dX12_deals_41 (fun H locs hM hS => ?_)
      obtain ⟨S47, e48, h⟩ := zlg h
      rw [← e48] at hM
      have hX49 : zX S33 S47 := by rw [e48]; exact zX_pI
      have hX50 := hX37.tr hX49
      exact z_vret hx hb hr hlk hM hX50 hS (zsm h) dX12_deals_44
theorem k_X12_deals (l : Launch) (D : va_G) (cy : Nat → ClassId) (B n : Nat) : ∀ (dd : Nat) {S : zM} {b0 : Nat} {b1 : Int32} {b2 : Int32} {b3 : Int32} {S1 : zM}, zA S b0 12 →  f_X12_deals n dd S b0 b1 b2 b3 = some (S1) → Met l yX12_deals (zws yX12_deals cX12_deals 5 none) { frames := 1 * dd, cells := 0, slots := 0, locals := 24 * dd } (zPc D cy B S [.ref (B + b0), .int b1, .int b2, .int b3]) (zQv D cy B S S1) 0 0 (fun q => B < q) := by
  intro dd
  induction dd with
  | zero =>
    intro S _ _ _ _ _ g0 h
    exact znone h
  | succ dd ih =>
    intro S _ _ _ _ _ g0 h
    exact c_X12_dealsO l D cy B dd @ih g0 h
theorem c_X12_deals (l : Launch) (D : va_G) (cy : Nat → ClassId) (B : Nat) {n : Nat} : ∀ {S : zM} {b0 : Nat} {b1 : Int32} {b2 : Int32} {b3 : Int32} {S1 : zM}, zA S b0 12 →  f_X12_deals n 9 S b0 b1 b2 b3 = some (S1) → Met l yX12_deals (zws yX12_deals cX12_deals 5 none) { frames := 9, cells := 0, slots := 0, locals := 216 } (zPc D cy B S [.ref (B + b0), .int b1, .int b2, .int b3]) (zQv D cy B S S1) 0 0 (fun q => B < q) := by
  intro S _ _ _ _ _ g0 h
  exact k_X12_deals l D cy B n 9 g0 h
