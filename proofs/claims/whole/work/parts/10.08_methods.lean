def f_X12_pairOdds (n : Nat) (S0 : zM) (a0 : Nat) (v1 : Int32) : Option (Int32 × zM) :=
  zLet (f_X12_isIn (Int32.toInt64 v1) (0 : Int64) (1 : Int64)) (fun r2 => if r2 = 0 then some (((-1 : Int32), S0)) else zChk (¬ (zr S0 a0 0) = 0) (zChk (¬ ((1002 : Int32) < 0 ∨ zln S0 (zr S0 a0 0) ≤ ((1002 : Int32)).toNatClampNeg)) (if (zi S0 (zr S0 a0 0) (Int32.toNatClampNeg (1002 : Int32))) ≤ (7 : Int32) then zB1 (f_X12_findSums n S0 a0) (fun S11 => zLet (zpI S11 a0 42 (0 : Int32)) (fun S16 => zLet (zpI S16 a0 43 (0 : Int32)) (fun S21 => zB1 (f_X12_pairsNow n S21 a0) (fun r27 => zB1 (f_X12_deals n 9 S21 a0 (0 : Int32) (0 : Int32) r27) (fun S31 => if v1 = 0 then some (((zi S31 a0 43), S31)) else some (((zi S31 a0 42), S31))))))) else some (((-3 : Int32), S0)))))
set_option maxHeartbeats 4000000 in
set_option maxRecDepth 100000 in
theorem c_X12_pairOdds (l : Launch) (D : va_G) (cy : Nat → ClassId) (B : Nat) {n : Nat} {S0 : zM} {a0 : Nat} {v1 : Int32} {r : Int32} {S' : zM} (ha0 : zA S0 a0 12) (h : f_X12_pairOdds n S0 a0 v1 = some (r, S')) : Met l yX12_pairOdds (zws yX12_pairOdds cX12_pairOdds 2 ((some .int))) { frames := 10, cells := 0, slots := 0, locals := 240 } (zPc D cy B S0 [.ref (B + a0), .int v1]) (zQi D cy B S0 r S') 0 0 (fun q => B < q) := by
  refine Met.ofW (cc := cX12_pairOdds) (maxL := 2) (ret := ((some .int))) (by decide) rfl ?_
  intro p e s m args below meth c s₁ Bd hml hv
  obtain ⟨rfl, hC, hM⟩ := hv
  obtain ⟨hx, hb, hr, hg, hown, hlk⟩ := z_open Bd
  have hK := hC.1
  have hS : va_S (fun q => B < q) s.heap s.heap [] := va_S.rf
  have hX0 : zX S0 S0 := zX.rf
  refine z_entry (vs := [.ref (B + a0), .int v1]) (Nat.le_of_ble_eq_true rfl) (fun ls hl => ?_)
  have hl : lv_has ls 2 [(0, .ref (B + a0)), (1, .int v1)] := hl
  unfold f_X12_pairOdds at h
  refine lv_iload_n hx hb dX12_pairOdds_0 rfl (lv_at hl 1 rfl) ?_
  refine lv_i2l hx hb dX12_pairOdds_1 rfl ?_
  refine lv_lconst (v := (0 : Int64)) hx hb dX12_pairOdds_2 (by decide +kernel) ?_
  refine lv_lconst (v := (1 : Int64)) hx hb dX12_pairOdds_3 (by decide +kernel) ?_
  obtain ⟨r2, hr1, h⟩ := zlg h
  have hr1 := hr1.symm
  refine z_runi (va_runS (As := [.long (Int32.toInt64 v1), .long (0 : Int64), .long (1 : Int64)]) (rest := []) ⟨hx, hb, hml, hown, hg⟩ (c_X12_isIn l D cy B hr1) (z_cwS hg zw_1111 zw_1112 zw_13 zw_1113 zh_X12_isIn.2 ⟨(Nat.le_of_ble_eq_true rfl), (Nat.le_of_ble_eq_true rfl)⟩) (zPS hC hM) rfl rfl hl.1 rfl (lv_room (Nat.le_of_ble_eq_true rfl)) dX12_pairOdds_4 ⟨(Nat.le_of_ble_eq_true rfl), (Nat.le_of_ble_eq_true rfl)⟩) hS (fun H locs hM hX3 hS => ?_)
  refine lv_if_ne (tgt := 12) hx hb dX12_pairOdds_7 (by decide) (fun hc5 => ?_) (fun hc5 => ?_)
  · have h := zf h hc5
    refine lv_aload_n hx hb dX12_pairOdds_12 rfl (lv_at hl 0 rfl) ?_
    obtain ⟨hq7, h⟩ := zk h
    refine z_getN hx hb hg zin_12 hown hK hM ha0 0 rfl (by decide) (hg _ zw_1000) (fun _ h9 => h9) hq7 dX12_pairOdds_13 (fun h6 => ?_)
    refine lv_sipush (v := (1002 : Int32)) hx hb dX12_pairOdds_16 (by decide +kernel) ?_
    obtain ⟨hq8, h⟩ := zk h
    refine z_iald hx hb hK hM h6 hq8 dX12_pairOdds_19 ?_
    refine lv_bipush (v := (7 : Int32)) hx hb dX12_pairOdds_20 (by decide +kernel) ?_
    refine lv_icmp_le (tgt := 28) hx hb dX12_pairOdds_22 (by decide) (fun hc9 => ?_) (fun hc9 => ?_)
    · have h := zt h hc9
      refine lv_aload_n hx hb dX12_pairOdds_28 rfl (lv_at hl 0 rfl) ?_
      obtain ⟨S11, hr10, h⟩ := zb1 h
      refine z_runv (va_runV (As := []) (rest := []) ⟨hx, hb, hml, hown, hg⟩ (c_X12_findSums l D cy B ha0 hr10) (z_cwV hg zw_1339 zw_1340 zw_1519 zw_13 zw_1341 zh_X12_findSums ⟨(Nat.le_of_ble_eq_true rfl), (Nat.le_of_ble_eq_true rfl)⟩) (zPV hC hM ha0 (by decide) rfl) rfl rfl hl.1 rfl (lv_room (Nat.le_of_ble_eq_true rfl)) dX12_pairOdds_29 ⟨(Nat.le_of_ble_eq_true rfl), (Nat.le_of_ble_eq_true rfl)⟩) hS (fun H locs hM hX12 hS => ?_)
      have h14 := ha0.mo hX12
      have hX15 := hX0.tr hX12
      refine lv_aload_n hx hb dX12_pairOdds_32 rfl (lv_at hl 0 rfl) ?_
      refine lv_iconst (v := (0 : Int32)) hx hb dX12_pairOdds_33 (by decide +kernel) ?_
      refine z_putI hx hb hg zin_12 tyX12 tyX12_ok nmX12 hown hK hM hS h14 42 rfl (by decide) (hg _ zw_1042) (fun _ h9 => h9) (Or.inl rfl) (tyX12_ok 42 (by decide)) rfl rfl dX12_pairOdds_34 (fun H locs hM hS => ?_)
      obtain ⟨S16, e17, h⟩ := zlg h
      rw [← e17] at hM
      have hX18 : zX S11 S16 := by rw [e17]; exact zX_pI
      have h19 := h14.mo hX18
      have hX20 := hX15.tr hX18
      refine lv_aload_n hx hb dX12_pairOdds_37 rfl (lv_at hl 0 rfl) ?_
      refine lv_iconst (v := (0 : Int32)) hx hb dX12_pairOdds_38 (by decide +kernel) ?_
      refine z_putI hx hb hg zin_12 tyX12 tyX12_ok nmX12 hown hK hM hS h19 43 rfl (by decide) (hg _ zw_1043) (fun _ h9 => h9) (Or.inl rfl) (tyX12_ok 43 (by decide)) rfl rfl dX12_pairOdds_39 (fun H locs hM hS => ?_)
      obtain ⟨S21, e22, h⟩ := zlg h
      rw [← e22] at hM
      have hX23 : zX S16 S21 := by rw [e22]; exact zX_pI
      have h24 := h19.mo hX23
      have hX25 := hX20.tr hX23
      refine lv_aload_n hx hb dX12_pairOdds_42 rfl (lv_at hl 0 rfl) ?_
      refine lv_iconst (v := (0 : Int32)) hx hb dX12_pairOdds_43 (by decide +kernel) ?_
      refine lv_iconst (v := (0 : Int32)) hx hb dX12_pairOdds_44 (by decide +kernel) ?_
      refine lv_aload_n hx hb dX12_pairOdds_45 rfl (lv_at hl 0 rfl) ?_
      obtain ⟨r27, hr26, h⟩ := zb1 h
      refine z_runi (va_runV (As := []) (rest := [.int (0 : Int32), .int (0 : Int32), .ref (B + a0)]) ⟨hx, hb, hml, hown, hg⟩ (c_X12_pairsNow l D cy B h24 hr26) (z_cwV hg zw_1345 zw_1346 zw_1521 zw_13 zw_1347 zh_X12_pairsNow ⟨(Nat.le_of_ble_eq_true rfl), (Nat.le_of_ble_eq_true rfl)⟩) (zPV hC hM h24 (by decide) rfl) rfl rfl hl.1 rfl (lv_room (Nat.le_of_ble_eq_true rfl)) dX12_pairOdds_46 ⟨(Nat.le_of_ble_eq_true rfl), (Nat.le_of_ble_eq_true rfl)⟩) hS (fun H locs hM hX28 hS => ?_)
      obtain ⟨S31, hr30, h⟩ := zb1 h
      refine z_runv (va_runV (As := [.int (0 : Int32), .int (0 : Int32), .int r27]) (rest := []) ⟨hx, hb, hml, hown, hg⟩ (c_X12_deals l D cy B h24 hr30) (z_cwV hg zw_1352 zw_1353 zw_1522 zw_13 zw_1354 zh_X12_deals ⟨(Nat.le_of_ble_eq_true rfl), (Nat.le_of_ble_eq_true rfl)⟩) (zPV hC hM h24 (by decide) rfl) rfl rfl hl.1 rfl (lv_room (Nat.le_of_ble_eq_true rfl)) dX12_pairOdds_49 ⟨(Nat.le_of_ble_eq_true rfl), (Nat.le_of_ble_eq_true rfl)⟩) hS (fun H locs hM hX32 hS => ?_)
      have h34 := h24.mo hX32
      have hX35 := hX25.tr hX32
      refine lv_iload_n hx hb dX12_pairOdds_52 rfl (lv_at hl 1 rfl) ?_
      refine lv_if_ne (tgt := 63) hx hb dX12_pairOdds_53 (by decide) (fun hc36 => ?_) (fun hc36 => ?_)
      · have h := zf h hc36
        refine lv_aload_n hx hb dX12_pairOdds_63 rfl (lv_at hl 0 rfl) ?_
        refine z_getI hx hb hg zin_12 hown hK hM h34 42 rfl (by decide) (hg _ zw_1042) (fun _ h9 => h9) dX12_pairOdds_64 ?_
        exact z_iret hx hb hr hlk hM hX35 hS (zsp h) dX12_pairOdds_67
      · have h := zt h hc36
        refine lv_aload_n hx hb dX12_pairOdds_56 rfl (lv_at hl 0 rfl) ?_
        refine z_getI hx hb hg zin_12 hown hK hM h34 43 rfl (by decide) (hg _ zw_1043) (fun _ h9 => h9) dX12_pairOdds_57 ?_
        refine lv_goto (tgt := 67) hx hb dX12_pairOdds_60 (by decide) ?_
        exact z_iret hx hb hr hlk hM hX35 hS (zsp h) dX12_pairOdds_67
    · have h := zf h hc9
      refine lv_bipush (v := (-3 : Int32)) hx hb dX12_pairOdds_25 (by decide +kernel) ?_
      exact z_iret hx hb hr hlk hM hX0 hS (zsp h) dX12_pairOdds_27
  · have h := zt h hc5
    refine lv_iconst (v := (-1 : Int32)) hx hb dX12_pairOdds_10 (by decide +kernel) ?_
    exact z_iret hx hb hr hlk hM hX0 hS (zsp h) dX12_pairOdds_11
def f_X12_findCounts_L11b (n : Nat) (a0 : Nat) (v1 : Int32) (K14 : zM → Option (zM)) (rec11 : Int32 → zM → Option (zM)) (x16 : Int32) (S17 : zM) : Option (zM) :=
  zChk (¬ (zr S17 a0 0) = 0) (zChk (¬ ((1003 : Int32) < 0 ∨ zln S17 (zr S17 a0 0) ≤ ((1003 : Int32)).toNatClampNeg)) (if (zi S17 (zr S17 a0 0) (Int32.toNatClampNeg (1003 : Int32))) ≤ x16 then K14 S17 else zB1 (f_X12_get S17 a0 x16 (0 : Int32)) (fun r24 => if r24 = v1 then zChk (¬ (zr S17 a0 44) = 0) (zB2 (f_X12_countsNow n S17 a0 x16) (fun r31 S32 => zChk (¬ ((zi S17 a0 46) < 0 ∨ zln S32 (zr S17 a0 44) ≤ ((zi S17 a0 46)).toNatClampNeg)) (zLet (zpI S32 (zr S17 a0 44) (Int32.toNatClampNeg (zi S17 a0 46)) r31) (fun S39 => zChk (¬ (zr S39 a0 45) = 0) (zChk (¬ (zr S39 a0 44) = 0) (zChk (¬ ((zi S39 a0 46) < 0 ∨ zln S39 (zr S39 a0 44) ≤ ((zi S39 a0 46)).toNatClampNeg)) (zChk (¬ ((zi S39 a0 46) < 0 ∨ zln S39 (zr S39 a0 45) ≤ ((zi S39 a0 46)).toNatClampNeg)) (zLet (zpI S39 (zr S39 a0 45) (Int32.toNatClampNeg (zi S39 a0 46)) (zi S39 (zr S39 a0 44) (Int32.toNatClampNeg (zi S39 a0 46)))) (fun S50 => zLet (zpI S50 a0 46 ((zi S50 a0 46) + (1 : Int32))) (fun S55 => rec11 (x16 + (1 : Int32)) S55)))))))))) else rec11 (x16 + (1 : Int32)) S17)))
def f_X12_findCounts_L11 (n : Nat) (a0 : Nat) (v1 : Int32) (K14 : zM → Option (zM)) : Nat → Int32 → zM → Option (zM)
  | 0 => fun _ _ => none
  | k + 1 => fun x16 S17 => f_X12_findCounts_L11b n a0 v1 K14 (f_X12_findCounts_L11 n a0 v1 K14 k) x16 S17
def f_X12_findCounts (n : Nat) (S0 : zM) (a0 : Nat) (v1 : Int32) : Option (zM) :=
  zLet (zpI S0 a0 46 (0 : Int32)) (fun S1 => zB1 (f_X12_asTold S1 a0) (fun S7 => zLet (fun (S12 : zM) => some S12) (fun K14 => f_X12_findCounts_L11 n a0 v1 K14 n (0 : Int32) S7)))
set_option maxHeartbeats 4000000 in
set_option maxRecDepth 100000 in
theorem c_X12_findCounts (l : Launch) (D : va_G) (cy : Nat → ClassId) (B : Nat) {n : Nat} {S0 : zM} {a0 : Nat} {v1 : Int32} {S' : zM} (ha0 : zA S0 a0 12) (h : f_X12_findCounts n S0 a0 v1 = some S') : Met l yX12_findCounts (zws yX12_findCounts cX12_findCounts 3 none) { frames := 34, cells := 0, slots := 0, locals := 781 } (zPc D cy B S0 [.ref (B + a0), .int v1]) (zQv D cy B S0 S') 0 0 (fun q => B < q) := by
  refine Met.ofW (cc := cX12_findCounts) (maxL := 3) (ret := none) (by decide) rfl ?_
  intro p e s m args below meth c s₁ Bd hml hv
  obtain ⟨rfl, hC, hM⟩ := hv
  obtain ⟨hx, hb, hr, hg, hown, hlk⟩ := z_open Bd
  have hK := hC.1
  have hS : va_S (fun q => B < q) s.heap s.heap [] := va_S.rf
  have hX0 : zX S0 S0 := zX.rf
  refine z_entry (vs := [.ref (B + a0), .int v1]) (Nat.le_of_ble_eq_true rfl) (fun ls hl => ?_)
  have hl : lv_has ls 3 [(0, .ref (B + a0)), (1, .int v1)] := hl
  unfold f_X12_findCounts at h
  refine lv_aload_n hx hb dX12_findCounts_0 rfl (lv_at hl 0 rfl) ?_
  refine lv_iconst (v := (0 : Int32)) hx hb dX12_findCounts_1 (by decide +kernel) ?_
  refine z_putI hx hb hg zin_12 tyX12 tyX12_ok nmX12 hown hK hM hS ha0 46 rfl (by decide) (hg _ zw_1046) (fun _ h9 => h9) (Or.inl rfl) (tyX12_ok 46 (by decide)) rfl rfl dX12_findCounts_2 (fun H locs hM hS => ?_)
  obtain ⟨S1, e2, h⟩ := zlg h
  rw [← e2] at hM
  have hX3 : zX S0 S1 := by rw [e2]; exact zX_pI
  have h4 := ha0.mo hX3
  have hX5 := hX0.tr hX3
  refine lv_aload_n hx hb dX12_findCounts_5 rfl (lv_at hl 0 rfl) ?_
  obtain ⟨S7, hr6, h⟩ := zb1 h
  refine z_runv (va_runV (As := []) (rest := []) ⟨hx, hb, hml, hown, hg⟩ (c_X12_asTold l D cy B h4 hr6) (z_cwV hg zw_1264 zw_1265 zw_1506 zw_13 zw_1266 zh_X12_asTold ⟨(Nat.le_of_ble_eq_true rfl), (Nat.le_of_ble_eq_true rfl)⟩) (zPV hC hM h4 (by decide) rfl) rfl rfl hl.1 rfl (lv_room (Nat.le_of_ble_eq_true rfl)) dX12_findCounts_6 ⟨(Nat.le_of_ble_eq_true rfl), (Nat.le_of_ble_eq_true rfl)⟩) hS (fun H locs hM hX8 hS => ?_)
  have h10 := h4.mo hX8
  have hX11 := hX5.tr hX8
  refine lv_iconst (v := (0 : Int32)) hx hb dX12_findCounts_9 (by decide +kernel) ?_
  refine lv_istore_n (i := 2) (lv' := [(2, .int (0 : Int32)), (0, .ref (B + a0)), (1, .int v1)]) hx hb dX12_findCounts_10 rfl hl (by decide) rfl (fun ls hl => ?_)
  obtain ⟨K14, eK14, h⟩ := zlg h
  have hK14 : ∀ (S12 : zM) (H : Heap) (locs : List Loc), zMR D cy B S12 H → zX S0 S12 → va_S (fun q => B < q) s.heap H locs → ∀ ls : Array Slot, lv_has ls 3 [] → K14 S12 = some S' → W p l e (headSpec (zws yX12_findCounts cX12_findCounts 3 none) { frames := 34, cells := 0, slots := 0, locals := 781 }).room s m (([.ref (B + a0), .int v1] : List Value).toArray) below meth c H locs 0 0 (MQ below (zQv D cy B S0 S') (([.ref (B + a0), .int v1] : List Value).toArray) s 0 0 (fun q => B < q)) (F0 m 84 ls []) := by
    intro S12 H locs hM hX13 hS ls hl h
    rw [eK14] at h
    exact z_vret hx hb hr hlk hM hX13 hS (zsm h) dX12_findCounts_84
  have hL11 : ∀ (k : Nat) (x16 : Int32) (S17 : zM) (H : Heap) (locs : List Loc), zMR D cy B S17 H → zX S0 S17 → va_S (fun q => B < q) s.heap H locs → zA S17 a0 12 → ∀ ls : Array Slot, lv_has ls 3 [(0, .ref (B + a0)), (1, .int v1), (2, .int x16)] → f_X12_findCounts_L11 n a0 v1 K14 k x16 S17 = some S' → W p l e (headSpec (zws yX12_findCounts cX12_findCounts 3 none) { frames := 34, cells := 0, slots := 0, locals := 781 }).room s m (([.ref (B + a0), .int v1] : List Value).toArray) below meth c H locs 0 0 (MQ below (zQv D cy B S0 S') (([.ref (B + a0), .int v1] : List Value).toArray) s 0 0 (fun q => B < q)) (F0 m 11 ls []) := by
    intro k
    induction k with
    | zero =>
      intro x16 S17 H locs hM hX18 hS h15 ls hl h
      exact znone h
    | succ k ih11 =>
      intro x16 S17 H locs hM hX18 hS h15 ls hl h
      replace h : f_X12_findCounts_L11b n a0 v1 K14 (f_X12_findCounts_L11 n a0 v1 K14 k) x16 S17 = some S' := h
      generalize f_X12_findCounts_L11 n a0 v1 K14 k = rec11 at ih11 h
      unfold f_X12_findCounts_L11b at h
      refine lv_iload_n hx hb dX12_findCounts_11 rfl (lv_at hl 2 rfl) ?_
      refine lv_aload_n hx hb dX12_findCounts_12 rfl (lv_at hl 0 rfl) ?_
      obtain ⟨hq20, h⟩ := zk h
      refine z_getN hx hb hg zin_12 hown hK hM h15 0 rfl (by decide) (hg _ zw_1000) (fun _ h9 => h9) hq20 dX12_findCounts_13 (fun h19 => ?_)
      refine lv_sipush (v := (1003 : Int32)) hx hb dX12_findCounts_16 (by decide +kernel) ?_
      obtain ⟨hq21, h⟩ := zk h
      refine z_iald hx hb hK hM h19 hq21 dX12_findCounts_19 ?_
      refine lv_icmp_ge (tgt := 84) hx hb dX12_findCounts_20 (by decide) (fun hc22 => ?_) (fun hc22 => ?_)
      · have h := zt h hc22
        exact hK14 S17 _ _ hM hX18 hS _ (lv_sub hl [] rfl) h
      · have h := zf h hc22
        refine lv_aload_n hx hb dX12_findCounts_23 rfl (lv_at hl 0 rfl) ?_
        refine lv_iload_n hx hb dX12_findCounts_24 rfl (lv_at hl 2 rfl) ?_
        refine lv_iconst (v := (0 : Int32)) hx hb dX12_findCounts_25 (by decide +kernel) ?_
        obtain ⟨r24, hr23, h⟩ := zb1 h
        refine z_runi (va_runV (As := [.int x16, .int (0 : Int32)]) (rest := []) ⟨hx, hb, hml, hown, hg⟩ (c_X12_get l D cy B h15 hr23) (z_cwV hg zw_1163 zw_1164 zw_1487 zw_13 zw_1165 zh_X12_get ⟨(Nat.le_of_ble_eq_true rfl), (Nat.le_of_ble_eq_true rfl)⟩) (zPV hC hM h15 (by decide) rfl) rfl rfl hl.1 rfl (lv_room (Nat.le_of_ble_eq_true rfl)) dX12_findCounts_26 ⟨(Nat.le_of_ble_eq_true rfl), (Nat.le_of_ble_eq_true rfl)⟩) hS (fun H locs hM hX25 hS => ?_)
        refine lv_iload_n hx hb dX12_findCounts_29 rfl (lv_at hl 1 rfl) ?_
        refine lv_icmp_eq (tgt := 36) hx hb dX12_findCounts_30 (by decide) (fun hc27 => ?_) (fun hc27 => ?_)
        · have h := zt h hc27
          refine lv_aload_n hx hb dX12_findCounts_36 rfl (lv_at hl 0 rfl) ?_
          obtain ⟨hq29, h⟩ := zk h
          refine z_getN hx hb hg zin_12 hown hK hM h15 44 rfl (by decide) (hg _ zw_1044) (fun _ h9 => h9) hq29 dX12_findCounts_37 (fun h28 => ?_)
          refine lv_aload_n hx hb dX12_findCounts_40 rfl (lv_at hl 0 rfl) ?_
          refine z_getI hx hb hg zin_12 hown hK hM h15 46 rfl (by decide) (hg _ zw_1046) (fun _ h9 => h9) dX12_findCounts_41 ?_
          refine lv_aload_n hx hb dX12_findCounts_44 rfl (lv_at hl 0 rfl) ?_
          refine lv_iload_n hx hb dX12_findCounts_45 rfl (lv_at hl 2 rfl) ?_
          obtain ⟨r31, S32, hr30, h⟩ := zb2 h
          refine z_runi (va_runV (As := [.int x16]) (rest := [.int (zi S17 a0 46), .ref (B + (zr S17 a0 44))]) ⟨hx, hb, hml, hown, hg⟩ (c_X12_countsNow l D cy B h15 hr30) (z_cwV hg zw_1267 zw_1268 zw_1507 zw_13 zw_1269 zh_X12_countsNow ⟨(Nat.le_of_ble_eq_true rfl), (Nat.le_of_ble_eq_true rfl)⟩) (zPV hC hM h15 (by decide) rfl) rfl rfl hl.1 rfl (lv_room (Nat.le_of_ble_eq_true rfl)) dX12_findCounts_46 ⟨(Nat.le_of_ble_eq_true rfl), (Nat.le_of_ble_eq_true rfl)⟩) hS (fun H locs hM hX33 hS => ?_)
          have h35 := h15.mo hX33
          have h36 := h28.mo hX33
          have hX37 := hX18.tr hX33
          obtain ⟨hq38, h⟩ := zk h
          refine z_iast hx hb hK hM hS h36 hq38 dX12_findCounts_49 (fun H locs hM hS => ?_)
          obtain ⟨S39, e40, h⟩ := zlg h
          rw [← e40] at hM
          have hX41 : zX S32 S39 := by rw [e40]; exact zX_pI
          have h42 := h35.mo hX41
          have hX43 := hX37.tr hX41
          refine lv_aload_n hx hb dX12_findCounts_50 rfl (lv_at hl 0 rfl) ?_
          obtain ⟨hq45, h⟩ := zk h
          refine z_getN hx hb hg zin_12 hown hK hM h42 45 rfl (by decide) (hg _ zw_1045) (fun _ h9 => h9) hq45 dX12_findCounts_51 (fun h44 => ?_)
          refine lv_aload_n hx hb dX12_findCounts_54 rfl (lv_at hl 0 rfl) ?_
          refine z_getI hx hb hg zin_12 hown hK hM h42 46 rfl (by decide) (hg _ zw_1046) (fun _ h9 => h9) dX12_findCounts_55 ?_
          refine lv_aload_n hx hb dX12_findCounts_58 rfl (lv_at hl 0 rfl) ?_
          obtain ⟨hq47, h⟩ := zk h
          refine z_getN hx hb hg zin_12 hown hK hM h42 44 rfl (by decide) (hg _ zw_1044) (fun _ h9 => h9) hq47 dX12_findCounts_59 (fun h46 => ?_)
          refine lv_aload_n hx hb dX12_findCounts_62 rfl (lv_at hl 0 rfl) ?_
          refine z_getI hx hb hg zin_12 hown hK hM h42 46 rfl (by decide) (hg _ zw_1046) (fun _ h9 => h9) dX12_findCounts_63 ?_
          obtain ⟨hq48, h⟩ := zk h
          refine z_iald hx hb hK hM h46 hq48 dX12_findCounts_66 ?_
          obtain ⟨hq49, h⟩ := zk h
          refine z_iast hx hb hK hM hS h44 hq49 dX12_findCounts_67 (fun H locs hM hS => ?_)
          obtain ⟨S50, e51, h⟩ := zlg h
          rw [← e51] at hM
          have hX52 : zX S39 S50 := by rw [e51]; exact zX_pI
          have h53 := h42.mo hX52
          have hX54 := hX43.tr hX52
          refine lv_aload_n hx hb dX12_findCounts_68 rfl (lv_at hl 0 rfl) ?_
          refine lv_dup hx hb dX12_findCounts_69 rfl ?_
          refine z_getI hx hb hg zin_12 hown hK hM h53 46 rfl (by decide) (hg _ zw_1046) (fun _ h9 => h9) dX12_findCounts_70 ?_
          refine lv_iconst (v := (1 : Int32)) hx hb dX12_findCounts_73 (by decide +kernel) ?_
          refine lv_iadd hx hb dX12_findCounts_74 ?_
          refine z_putI hx hb hg zin_12 tyX12 tyX12_ok nmX12 hown hK hM hS h53 46 rfl (by decide) (hg _ zw_1046) (fun _ h9 => h9) (Or.inl rfl) (tyX12_ok 46 (by decide)) rfl rfl dX12_findCounts_75 (fun H locs hM hS => ?_)
          obtain ⟨S55, e56, h⟩ := zlg h
          rw [← e56] at hM
          have hX57 : zX S50 S55 := by rw [e56]; exact zX_pI
          have h58 := h53.mo hX57
          have hX59 := hX54.tr hX57
          refine lv_iinc (v := (x16 + (1 : Int32))) (lv' := [(2, .int (x16 + (1 : Int32))), (0, .ref (B + a0)), (1, .int v1)]) hx hb dX12_findCounts_78 hl (k := 2) rfl rfl (by decide) rfl (fun ls hl => ?_)
          refine lv_goto (tgt := 11) hx hb dX12_findCounts_81 (by decide) ?_
          exact ih11 (x16 + (1 : Int32)) S55 _ _ hM hX59 hS h58 _ (lv_sub hl [1, 2, 0] rfl) h
        · have h := zf h hc27
          refine lv_goto (tgt := 78) hx hb dX12_findCounts_33 (by decide) ?_
          refine lv_iinc (v := (x16 + (1 : Int32))) (lv' := [(2, .int (x16 + (1 : Int32))), (0, .ref (B + a0)), (1, .int v1)]) hx hb dX12_findCounts_78 hl (k := 2) rfl rfl (by decide) rfl (fun ls hl => ?_)
          refine lv_goto (tgt := 11) hx hb dX12_findCounts_81 (by decide) ?_
          exact ih11 (x16 + (1 : Int32)) S17 _ _ hM hX18 hS h15 _ (lv_sub hl [1, 2, 0] rfl) h
  exact hL11 n (0 : Int32) S7 _ _ hM hX11 hS h10 _ (lv_sub hl [1, 2, 0] rfl) h
def f_X12_orderNow_L14b (S0 : zM) (a0 : Nat) (x6 : Int32) (K12 : Int32 → Option (Int32)) (rec14 : Int32 → Int32 → Option (Int32)) (x14 : Int32) (x15 : Int32) : Option (Int32) :=
  if x6 ≤ x15 then K12 x14 else zChk (¬ (zr S0 a0 45) = 0) (zChk (¬ (x6 < 0 ∨ zln S0 (zr S0 a0 45) ≤ (x6).toNatClampNeg)) (zChk (¬ (x15 < 0 ∨ zln S0 (zr S0 a0 45) ≤ (x15).toNatClampNeg)) (zLet (fun (x24 : Int32) => rec14 (x14 + x24) (x15 + (1 : Int32))) (fun K26 => if (zi S0 (zr S0 a0 45) (Int32.toNatClampNeg x6)) ≤ (zi S0 (zr S0 a0 45) (Int32.toNatClampNeg x15)) then zChk (¬ (x6 < 0 ∨ zln S0 (zr S0 a0 45) ≤ (x6).toNatClampNeg)) (zChk (¬ (x15 < 0 ∨ zln S0 (zr S0 a0 45) ≤ (x15).toNatClampNeg)) (if (zi S0 (zr S0 a0 45) (Int32.toNatClampNeg x15)) ≤ (zi S0 (zr S0 a0 45) (Int32.toNatClampNeg x6)) then K26 (0 : Int32) else K26 (-1 : Int32))) else K26 (1 : Int32)))))
def f_X12_orderNow_L14 (S0 : zM) (a0 : Nat) (x6 : Int32) (K12 : Int32 → Option (Int32)) : Nat → Int32 → Int32 → Option (Int32)
  | 0 => fun _ _ => none
  | k + 1 => fun x14 x15 => f_X12_orderNow_L14b S0 a0 x6 K12 (f_X12_orderNow_L14 S0 a0 x6 K12 k) x14 x15
def f_X12_orderNow_L4b (n : Nat) (S0 : zM) (a0 : Nat) (K3 : Int32 → Option (Int32)) (rec4 : Int32 → Int32 → Option (Int32)) (x5 : Int32) (x6 : Int32) : Option (Int32) :=
  if (zi S0 a0 46) ≤ x6 then K3 x5 else zLet (fun (x10 : Int32) => rec4 x10 (x6 + (1 : Int32))) (fun K12 => f_X12_orderNow_L14 S0 a0 x6 K12 n x5 (0 : Int32))
def f_X12_orderNow_L4 (n : Nat) (S0 : zM) (a0 : Nat) (K3 : Int32 → Option (Int32)) : Nat → Int32 → Int32 → Option (Int32)
  | 0 => fun _ _ => none
  | k + 1 => fun x5 x6 => f_X12_orderNow_L4b n S0 a0 K3 (f_X12_orderNow_L4 n S0 a0 K3 k) x5 x6
def f_X12_orderNow (n : Nat) (S0 : zM) (a0 : Nat) : Option (Int32) :=
  zLet (fun (x1 : Int32) => some x1) (fun K3 => f_X12_orderNow_L4 n S0 a0 K3 n (0 : Int32) (0 : Int32))
set_option maxHeartbeats 4000000 in
set_option maxRecDepth 100000 in
theorem c_X12_orderNow (l : Launch) (D : va_G) (cy : Nat → ClassId) (B : Nat) {n : Nat} {S0 : zM} {a0 : Nat} {r : Int32} (ha0 : zA S0 a0 12) (h : f_X12_orderNow n S0 a0 = some r) : Met l yX12_orderNow (zws yX12_orderNow cX12_orderNow 4 ((some .int))) { frames := 0, cells := 0, slots := 0, locals := 0 } (zPc D cy B S0 [.ref (B + a0)]) (zQi D cy B S0 r S0) 0 0 (fun q => B < q) := by
  refine Met.ofW (cc := cX12_orderNow) (maxL := 4) (ret := ((some .int))) (by decide) rfl ?_
  intro p e s m args below meth c s₁ Bd hml hv
  obtain ⟨rfl, hC, hM⟩ := hv
  obtain ⟨hx, hb, hr, hg, hown, hlk⟩ := z_open Bd
  have hK := hC.1
  have hS : va_S (fun q => B < q) s.heap s.heap [] := va_S.rf
  have hX0 : zX S0 S0 := zX.rf
  refine z_entry (vs := [.ref (B + a0)]) (Nat.le_of_ble_eq_true rfl) (fun ls hl => ?_)
  have hl : lv_has ls 4 [(0, .ref (B + a0))] := hl
  unfold f_X12_orderNow at h
  refine lv_iconst (v := (0 : Int32)) hx hb dX12_orderNow_0 (by decide +kernel) ?_
  refine lv_istore_n (i := 1) (lv' := [(1, .int (0 : Int32)), (0, .ref (B + a0))]) hx hb dX12_orderNow_1 rfl hl (by decide) rfl (fun ls hl => ?_)
  refine lv_iconst (v := (0 : Int32)) hx hb dX12_orderNow_2 (by decide +kernel) ?_
  refine lv_istore_n (i := 2) (lv' := [(2, .int (0 : Int32)), (1, .int (0 : Int32)), (0, .ref (B + a0))]) hx hb dX12_orderNow_3 rfl hl (by decide) rfl (fun ls hl => ?_)
  obtain ⟨K3, eK3, h⟩ := zlg h
  have hK3 : ∀ (x1 : Int32) (H : Heap) (locs : List Loc), zMR D cy B S0 H → zX S0 S0 → va_S (fun q => B < q) s.heap H locs → ∀ ls : Array Slot, lv_has ls 4 [(1, .int x1)] → K3 x1 = some r → W p l e (headSpec (zws yX12_orderNow cX12_orderNow 4 ((some .int))) { frames := 0, cells := 0, slots := 0, locals := 0 }).room s m (([.ref (B + a0)] : List Value).toArray) below meth c H locs 0 0 (MQ below (zQi D cy B S0 r S0) (([.ref (B + a0)] : List Value).toArray) s 0 0 (fun q => B < q)) (F0 m 73 ls []) := by
    intro x1 H locs hM hX2 hS ls hl h
    rw [eK3] at h
    refine lv_iload_n hx hb dX12_orderNow_73 rfl (lv_at hl 0 rfl) ?_
    exact z_iret hx hb hr hlk hM hX2 hS ⟨zsm h, rfl⟩ dX12_orderNow_74
  have hL4 : ∀ (k : Nat) (x5 : Int32) (x6 : Int32) (H : Heap) (locs : List Loc), zMR D cy B S0 H → zX S0 S0 → va_S (fun q => B < q) s.heap H locs → zA S0 a0 12 → ∀ ls : Array Slot, lv_has ls 4 [(0, .ref (B + a0)), (1, .int x5), (2, .int x6)] → f_X12_orderNow_L4 n S0 a0 K3 k x5 x6 = some r → W p l e (headSpec (zws yX12_orderNow cX12_orderNow 4 ((some .int))) { frames := 0, cells := 0, slots := 0, locals := 0 }).room s m (([.ref (B + a0)] : List Value).toArray) below meth c H locs 0 0 (MQ below (zQi D cy B S0 r S0) (([.ref (B + a0)] : List Value).toArray) s 0 0 (fun q => B < q)) (F0 m 4 ls []) := by
    intro k
    induction k with
    | zero =>
      intro x5 x6 H locs hM hX7 hS h4 ls hl h
      exact znone h
    | succ k ih4 =>
      intro x5 x6 H locs hM hX7 hS h4 ls hl h
      replace h : f_X12_orderNow_L4b n S0 a0 K3 (f_X12_orderNow_L4 n S0 a0 K3 k) x5 x6 = some r := h
      generalize f_X12_orderNow_L4 n S0 a0 K3 k = rec4 at ih4 h
      unfold f_X12_orderNow_L4b at h
      refine lv_iload_n hx hb dX12_orderNow_4 rfl (lv_at hl 2 rfl) ?_
      refine lv_aload_n hx hb dX12_orderNow_5 rfl (lv_at hl 0 rfl) ?_
      refine z_getI hx hb hg zin_12 hown hK hM h4 46 rfl (by decide) (hg _ zw_1046) (fun _ h9 => h9) dX12_orderNow_6 ?_
      refine lv_icmp_ge (tgt := 73) hx hb dX12_orderNow_9 (by decide) (fun hc8 => ?_) (fun hc8 => ?_)
      · have h := zt h hc8
        exact hK3 x5 _ _ hM hX7 hS _ (lv_sub hl [1] rfl) h
      · have h := zf h hc8
        refine lv_iconst (v := (0 : Int32)) hx hb dX12_orderNow_12 (by decide +kernel) ?_
        refine lv_istore_n (i := 3) (lv' := [(3, .int (0 : Int32)), (0, .ref (B + a0)), (1, .int x5), (2, .int x6)]) hx hb dX12_orderNow_13 rfl hl (by decide) rfl (fun ls hl => ?_)
        obtain ⟨K12, eK12, h⟩ := zlg h
        have hK12 : ∀ (x10 : Int32) (H : Heap) (locs : List Loc), zMR D cy B S0 H → zX S0 S0 → va_S (fun q => B < q) s.heap H locs → zA S0 a0 12 → ∀ ls : Array Slot, lv_has ls 4 [(0, .ref (B + a0)), (1, .int x10), (2, .int x6)] → K12 x10 = some r → W p l e (headSpec (zws yX12_orderNow cX12_orderNow 4 ((some .int))) { frames := 0, cells := 0, slots := 0, locals := 0 }).room s m (([.ref (B + a0)] : List Value).toArray) below meth c H locs 0 0 (MQ below (zQi D cy B S0 r S0) (([.ref (B + a0)] : List Value).toArray) s 0 0 (fun q => B < q)) (F0 m 67 ls []) := by
          intro x10 H locs hM hX11 hS h9 ls hl h
          rw [eK12] at h
          refine lv_iinc (v := (x6 + (1 : Int32))) (lv' := [(2, .int (x6 + (1 : Int32))), (0, .ref (B + a0)), (1, .int x10)]) hx hb dX12_orderNow_67 hl (k := 2) rfl rfl (by decide) rfl (fun ls hl => ?_)
          refine lv_goto (tgt := 4) hx hb dX12_orderNow_70 (by decide) ?_
          exact ih4 x10 (x6 + (1 : Int32)) _ _ hM hX11 hS h9 _ (lv_sub hl [1, 2, 0] rfl) h
        have hL14 : ∀ (k : Nat) (x14 : Int32) (x15 : Int32) (H : Heap) (locs : List Loc), zMR D cy B S0 H → zX S0 S0 → va_S (fun q => B < q) s.heap H locs → zA S0 a0 12 → ∀ ls : Array Slot, lv_has ls 4 [(0, .ref (B + a0)), (1, .int x14), (2, .int x6), (3, .int x15)] → f_X12_orderNow_L14 S0 a0 x6 K12 k x14 x15 = some r → W p l e (headSpec (zws yX12_orderNow cX12_orderNow 4 ((some .int))) { frames := 0, cells := 0, slots := 0, locals := 0 }).room s m (([.ref (B + a0)] : List Value).toArray) below meth c H locs 0 0 (MQ below (zQi D cy B S0 r S0) (([.ref (B + a0)] : List Value).toArray) s 0 0 (fun q => B < q)) (F0 m 14 ls []) := by
          intro k
          induction k with
          | zero =>
            intro x14 x15 H locs hM hX16 hS h13 ls hl h
            exact znone h
          | succ k ih14 =>
            intro x14 x15 H locs hM hX16 hS h13 ls hl h
            replace h : f_X12_orderNow_L14b S0 a0 x6 K12 (f_X12_orderNow_L14 S0 a0 x6 K12 k) x14 x15 = some r := h
            generalize f_X12_orderNow_L14 S0 a0 x6 K12 k = rec14 at ih14 h
            unfold f_X12_orderNow_L14b at h
            refine lv_iload_n hx hb dX12_orderNow_14 rfl (lv_at hl 3 rfl) ?_
            refine lv_iload_n hx hb dX12_orderNow_15 rfl (lv_at hl 2 rfl) ?_
            refine lv_icmp_ge (tgt := 67) hx hb dX12_orderNow_16 (by decide) (fun hc17 => ?_) (fun hc17 => ?_)
            · have h := zt h hc17
              exact hK12 x14 _ _ hM hX16 hS h13 _ (lv_sub hl [0, 1, 2] rfl) h
            · have h := zf h hc17
              refine lv_iload_n hx hb dX12_orderNow_19 rfl (lv_at hl 1 rfl) ?_
              refine lv_aload_n hx hb dX12_orderNow_20 rfl (lv_at hl 0 rfl) ?_
              obtain ⟨hq19, h⟩ := zk h
              refine z_getN hx hb hg zin_12 hown hK hM h13 45 rfl (by decide) (hg _ zw_1045) (fun _ h9 => h9) hq19 dX12_orderNow_21 (fun h18 => ?_)
              refine lv_iload_n hx hb dX12_orderNow_24 rfl (lv_at hl 2 rfl) ?_
              obtain ⟨hq20, h⟩ := zk h
              refine z_iald hx hb hK hM h18 hq20 dX12_orderNow_25 ?_
              refine lv_aload_n hx hb dX12_orderNow_26 rfl (lv_at hl 0 rfl) ?_
              refine z_getN hx hb hg zin_12 hown hK hM h13 45 rfl (by decide) (hg _ zw_1045) (fun _ h9 => h9) h18.ne dX12_orderNow_27 (fun h21 => ?_)
              refine lv_iload_n hx hb dX12_orderNow_30 rfl (lv_at hl 3 rfl) ?_
              obtain ⟨hq22, h⟩ := zk h
              refine z_iald hx hb hK hM h21 hq22 dX12_orderNow_31 ?_
              obtain ⟨K26, eK26, h⟩ := zlg h
              have hK26 : ∀ (x24 : Int32) (H : Heap) (locs : List Loc), zMR D cy B S0 H → zX S0 S0 → va_S (fun q => B < q) s.heap H locs → zA S0 a0 12 → ∀ ls : Array Slot, lv_has ls 4 [(0, .ref (B + a0)), (2, .int x6), (3, .int x15)] → K26 x24 = some r → W p l e (headSpec (zws yX12_orderNow cX12_orderNow 4 ((some .int))) { frames := 0, cells := 0, slots := 0, locals := 0 }).room s m (([.ref (B + a0)] : List Value).toArray) below meth c H locs 0 0 (MQ below (zQi D cy B S0 r S0) (([.ref (B + a0)] : List Value).toArray) s 0 0 (fun q => B < q)) (F0 m 59 ls [.int x24, .int x14]) := by
                intro x24 H locs hM hX25 hS h23 ls hl h
                rw [eK26] at h
                refine lv_iadd hx hb dX12_orderNow_59 ?_
                refine lv_istore_n (i := 1) (lv' := [(1, .int (x14 + x24)), (0, .ref (B + a0)), (2, .int x6), (3, .int x15)]) hx hb dX12_orderNow_60 rfl hl (by decide) rfl (fun ls hl => ?_)
                refine lv_iinc (v := (x15 + (1 : Int32))) (lv' := [(3, .int (x15 + (1 : Int32))), (1, .int (x14 + x24)), (0, .ref (B + a0)), (2, .int x6)]) hx hb dX12_orderNow_61 hl (k := 3) rfl rfl (by decide) rfl (fun ls hl => ?_)
                refine lv_goto (tgt := 14) hx hb dX12_orderNow_64 (by decide) ?_
                exact ih14 (x14 + x24) (x15 + (1 : Int32)) _ _ hM hX25 hS h23 _ (lv_sub hl [2, 1, 3, 0] rfl) h
              refine lv_icmp_le (tgt := 39) hx hb dX12_orderNow_32 (by decide) (fun hc27 => ?_) (fun hc27 => ?_)
              · have h := zt h hc27
                refine lv_aload_n hx hb dX12_orderNow_39 rfl (lv_at hl 0 rfl) ?_
                refine z_getN hx hb hg zin_12 hown hK hM h13 45 rfl (by decide) (hg _ zw_1045) (fun _ h9 => h9) h21.ne dX12_orderNow_40 (fun h28 => ?_)
                refine lv_iload_n hx hb dX12_orderNow_43 rfl (lv_at hl 2 rfl) ?_
                obtain ⟨hq29, h⟩ := zk h
                refine z_iald hx hb hK hM h28 hq29 dX12_orderNow_44 ?_
                refine lv_aload_n hx hb dX12_orderNow_45 rfl (lv_at hl 0 rfl) ?_
                refine z_getN hx hb hg zin_12 hown hK hM h13 45 rfl (by decide) (hg _ zw_1045) (fun _ h9 => h9) h28.ne dX12_orderNow_46 (fun h30 => ?_)
                refine lv_iload_n hx hb dX12_orderNow_49 rfl (lv_at hl 3 rfl) ?_
                obtain ⟨hq31, h⟩ := zk h
                refine z_iald hx hb hK hM h30 hq31 dX12_orderNow_50 ?_
                refine lv_icmp_ge (tgt := 58) hx hb dX12_orderNow_51 (by decide) (fun hc32 => ?_) (fun hc32 => ?_)
                · have h := zt h hc32
                  refine lv_iconst (v := (0 : Int32)) hx hb dX12_orderNow_58 (by decide +kernel) ?_
                  exact hK26 (0 : Int32) _ _ hM hX16 hS h13 _ (lv_sub hl [0, 2, 3] rfl) h
                · have h := zf h hc32
                  refine lv_iconst (v := (-1 : Int32)) hx hb dX12_orderNow_54 (by decide +kernel) ?_
                  refine lv_goto (tgt := 59) hx hb dX12_orderNow_55 (by decide) ?_
                  exact hK26 (-1 : Int32) _ _ hM hX16 hS h13 _ (lv_sub hl [0, 2, 3] rfl) h
              · have h := zf h hc27
                refine lv_iconst (v := (1 : Int32)) hx hb dX12_orderNow_35 (by decide +kernel) ?_
                refine lv_goto (tgt := 59) hx hb dX12_orderNow_36 (by decide) ?_
                exact hK26 (1 : Int32) _ _ hM hX16 hS h13 _ (lv_sub hl [0, 2, 3] rfl) h
        exact hL14 n x5 (0 : Int32) _ _ hM hX7 hS h4 _ (lv_sub hl [1, 2, 3, 0] rfl) h
  exact hL4 n (0 : Int32) (0 : Int32) _ _ hM hX0 hS ha0 _ (lv_sub hl [2, 1, 0] rfl) h
def f_X12_order (n : Nat) (S0 : zM) (a0 : Nat) (v1 : Int32) : Option (Int32 × zM) :=
  zB1 (f_X12_isHall v1) (fun r2 => if r2 = 0 then some (((-1000000001 : Int32), S0)) else zB1 (f_X12_findCounts n S0 a0 v1) (fun S7 => zB1 (f_X12_orderNow n S7 a0) (fun r13 => some ((r13, S7)))))
set_option maxHeartbeats 4000000 in
set_option maxRecDepth 100000 in
theorem c_X12_order (l : Launch) (D : va_G) (cy : Nat → ClassId) (B : Nat) {n : Nat} {S0 : zM} {a0 : Nat} {v1 : Int32} {r : Int32} {S' : zM} (ha0 : zA S0 a0 12) (h : f_X12_order n S0 a0 v1 = some (r, S')) : Met l yX12_order (zws yX12_order cX12_order 2 ((some .int))) { frames := 35, cells := 0, slots := 0, locals := 803 } (zPc D cy B S0 [.ref (B + a0), .int v1]) (zQi D cy B S0 r S') 0 0 (fun q => B < q) := by
  refine Met.ofW (cc := cX12_order) (maxL := 2) (ret := ((some .int))) (by decide) rfl ?_
  intro p e s m args below meth c s₁ Bd hml hv
  obtain ⟨rfl, hC, hM⟩ := hv
  obtain ⟨hx, hb, hr, hg, hown, hlk⟩ := z_open Bd
  have hK := hC.1
  have hS : va_S (fun q => B < q) s.heap s.heap [] := va_S.rf
  have hX0 : zX S0 S0 := zX.rf
  refine z_entry (vs := [.ref (B + a0), .int v1]) (Nat.le_of_ble_eq_true rfl) (fun ls hl => ?_)
  have hl : lv_has ls 2 [(0, .ref (B + a0)), (1, .int v1)] := hl
  unfold f_X12_order at h
  refine lv_iload_n hx hb dX12_order_0 rfl (lv_at hl 1 rfl) ?_
  obtain ⟨r2, hr1, h⟩ := zb1 h
  refine z_runi (va_runS (As := [.int v1]) (rest := []) ⟨hx, hb, hml, hown, hg⟩ (c_X12_isHall l D cy B hr1) (z_cwS hg zw_1125 zw_1126 zw_13 zw_1127 zh_X12_isHall.2 ⟨(Nat.le_of_ble_eq_true rfl), (Nat.le_of_ble_eq_true rfl)⟩) (zPS hC hM) rfl rfl hl.1 rfl (lv_room (Nat.le_of_ble_eq_true rfl)) dX12_order_1 ⟨(Nat.le_of_ble_eq_true rfl), (Nat.le_of_ble_eq_true rfl)⟩) hS (fun H locs hM hX3 hS => ?_)
  refine lv_if_ne (tgt := 11) hx hb dX12_order_4 (by decide) (fun hc5 => ?_) (fun hc5 => ?_)
  · have h := zf h hc5
    refine lv_aload_n hx hb dX12_order_11 rfl (lv_at hl 0 rfl) ?_
    refine lv_iload_n hx hb dX12_order_12 rfl (lv_at hl 1 rfl) ?_
    obtain ⟨S7, hr6, h⟩ := zb1 h
    refine z_runv (va_runV (As := [.int v1]) (rest := []) ⟨hx, hb, hml, hown, hg⟩ (c_X12_findCounts l D cy B ha0 hr6) (z_cwV hg zw_1359 zw_1360 zw_1523 zw_13 zw_1361 zh_X12_findCounts ⟨(Nat.le_of_ble_eq_true rfl), (Nat.le_of_ble_eq_true rfl)⟩) (zPV hC hM ha0 (by decide) rfl) rfl rfl hl.1 rfl (lv_room (Nat.le_of_ble_eq_true rfl)) dX12_order_13 ⟨(Nat.le_of_ble_eq_true rfl), (Nat.le_of_ble_eq_true rfl)⟩) hS (fun H locs hM hX8 hS => ?_)
    have h10 := ha0.mo hX8
    have hX11 := hX0.tr hX8
    refine lv_aload_n hx hb dX12_order_16 rfl (lv_at hl 0 rfl) ?_
    obtain ⟨r13, hr12, h⟩ := zb1 h
    refine z_runi (va_runV (As := []) (rest := []) ⟨hx, hb, hml, hown, hg⟩ (c_X12_orderNow l D cy B h10 hr12) (z_cwV hg zw_1362 zw_1363 zw_1524 zw_13 zw_1364 zh_X12_orderNow ⟨(Nat.le_of_ble_eq_true rfl), (Nat.le_of_ble_eq_true rfl)⟩) (zPV hC hM h10 (by decide) rfl) rfl rfl hl.1 rfl (lv_room (Nat.le_of_ble_eq_true rfl)) dX12_order_17 ⟨(Nat.le_of_ble_eq_true rfl), (Nat.le_of_ble_eq_true rfl)⟩) hS (fun H locs hM hX14 hS => ?_)
    exact z_iret hx hb hr hlk hM hX11 hS (zsp h) dX12_order_20
  · have h := zt h hc5
    refine lv_ldcw (v := (-1000000001 : Int32)) hx hb hown (hg _ zw_1263) dX12_order_7 ?_
    exact z_iret hx hb hr hlk hM hX0 hS (zsp h) dX12_order_10
def f_X12_orders_L44b (rc : zM → Nat → Int32 → Int32 → Int32 → Option (zM)) (a0 : Nat) (v1 : Int32) (v2 : Int32) (v3 : Int32) (rc : zM → Nat → Int32 → Int32 → Int32 → Option (zM)) (K4 : zM → Option (zM)) (rec44 : Int32 → zM → Option (zM)) (x6 : Int32) (S7 : zM) : Option (zM) :=
  if (zi S7 a0 46) ≤ x6 then K4 S7 else if ((v2 >>> (x6 &&& 31)) &&& (1 : Int32)) = (1 : Int32) then rec44 (x6 + (1 : Int32)) S7 else zChk (¬ (zr S7 a0 45) = 0) (zChk (¬ (zr S7 a0 44) = 0) (zChk (¬ (x6 < 0 ∨ zln S7 (zr S7 a0 44) ≤ (x6).toNatClampNeg)) (zChk (¬ (v1 < 0 ∨ zln S7 (zr S7 a0 45) ≤ (v1).toNatClampNeg)) (zLet (zpI S7 (zr S7 a0 45) (Int32.toNatClampNeg v1) (zi S7 (zr S7 a0 44) (Int32.toNatClampNeg x6))) (fun S17 => zB1 (rc S17 a0 (v1 + (1 : Int32)) (v2 ||| ((1 : Int32) <<< (x6 &&& 31))) v3) (fun S23 => rec44 (x6 + (1 : Int32)) S23))))))
def f_X12_orders_L44 (rc : zM → Nat → Int32 → Int32 → Int32 → Option (zM)) (a0 : Nat) (v1 : Int32) (v2 : Int32) (v3 : Int32) (rc : zM → Nat → Int32 → Int32 → Int32 → Option (zM)) (K4 : zM → Option (zM)) : Nat → Int32 → zM → Option (zM)
  | 0 => fun _ _ => none
  | k + 1 => fun x6 S7 => f_X12_orders_L44b rc a0 v1 v2 v3 rc K4 (f_X12_orders_L44 rc a0 v1 v2 v3 rc K4 k) x6 S7
def f_X12_ordersO (n : Nat) (rc : zM → Nat → Int32 → Int32 → Int32 → Option (zM)) (S0 : zM) (a0 : Nat) (v1 : Int32) (v2 : Int32) (v3 : Int32) : Option (zM) :=
  if v1 = (zi S0 a0 46) then zLet (zpI S0 a0 42 ((zi S0 a0 42) + (1 : Int32))) (fun S28 => zB1 (f_X12_orderNow n S28 a0) (fun r34 => if r34 < v3 then zLet (zpI S28 a0 43 ((zi S28 a0 43) + (0 : Int32))) (fun S38 => some S38) else zLet (zpI S28 a0 43 ((zi S28 a0 43) + (1 : Int32))) (fun S42 => some S42))) else zLet (fun (S2 : zM) => some S2) (fun K4 => f_X12_orders_L44 rc a0 v1 v2 v3 rc K4 n (0 : Int32) S0)
def f_X12_orders (n : Nat) : Nat → zM → Nat → Int32 → Int32 → Int32 → Option (zM)
  | 0 => fun _ _ _ _ _ => none
  | d + 1 => f_X12_ordersO n (f_X12_orders n d)
set_option maxHeartbeats 4000000 in
set_option maxRecDepth 100000 in
theorem c_X12_ordersO (l : Launch) (D : va_G) (cy : Nat → ClassId) (B : Nat) (dd : Nat) {rc : zM → Nat → Int32 → Int32 → Int32 → Option (zM)} (hrc : ∀ {S : zM} {b0 : Nat} {b1 : Int32} {b2 : Int32} {b3 : Int32} {S1 : zM}, zA S b0 12 →  rc S b0 b1 b2 b3 = some (S1) → Met l yX12_orders (zws yX12_orders cX12_orders 5 none) { frames := 1 * dd, cells := 0, slots := 0, locals := 24 * dd } (zPc D cy B S [.ref (B + b0), .int b1, .int b2, .int b3]) (zQv D cy B S S1) 0 0 (fun q => B < q)) {n : Nat} {S0 : zM} {a0 : Nat} {v1 : Int32} {v2 : Int32} {v3 : Int32} {S' : zM} (ha0 : zA S0 a0 12) (h : f_X12_ordersO n rc S0 a0 v1 v2 v3 = some S') : Met l yX12_orders (zws yX12_orders cX12_orders 5 none) { frames := 1 * dd + 1, cells := 0, slots := 0, locals := 24 * dd + 24 } (zPc D cy B S0 [.ref (B + a0), .int v1, .int v2, .int v3]) (zQv D cy B S0 S') 0 0 (fun q => B < q) := by
  refine Met.ofW (cc := cX12_orders) (maxL := 5) (ret := none) (by decide) rfl ?_
  intro p e s m args below meth c s₁ Bd hml hv
  obtain ⟨rfl, hC, hM⟩ := hv
  obtain ⟨hx, hb, hr, hg, hown, hlk⟩ := z_open Bd
  have hK := hC.1
  have hS : va_S (fun q => B < q) s.heap s.heap [] := va_S.rf
  have hX0 : zX S0 S0 := zX.rf
  refine z_entry (vs := [.ref (B + a0), .int v1, .int v2, .int v3]) (Nat.le_of_ble_eq_true rfl) (fun ls hl => ?_)
  have hl : lv_has ls 5 [(0, .ref (B + a0)), (1, .int v1), (2, .int v2), (3, .int v3)] := hl
  unfold f_X12_ordersO at h
  refine lv_iload_n hx hb dX12_orders_0 rfl (lv_at hl 1 rfl) ?_
  refine lv_aload_n hx hb dX12_orders_1 rfl (lv_at hl 0 rfl) ?_
  refine z_getI hx hb hg zin_12 hown hK hM ha0 46 rfl (by decide) (hg _ zw_1046) (fun _ h9 => h9) dX12_orders_2 ?_
  refine lv_icmp_ne (tgt := 41) hx hb dX12_orders_5 (by decide) (fun hc1 => ?_) (fun hc1 => ?_)
  · have h := zf h hc1
    refine lv_iconst (v := (0 : Int32)) hx hb dX12_orders_41 (by decide +kernel) ?_
    refine lv_istore (i := 4) (lv' := [(4, .int (0 : Int32)), (0, .ref (B + a0)), (1, .int v1), (2, .int v2), (3, .int v3)]) hx hb dX12_orders_42 hl (by decide) rfl (fun ls hl => ?_)
    obtain ⟨K4, eK4, h⟩ := zlg h
    have hK4 : ∀ (S2 : zM) (H : Heap) (locs : List Loc), zMR D cy B S2 H → zX S0 S2 → va_S (fun q => B < q) s.heap H locs → ∀ ls : Array Slot, lv_has ls 5 [] → K4 S2 = some S' → W p l e (headSpec (zws yX12_orders cX12_orders 5 none) { frames := 1 * dd + 1, cells := 0, slots := 0, locals := 24 * dd + 24 }).room s m (([.ref (B + a0), .int v1, .int v2, .int v3] : List Value).toArray) below meth c H locs 0 0 (MQ below (zQv D cy B S0 S') (([.ref (B + a0), .int v1, .int v2, .int v3] : List Value).toArray) s 0 0 (fun q => B < q)) (F0 m 99 ls []) := by
      intro S2 H locs hM hX3 hS ls hl h
      rw [eK4] at h
      exact z_vret hx hb hr hlk hM hX3 hS (zsm h) dX12_orders_99
    have hL44 : ∀ (k : Nat) (x6 : Int32) (S7 : zM) (H : Heap) (locs : List Loc), zMR D cy B S7 H → zX S0 S7 → va_S (fun q => B < q) s.heap H locs → zA S7 a0 12 → ∀ ls : Array Slot, lv_has ls 5 [(0, .ref (B + a0)), (1, .int v1), (2, .int v2), (3, .int v3), (4, .int x6)] → f_X12_orders_L44 rc a0 v1 v2 v3 rc K4 k x6 S7 = some S' → W p l e (headSpec (zws yX12_orders cX12_orders 5 none) { frames := 1 * dd + 1, cells := 0, slots := 0, locals := 24 * dd + 24 }).room s m (([.ref (B + a0), .int v1, .int v2, .int v3] : List Value).toArray) below meth c H locs 0 0 (MQ below (zQv D cy B S0 S') (([.ref (B + a0), .int v1, .int v2, .int v3] : List Value).toArray) s 0 0 (fun q => B < q)) (F0 m 44 ls []) := by
      intro k
      induction k with
      | zero =>
        intro x6 S7 H locs hM hX8 hS h5 ls hl h
        exact znone h
      | succ k ih44 =>
        intro x6 S7 H locs hM hX8 hS h5 ls hl h
        replace h : f_X12_orders_L44b rc a0 v1 v2 v3 rc K4 (f_X12_orders_L44 rc a0 v1 v2 v3 rc K4 k) x6 S7 = some S' := h
        generalize f_X12_orders_L44 rc a0 v1 v2 v3 rc K4 k = rec44 at ih44 h
        unfold f_X12_orders_L44b at h
        refine lv_iload hx hb dX12_orders_44 (lv_at hl 4 rfl) ?_
        refine lv_aload_n hx hb dX12_orders_46 rfl (lv_at hl 0 rfl) ?_
        refine z_getI hx hb hg zin_12 hown hK hM h5 46 rfl (by decide) (hg _ zw_1046) (fun _ h9 => h9) dX12_orders_47 ?_
        refine lv_icmp_ge (tgt := 99) hx hb dX12_orders_50 (by decide) (fun hc9 => ?_) (fun hc9 => ?_)
        · have h := zt h hc9
          exact hK4 S7 _ _ hM hX8 hS _ (lv_sub hl [] rfl) h
        · have h := zf h hc9
          refine lv_iload_n hx hb dX12_orders_53 rfl (lv_at hl 2 rfl) ?_
          refine lv_iload hx hb dX12_orders_54 (lv_at hl 4 rfl) ?_
          refine lv_ishr hx hb dX12_orders_56 ?_
          refine lv_iconst (v := (1 : Int32)) hx hb dX12_orders_57 (by decide +kernel) ?_
          refine lv_iand hx hb dX12_orders_58 ?_
          refine lv_iconst (v := (1 : Int32)) hx hb dX12_orders_59 (by decide +kernel) ?_
          refine lv_icmp_ne (tgt := 66) hx hb dX12_orders_60 (by decide) (fun hc10 => ?_) (fun hc10 => ?_)
          · have h := zf h hc10
            refine lv_aload_n hx hb dX12_orders_66 rfl (lv_at hl 0 rfl) ?_
            obtain ⟨hq12, h⟩ := zk h
            refine z_getN hx hb hg zin_12 hown hK hM h5 45 rfl (by decide) (hg _ zw_1045) (fun _ h9 => h9) hq12 dX12_orders_67 (fun h11 => ?_)
            refine lv_iload_n hx hb dX12_orders_70 rfl (lv_at hl 1 rfl) ?_
            refine lv_aload_n hx hb dX12_orders_71 rfl (lv_at hl 0 rfl) ?_
            obtain ⟨hq14, h⟩ := zk h
            refine z_getN hx hb hg zin_12 hown hK hM h5 44 rfl (by decide) (hg _ zw_1044) (fun _ h9 => h9) hq14 dX12_orders_72 (fun h13 => ?_)
            refine lv_iload hx hb dX12_orders_75 (lv_at hl 4 rfl) ?_
            obtain ⟨hq15, h⟩ := zk h
            refine z_iald hx hb hK hM h13 hq15 dX12_orders_77 ?_
            obtain ⟨hq16, h⟩ := zk h
            refine z_iast hx hb hK hM hS h11 hq16 dX12_orders_78 (fun H locs hM hS => ?_)
            obtain ⟨S17, e18, h⟩ := zlg h
            rw [← e18] at hM
            have hX19 : zX S7 S17 := by rw [e18]; exact zX_pI
            have h20 := h5.mo hX19
            have hX21 := hX8.tr hX19
            refine lv_aload_n hx hb dX12_orders_79 rfl (lv_at hl 0 rfl) ?_
            refine lv_iload_n hx hb dX12_orders_80 rfl (lv_at hl 1 rfl) ?_
            refine lv_iconst (v := (1 : Int32)) hx hb dX12_orders_81 (by decide +kernel) ?_
            refine lv_iadd hx hb dX12_orders_82 ?_
            refine lv_iload_n hx hb dX12_orders_83 rfl (lv_at hl 2 rfl) ?_
            refine lv_iconst (v := (1 : Int32)) hx hb dX12_orders_84 (by decide +kernel) ?_
            refine lv_iload hx hb dX12_orders_85 (lv_at hl 4 rfl) ?_
            refine lv_ishl hx hb dX12_orders_87 ?_
            refine lv_ior hx hb dX12_orders_88 ?_
            refine lv_iload_n hx hb dX12_orders_89 rfl (lv_at hl 3 rfl) ?_
            obtain ⟨S23, hr22, h⟩ := zb1 h
            refine z_runv (va_runV (As := [.int (v1 + (1 : Int32)), .int (v2 ||| ((1 : Int32) <<< (x6 &&& 31))), .int v3]) (rest := []) ⟨hx, hb, hml, hown, hg⟩ (hrc h20 hr22) (z_cwV hg zw_1369 zw_1370 zw_1525 zw_13 zw_1371 zh_X12_orders ⟨by show 1 * dd + 1 ≤ 1 * dd + 1; omega, by show 8 + (5 + 11) + (24 * dd) ≤ 24 * dd + 24; omega⟩) (zPV hC hM h20 (by decide) rfl) rfl rfl hl.1 rfl (lv_room (Nat.le_of_ble_eq_true rfl)) dX12_orders_90 ⟨(Nat.le_of_ble_eq_true rfl), (Nat.le_of_ble_eq_true rfl)⟩) hS (fun H locs hM hX24 hS => ?_)
            have h26 := h20.mo hX24
            have hX27 := hX21.tr hX24
            refine lv_iinc (v := (x6 + (1 : Int32))) (lv' := [(4, .int (x6 + (1 : Int32))), (0, .ref (B + a0)), (1, .int v1), (2, .int v2), (3, .int v3)]) hx hb dX12_orders_93 hl (k := 4) rfl rfl (by decide) rfl (fun ls hl => ?_)
            refine lv_goto (tgt := 44) hx hb dX12_orders_96 (by decide) ?_
            exact ih44 (x6 + (1 : Int32)) S23 _ _ hM hX27 hS h26 _ (lv_sub hl [1, 2, 3, 4, 0] rfl) h
          · have h := zt h hc10
            refine lv_goto (tgt := 93) hx hb dX12_orders_63 (by decide) ?_
            refine lv_iinc (v := (x6 + (1 : Int32))) (lv' := [(4, .int (x6 + (1 : Int32))), (0, .ref (B + a0)), (1, .int v1), (2, .int v2), (3, .int v3)]) hx hb dX12_orders_93 hl (k := 4) rfl rfl (by decide) rfl (fun ls hl => ?_)
            refine lv_goto (tgt := 44) hx hb dX12_orders_96 (by decide) ?_
            exact ih44 (x6 + (1 : Int32)) S7 _ _ hM hX8 hS h5 _ (lv_sub hl [1, 2, 3, 4, 0] rfl) h
    exact hL44 n (0 : Int32) S0 _ _ hM hX0 hS ha0 _ (lv_sub hl [1, 2, 3, 4, 0] rfl) h
  · have h := zt h hc1
    refine lv_aload_n hx hb dX12_orders_8 rfl (lv_at hl 0 rfl) ?_
    refine lv_dup hx hb dX12_orders_9 rfl ?_
    refine z_getI hx hb hg zin_12 hown hK hM ha0 42 rfl (by decide) (hg _ zw_1042) (fun _ h9 => h9) dX12_orders_10 ?_
    refine lv_iconst (v := (1 : Int32)) hx hb dX12_orders_13 (by decide +kernel) ?_
    refine lv_iadd hx hb dX12_orders_14 ?_
    refine z_putI hx hb hg zin_12 tyX12 tyX12_ok nmX12 hown hK hM hS ha0 42 rfl (by decide) (hg _ zw_1042) (fun _ h9 => h9) (Or.inl rfl) (tyX12_ok 42 (by decide)) rfl rfl dX12_orders_15 (fun H locs hM hS => ?_)
    obtain ⟨S28, e29, h⟩ := zlg h
    rw [← e29] at hM
    have hX30 : zX S0 S28 := by rw [e29]; exact zX_pI
    have h31 := ha0.mo hX30
    have hX32 := hX0.tr hX30
    refine lv_aload_n hx hb dX12_orders_18 rfl (lv_at hl 0 rfl) ?_
    refine lv_dup hx hb dX12_orders_19 rfl ?_
    refine z_getI hx hb hg zin_12 hown hK hM h31 43 rfl (by decide) (hg _ zw_1043) (fun _ h9 => h9) dX12_orders_20 ?_
    refine lv_aload_n hx hb dX12_orders_23 rfl (lv_at hl 0 rfl) ?_
    obtain ⟨r34, hr33, h⟩ := zb1 h
    refine z_runi (va_runV (As := []) (rest := [.int (zi S28 a0 43), .ref (B + a0)]) ⟨hx, hb, hml, hown, hg⟩ (c_X12_orderNow l D cy B h31 hr33) (z_cwV hg zw_1362 zw_1363 zw_1524 zw_13 zw_1364 zh_X12_orderNow ⟨by show 0 + 1 ≤ 1 * dd + 1; omega, by show 8 + (4 + 11) + 0 ≤ 24 * dd + 24; omega⟩) (zPV hC hM h31 (by decide) rfl) rfl rfl hl.1 rfl (lv_room (Nat.le_of_ble_eq_true rfl)) dX12_orders_24 ⟨(Nat.le_of_ble_eq_true rfl), (Nat.le_of_ble_eq_true rfl)⟩) hS (fun H locs hM hX35 hS => ?_)
    refine lv_iload_n hx hb dX12_orders_27 rfl (lv_at hl 3 rfl) ?_
    refine lv_icmp_lt (tgt := 35) hx hb dX12_orders_28 (by decide) (fun hc37 => ?_) (fun hc37 => ?_)
    · have h := zt h hc37
      refine lv_iconst (v := (0 : Int32)) hx hb dX12_orders_35 (by decide +kernel) ?_
      refine lv_iadd hx hb dX12_orders_36 ?_
      refine z_putI hx hb hg zin_12 tyX12 tyX12_ok nmX12 hown hK hM hS h31 43 rfl (by decide) (hg _ zw_1043) (fun _ h9 => h9) (Or.inl rfl) (tyX12_ok 43 (by decide)) rfl rfl dX12_orders_37 (fun H locs hM hS => ?_)
      obtain ⟨S38, e39, h⟩ := zlg h
      rw [← e39] at hM
      have hX40 : zX S28 S38 := by rw [e39]; exact zX_pI
      have hX41 := hX32.tr hX40
      exact z_vret hx hb hr hlk hM hX41 hS (zsm h) dX12_orders_40
    · have h := zf h hc37
      refine lv_iconst (v := (1 : Int32)) hx hb dX12_orders_31 (by decide +kernel) ?_
      refine lv_goto (tgt := 36) hx hb dX12_orders_32 (by decide) ?_
      refine lv_iadd hx hb dX12_orders_36 ?_
      refine z_putI hx hb hg zin_12 tyX12 tyX12_ok nmX12 hown hK hM hS h31 43 rfl (by decide) (hg _ zw_1043) (fun _ h9 => h9) (Or.inl rfl) (tyX12_ok 43 (by decide)) rfl rfl dX12_orders_37 (fun H locs hM hS => ?_)
      obtain ⟨S42, e43, h⟩ := zlg h
      rw [← e43] at hM
      have hX44 : zX S28 S42 := by rw [e43]; exact zX_pI
      have hX45 := hX32.tr hX44
      exact z_vret hx hb hr hlk hM hX45 hS (zsm h) dX12_orders_40
theorem k_X12_orders (l : Launch) (D : va_G) (cy : Nat → ClassId) (B n : Nat) : ∀ (dd : Nat) {S : zM} {b0 : Nat} {b1 : Int32} {b2 : Int32} {b3 : Int32} {S1 : zM}, zA S b0 12 →  f_X12_orders n dd S b0 b1 b2 b3 = some (S1) → Met l yX12_orders (zws yX12_orders cX12_orders 5 none) { frames := 1 * dd, cells := 0, slots := 0, locals := 24 * dd } (zPc D cy B S [.ref (B + b0), .int b1, .int b2, .int b3]) (zQv D cy B S S1) 0 0 (fun q => B < q) := by
  intro dd
  induction dd with
  | zero =>
    intro S _ _ _ _ _ g0 h
    exact znone h
  | succ dd ih =>
    intro S _ _ _ _ _ g0 h
    exact c_X12_ordersO l D cy B dd @ih g0 h
theorem c_X12_orders (l : Launch) (D : va_G) (cy : Nat → ClassId) (B : Nat) {n : Nat} : ∀ {S : zM} {b0 : Nat} {b1 : Int32} {b2 : Int32} {b3 : Int32} {S1 : zM}, zA S b0 12 →  f_X12_orders n 9 S b0 b1 b2 b3 = some (S1) → Met l yX12_orders (zws yX12_orders cX12_orders 5 none) { frames := 9, cells := 0, slots := 0, locals := 216 } (zPc D cy B S [.ref (B + b0), .int b1, .int b2, .int b3]) (zQv D cy B S S1) 0 0 (fun q => B < q) := by
  intro S _ _ _ _ _ g0 h
  exact k_X12_orders l D cy B n 9 g0 h
def f_X12_orderOdds (n : Nat) (S0 : zM) (a0 : Nat) (v1 : Int32) (v2 : Int32) : Option (Int32 × zM) :=
  zB1 (f_X12_isHall v1) (fun r2 => if r2 = 0 then some (((-1 : Int32), S0)) else zLet (f_X12_isIn (Int32.toInt64 v2) (0 : Int64) (1 : Int64)) (fun r7 => if r7 = 0 then some (((-1 : Int32), S0)) else zB1 (f_X12_findCounts n S0 a0 v1) (fun S12 => if (zi S12 a0 46) ≤ (7 : Int32) then zLet (zpI S12 a0 42 (0 : Int32)) (fun S18 => zLet (zpI S18 a0 43 (0 : Int32)) (fun S23 => zB1 (f_X12_orderNow n S23 a0) (fun r29 => zB1 (f_X12_orders n 9 S23 a0 (0 : Int32) (0 : Int32) r29) (fun S33 => if v2 = 0 then some (((zi S33 a0 43), S33)) else some (((zi S33 a0 42), S33)))))) else some (((-3 : Int32), S12)))))
set_option maxHeartbeats 4000000 in
set_option maxRecDepth 100000 in
theorem c_X12_orderOdds (l : Launch) (D : va_G) (cy : Nat → ClassId) (B : Nat) {n : Nat} {S0 : zM} {a0 : Nat} {v1 : Int32} {v2 : Int32} {r : Int32} {S' : zM} (ha0 : zA S0 a0 12) (h : f_X12_orderOdds n S0 a0 v1 v2 = some (r, S')) : Met l yX12_orderOdds (zws yX12_orderOdds cX12_orderOdds 3 ((some .int))) { frames := 35, cells := 0, slots := 0, locals := 803 } (zPc D cy B S0 [.ref (B + a0), .int v1, .int v2]) (zQi D cy B S0 r S') 0 0 (fun q => B < q) := by
  refine Met.ofW (cc := cX12_orderOdds) (maxL := 3) (ret := ((some .int))) (by decide) rfl ?_
  intro p e s m args below meth c s₁ Bd hml hv
  obtain ⟨rfl, hC, hM⟩ := hv
  obtain ⟨hx, hb, hr, hg, hown, hlk⟩ := z_open Bd
  have hK := hC.1
  have hS : va_S (fun q => B < q) s.heap s.heap [] := va_S.rf
  have hX0 : zX S0 S0 := zX.rf
  refine z_entry (vs := [.ref (B + a0), .int v1, .int v2]) (Nat.le_of_ble_eq_true rfl) (fun ls hl => ?_)
  have hl : lv_has ls 3 [(0, .ref (B + a0)), (1, .int v1), (2, .int v2)] := hl
  unfold f_X12_orderOdds at h
  refine lv_iload_n hx hb dX12_orderOdds_0 rfl (lv_at hl 1 rfl) ?_
  obtain ⟨r2, hr1, h⟩ := zb1 h
  refine z_runi (va_runS (As := [.int v1]) (rest := []) ⟨hx, hb, hml, hown, hg⟩ (c_X12_isHall l D cy B hr1) (z_cwS hg zw_1125 zw_1126 zw_13 zw_1127 zh_X12_isHall.2 ⟨(Nat.le_of_ble_eq_true rfl), (Nat.le_of_ble_eq_true rfl)⟩) (zPS hC hM) rfl rfl hl.1 rfl (lv_room (Nat.le_of_ble_eq_true rfl)) dX12_orderOdds_1 ⟨(Nat.le_of_ble_eq_true rfl), (Nat.le_of_ble_eq_true rfl)⟩) hS (fun H locs hM hX3 hS => ?_)
  refine lv_if_eq (tgt := 17) hx hb dX12_orderOdds_4 (by decide) (fun hc5 => ?_) (fun hc5 => ?_)
  · have h := zt h hc5
    refine lv_iconst (v := (-1 : Int32)) hx hb dX12_orderOdds_17 (by decide +kernel) ?_
    exact z_iret hx hb hr hlk hM hX0 hS (zsp h) dX12_orderOdds_18
  · have h := zf h hc5
    refine lv_iload_n hx hb dX12_orderOdds_7 rfl (lv_at hl 2 rfl) ?_
    refine lv_i2l hx hb dX12_orderOdds_8 rfl ?_
    refine lv_lconst (v := (0 : Int64)) hx hb dX12_orderOdds_9 (by decide +kernel) ?_
    refine lv_lconst (v := (1 : Int64)) hx hb dX12_orderOdds_10 (by decide +kernel) ?_
    obtain ⟨r7, hr6, h⟩ := zlg h
    have hr6 := hr6.symm
    refine z_runi (va_runS (As := [.long (Int32.toInt64 v2), .long (0 : Int64), .long (1 : Int64)]) (rest := []) ⟨hx, hb, hml, hown, hg⟩ (c_X12_isIn l D cy B hr6) (z_cwS hg zw_1111 zw_1112 zw_13 zw_1113 zh_X12_isIn.2 ⟨(Nat.le_of_ble_eq_true rfl), (Nat.le_of_ble_eq_true rfl)⟩) (zPS hC hM) rfl rfl hl.1 rfl (lv_room (Nat.le_of_ble_eq_true rfl)) dX12_orderOdds_11 ⟨(Nat.le_of_ble_eq_true rfl), (Nat.le_of_ble_eq_true rfl)⟩) hS (fun H locs hM hX8 hS => ?_)
    refine lv_if_ne (tgt := 19) hx hb dX12_orderOdds_14 (by decide) (fun hc10 => ?_) (fun hc10 => ?_)
    · have h := zf h hc10
      refine lv_aload_n hx hb dX12_orderOdds_19 rfl (lv_at hl 0 rfl) ?_
      refine lv_iload_n hx hb dX12_orderOdds_20 rfl (lv_at hl 1 rfl) ?_
      obtain ⟨S12, hr11, h⟩ := zb1 h
      refine z_runv (va_runV (As := [.int v1]) (rest := []) ⟨hx, hb, hml, hown, hg⟩ (c_X12_findCounts l D cy B ha0 hr11) (z_cwV hg zw_1359 zw_1360 zw_1523 zw_13 zw_1361 zh_X12_findCounts ⟨(Nat.le_of_ble_eq_true rfl), (Nat.le_of_ble_eq_true rfl)⟩) (zPV hC hM ha0 (by decide) rfl) rfl rfl hl.1 rfl (lv_room (Nat.le_of_ble_eq_true rfl)) dX12_orderOdds_21 ⟨(Nat.le_of_ble_eq_true rfl), (Nat.le_of_ble_eq_true rfl)⟩) hS (fun H locs hM hX13 hS => ?_)
      have h15 := ha0.mo hX13
      have hX16 := hX0.tr hX13
      refine lv_aload_n hx hb dX12_orderOdds_24 rfl (lv_at hl 0 rfl) ?_
      refine z_getI hx hb hg zin_12 hown hK hM h15 46 rfl (by decide) (hg _ zw_1046) (fun _ h9 => h9) dX12_orderOdds_25 ?_
      refine lv_bipush (v := (7 : Int32)) hx hb dX12_orderOdds_28 (by decide +kernel) ?_
      refine lv_icmp_le (tgt := 36) hx hb dX12_orderOdds_30 (by decide) (fun hc17 => ?_) (fun hc17 => ?_)
      · have h := zt h hc17
        refine lv_aload_n hx hb dX12_orderOdds_36 rfl (lv_at hl 0 rfl) ?_
        refine lv_iconst (v := (0 : Int32)) hx hb dX12_orderOdds_37 (by decide +kernel) ?_
        refine z_putI hx hb hg zin_12 tyX12 tyX12_ok nmX12 hown hK hM hS h15 42 rfl (by decide) (hg _ zw_1042) (fun _ h9 => h9) (Or.inl rfl) (tyX12_ok 42 (by decide)) rfl rfl dX12_orderOdds_38 (fun H locs hM hS => ?_)
        obtain ⟨S18, e19, h⟩ := zlg h
        rw [← e19] at hM
        have hX20 : zX S12 S18 := by rw [e19]; exact zX_pI
        have h21 := h15.mo hX20
        have hX22 := hX16.tr hX20
        refine lv_aload_n hx hb dX12_orderOdds_41 rfl (lv_at hl 0 rfl) ?_
        refine lv_iconst (v := (0 : Int32)) hx hb dX12_orderOdds_42 (by decide +kernel) ?_
        refine z_putI hx hb hg zin_12 tyX12 tyX12_ok nmX12 hown hK hM hS h21 43 rfl (by decide) (hg _ zw_1043) (fun _ h9 => h9) (Or.inl rfl) (tyX12_ok 43 (by decide)) rfl rfl dX12_orderOdds_43 (fun H locs hM hS => ?_)
        obtain ⟨S23, e24, h⟩ := zlg h
        rw [← e24] at hM
        have hX25 : zX S18 S23 := by rw [e24]; exact zX_pI
        have h26 := h21.mo hX25
        have hX27 := hX22.tr hX25
        refine lv_aload_n hx hb dX12_orderOdds_46 rfl (lv_at hl 0 rfl) ?_
        refine lv_iconst (v := (0 : Int32)) hx hb dX12_orderOdds_47 (by decide +kernel) ?_
        refine lv_iconst (v := (0 : Int32)) hx hb dX12_orderOdds_48 (by decide +kernel) ?_
        refine lv_aload_n hx hb dX12_orderOdds_49 rfl (lv_at hl 0 rfl) ?_
        obtain ⟨r29, hr28, h⟩ := zb1 h
        refine z_runi (va_runV (As := []) (rest := [.int (0 : Int32), .int (0 : Int32), .ref (B + a0)]) ⟨hx, hb, hml, hown, hg⟩ (c_X12_orderNow l D cy B h26 hr28) (z_cwV hg zw_1362 zw_1363 zw_1524 zw_13 zw_1364 zh_X12_orderNow ⟨(Nat.le_of_ble_eq_true rfl), (Nat.le_of_ble_eq_true rfl)⟩) (zPV hC hM h26 (by decide) rfl) rfl rfl hl.1 rfl (lv_room (Nat.le_of_ble_eq_true rfl)) dX12_orderOdds_50 ⟨(Nat.le_of_ble_eq_true rfl), (Nat.le_of_ble_eq_true rfl)⟩) hS (fun H locs hM hX30 hS => ?_)
        obtain ⟨S33, hr32, h⟩ := zb1 h
        refine z_runv (va_runV (As := [.int (0 : Int32), .int (0 : Int32), .int r29]) (rest := []) ⟨hx, hb, hml, hown, hg⟩ (c_X12_orders l D cy B h26 hr32) (z_cwV hg zw_1369 zw_1370 zw_1525 zw_13 zw_1371 zh_X12_orders ⟨(Nat.le_of_ble_eq_true rfl), (Nat.le_of_ble_eq_true rfl)⟩) (zPV hC hM h26 (by decide) rfl) rfl rfl hl.1 rfl (lv_room (Nat.le_of_ble_eq_true rfl)) dX12_orderOdds_53 ⟨(Nat.le_of_ble_eq_true rfl), (Nat.le_of_ble_eq_true rfl)⟩) hS (fun H locs hM hX34 hS => ?_)
        have h36 := h26.mo hX34
        have hX37 := hX27.tr hX34
        refine lv_iload_n hx hb dX12_orderOdds_56 rfl (lv_at hl 2 rfl) ?_
        refine lv_if_ne (tgt := 67) hx hb dX12_orderOdds_57 (by decide) (fun hc38 => ?_) (fun hc38 => ?_)
        · have h := zf h hc38
          refine lv_aload_n hx hb dX12_orderOdds_67 rfl (lv_at hl 0 rfl) ?_
          refine z_getI hx hb hg zin_12 hown hK hM h36 42 rfl (by decide) (hg _ zw_1042) (fun _ h9 => h9) dX12_orderOdds_68 ?_
          exact z_iret hx hb hr hlk hM hX37 hS (zsp h) dX12_orderOdds_71
        · have h := zt h hc38
          refine lv_aload_n hx hb dX12_orderOdds_60 rfl (lv_at hl 0 rfl) ?_
          refine z_getI hx hb hg zin_12 hown hK hM h36 43 rfl (by decide) (hg _ zw_1043) (fun _ h9 => h9) dX12_orderOdds_61 ?_
          refine lv_goto (tgt := 71) hx hb dX12_orderOdds_64 (by decide) ?_
          exact z_iret hx hb hr hlk hM hX37 hS (zsp h) dX12_orderOdds_71
      · have h := zf h hc17
        refine lv_bipush (v := (-3 : Int32)) hx hb dX12_orderOdds_33 (by decide +kernel) ?_
        exact z_iret hx hb hr hlk hM hX16 hS (zsp h) dX12_orderOdds_35
    · have h := zt h hc10
      refine lv_iconst (v := (-1 : Int32)) hx hb dX12_orderOdds_17 (by decide +kernel) ?_
      exact z_iret hx hb hr hlk hM hX0 hS (zsp h) dX12_orderOdds_18
def f_X12_meanIn_L46b (S0 : zM) (a0 : Nat) (v1 : Int32) (x10 : Int32) (K27 : Int32 → Int32 → Option (Int32)) (rec46 : Int32 → Int32 → Int32 → Option (Int32)) (x29 : Int32) (x30 : Int32) (x31 : Int32) : Option (Int32) :=
  if (7 : Int32) ≤ x31 then K27 x29 x30 else zB1 (f_X12_markOf S0 a0 x10 x31) (fun r35 => if r35 < 0 then rec46 x29 x30 (x31 + (1 : Int32)) else zB1 (f_X12_get S0 a0 x10 ((12 : Int32) + x31)) (fun r40 => if (r40 - (1 : Int32)) = v1 then zB1 (f_X12_markOf S0 a0 x10 x31) (fun r45 => rec46 (x29 + r45) (x30 + (1 : Int32)) (x31 + (1 : Int32))) else rec46 x29 x30 (x31 + (1 : Int32))))
def f_X12_meanIn_L46 (S0 : zM) (a0 : Nat) (v1 : Int32) (x10 : Int32) (K27 : Int32 → Int32 → Option (Int32)) : Nat → Int32 → Int32 → Int32 → Option (Int32)
  | 0 => fun _ _ _ => none
  | k + 1 => fun x29 x30 x31 => f_X12_meanIn_L46b S0 a0 v1 x10 K27 (f_X12_meanIn_L46 S0 a0 v1 x10 K27 k) x29 x30 x31
def f_X12_meanIn_L8b (n : Nat) (S0 : zM) (a0 : Nat) (v1 : Int32) (v2 : Int32) (K4 : Int32 → Int32 → Option (Int32)) (rec8 : Int32 → Int32 → Int32 → Option (Int32)) (x8 : Int32) (x9 : Int32) (x10 : Int32) : Option (Int32) :=
  zChk (¬ (zr S0 a0 0) = 0) (zChk (¬ ((1003 : Int32) < 0 ∨ zln S0 (zr S0 a0 0) ≤ ((1003 : Int32)).toNatClampNeg)) (if (zi S0 (zr S0 a0 0) (Int32.toNatClampNeg (1003 : Int32))) ≤ x10 then K4 x8 x9 else zB1 (f_X12_get S0 a0 x10 (0 : Int32)) (fun r18 => zChk (¬ (((64 : Int32) + r18) < 0 ∨ zln S0 (zr S0 a0 0) ≤ (((64 : Int32) + r18)).toNatClampNeg)) (if (zi S0 (zr S0 a0 0) (Int32.toNatClampNeg ((64 : Int32) + r18))) = v2 then zLet (fun (x24 : Int32) (x25 : Int32) => rec8 x24 x25 (x10 + (1 : Int32))) (fun K27 => f_X12_meanIn_L46 S0 a0 v1 x10 K27 n x8 x9 (0 : Int32)) else rec8 x8 x9 (x10 + (1 : Int32))))))
def f_X12_meanIn_L8 (n : Nat) (S0 : zM) (a0 : Nat) (v1 : Int32) (v2 : Int32) (K4 : Int32 → Int32 → Option (Int32)) : Nat → Int32 → Int32 → Int32 → Option (Int32)
  | 0 => fun _ _ _ => none
  | k + 1 => fun x8 x9 x10 => f_X12_meanIn_L8b n S0 a0 v1 v2 K4 (f_X12_meanIn_L8 n S0 a0 v1 v2 K4 k) x8 x9 x10
def f_X12_meanIn (n : Nat) (S0 : zM) (a0 : Nat) (v1 : Int32) (v2 : Int32) : Option (Int32) :=
  zLet (fun (x1 : Int32) (x2 : Int32) => if x2 = 0 then some (-4 : Int32) else zChk (¬ x2 = 0) (some (((100 : Int32) * x1) / x2))) (fun K4 => f_X12_meanIn_L8 n S0 a0 v1 v2 K4 n (0 : Int32) (0 : Int32) (0 : Int32))
set_option maxHeartbeats 4000000 in
set_option maxRecDepth 100000 in
theorem c_X12_meanIn (l : Launch) (D : va_G) (cy : Nat → ClassId) (B : Nat) {n : Nat} {S0 : zM} {a0 : Nat} {v1 : Int32} {v2 : Int32} {r : Int32} (ha0 : zA S0 a0 12) (h : f_X12_meanIn n S0 a0 v1 v2 = some r) : Met l yX12_meanIn (zws yX12_meanIn cX12_meanIn 7 ((some .int))) { frames := 2, cells := 0, slots := 0, locals := 44 } (zPc D cy B S0 [.ref (B + a0), .int v1, .int v2]) (zQi D cy B S0 r S0) 0 0 (fun q => B < q) := by
  refine Met.ofW (cc := cX12_meanIn) (maxL := 7) (ret := ((some .int))) (by decide) rfl ?_
  intro p e s m args below meth c s₁ Bd hml hv
  obtain ⟨rfl, hC, hM⟩ := hv
  obtain ⟨hx, hb, hr, hg, hown, hlk⟩ := z_open Bd
  have hK := hC.1
  have hS : va_S (fun q => B < q) s.heap s.heap [] := va_S.rf
  have hX0 : zX S0 S0 := zX.rf
  refine z_entry (vs := [.ref (B + a0), .int v1, .int v2]) (Nat.le_of_ble_eq_true rfl) (fun ls hl => ?_)
  have hl : lv_has ls 7 [(0, .ref (B + a0)), (1, .int v1), (2, .int v2)] := hl
  unfold f_X12_meanIn at h
  refine lv_iconst (v := (0 : Int32)) hx hb dX12_meanIn_0 (by decide +kernel) ?_
  refine lv_istore_n (i := 3) (lv' := [(3, .int (0 : Int32)), (0, .ref (B + a0)), (1, .int v1), (2, .int v2)]) hx hb dX12_meanIn_1 rfl hl (by decide) rfl (fun ls hl => ?_)
  refine lv_iconst (v := (0 : Int32)) hx hb dX12_meanIn_2 (by decide +kernel) ?_
  refine lv_istore (i := 4) (lv' := [(4, .int (0 : Int32)), (3, .int (0 : Int32)), (0, .ref (B + a0)), (1, .int v1), (2, .int v2)]) hx hb dX12_meanIn_3 hl (by decide) rfl (fun ls hl => ?_)
  refine lv_iconst (v := (0 : Int32)) hx hb dX12_meanIn_5 (by decide +kernel) ?_
  refine lv_istore (i := 5) (lv' := [(5, .int (0 : Int32)), (4, .int (0 : Int32)), (3, .int (0 : Int32)), (0, .ref (B + a0)), (1, .int v1), (2, .int v2)]) hx hb dX12_meanIn_6 hl (by decide) rfl (fun ls hl => ?_)
  obtain ⟨K4, eK4, h⟩ := zlg h
  have hK4 : ∀ (x1 : Int32) (x2 : Int32) (H : Heap) (locs : List Loc), zMR D cy B S0 H → zX S0 S0 → va_S (fun q => B < q) s.heap H locs → ∀ ls : Array Slot, lv_has ls 7 [(3, .int x1), (4, .int x2)] → K4 x1 x2 = some r → W p l e (headSpec (zws yX12_meanIn cX12_meanIn 7 ((some .int))) { frames := 2, cells := 0, slots := 0, locals := 44 }).room s m (([.ref (B + a0), .int v1, .int v2] : List Value).toArray) below meth c H locs 0 0 (MQ below (zQi D cy B S0 r S0) (([.ref (B + a0), .int v1, .int v2] : List Value).toArray) s 0 0 (fun q => B < q)) (F0 m 110 ls []) := by
    intro x1 x2 H locs hM hX3 hS ls hl h
    rw [eK4] at h
    refine lv_iload hx hb dX12_meanIn_110 (lv_at hl 1 rfl) ?_
    refine lv_if_ne (tgt := 120) hx hb dX12_meanIn_112 (by decide) (fun hc5 => ?_) (fun hc5 => ?_)
    · have h := zf h hc5
      refine lv_bipush (v := (100 : Int32)) hx hb dX12_meanIn_120 (by decide +kernel) ?_
      refine lv_iload_n hx hb dX12_meanIn_122 rfl (lv_at hl 0 rfl) ?_
      refine lv_imul hx hb dX12_meanIn_123 ?_
      refine lv_iload hx hb dX12_meanIn_124 (lv_at hl 1 rfl) ?_
      obtain ⟨hq6, h⟩ := zk h
      refine lv_idiv hx hb dX12_meanIn_126 hq6 ?_
      exact z_iret hx hb hr hlk hM hX3 hS ⟨zsm h, rfl⟩ dX12_meanIn_127
    · have h := zt h hc5
      refine lv_bipush (v := (-4 : Int32)) hx hb dX12_meanIn_115 (by decide +kernel) ?_
      refine lv_goto (tgt := 127) hx hb dX12_meanIn_117 (by decide) ?_
      exact z_iret hx hb hr hlk hM hX3 hS ⟨zsm h, rfl⟩ dX12_meanIn_127
  have hL8 : ∀ (k : Nat) (x8 : Int32) (x9 : Int32) (x10 : Int32) (H : Heap) (locs : List Loc), zMR D cy B S0 H → zX S0 S0 → va_S (fun q => B < q) s.heap H locs → zA S0 a0 12 → ∀ ls : Array Slot, lv_has ls 7 [(0, .ref (B + a0)), (1, .int v1), (2, .int v2), (3, .int x8), (4, .int x9), (5, .int x10)] → f_X12_meanIn_L8 n S0 a0 v1 v2 K4 k x8 x9 x10 = some r → W p l e (headSpec (zws yX12_meanIn cX12_meanIn 7 ((some .int))) { frames := 2, cells := 0, slots := 0, locals := 44 }).room s m (([.ref (B + a0), .int v1, .int v2] : List Value).toArray) below meth c H locs 0 0 (MQ below (zQi D cy B S0 r S0) (([.ref (B + a0), .int v1, .int v2] : List Value).toArray) s 0 0 (fun q => B < q)) (F0 m 8 ls []) := by
    intro k
    induction k with
    | zero =>
      intro x8 x9 x10 H locs hM hX11 hS h7 ls hl h
      exact znone h
    | succ k ih8 =>
      intro x8 x9 x10 H locs hM hX11 hS h7 ls hl h
      replace h : f_X12_meanIn_L8b n S0 a0 v1 v2 K4 (f_X12_meanIn_L8 n S0 a0 v1 v2 K4 k) x8 x9 x10 = some r := h
      generalize f_X12_meanIn_L8 n S0 a0 v1 v2 K4 k = rec8 at ih8 h
      unfold f_X12_meanIn_L8b at h
      refine lv_iload hx hb dX12_meanIn_8 (lv_at hl 5 rfl) ?_
      refine lv_aload_n hx hb dX12_meanIn_10 rfl (lv_at hl 0 rfl) ?_
      obtain ⟨hq13, h⟩ := zk h
      refine z_getN hx hb hg zin_12 hown hK hM h7 0 rfl (by decide) (hg _ zw_1000) (fun _ h9 => h9) hq13 dX12_meanIn_11 (fun h12 => ?_)
      refine lv_sipush (v := (1003 : Int32)) hx hb dX12_meanIn_14 (by decide +kernel) ?_
      obtain ⟨hq14, h⟩ := zk h
      refine z_iald hx hb hK hM h12 hq14 dX12_meanIn_17 ?_
      refine lv_icmp_ge (tgt := 110) hx hb dX12_meanIn_18 (by decide) (fun hc15 => ?_) (fun hc15 => ?_)
      · have h := zt h hc15
        exact hK4 x8 x9 _ _ hM hX11 hS _ (lv_sub hl [3, 4] rfl) h
      · have h := zf h hc15
        refine lv_aload_n hx hb dX12_meanIn_21 rfl (lv_at hl 0 rfl) ?_
        refine z_getN hx hb hg zin_12 hown hK hM h7 0 rfl (by decide) (hg _ zw_1000) (fun _ h9 => h9) h12.ne dX12_meanIn_22 (fun h16 => ?_)
        refine lv_bipush (v := (64 : Int32)) hx hb dX12_meanIn_25 (by decide +kernel) ?_
        refine lv_aload_n hx hb dX12_meanIn_27 rfl (lv_at hl 0 rfl) ?_
        refine lv_iload hx hb dX12_meanIn_28 (lv_at hl 5 rfl) ?_
        refine lv_iconst (v := (0 : Int32)) hx hb dX12_meanIn_30 (by decide +kernel) ?_
        obtain ⟨r18, hr17, h⟩ := zb1 h
        refine z_runi (va_runV (As := [.int x10, .int (0 : Int32)]) (rest := [.int (64 : Int32), .ref (B + (zr S0 a0 0))]) ⟨hx, hb, hml, hown, hg⟩ (c_X12_get l D cy B h7 hr17) (z_cwV hg zw_1163 zw_1164 zw_1487 zw_13 zw_1165 zh_X12_get ⟨(Nat.le_of_ble_eq_true rfl), (Nat.le_of_ble_eq_true rfl)⟩) (zPV hC hM h7 (by decide) rfl) rfl rfl hl.1 rfl (lv_room (Nat.le_of_ble_eq_true rfl)) dX12_meanIn_31 ⟨(Nat.le_of_ble_eq_true rfl), (Nat.le_of_ble_eq_true rfl)⟩) hS (fun H locs hM hX19 hS => ?_)
        refine lv_iadd hx hb dX12_meanIn_34 ?_
        obtain ⟨hq21, h⟩ := zk h
        refine z_iald hx hb hK hM h16 hq21 dX12_meanIn_35 ?_
        refine lv_iload_n hx hb dX12_meanIn_36 rfl (lv_at hl 2 rfl) ?_
        refine lv_icmp_eq (tgt := 43) hx hb dX12_meanIn_37 (by decide) (fun hc22 => ?_) (fun hc22 => ?_)
        · have h := zt h hc22
          refine lv_iconst (v := (0 : Int32)) hx hb dX12_meanIn_43 (by decide +kernel) ?_
          refine lv_istore (i := 6) (lv' := [(6, .int (0 : Int32)), (0, .ref (B + a0)), (1, .int v1), (2, .int v2), (3, .int x8), (4, .int x9), (5, .int x10)]) hx hb dX12_meanIn_44 hl (by decide) rfl (fun ls hl => ?_)
          obtain ⟨K27, eK27, h⟩ := zlg h
          have hK27 : ∀ (x24 : Int32) (x25 : Int32) (H : Heap) (locs : List Loc), zMR D cy B S0 H → zX S0 S0 → va_S (fun q => B < q) s.heap H locs → zA S0 a0 12 → ∀ ls : Array Slot, lv_has ls 7 [(0, .ref (B + a0)), (1, .int v1), (2, .int v2), (3, .int x24), (4, .int x25), (5, .int x10)] → K27 x24 x25 = some r → W p l e (headSpec (zws yX12_meanIn cX12_meanIn 7 ((some .int))) { frames := 2, cells := 0, slots := 0, locals := 44 }).room s m (([.ref (B + a0), .int v1, .int v2] : List Value).toArray) below meth c H locs 0 0 (MQ below (zQi D cy B S0 r S0) (([.ref (B + a0), .int v1, .int v2] : List Value).toArray) s 0 0 (fun q => B < q)) (F0 m 104 ls []) := by
            intro x24 x25 H locs hM hX26 hS h23 ls hl h
            rw [eK27] at h
            refine lv_iinc (v := (x10 + (1 : Int32))) (lv' := [(5, .int (x10 + (1 : Int32))), (0, .ref (B + a0)), (1, .int v1), (2, .int v2), (3, .int x24), (4, .int x25)]) hx hb dX12_meanIn_104 hl (k := 5) rfl rfl (by decide) rfl (fun ls hl => ?_)
            refine lv_goto (tgt := 8) hx hb dX12_meanIn_107 (by decide) ?_
            exact ih8 x24 x25 (x10 + (1 : Int32)) _ _ hM hX26 hS h23 _ (lv_sub hl [1, 2, 3, 4, 5, 0] rfl) h
          have hL46 : ∀ (k : Nat) (x29 : Int32) (x30 : Int32) (x31 : Int32) (H : Heap) (locs : List Loc), zMR D cy B S0 H → zX S0 S0 → va_S (fun q => B < q) s.heap H locs → zA S0 a0 12 → ∀ ls : Array Slot, lv_has ls 7 [(0, .ref (B + a0)), (1, .int v1), (2, .int v2), (3, .int x29), (4, .int x30), (5, .int x10), (6, .int x31)] → f_X12_meanIn_L46 S0 a0 v1 x10 K27 k x29 x30 x31 = some r → W p l e (headSpec (zws yX12_meanIn cX12_meanIn 7 ((some .int))) { frames := 2, cells := 0, slots := 0, locals := 44 }).room s m (([.ref (B + a0), .int v1, .int v2] : List Value).toArray) below meth c H locs 0 0 (MQ below (zQi D cy B S0 r S0) (([.ref (B + a0), .int v1, .int v2] : List Value).toArray) s 0 0 (fun q => B < q)) (F0 m 46 ls []) := by
            intro k
            induction k with
            | zero =>
              intro x29 x30 x31 H locs hM hX32 hS h28 ls hl h
              exact znone h
            | succ k ih46 =>
              intro x29 x30 x31 H locs hM hX32 hS h28 ls hl h
              replace h : f_X12_meanIn_L46b S0 a0 v1 x10 K27 (f_X12_meanIn_L46 S0 a0 v1 x10 K27 k) x29 x30 x31 = some r := h
              generalize f_X12_meanIn_L46 S0 a0 v1 x10 K27 k = rec46 at ih46 h
              unfold f_X12_meanIn_L46b at h
              refine lv_iload hx hb dX12_meanIn_46 (lv_at hl 6 rfl) ?_
              refine lv_bipush (v := (7 : Int32)) hx hb dX12_meanIn_48 (by decide +kernel) ?_
              refine lv_icmp_ge (tgt := 104) hx hb dX12_meanIn_50 (by decide) (fun hc33 => ?_) (fun hc33 => ?_)
              · have h := zt h hc33
                exact hK27 x29 x30 _ _ hM hX32 hS h28 _ (lv_sub hl [0, 1, 2, 3, 4, 5] rfl) h
              · have h := zf h hc33
                refine lv_aload_n hx hb dX12_meanIn_53 rfl (lv_at hl 0 rfl) ?_
                refine lv_iload hx hb dX12_meanIn_54 (lv_at hl 5 rfl) ?_
                refine lv_iload hx hb dX12_meanIn_56 (lv_at hl 6 rfl) ?_
                obtain ⟨r35, hr34, h⟩ := zb1 h
                refine z_runi (va_runV (As := [.int x10, .int x31]) (rest := []) ⟨hx, hb, hml, hown, hg⟩ (c_X12_markOf l D cy B h28 hr34) (z_cwV hg zw_1223 zw_1224 zw_1497 zw_13 zw_1225 zh_X12_markOf ⟨(Nat.le_of_ble_eq_true rfl), (Nat.le_of_ble_eq_true rfl)⟩) (zPV hC hM h28 (by decide) rfl) rfl rfl hl.1 rfl (lv_room (Nat.le_of_ble_eq_true rfl)) dX12_meanIn_58 ⟨(Nat.le_of_ble_eq_true rfl), (Nat.le_of_ble_eq_true rfl)⟩) hS (fun H locs hM hX36 hS => ?_)
                refine lv_if_lt (tgt := 98) hx hb dX12_meanIn_61 (by decide) (fun hc38 => ?_) (fun hc38 => ?_)
                · have h := zt h hc38
                  refine lv_iinc (v := (x31 + (1 : Int32))) (lv' := [(6, .int (x31 + (1 : Int32))), (0, .ref (B + a0)), (1, .int v1), (2, .int v2), (3, .int x29), (4, .int x30), (5, .int x10)]) hx hb dX12_meanIn_98 hl (k := 6) rfl rfl (by decide) rfl (fun ls hl => ?_)
                  refine lv_goto (tgt := 46) hx hb dX12_meanIn_101 (by decide) ?_
                  exact ih46 x29 x30 (x31 + (1 : Int32)) _ _ hM hX32 hS h28 _ (lv_sub hl [1, 2, 3, 4, 5, 6, 0] rfl) h
                · have h := zf h hc38
                  refine lv_aload_n hx hb dX12_meanIn_64 rfl (lv_at hl 0 rfl) ?_
                  refine lv_iload hx hb dX12_meanIn_65 (lv_at hl 5 rfl) ?_
                  refine lv_bipush (v := (12 : Int32)) hx hb dX12_meanIn_67 (by decide +kernel) ?_
                  refine lv_iload hx hb dX12_meanIn_69 (lv_at hl 6 rfl) ?_
                  refine lv_iadd hx hb dX12_meanIn_71 ?_
                  obtain ⟨r40, hr39, h⟩ := zb1 h
                  refine z_runi (va_runV (As := [.int x10, .int ((12 : Int32) + x31)]) (rest := []) ⟨hx, hb, hml, hown, hg⟩ (c_X12_get l D cy B h28 hr39) (z_cwV hg zw_1163 zw_1164 zw_1487 zw_13 zw_1165 zh_X12_get ⟨(Nat.le_of_ble_eq_true rfl), (Nat.le_of_ble_eq_true rfl)⟩) (zPV hC hM h28 (by decide) rfl) rfl rfl hl.1 rfl (lv_room (Nat.le_of_ble_eq_true rfl)) dX12_meanIn_72 ⟨(Nat.le_of_ble_eq_true rfl), (Nat.le_of_ble_eq_true rfl)⟩) hS (fun H locs hM hX41 hS => ?_)
                  refine lv_iconst (v := (1 : Int32)) hx hb dX12_meanIn_75 (by decide +kernel) ?_
                  refine lv_isub hx hb dX12_meanIn_76 ?_
                  refine lv_iload_n hx hb dX12_meanIn_77 rfl (lv_at hl 1 rfl) ?_
                  refine lv_icmp_eq (tgt := 84) hx hb dX12_meanIn_78 (by decide) (fun hc43 => ?_) (fun hc43 => ?_)
                  · have h := zt h hc43
                    refine lv_iload_n hx hb dX12_meanIn_84 rfl (lv_at hl 3 rfl) ?_
                    refine lv_aload_n hx hb dX12_meanIn_85 rfl (lv_at hl 0 rfl) ?_
                    refine lv_iload hx hb dX12_meanIn_86 (lv_at hl 5 rfl) ?_
                    refine lv_iload hx hb dX12_meanIn_88 (lv_at hl 6 rfl) ?_
                    obtain ⟨r45, hr44, h⟩ := zb1 h
                    refine z_runi (va_runV (As := [.int x10, .int x31]) (rest := [.int x29]) ⟨hx, hb, hml, hown, hg⟩ (c_X12_markOf l D cy B h28 hr44) (z_cwV hg zw_1223 zw_1224 zw_1497 zw_13 zw_1225 zh_X12_markOf ⟨(Nat.le_of_ble_eq_true rfl), (Nat.le_of_ble_eq_true rfl)⟩) (zPV hC hM h28 (by decide) rfl) rfl rfl hl.1 rfl (lv_room (Nat.le_of_ble_eq_true rfl)) dX12_meanIn_90 ⟨(Nat.le_of_ble_eq_true rfl), (Nat.le_of_ble_eq_true rfl)⟩) hS (fun H locs hM hX46 hS => ?_)
                    refine lv_iadd hx hb dX12_meanIn_93 ?_
                    refine lv_istore_n (i := 3) (lv' := [(3, .int (x29 + r45)), (0, .ref (B + a0)), (1, .int v1), (2, .int v2), (4, .int x30), (5, .int x10), (6, .int x31)]) hx hb dX12_meanIn_94 rfl hl (by decide) rfl (fun ls hl => ?_)
                    refine lv_iinc (v := (x30 + (1 : Int32))) (lv' := [(4, .int (x30 + (1 : Int32))), (3, .int (x29 + r45)), (0, .ref (B + a0)), (1, .int v1), (2, .int v2), (5, .int x10), (6, .int x31)]) hx hb dX12_meanIn_95 hl (k := 4) rfl rfl (by decide) rfl (fun ls hl => ?_)
                    refine lv_iinc (v := (x31 + (1 : Int32))) (lv' := [(6, .int (x31 + (1 : Int32))), (4, .int (x30 + (1 : Int32))), (3, .int (x29 + r45)), (0, .ref (B + a0)), (1, .int v1), (2, .int v2), (5, .int x10)]) hx hb dX12_meanIn_98 hl (k := 6) rfl rfl (by decide) rfl (fun ls hl => ?_)
                    refine lv_goto (tgt := 46) hx hb dX12_meanIn_101 (by decide) ?_
                    exact ih46 (x29 + r45) (x30 + (1 : Int32)) (x31 + (1 : Int32)) _ _ hM hX32 hS h28 _ (lv_sub hl [3, 4, 5, 2, 1, 6, 0] rfl) h
                  · have h := zf h hc43
                    refine lv_goto (tgt := 98) hx hb dX12_meanIn_81 (by decide) ?_
                    refine lv_iinc (v := (x31 + (1 : Int32))) (lv' := [(6, .int (x31 + (1 : Int32))), (0, .ref (B + a0)), (1, .int v1), (2, .int v2), (3, .int x29), (4, .int x30), (5, .int x10)]) hx hb dX12_meanIn_98 hl (k := 6) rfl rfl (by decide) rfl (fun ls hl => ?_)
                    refine lv_goto (tgt := 46) hx hb dX12_meanIn_101 (by decide) ?_
                    exact ih46 x29 x30 (x31 + (1 : Int32)) _ _ hM hX32 hS h28 _ (lv_sub hl [1, 2, 3, 4, 5, 6, 0] rfl) h
          exact hL46 n x8 x9 (0 : Int32) _ _ hM hX11 hS h7 _ (lv_sub hl [1, 2, 3, 4, 5, 6, 0] rfl) h
        · have h := zf h hc22
          refine lv_goto (tgt := 104) hx hb dX12_meanIn_40 (by decide) ?_
          refine lv_iinc (v := (x10 + (1 : Int32))) (lv' := [(5, .int (x10 + (1 : Int32))), (0, .ref (B + a0)), (1, .int v1), (2, .int v2), (3, .int x8), (4, .int x9)]) hx hb dX12_meanIn_104 hl (k := 5) rfl rfl (by decide) rfl (fun ls hl => ?_)
          refine lv_goto (tgt := 8) hx hb dX12_meanIn_107 (by decide) ?_
          exact ih8 x8 x9 (x10 + (1 : Int32)) _ _ hM hX11 hS h7 _ (lv_sub hl [1, 2, 3, 4, 5, 0] rfl) h
  exact hL8 n (0 : Int32) (0 : Int32) (0 : Int32) _ _ hM hX0 hS ha0 _ (lv_sub hl [3, 4, 5, 2, 1, 0] rfl) h
def f_X12_creep_L36b (n : Nat) (S0 : zM) (a0 : Nat) (v1 : Int32) (v2 : Int32) (K14 : Int32 → Int32 → Option (Int32)) (rec36 : Int32 → Int32 → Int32 → Option (Int32)) (x17 : Int32) (x18 : Int32) (x19 : Int32) : Option (Int32) :=
  zChk (¬ (zr S0 a0 0) = 0) (zChk (¬ ((1002 : Int32) < 0 ∨ zln S0 (zr S0 a0 0) ≤ ((1002 : Int32)).toNatClampNeg)) (if (zi S0 (zr S0 a0 0) (Int32.toNatClampNeg (1002 : Int32))) ≤ x19 then K14 x17 x18 else zB1 (f_X12_meanIn n S0 a0 x19 v1) (fun r26 => zB1 (f_X12_meanIn n S0 a0 x19 v2) (fun r30 => if r26 = (-4 : Int32) then rec36 x17 x18 (x19 + (1 : Int32)) else if r30 = (-4 : Int32) then rec36 x17 x18 (x19 + (1 : Int32)) else rec36 (x17 + (r30 - r26)) (1 : Int32) (x19 + (1 : Int32))))))
def f_X12_creep_L36 (n : Nat) (S0 : zM) (a0 : Nat) (v1 : Int32) (v2 : Int32) (K14 : Int32 → Int32 → Option (Int32)) : Nat → Int32 → Int32 → Int32 → Option (Int32)
  | 0 => fun _ _ _ => none
  | k + 1 => fun x17 x18 x19 => f_X12_creep_L36b n S0 a0 v1 v2 K14 (f_X12_creep_L36 n S0 a0 v1 v2 K14 k) x17 x18 x19
def f_X12_creep (n : Nat) (S0 : zM) (a0 : Nat) (v1 : Int32) (v2 : Int32) : Option (Int32) :=
  zLet (f_X12_isIn (Int32.toInt64 v1) (0 : Int64) (40 : Int64)) (fun r2 => if r2 = 0 then some (-1000000001 : Int32) else zLet (f_X12_isIn (Int32.toInt64 v2) (0 : Int64) (40 : Int64)) (fun r7 => if r7 = 0 then some (-1000000001 : Int32) else zLet (fun (x11 : Int32) (x12 : Int32) => if x12 = 0 then some (-1000000004 : Int32) else some x11) (fun K14 => f_X12_creep_L36 n S0 a0 v1 v2 K14 n (0 : Int32) (0 : Int32) (0 : Int32))))
set_option maxHeartbeats 4000000 in
set_option maxRecDepth 100000 in
theorem c_X12_creep (l : Launch) (D : va_G) (cy : Nat → ClassId) (B : Nat) {n : Nat} {S0 : zM} {a0 : Nat} {v1 : Int32} {v2 : Int32} {r : Int32} (ha0 : zA S0 a0 12) (h : f_X12_creep n S0 a0 v1 v2 = some r) : Met l yX12_creep (zws yX12_creep cX12_creep 8 ((some .int))) { frames := 3, cells := 0, slots := 0, locals := 70 } (zPc D cy B S0 [.ref (B + a0), .int v1, .int v2]) (zQi D cy B S0 r S0) 0 0 (fun q => B < q) := by
  refine Met.ofW (cc := cX12_creep) (maxL := 8) (ret := ((some .int))) (by decide) rfl ?_
  intro p e s m args below meth c s₁ Bd hml hv
  obtain ⟨rfl, hC, hM⟩ := hv
  obtain ⟨hx, hb, hr, hg, hown, hlk⟩ := z_open Bd
  have hK := hC.1
  have hS : va_S (fun q => B < q) s.heap s.heap [] := va_S.rf
  have hX0 : zX S0 S0 := zX.rf
  refine z_entry (vs := [.ref (B + a0), .int v1, .int v2]) (Nat.le_of_ble_eq_true rfl) (fun ls hl => ?_)
  have hl : lv_has ls 8 [(0, .ref (B + a0)), (1, .int v1), (2, .int v2)] := hl
  unfold f_X12_creep at h
  refine lv_iload_n hx hb dX12_creep_0 rfl (lv_at hl 1 rfl) ?_
  refine lv_i2l hx hb dX12_creep_1 rfl ?_
  refine lv_lconst (v := (0 : Int64)) hx hb dX12_creep_2 (by decide +kernel) ?_
  refine lv_ldc2 (v := (40 : Int64)) hx hb hown (hg _ zw_1128) dX12_creep_3 ?_
  obtain ⟨r2, hr1, h⟩ := zlg h
  have hr1 := hr1.symm
  refine z_runi (va_runS (As := [.long (Int32.toInt64 v1), .long (0 : Int64), .long (40 : Int64)]) (rest := []) ⟨hx, hb, hml, hown, hg⟩ (c_X12_isIn l D cy B hr1) (z_cwS hg zw_1111 zw_1112 zw_13 zw_1113 zh_X12_isIn.2 ⟨(Nat.le_of_ble_eq_true rfl), (Nat.le_of_ble_eq_true rfl)⟩) (zPS hC hM) rfl rfl hl.1 rfl (lv_room (Nat.le_of_ble_eq_true rfl)) dX12_creep_6 ⟨(Nat.le_of_ble_eq_true rfl), (Nat.le_of_ble_eq_true rfl)⟩) hS (fun H locs hM hX3 hS => ?_)
  refine lv_if_eq (tgt := 24) hx hb dX12_creep_9 (by decide) (fun hc5 => ?_) (fun hc5 => ?_)
  · have h := zt h hc5
    refine lv_ldcw (v := (-1000000001 : Int32)) hx hb hown (hg _ zw_1263) dX12_creep_24 ?_
    exact z_iret hx hb hr hlk hM hX0 hS ⟨zsm h, rfl⟩ dX12_creep_27
  · have h := zf h hc5
    refine lv_iload_n hx hb dX12_creep_12 rfl (lv_at hl 2 rfl) ?_
    refine lv_i2l hx hb dX12_creep_13 rfl ?_
    refine lv_lconst (v := (0 : Int64)) hx hb dX12_creep_14 (by decide +kernel) ?_
    refine lv_ldc2 (v := (40 : Int64)) hx hb hown (hg _ zw_1128) dX12_creep_15 ?_
    obtain ⟨r7, hr6, h⟩ := zlg h
    have hr6 := hr6.symm
    refine z_runi (va_runS (As := [.long (Int32.toInt64 v2), .long (0 : Int64), .long (40 : Int64)]) (rest := []) ⟨hx, hb, hml, hown, hg⟩ (c_X12_isIn l D cy B hr6) (z_cwS hg zw_1111 zw_1112 zw_13 zw_1113 zh_X12_isIn.2 ⟨(Nat.le_of_ble_eq_true rfl), (Nat.le_of_ble_eq_true rfl)⟩) (zPS hC hM) rfl rfl hl.1 rfl (lv_room (Nat.le_of_ble_eq_true rfl)) dX12_creep_18 ⟨(Nat.le_of_ble_eq_true rfl), (Nat.le_of_ble_eq_true rfl)⟩) hS (fun H locs hM hX8 hS => ?_)
    refine lv_if_ne (tgt := 28) hx hb dX12_creep_21 (by decide) (fun hc10 => ?_) (fun hc10 => ?_)
    · have h := zf h hc10
      refine lv_iconst (v := (0 : Int32)) hx hb dX12_creep_28 (by decide +kernel) ?_
      refine lv_istore_n (i := 3) (lv' := [(3, .int (0 : Int32)), (0, .ref (B + a0)), (1, .int v1), (2, .int v2)]) hx hb dX12_creep_29 rfl hl (by decide) rfl (fun ls hl => ?_)
      refine lv_iconst (v := (0 : Int32)) hx hb dX12_creep_30 (by decide +kernel) ?_
      refine lv_istore (i := 4) (lv' := [(4, .int (0 : Int32)), (3, .int (0 : Int32)), (0, .ref (B + a0)), (1, .int v1), (2, .int v2)]) hx hb dX12_creep_31 hl (by decide) rfl (fun ls hl => ?_)
      refine lv_iconst (v := (0 : Int32)) hx hb dX12_creep_33 (by decide +kernel) ?_
      refine lv_istore (i := 5) (lv' := [(5, .int (0 : Int32)), (4, .int (0 : Int32)), (3, .int (0 : Int32)), (0, .ref (B + a0)), (1, .int v1), (2, .int v2)]) hx hb dX12_creep_34 hl (by decide) rfl (fun ls hl => ?_)
      obtain ⟨K14, eK14, h⟩ := zlg h
      have hK14 : ∀ (x11 : Int32) (x12 : Int32) (H : Heap) (locs : List Loc), zMR D cy B S0 H → zX S0 S0 → va_S (fun q => B < q) s.heap H locs → ∀ ls : Array Slot, lv_has ls 8 [(3, .int x11), (4, .int x12)] → K14 x11 x12 = some r → W p l e (headSpec (zws yX12_creep cX12_creep 8 ((some .int))) { frames := 3, cells := 0, slots := 0, locals := 70 }).room s m (([.ref (B + a0), .int v1, .int v2] : List Value).toArray) below meth c H locs 0 0 (MQ below (zQi D cy B S0 r S0) (([.ref (B + a0), .int v1, .int v2] : List Value).toArray) s 0 0 (fun q => B < q)) (F0 m 101 ls []) := by
        intro x11 x12 H locs hM hX13 hS ls hl h
        rw [eK14] at h
        refine lv_iload hx hb dX12_creep_101 (lv_at hl 1 rfl) ?_
        refine lv_if_eq (tgt := 110) hx hb dX12_creep_103 (by decide) (fun hc15 => ?_) (fun hc15 => ?_)
        · have h := zt h hc15
          refine lv_ldcw (v := (-1000000004 : Int32)) hx hb hown (hg _ zw_1334) dX12_creep_110 ?_
          exact z_iret hx hb hr hlk hM hX13 hS ⟨zsm h, rfl⟩ dX12_creep_113
        · have h := zf h hc15
          refine lv_iload_n hx hb dX12_creep_106 rfl (lv_at hl 0 rfl) ?_
          refine lv_goto (tgt := 113) hx hb dX12_creep_107 (by decide) ?_
          exact z_iret hx hb hr hlk hM hX13 hS ⟨zsm h, rfl⟩ dX12_creep_113
      have hL36 : ∀ (k : Nat) (x17 : Int32) (x18 : Int32) (x19 : Int32) (H : Heap) (locs : List Loc), zMR D cy B S0 H → zX S0 S0 → va_S (fun q => B < q) s.heap H locs → zA S0 a0 12 → ∀ ls : Array Slot, lv_has ls 8 [(0, .ref (B + a0)), (1, .int v1), (2, .int v2), (3, .int x17), (4, .int x18), (5, .int x19)] → f_X12_creep_L36 n S0 a0 v1 v2 K14 k x17 x18 x19 = some r → W p l e (headSpec (zws yX12_creep cX12_creep 8 ((some .int))) { frames := 3, cells := 0, slots := 0, locals := 70 }).room s m (([.ref (B + a0), .int v1, .int v2] : List Value).toArray) below meth c H locs 0 0 (MQ below (zQi D cy B S0 r S0) (([.ref (B + a0), .int v1, .int v2] : List Value).toArray) s 0 0 (fun q => B < q)) (F0 m 36 ls []) := by
        intro k
        induction k with
        | zero =>
          intro x17 x18 x19 H locs hM hX20 hS h16 ls hl h
          exact znone h
        | succ k ih36 =>
          intro x17 x18 x19 H locs hM hX20 hS h16 ls hl h
          replace h : f_X12_creep_L36b n S0 a0 v1 v2 K14 (f_X12_creep_L36 n S0 a0 v1 v2 K14 k) x17 x18 x19 = some r := h
          generalize f_X12_creep_L36 n S0 a0 v1 v2 K14 k = rec36 at ih36 h
          unfold f_X12_creep_L36b at h
          refine lv_iload hx hb dX12_creep_36 (lv_at hl 5 rfl) ?_
          refine lv_aload_n hx hb dX12_creep_38 rfl (lv_at hl 0 rfl) ?_
          obtain ⟨hq22, h⟩ := zk h
          refine z_getN hx hb hg zin_12 hown hK hM h16 0 rfl (by decide) (hg _ zw_1000) (fun _ h9 => h9) hq22 dX12_creep_39 (fun h21 => ?_)
          refine lv_sipush (v := (1002 : Int32)) hx hb dX12_creep_42 (by decide +kernel) ?_
          obtain ⟨hq23, h⟩ := zk h
          refine z_iald hx hb hK hM h21 hq23 dX12_creep_45 ?_
          refine lv_icmp_ge (tgt := 101) hx hb dX12_creep_46 (by decide) (fun hc24 => ?_) (fun hc24 => ?_)
          · have h := zt h hc24
            exact hK14 x17 x18 _ _ hM hX20 hS _ (lv_sub hl [3, 4] rfl) h
          · have h := zf h hc24
            refine lv_aload_n hx hb dX12_creep_49 rfl (lv_at hl 0 rfl) ?_
            refine lv_iload hx hb dX12_creep_50 (lv_at hl 5 rfl) ?_
            refine lv_iload_n hx hb dX12_creep_52 rfl (lv_at hl 1 rfl) ?_
            obtain ⟨r26, hr25, h⟩ := zb1 h
            refine z_runi (va_runV (As := [.int x19, .int v1]) (rest := []) ⟨hx, hb, hml, hown, hg⟩ (c_X12_meanIn l D cy B h16 hr25) (z_cwV hg zw_1376 zw_1377 zw_1526 zw_13 zw_1378 zh_X12_meanIn ⟨(Nat.le_of_ble_eq_true rfl), (Nat.le_of_ble_eq_true rfl)⟩) (zPV hC hM h16 (by decide) rfl) rfl rfl hl.1 rfl (lv_room (Nat.le_of_ble_eq_true rfl)) dX12_creep_53 ⟨(Nat.le_of_ble_eq_true rfl), (Nat.le_of_ble_eq_true rfl)⟩) hS (fun H locs hM hX27 hS => ?_)
            refine lv_istore (i := 6) (lv' := [(6, .int r26), (0, .ref (B + a0)), (1, .int v1), (2, .int v2), (3, .int x17), (4, .int x18), (5, .int x19)]) hx hb dX12_creep_56 hl (by decide) rfl (fun ls hl => ?_)
            refine lv_aload_n hx hb dX12_creep_58 rfl (lv_at hl 1 rfl) ?_
            refine lv_iload hx hb dX12_creep_59 (lv_at hl 6 rfl) ?_
            refine lv_iload_n hx hb dX12_creep_61 rfl (lv_at hl 3 rfl) ?_
            obtain ⟨r30, hr29, h⟩ := zb1 h
            refine z_runi (va_runV (As := [.int x19, .int v2]) (rest := []) ⟨hx, hb, hml, hown, hg⟩ (c_X12_meanIn l D cy B h16 hr29) (z_cwV hg zw_1376 zw_1377 zw_1526 zw_13 zw_1378 zh_X12_meanIn ⟨(Nat.le_of_ble_eq_true rfl), (Nat.le_of_ble_eq_true rfl)⟩) (zPV hC hM h16 (by decide) rfl) rfl rfl hl.1 rfl (lv_room (Nat.le_of_ble_eq_true rfl)) dX12_creep_62 ⟨(Nat.le_of_ble_eq_true rfl), (Nat.le_of_ble_eq_true rfl)⟩) hS (fun H locs hM hX31 hS => ?_)
            refine lv_istore (i := 7) (lv' := [(7, .int r30), (6, .int r26), (0, .ref (B + a0)), (1, .int v1), (2, .int v2), (3, .int x17), (4, .int x18), (5, .int x19)]) hx hb dX12_creep_65 hl (by decide) rfl (fun ls hl => ?_)
            refine lv_iload hx hb dX12_creep_67 (lv_at hl 1 rfl) ?_
            refine lv_bipush (v := (-4 : Int32)) hx hb dX12_creep_69 (by decide +kernel) ?_
            refine lv_icmp_eq (tgt := 95) hx hb dX12_creep_71 (by decide) (fun hc33 => ?_) (fun hc33 => ?_)
            · have h := zt h hc33
              refine lv_iinc (v := (x19 + (1 : Int32))) (lv' := [(5, .int (x19 + (1 : Int32))), (7, .int r30), (6, .int r26), (0, .ref (B + a0)), (1, .int v1), (2, .int v2), (3, .int x17), (4, .int x18)]) hx hb dX12_creep_95 hl (k := 7) rfl rfl (by decide) rfl (fun ls hl => ?_)
              refine lv_goto (tgt := 36) hx hb dX12_creep_98 (by decide) ?_
              exact ih36 x17 x18 (x19 + (1 : Int32)) _ _ hM hX20 hS h16 _ (lv_sub hl [3, 4, 5, 6, 7, 0] rfl) h
            · have h := zf h hc33
              refine lv_iload hx hb dX12_creep_74 (lv_at hl 0 rfl) ?_
              refine lv_bipush (v := (-4 : Int32)) hx hb dX12_creep_76 (by decide +kernel) ?_
              refine lv_icmp_ne (tgt := 84) hx hb dX12_creep_78 (by decide) (fun hc34 => ?_) (fun hc34 => ?_)
              · have h := zf h hc34
                refine lv_iconst (v := (1 : Int32)) hx hb dX12_creep_84 (by decide +kernel) ?_
                refine lv_istore (i := 4) (lv' := [(4, .int (1 : Int32)), (7, .int r30), (6, .int r26), (0, .ref (B + a0)), (1, .int v1), (2, .int v2), (3, .int x17), (5, .int x19)]) hx hb dX12_creep_85 hl (by decide) rfl (fun ls hl => ?_)
                refine lv_iload_n hx hb dX12_creep_87 rfl (lv_at hl 6 rfl) ?_
                refine lv_iload hx hb dX12_creep_88 (lv_at hl 1 rfl) ?_
                refine lv_iload hx hb dX12_creep_90 (lv_at hl 2 rfl) ?_
                refine lv_isub hx hb dX12_creep_92 ?_
                refine lv_iadd hx hb dX12_creep_93 ?_
                refine lv_istore_n (i := 3) (lv' := [(3, .int (x17 + (r30 - r26))), (4, .int (1 : Int32)), (7, .int r30), (6, .int r26), (0, .ref (B + a0)), (1, .int v1), (2, .int v2), (5, .int x19)]) hx hb dX12_creep_94 rfl hl (by decide) rfl (fun ls hl => ?_)
                refine lv_iinc (v := (x19 + (1 : Int32))) (lv' := [(5, .int (x19 + (1 : Int32))), (3, .int (x17 + (r30 - r26))), (4, .int (1 : Int32)), (7, .int r30), (6, .int r26), (0, .ref (B + a0)), (1, .int v1), (2, .int v2)]) hx hb dX12_creep_95 hl (k := 7) rfl rfl (by decide) rfl (fun ls hl => ?_)
                refine lv_goto (tgt := 36) hx hb dX12_creep_98 (by decide) ?_
                exact ih36 (x17 + (r30 - r26)) (1 : Int32) (x19 + (1 : Int32)) _ _ hM hX20 hS h16 _ (lv_sub hl [5, 6, 7, 1, 2, 0] rfl) h
              · have h := zt h hc34
                refine lv_goto (tgt := 95) hx hb dX12_creep_81 (by decide) ?_
                refine lv_iinc (v := (x19 + (1 : Int32))) (lv' := [(5, .int (x19 + (1 : Int32))), (7, .int r30), (6, .int r26), (0, .ref (B + a0)), (1, .int v1), (2, .int v2), (3, .int x17), (4, .int x18)]) hx hb dX12_creep_95 hl (k := 7) rfl rfl (by decide) rfl (fun ls hl => ?_)
                refine lv_goto (tgt := 36) hx hb dX12_creep_98 (by decide) ?_
                exact ih36 x17 x18 (x19 + (1 : Int32)) _ _ hM hX20 hS h16 _ (lv_sub hl [3, 4, 5, 6, 7, 0] rfl) h
      exact hL36 n (0 : Int32) (0 : Int32) (0 : Int32) _ _ hM hX0 hS ha0 _ (lv_sub hl [3, 4, 5, 2, 1, 0] rfl) h
    · have h := zt h hc10
      refine lv_ldcw (v := (-1000000001 : Int32)) hx hb hown (hg _ zw_1263) dX12_creep_24 ?_
      exact z_iret hx hb hr hlk hM hX0 hS ⟨zsm h, rfl⟩ dX12_creep_27
def f_X12_findNear_L33b (a0 : Nat) (v1 : Int32) (x15 : Int32) (r23 : Int32) (K32 : zM → Option (zM)) (rec33 : Int32 → zM → Option (zM)) (x34 : Int32) (S35 : zM) : Option (zM) :=
  if (7 : Int32) ≤ x34 then K32 S35 else zB1 (f_X12_markOf S35 a0 x15 x34) (fun r39 => if r39 < 0 then rec33 (x34 + (1 : Int32)) S35 else zB1 (f_X12_get S35 a0 x15 ((12 : Int32) + x34)) (fun r44 => if (r44 - (1 : Int32)) = v1 then zB1 (f_X12_markOf S35 a0 x15 x34) (fun r49 => zLet (fun (x53 : Int32) => zLet (zpI S35 a0 47 ((zi S35 a0 47) + x53)) (fun S56 => zLet (zpI S56 a0 48 ((zi S56 a0 48) + (1 : Int32))) (fun S61 => rec33 (x34 + (1 : Int32)) S61))) (fun K55 => if 0 ≤ (r49 - r23) then K55 (r49 - r23) else K55 (-(r49 - r23)))) else rec33 (x34 + (1 : Int32)) S35))
def f_X12_findNear_L33 (a0 : Nat) (v1 : Int32) (x15 : Int32) (r23 : Int32) (K32 : zM → Option (zM)) : Nat → Int32 → zM → Option (zM)
  | 0 => fun _ _ => none
  | k + 1 => fun x34 S35 => f_X12_findNear_L33b a0 v1 x15 r23 K32 (f_X12_findNear_L33 a0 v1 x15 r23 K32 k) x34 S35
def f_X12_findNear_L12b (n : Nat) (a0 : Nat) (v1 : Int32) (K13 : zM → Option (zM)) (rec12 : Int32 → zM → Option (zM)) (x15 : Int32) (S16 : zM) : Option (zM) :=
  zChk (¬ (zr S16 a0 0) = 0) (zChk (¬ ((1003 : Int32) < 0 ∨ zln S16 (zr S16 a0 0) ≤ ((1003 : Int32)).toNatClampNeg)) (if (zi S16 (zr S16 a0 0) (Int32.toNatClampNeg (1003 : Int32))) ≤ x15 then K13 S16 else zB2 (f_X12_middleOf n S16 a0 x15) (fun r23 S24 => zLet (fun (S30 : zM) => rec12 (x15 + (1 : Int32)) S30) (fun K32 => f_X12_findNear_L33 a0 v1 x15 r23 K32 n (0 : Int32) S24))))
def f_X12_findNear_L12 (n : Nat) (a0 : Nat) (v1 : Int32) (K13 : zM → Option (zM)) : Nat → Int32 → zM → Option (zM)
  | 0 => fun _ _ => none
  | k + 1 => fun x15 S16 => f_X12_findNear_L12b n a0 v1 K13 (f_X12_findNear_L12 n a0 v1 K13 k) x15 S16
def f_X12_findNear (n : Nat) (S0 : zM) (a0 : Nat) (v1 : Int32) : Option (zM) :=
  zLet (zpI S0 a0 47 (0 : Int32)) (fun S1 => zLet (zpI S1 a0 48 (0 : Int32)) (fun S6 => zLet (fun (S11 : zM) => some S11) (fun K13 => f_X12_findNear_L12 n a0 v1 K13 n (0 : Int32) S6)))
set_option maxHeartbeats 4000000 in
set_option maxRecDepth 100000 in
theorem c_X12_findNear (l : Launch) (D : va_G) (cy : Nat → ClassId) (B : Nat) {n : Nat} {S0 : zM} {a0 : Nat} {v1 : Int32} {S' : zM} (ha0 : zA S0 a0 12) (h : f_X12_findNear n S0 a0 v1 = some S') : Met l yX12_findNear (zws yX12_findNear cX12_findNear 6 none) { frames := 4, cells := 0, slots := 0, locals := 91 } (zPc D cy B S0 [.ref (B + a0), .int v1]) (zQv D cy B S0 S') 0 0 (fun q => B < q) := by
  refine Met.ofW (cc := cX12_findNear) (maxL := 6) (ret := none) (by decide) rfl ?_
  intro p e s m args below meth c s₁ Bd hml hv
  obtain ⟨rfl, hC, hM⟩ := hv
  obtain ⟨hx, hb, hr, hg, hown, hlk⟩ := z_open Bd
  have hK := hC.1
  have hS : va_S (fun q => B < q) s.heap s.heap [] := va_S.rf
  have hX0 : zX S0 S0 := zX.rf
  refine z_entry (vs := [.ref (B + a0), .int v1]) (Nat.le_of_ble_eq_true rfl) (fun ls hl => ?_)
  have hl : lv_has ls 6 [(0, .ref (B + a0)), (1, .int v1)] := hl
  unfold f_X12_findNear at h
  refine lv_aload_n hx hb dX12_findNear_0 rfl (lv_at hl 0 rfl) ?_
  refine lv_iconst (v := (0 : Int32)) hx hb dX12_findNear_1 (by decide +kernel) ?_
  refine z_putI hx hb hg zin_12 tyX12 tyX12_ok nmX12 hown hK hM hS ha0 47 rfl (by decide) (hg _ zw_1047) (fun _ h9 => h9) (Or.inl rfl) (tyX12_ok 47 (by decide)) rfl rfl dX12_findNear_2 (fun H locs hM hS => ?_)
  obtain ⟨S1, e2, h⟩ := zlg h
  rw [← e2] at hM
  have hX3 : zX S0 S1 := by rw [e2]; exact zX_pI
  have h4 := ha0.mo hX3
  have hX5 := hX0.tr hX3
  refine lv_aload_n hx hb dX12_findNear_5 rfl (lv_at hl 0 rfl) ?_
  refine lv_iconst (v := (0 : Int32)) hx hb dX12_findNear_6 (by decide +kernel) ?_
  refine z_putI hx hb hg zin_12 tyX12 tyX12_ok nmX12 hown hK hM hS h4 48 rfl (by decide) (hg _ zw_1048) (fun _ h9 => h9) (Or.inl rfl) (tyX12_ok 48 (by decide)) rfl rfl dX12_findNear_7 (fun H locs hM hS => ?_)
  obtain ⟨S6, e7, h⟩ := zlg h
  rw [← e7] at hM
  have hX8 : zX S1 S6 := by rw [e7]; exact zX_pI
  have h9 := h4.mo hX8
  have hX10 := hX5.tr hX8
  refine lv_iconst (v := (0 : Int32)) hx hb dX12_findNear_10 (by decide +kernel) ?_
  refine lv_istore_n (i := 2) (lv' := [(2, .int (0 : Int32)), (0, .ref (B + a0)), (1, .int v1)]) hx hb dX12_findNear_11 rfl hl (by decide) rfl (fun ls hl => ?_)
  obtain ⟨K13, eK13, h⟩ := zlg h
  have hK13 : ∀ (S11 : zM) (H : Heap) (locs : List Loc), zMR D cy B S11 H → zX S0 S11 → va_S (fun q => B < q) s.heap H locs → ∀ ls : Array Slot, lv_has ls 6 [] → K13 S11 = some S' → W p l e (headSpec (zws yX12_findNear cX12_findNear 6 none) { frames := 4, cells := 0, slots := 0, locals := 91 }).room s m (([.ref (B + a0), .int v1] : List Value).toArray) below meth c H locs 0 0 (MQ below (zQv D cy B S0 S') (([.ref (B + a0), .int v1] : List Value).toArray) s 0 0 (fun q => B < q)) (F0 m 124 ls []) := by
    intro S11 H locs hM hX12 hS ls hl h
    rw [eK13] at h
    exact z_vret hx hb hr hlk hM hX12 hS (zsm h) dX12_findNear_124
  have hL12 : ∀ (k : Nat) (x15 : Int32) (S16 : zM) (H : Heap) (locs : List Loc), zMR D cy B S16 H → zX S0 S16 → va_S (fun q => B < q) s.heap H locs → zA S16 a0 12 → ∀ ls : Array Slot, lv_has ls 6 [(0, .ref (B + a0)), (1, .int v1), (2, .int x15)] → f_X12_findNear_L12 n a0 v1 K13 k x15 S16 = some S' → W p l e (headSpec (zws yX12_findNear cX12_findNear 6 none) { frames := 4, cells := 0, slots := 0, locals := 91 }).room s m (([.ref (B + a0), .int v1] : List Value).toArray) below meth c H locs 0 0 (MQ below (zQv D cy B S0 S') (([.ref (B + a0), .int v1] : List Value).toArray) s 0 0 (fun q => B < q)) (F0 m 12 ls []) := by
    intro k
    induction k with
    | zero =>
      intro x15 S16 H locs hM hX17 hS h14 ls hl h
      exact znone h
    | succ k ih12 =>
      intro x15 S16 H locs hM hX17 hS h14 ls hl h
      replace h : f_X12_findNear_L12b n a0 v1 K13 (f_X12_findNear_L12 n a0 v1 K13 k) x15 S16 = some S' := h
      generalize f_X12_findNear_L12 n a0 v1 K13 k = rec12 at ih12 h
      unfold f_X12_findNear_L12b at h
      refine lv_iload_n hx hb dX12_findNear_12 rfl (lv_at hl 2 rfl) ?_
      refine lv_aload_n hx hb dX12_findNear_13 rfl (lv_at hl 0 rfl) ?_
      obtain ⟨hq19, h⟩ := zk h
      refine z_getN hx hb hg zin_12 hown hK hM h14 0 rfl (by decide) (hg _ zw_1000) (fun _ h9 => h9) hq19 dX12_findNear_14 (fun h18 => ?_)
      refine lv_sipush (v := (1003 : Int32)) hx hb dX12_findNear_17 (by decide +kernel) ?_
      obtain ⟨hq20, h⟩ := zk h
      refine z_iald hx hb hK hM h18 hq20 dX12_findNear_20 ?_
      refine lv_icmp_ge (tgt := 124) hx hb dX12_findNear_21 (by decide) (fun hc21 => ?_) (fun hc21 => ?_)
      · have h := zt h hc21
        exact hK13 S16 _ _ hM hX17 hS _ (lv_sub hl [] rfl) h
      · have h := zf h hc21
        refine lv_aload_n hx hb dX12_findNear_24 rfl (lv_at hl 0 rfl) ?_
        refine lv_iload_n hx hb dX12_findNear_25 rfl (lv_at hl 2 rfl) ?_
        obtain ⟨r23, S24, hr22, h⟩ := zb2 h
        refine z_runi (va_runV (As := [.int x15]) (rest := []) ⟨hx, hb, hml, hown, hg⟩ (c_X12_middleOf l D cy B h14 hr22) (z_cwV hg zw_1331 zw_1332 zw_1518 zw_13 zw_1333 zh_X12_middleOf ⟨(Nat.le_of_ble_eq_true rfl), (Nat.le_of_ble_eq_true rfl)⟩) (zPV hC hM h14 (by decide) rfl) rfl rfl hl.1 rfl (lv_room (Nat.le_of_ble_eq_true rfl)) dX12_findNear_26 ⟨(Nat.le_of_ble_eq_true rfl), (Nat.le_of_ble_eq_true rfl)⟩) hS (fun H locs hM hX25 hS => ?_)
        have h27 := h14.mo hX25
        have hX28 := hX17.tr hX25
        refine lv_istore_n (i := 3) (lv' := [(3, .int r23), (0, .ref (B + a0)), (1, .int v1), (2, .int x15)]) hx hb dX12_findNear_29 rfl hl (by decide) rfl (fun ls hl => ?_)
        refine lv_iconst (v := (0 : Int32)) hx hb dX12_findNear_30 (by decide +kernel) ?_
        refine lv_istore (i := 4) (lv' := [(4, .int (0 : Int32)), (3, .int r23), (0, .ref (B + a0)), (1, .int v1), (2, .int x15)]) hx hb dX12_findNear_31 hl (by decide) rfl (fun ls hl => ?_)
        obtain ⟨K32, eK32, h⟩ := zlg h
        have hK32 : ∀ (S30 : zM) (H : Heap) (locs : List Loc), zMR D cy B S30 H → zX S0 S30 → va_S (fun q => B < q) s.heap H locs → zA S30 a0 12 → ∀ ls : Array Slot, lv_has ls 6 [(0, .ref (B + a0)), (1, .int v1), (2, .int x15)] → K32 S30 = some S' → W p l e (headSpec (zws yX12_findNear cX12_findNear 6 none) { frames := 4, cells := 0, slots := 0, locals := 91 }).room s m (([.ref (B + a0), .int v1] : List Value).toArray) below meth c H locs 0 0 (MQ below (zQv D cy B S0 S') (([.ref (B + a0), .int v1] : List Value).toArray) s 0 0 (fun q => B < q)) (F0 m 118 ls []) := by
          intro S30 H locs hM hX31 hS h29 ls hl h
          rw [eK32] at h
          refine lv_iinc (v := (x15 + (1 : Int32))) (lv' := [(2, .int (x15 + (1 : Int32))), (0, .ref (B + a0)), (1, .int v1)]) hx hb dX12_findNear_118 hl (k := 2) rfl rfl (by decide) rfl (fun ls hl => ?_)
          refine lv_goto (tgt := 12) hx hb dX12_findNear_121 (by decide) ?_
          exact ih12 (x15 + (1 : Int32)) S30 _ _ hM hX31 hS h29 _ (lv_sub hl [1, 2, 0] rfl) h
        have hL33 : ∀ (k : Nat) (x34 : Int32) (S35 : zM) (H : Heap) (locs : List Loc), zMR D cy B S35 H → zX S0 S35 → va_S (fun q => B < q) s.heap H locs → zA S35 a0 12 → ∀ ls : Array Slot, lv_has ls 6 [(0, .ref (B + a0)), (1, .int v1), (2, .int x15), (3, .int r23), (4, .int x34)] → f_X12_findNear_L33 a0 v1 x15 r23 K32 k x34 S35 = some S' → W p l e (headSpec (zws yX12_findNear cX12_findNear 6 none) { frames := 4, cells := 0, slots := 0, locals := 91 }).room s m (([.ref (B + a0), .int v1] : List Value).toArray) below meth c H locs 0 0 (MQ below (zQv D cy B S0 S') (([.ref (B + a0), .int v1] : List Value).toArray) s 0 0 (fun q => B < q)) (F0 m 33 ls []) := by
          intro k
          induction k with
          | zero =>
            intro x34 S35 H locs hM hX36 hS h33 ls hl h
            exact znone h
          | succ k ih33 =>
            intro x34 S35 H locs hM hX36 hS h33 ls hl h
            replace h : f_X12_findNear_L33b a0 v1 x15 r23 K32 (f_X12_findNear_L33 a0 v1 x15 r23 K32 k) x34 S35 = some S' := h
            generalize f_X12_findNear_L33 a0 v1 x15 r23 K32 k = rec33 at ih33 h
            unfold f_X12_findNear_L33b at h
            refine lv_iload hx hb dX12_findNear_33 (lv_at hl 4 rfl) ?_
            refine lv_bipush (v := (7 : Int32)) hx hb dX12_findNear_35 (by decide +kernel) ?_
            refine lv_icmp_ge (tgt := 118) hx hb dX12_findNear_37 (by decide) (fun hc37 => ?_) (fun hc37 => ?_)
            · have h := zt h hc37
              exact hK32 S35 _ _ hM hX36 hS h33 _ (lv_sub hl [0, 1, 2] rfl) h
            · have h := zf h hc37
              refine lv_aload_n hx hb dX12_findNear_40 rfl (lv_at hl 0 rfl) ?_
              refine lv_iload_n hx hb dX12_findNear_41 rfl (lv_at hl 2 rfl) ?_
              refine lv_iload hx hb dX12_findNear_42 (lv_at hl 4 rfl) ?_
              obtain ⟨r39, hr38, h⟩ := zb1 h
              refine z_runi (va_runV (As := [.int x15, .int x34]) (rest := []) ⟨hx, hb, hml, hown, hg⟩ (c_X12_markOf l D cy B h33 hr38) (z_cwV hg zw_1223 zw_1224 zw_1497 zw_13 zw_1225 zh_X12_markOf ⟨(Nat.le_of_ble_eq_true rfl), (Nat.le_of_ble_eq_true rfl)⟩) (zPV hC hM h33 (by decide) rfl) rfl rfl hl.1 rfl (lv_room (Nat.le_of_ble_eq_true rfl)) dX12_findNear_44 ⟨(Nat.le_of_ble_eq_true rfl), (Nat.le_of_ble_eq_true rfl)⟩) hS (fun H locs hM hX40 hS => ?_)
              refine lv_if_lt (tgt := 112) hx hb dX12_findNear_47 (by decide) (fun hc42 => ?_) (fun hc42 => ?_)
              · have h := zt h hc42
                refine lv_iinc (v := (x34 + (1 : Int32))) (lv' := [(4, .int (x34 + (1 : Int32))), (0, .ref (B + a0)), (1, .int v1), (2, .int x15), (3, .int r23)]) hx hb dX12_findNear_112 hl (k := 4) rfl rfl (by decide) rfl (fun ls hl => ?_)
                refine lv_goto (tgt := 33) hx hb dX12_findNear_115 (by decide) ?_
                exact ih33 (x34 + (1 : Int32)) S35 _ _ hM hX36 hS h33 _ (lv_sub hl [1, 2, 3, 4, 0] rfl) h
              · have h := zf h hc42
                refine lv_aload_n hx hb dX12_findNear_50 rfl (lv_at hl 0 rfl) ?_
                refine lv_iload_n hx hb dX12_findNear_51 rfl (lv_at hl 2 rfl) ?_
                refine lv_bipush (v := (12 : Int32)) hx hb dX12_findNear_52 (by decide +kernel) ?_
                refine lv_iload hx hb dX12_findNear_54 (lv_at hl 4 rfl) ?_
                refine lv_iadd hx hb dX12_findNear_56 ?_
                obtain ⟨r44, hr43, h⟩ := zb1 h
                refine z_runi (va_runV (As := [.int x15, .int ((12 : Int32) + x34)]) (rest := []) ⟨hx, hb, hml, hown, hg⟩ (c_X12_get l D cy B h33 hr43) (z_cwV hg zw_1163 zw_1164 zw_1487 zw_13 zw_1165 zh_X12_get ⟨(Nat.le_of_ble_eq_true rfl), (Nat.le_of_ble_eq_true rfl)⟩) (zPV hC hM h33 (by decide) rfl) rfl rfl hl.1 rfl (lv_room (Nat.le_of_ble_eq_true rfl)) dX12_findNear_57 ⟨(Nat.le_of_ble_eq_true rfl), (Nat.le_of_ble_eq_true rfl)⟩) hS (fun H locs hM hX45 hS => ?_)
                refine lv_iconst (v := (1 : Int32)) hx hb dX12_findNear_60 (by decide +kernel) ?_
                refine lv_isub hx hb dX12_findNear_61 ?_
                refine lv_iload_n hx hb dX12_findNear_62 rfl (lv_at hl 1 rfl) ?_
                refine lv_icmp_eq (tgt := 69) hx hb dX12_findNear_63 (by decide) (fun hc47 => ?_) (fun hc47 => ?_)
                · have h := zt h hc47
                  refine lv_aload_n hx hb dX12_findNear_69 rfl (lv_at hl 0 rfl) ?_
                  refine lv_iload_n hx hb dX12_findNear_70 rfl (lv_at hl 2 rfl) ?_
                  refine lv_iload hx hb dX12_findNear_71 (lv_at hl 4 rfl) ?_
                  obtain ⟨r49, hr48, h⟩ := zb1 h
                  refine z_runi (va_runV (As := [.int x15, .int x34]) (rest := []) ⟨hx, hb, hml, hown, hg⟩ (c_X12_markOf l D cy B h33 hr48) (z_cwV hg zw_1223 zw_1224 zw_1497 zw_13 zw_1225 zh_X12_markOf ⟨(Nat.le_of_ble_eq_true rfl), (Nat.le_of_ble_eq_true rfl)⟩) (zPV hC hM h33 (by decide) rfl) rfl rfl hl.1 rfl (lv_room (Nat.le_of_ble_eq_true rfl)) dX12_findNear_73 ⟨(Nat.le_of_ble_eq_true rfl), (Nat.le_of_ble_eq_true rfl)⟩) hS (fun H locs hM hX50 hS => ?_)
                  refine lv_iload_n hx hb dX12_findNear_76 rfl (lv_at hl 3 rfl) ?_
                  refine lv_isub hx hb dX12_findNear_77 ?_
                  refine lv_istore (i := 5) (lv' := [(5, .int (r49 - r23)), (0, .ref (B + a0)), (1, .int v1), (2, .int x15), (3, .int r23), (4, .int x34)]) hx hb dX12_findNear_78 hl (by decide) rfl (fun ls hl => ?_)
                  refine lv_aload_n hx hb dX12_findNear_80 rfl (lv_at hl 1 rfl) ?_
                  refine lv_dup hx hb dX12_findNear_81 rfl ?_
                  refine z_getI hx hb hg zin_12 hown hK hM h33 47 rfl (by decide) (hg _ zw_1047) (fun _ h9 => h9) dX12_findNear_82 ?_
                  refine lv_iload hx hb dX12_findNear_85 (lv_at hl 0 rfl) ?_
                  obtain ⟨K55, eK55, h⟩ := zlg h
                  have hK55 : ∀ (x53 : Int32) (H : Heap) (locs : List Loc), zMR D cy B S35 H → zX S0 S35 → va_S (fun q => B < q) s.heap H locs → zA S35 a0 12 → ∀ ls : Array Slot, lv_has ls 6 [(0, .ref (B + a0)), (1, .int v1), (2, .int x15), (3, .int r23), (4, .int x34)] → K55 x53 = some S' → W p l e (headSpec (zws yX12_findNear cX12_findNear 6 none) { frames := 4, cells := 0, slots := 0, locals := 91 }).room s m (([.ref (B + a0), .int v1] : List Value).toArray) below meth c H locs 0 0 (MQ below (zQv D cy B S0 S') (([.ref (B + a0), .int v1] : List Value).toArray) s 0 0 (fun q => B < q)) (F0 m 98 ls [.int x53, .int (zi S35 a0 47), .ref (B + a0)]) := by
                    intro x53 H locs hM hX54 hS h52 ls hl h
                    rw [eK55] at h
                    refine lv_iadd hx hb dX12_findNear_98 ?_
                    refine z_putI hx hb hg zin_12 tyX12 tyX12_ok nmX12 hown hK hM hS h52 47 rfl (by decide) (hg _ zw_1047) (fun _ h9 => h9) (Or.inl rfl) (tyX12_ok 47 (by decide)) rfl rfl dX12_findNear_99 (fun H locs hM hS => ?_)
                    obtain ⟨S56, e57, h⟩ := zlg h
                    rw [← e57] at hM
                    have hX58 : zX S35 S56 := by rw [e57]; exact zX_pI
                    have h59 := h52.mo hX58
                    have hX60 := hX54.tr hX58
                    refine lv_aload_n hx hb dX12_findNear_102 rfl (lv_at hl 0 rfl) ?_
                    refine lv_dup hx hb dX12_findNear_103 rfl ?_
                    refine z_getI hx hb hg zin_12 hown hK hM h59 48 rfl (by decide) (hg _ zw_1048) (fun _ h9 => h9) dX12_findNear_104 ?_
                    refine lv_iconst (v := (1 : Int32)) hx hb dX12_findNear_107 (by decide +kernel) ?_
                    refine lv_iadd hx hb dX12_findNear_108 ?_
                    refine z_putI hx hb hg zin_12 tyX12 tyX12_ok nmX12 hown hK hM hS h59 48 rfl (by decide) (hg _ zw_1048) (fun _ h9 => h9) (Or.inl rfl) (tyX12_ok 48 (by decide)) rfl rfl dX12_findNear_109 (fun H locs hM hS => ?_)
                    obtain ⟨S61, e62, h⟩ := zlg h
                    rw [← e62] at hM
                    have hX63 : zX S56 S61 := by rw [e62]; exact zX_pI
                    have h64 := h59.mo hX63
                    have hX65 := hX60.tr hX63
                    refine lv_iinc (v := (x34 + (1 : Int32))) (lv' := [(4, .int (x34 + (1 : Int32))), (0, .ref (B + a0)), (1, .int v1), (2, .int x15), (3, .int r23)]) hx hb dX12_findNear_112 hl (k := 4) rfl rfl (by decide) rfl (fun ls hl => ?_)
                    refine lv_goto (tgt := 33) hx hb dX12_findNear_115 (by decide) ?_
                    exact ih33 (x34 + (1 : Int32)) S61 _ _ hM hX65 hS h64 _ (lv_sub hl [1, 2, 3, 4, 0] rfl) h
                  refine lv_if_ge (tgt := 96) hx hb dX12_findNear_87 (by decide) (fun hc66 => ?_) (fun hc66 => ?_)
                  · have h := zt h hc66
                    refine lv_iload hx hb dX12_findNear_96 (lv_at hl 0 rfl) ?_
                    exact hK55 (r49 - r23) _ _ hM hX36 hS h33 _ (lv_sub hl [1, 2, 3, 4, 5] rfl) h
                  · have h := zf h hc66
                    refine lv_iload hx hb dX12_findNear_90 (lv_at hl 0 rfl) ?_
                    refine lv_ineg hx hb dX12_findNear_92 ?_
                    refine lv_goto (tgt := 98) hx hb dX12_findNear_93 (by decide) ?_
                    exact hK55 (-(r49 - r23)) _ _ hM hX36 hS h33 _ (lv_sub hl [1, 2, 3, 4, 5] rfl) h
                · have h := zf h hc47
                  refine lv_goto (tgt := 112) hx hb dX12_findNear_66 (by decide) ?_
                  refine lv_iinc (v := (x34 + (1 : Int32))) (lv' := [(4, .int (x34 + (1 : Int32))), (0, .ref (B + a0)), (1, .int v1), (2, .int x15), (3, .int r23)]) hx hb dX12_findNear_112 hl (k := 4) rfl rfl (by decide) rfl (fun ls hl => ?_)
                  refine lv_goto (tgt := 33) hx hb dX12_findNear_115 (by decide) ?_
                  exact ih33 (x34 + (1 : Int32)) S35 _ _ hM hX36 hS h33 _ (lv_sub hl [1, 2, 3, 4, 0] rfl) h
        exact hL33 n (0 : Int32) S24 _ _ hM hX28 hS h27 _ (lv_sub hl [2, 3, 4, 1, 0] rfl) h
  exact hL12 n (0 : Int32) S6 _ _ hM hX10 hS h9 _ (lv_sub hl [1, 2, 0] rfl) h
def f_X12_near (n : Nat) (S0 : zM) (a0 : Nat) (v1 : Int32) : Option (Int32 × zM) :=
  zB1 (f_X12_isJudge S0 a0 v1) (fun r2 => if r2 = 0 then some (((-1 : Int32), S0)) else zB1 (f_X12_findNear n S0 a0 v1) (fun S7 => if (zi S7 a0 48) = 0 then some (((-4 : Int32), S7)) else some (((zi S7 a0 47), S7))))
set_option maxHeartbeats 4000000 in
set_option maxRecDepth 100000 in
theorem c_X12_near (l : Launch) (D : va_G) (cy : Nat → ClassId) (B : Nat) {n : Nat} {S0 : zM} {a0 : Nat} {v1 : Int32} {r : Int32} {S' : zM} (ha0 : zA S0 a0 12) (h : f_X12_near n S0 a0 v1 = some (r, S')) : Met l yX12_near (zws yX12_near cX12_near 2 ((some .int))) { frames := 5, cells := 0, slots := 0, locals := 116 } (zPc D cy B S0 [.ref (B + a0), .int v1]) (zQi D cy B S0 r S') 0 0 (fun q => B < q) := by
  refine Met.ofW (cc := cX12_near) (maxL := 2) (ret := ((some .int))) (by decide) rfl ?_
  intro p e s m args below meth c s₁ Bd hml hv
  obtain ⟨rfl, hC, hM⟩ := hv
  obtain ⟨hx, hb, hr, hg, hown, hlk⟩ := z_open Bd
  have hK := hC.1
  have hS : va_S (fun q => B < q) s.heap s.heap [] := va_S.rf
  have hX0 : zX S0 S0 := zX.rf
  refine z_entry (vs := [.ref (B + a0), .int v1]) (Nat.le_of_ble_eq_true rfl) (fun ls hl => ?_)
  have hl : lv_has ls 2 [(0, .ref (B + a0)), (1, .int v1)] := hl
  unfold f_X12_near at h
  refine lv_aload_n hx hb dX12_near_0 rfl (lv_at hl 0 rfl) ?_
  refine lv_iload_n hx hb dX12_near_1 rfl (lv_at hl 1 rfl) ?_
  obtain ⟨r2, hr1, h⟩ := zb1 h
  refine z_runi (va_runV (As := [.int v1]) (rest := []) ⟨hx, hb, hml, hown, hg⟩ (c_X12_isJudge l D cy B ha0 hr1) (z_cwV hg zw_1140 zw_1141 zw_1483 zw_13 zw_1142 zh_X12_isJudge ⟨(Nat.le_of_ble_eq_true rfl), (Nat.le_of_ble_eq_true rfl)⟩) (zPV hC hM ha0 (by decide) rfl) rfl rfl hl.1 rfl (lv_room (Nat.le_of_ble_eq_true rfl)) dX12_near_2 ⟨(Nat.le_of_ble_eq_true rfl), (Nat.le_of_ble_eq_true rfl)⟩) hS (fun H locs hM hX3 hS => ?_)
  refine lv_if_ne (tgt := 10) hx hb dX12_near_5 (by decide) (fun hc5 => ?_) (fun hc5 => ?_)
  · have h := zf h hc5
    refine lv_aload_n hx hb dX12_near_10 rfl (lv_at hl 0 rfl) ?_
    refine lv_iload_n hx hb dX12_near_11 rfl (lv_at hl 1 rfl) ?_
    obtain ⟨S7, hr6, h⟩ := zb1 h
    refine z_runv (va_runV (As := [.int v1]) (rest := []) ⟨hx, hb, hml, hown, hg⟩ (c_X12_findNear l D cy B ha0 hr6) (z_cwV hg zw_1383 zw_1384 zw_1527 zw_13 zw_1385 zh_X12_findNear ⟨(Nat.le_of_ble_eq_true rfl), (Nat.le_of_ble_eq_true rfl)⟩) (zPV hC hM ha0 (by decide) rfl) rfl rfl hl.1 rfl (lv_room (Nat.le_of_ble_eq_true rfl)) dX12_near_12 ⟨(Nat.le_of_ble_eq_true rfl), (Nat.le_of_ble_eq_true rfl)⟩) hS (fun H locs hM hX8 hS => ?_)
    have h10 := ha0.mo hX8
    have hX11 := hX0.tr hX8
    refine lv_aload_n hx hb dX12_near_15 rfl (lv_at hl 0 rfl) ?_
    refine z_getI hx hb hg zin_12 hown hK hM h10 48 rfl (by decide) (hg _ zw_1048) (fun _ h9 => h9) dX12_near_16 ?_
    refine lv_if_ne (tgt := 27) hx hb dX12_near_19 (by decide) (fun hc12 => ?_) (fun hc12 => ?_)
    · have h := zf h hc12
      refine lv_aload_n hx hb dX12_near_27 rfl (lv_at hl 0 rfl) ?_
      refine z_getI hx hb hg zin_12 hown hK hM h10 47 rfl (by decide) (hg _ zw_1047) (fun _ h9 => h9) dX12_near_28 ?_
      exact z_iret hx hb hr hlk hM hX11 hS (zsp h) dX12_near_31
    · have h := zt h hc12
      refine lv_bipush (v := (-4 : Int32)) hx hb dX12_near_22 (by decide +kernel) ?_
      refine lv_goto (tgt := 31) hx hb dX12_near_24 (by decide) ?_
      exact z_iret hx hb hr hlk hM hX11 hS (zsp h) dX12_near_31
  · have h := zt h hc5
    refine lv_iconst (v := (-1 : Int32)) hx hb dX12_near_8 (by decide +kernel) ?_
    exact z_iret hx hb hr hlk hM hX0 hS (zsp h) dX12_near_9
def f_X12_nearest_L11b (n : Nat) (a0 : Nat) (K4 : Int32 → zM → Option (Int32 × zM)) (rec11 : Int32 → Int64 → Int64 → Int32 → zM → Option (Int32 × zM)) (x6 : Int32) (y7 : Int64) (y8 : Int64) (x9 : Int32) (S10 : zM) : Option (Int32 × zM) :=
  zChk (¬ (zr S10 a0 0) = 0) (zChk (¬ ((1002 : Int32) < 0 ∨ zln S10 (zr S10 a0 0) ≤ ((1002 : Int32)).toNatClampNeg)) (if (zi S10 (zr S10 a0 0) (Int32.toNatClampNeg (1002 : Int32))) ≤ x9 then K4 x6 S10 else zB1 (f_X12_findNear n S10 a0 x9) (fun S17 => if (zi S17 a0 48) = 0 then rec11 x6 y7 y8 (x9 + (1 : Int32)) S17 else zLet (rec11 x9 (Int32.toInt64 (zi S17 a0 47)) (Int32.toInt64 (zi S17 a0 48)) (x9 + (1 : Int32)) S17) (fun K25 => if x6 < 0 then K25 else if (lg_cmp ((Int32.toInt64 (zi S17 a0 47)) * y8) (y7 * (Int32.toInt64 (zi S17 a0 48)))) < 0 then K25 else rec11 x6 y7 y8 (x9 + (1 : Int32)) S17))))
def f_X12_nearest_L11 (n : Nat) (a0 : Nat) (K4 : Int32 → zM → Option (Int32 × zM)) : Nat → Int32 → Int64 → Int64 → Int32 → zM → Option (Int32 × zM)
  | 0 => fun _ _ _ _ _ => none
  | k + 1 => fun x6 y7 y8 x9 S10 => f_X12_nearest_L11b n a0 K4 (f_X12_nearest_L11 n a0 K4 k) x6 y7 y8 x9 S10
def f_X12_nearest (n : Nat) (S0 : zM) (a0 : Nat) : Option (Int32 × zM) :=
  zLet (fun (x1 : Int32) (S2 : zM) => some ((x1, S2))) (fun K4 => f_X12_nearest_L11 n a0 K4 n (-4 : Int32) (0 : Int64) (1 : Int64) (0 : Int32) S0)
set_option maxHeartbeats 4000000 in
set_option maxRecDepth 100000 in
theorem c_X12_nearest (l : Launch) (D : va_G) (cy : Nat → ClassId) (B : Nat) {n : Nat} {S0 : zM} {a0 : Nat} {r : Int32} {S' : zM} (ha0 : zA S0 a0 12) (h : f_X12_nearest n S0 a0 = some (r, S')) : Met l yX12_nearest (zws yX12_nearest cX12_nearest 7 ((some .int))) { frames := 5, cells := 0, slots := 0, locals := 116 } (zPc D cy B S0 [.ref (B + a0)]) (zQi D cy B S0 r S') 0 0 (fun q => B < q) := by
  refine Met.ofW (cc := cX12_nearest) (maxL := 7) (ret := ((some .int))) (by decide) rfl ?_
  intro p e s m args below meth c s₁ Bd hml hv
  obtain ⟨rfl, hC, hM⟩ := hv
  obtain ⟨hx, hb, hr, hg, hown, hlk⟩ := z_open Bd
  have hK := hC.1
  have hS : va_S (fun q => B < q) s.heap s.heap [] := va_S.rf
  have hX0 : zX S0 S0 := zX.rf
  refine z_entry (vs := [.ref (B + a0)]) (Nat.le_of_ble_eq_true rfl) (fun ls hl => ?_)
  have hl : lv_has ls 7 [(0, .ref (B + a0))] := hl
  unfold f_X12_nearest at h
  refine lv_bipush (v := (-4 : Int32)) hx hb dX12_nearest_0 (by decide +kernel) ?_
  refine lv_istore_n (i := 1) (lv' := [(1, .int (-4 : Int32)), (0, .ref (B + a0))]) hx hb dX12_nearest_2 rfl hl (by decide) rfl (fun ls hl => ?_)
  refine lv_lconst (v := (0 : Int64)) hx hb dX12_nearest_3 (by decide +kernel) ?_
  refine lv_lstore_n (i := 2) (lv' := [(2, .long (0 : Int64)), (1, .int (-4 : Int32)), (0, .ref (B + a0))]) hx hb dX12_nearest_4 rfl hl (by decide) rfl (fun ls hl => ?_)
  refine lv_lconst (v := (1 : Int64)) hx hb dX12_nearest_5 (by decide +kernel) ?_
  refine lv_lstore (i := 4) (lv' := [(4, .long (1 : Int64)), (2, .long (0 : Int64)), (1, .int (-4 : Int32)), (0, .ref (B + a0))]) hx hb dX12_nearest_6 hl (by decide) rfl (fun ls hl => ?_)
  refine lv_iconst (v := (0 : Int32)) hx hb dX12_nearest_8 (by decide +kernel) ?_
  refine lv_istore (i := 6) (lv' := [(6, .int (0 : Int32)), (4, .long (1 : Int64)), (2, .long (0 : Int64)), (1, .int (-4 : Int32)), (0, .ref (B + a0))]) hx hb dX12_nearest_9 hl (by decide) rfl (fun ls hl => ?_)
  obtain ⟨K4, eK4, h⟩ := zlg h
  have hK4 : ∀ (x1 : Int32) (S2 : zM) (H : Heap) (locs : List Loc), zMR D cy B S2 H → zX S0 S2 → va_S (fun q => B < q) s.heap H locs → ∀ ls : Array Slot, lv_has ls 7 [(1, .int x1)] → K4 x1 S2 = some (r, S') → W p l e (headSpec (zws yX12_nearest cX12_nearest 7 ((some .int))) { frames := 5, cells := 0, slots := 0, locals := 116 }).room s m (([.ref (B + a0)] : List Value).toArray) below meth c H locs 0 0 (MQ below (zQi D cy B S0 r S') (([.ref (B + a0)] : List Value).toArray) s 0 0 (fun q => B < q)) (F0 m 85 ls []) := by
    intro x1 S2 H locs hM hX3 hS ls hl h
    rw [eK4] at h
    refine lv_iload_n hx hb dX12_nearest_85 rfl (lv_at hl 0 rfl) ?_
    exact z_iret hx hb hr hlk hM hX3 hS (zsp h) dX12_nearest_86
  have hL11 : ∀ (k : Nat) (x6 : Int32) (y7 : Int64) (y8 : Int64) (x9 : Int32) (S10 : zM) (H : Heap) (locs : List Loc), zMR D cy B S10 H → zX S0 S10 → va_S (fun q => B < q) s.heap H locs → zA S10 a0 12 → ∀ ls : Array Slot, lv_has ls 7 [(0, .ref (B + a0)), (1, .int x6), (2, .long y7), (4, .long y8), (6, .int x9)] → f_X12_nearest_L11 n a0 K4 k x6 y7 y8 x9 S10 = some (r, S') → W p l e (headSpec (zws yX12_nearest cX12_nearest 7 ((some .int))) { frames := 5, cells := 0, slots := 0, locals := 116 }).room s m (([.ref (B + a0)] : List Value).toArray) below meth c H locs 0 0 (MQ below (zQi D cy B S0 r S') (([.ref (B + a0)] : List Value).toArray) s 0 0 (fun q => B < q)) (F0 m 11 ls []) := by
    intro k
    induction k with
    | zero =>
      intro x6 y7 y8 x9 S10 H locs hM hX11 hS h5 ls hl h
      exact znone h
    | succ k ih11 =>
      intro x6 y7 y8 x9 S10 H locs hM hX11 hS h5 ls hl h
      replace h : f_X12_nearest_L11b n a0 K4 (f_X12_nearest_L11 n a0 K4 k) x6 y7 y8 x9 S10 = some (r, S') := h
      generalize f_X12_nearest_L11 n a0 K4 k = rec11 at ih11 h
      unfold f_X12_nearest_L11b at h
      refine lv_iload hx hb dX12_nearest_11 (lv_at hl 4 rfl) ?_
      refine lv_aload_n hx hb dX12_nearest_13 rfl (lv_at hl 0 rfl) ?_
      obtain ⟨hq13, h⟩ := zk h
      refine z_getN hx hb hg zin_12 hown hK hM h5 0 rfl (by decide) (hg _ zw_1000) (fun _ h9 => h9) hq13 dX12_nearest_14 (fun h12 => ?_)
      refine lv_sipush (v := (1002 : Int32)) hx hb dX12_nearest_17 (by decide +kernel) ?_
      obtain ⟨hq14, h⟩ := zk h
      refine z_iald hx hb hK hM h12 hq14 dX12_nearest_20 ?_
      refine lv_icmp_ge (tgt := 85) hx hb dX12_nearest_21 (by decide) (fun hc15 => ?_) (fun hc15 => ?_)
      · have h := zt h hc15
        exact hK4 x6 S10 _ _ hM hX11 hS _ (lv_sub hl [1] rfl) h
      · have h := zf h hc15
        refine lv_aload_n hx hb dX12_nearest_24 rfl (lv_at hl 0 rfl) ?_
        refine lv_iload hx hb dX12_nearest_25 (lv_at hl 4 rfl) ?_
        obtain ⟨S17, hr16, h⟩ := zb1 h
        refine z_runv (va_runV (As := [.int x9]) (rest := []) ⟨hx, hb, hml, hown, hg⟩ (c_X12_findNear l D cy B h5 hr16) (z_cwV hg zw_1383 zw_1384 zw_1527 zw_13 zw_1385 zh_X12_findNear ⟨(Nat.le_of_ble_eq_true rfl), (Nat.le_of_ble_eq_true rfl)⟩) (zPV hC hM h5 (by decide) rfl) rfl rfl hl.1 rfl (lv_room (Nat.le_of_ble_eq_true rfl)) dX12_nearest_27 ⟨(Nat.le_of_ble_eq_true rfl), (Nat.le_of_ble_eq_true rfl)⟩) hS (fun H locs hM hX18 hS => ?_)
        have h20 := h5.mo hX18
        have hX21 := hX11.tr hX18
        refine lv_aload_n hx hb dX12_nearest_30 rfl (lv_at hl 0 rfl) ?_
        refine z_getI hx hb hg zin_12 hown hK hM h20 48 rfl (by decide) (hg _ zw_1048) (fun _ h9 => h9) dX12_nearest_31 ?_
        refine lv_if_eq (tgt := 79) hx hb dX12_nearest_34 (by decide) (fun hc22 => ?_) (fun hc22 => ?_)
        · have h := zt h hc22
          refine lv_iinc (v := (x9 + (1 : Int32))) (lv' := [(6, .int (x9 + (1 : Int32))), (0, .ref (B + a0)), (1, .int x6), (2, .long y7), (4, .long y8)]) hx hb dX12_nearest_79 hl (k := 4) rfl rfl (by decide) rfl (fun ls hl => ?_)
          refine lv_goto (tgt := 11) hx hb dX12_nearest_82 (by decide) ?_
          exact ih11 x6 y7 y8 (x9 + (1 : Int32)) S17 _ _ hM hX21 hS h20 _ (lv_sub hl [1, 2, 3, 4, 0] rfl) h
        · have h := zf h hc22
          refine lv_iload_n hx hb dX12_nearest_37 rfl (lv_at hl 1 rfl) ?_
          obtain ⟨K25, eK25, h⟩ := zlg h
          have hK25 : ∀ (H : Heap) (locs : List Loc), zMR D cy B S17 H → zX S0 S17 → va_S (fun q => B < q) s.heap H locs → zA S17 a0 12 → ∀ ls : Array Slot, lv_has ls 7 [(0, .ref (B + a0)), (6, .int x9)] → K25 = some (r, S') → W p l e (headSpec (zws yX12_nearest cX12_nearest 7 ((some .int))) { frames := 5, cells := 0, slots := 0, locals := 116 }).room s m (([.ref (B + a0)] : List Value).toArray) below meth c H locs 0 0 (MQ below (zQi D cy B S0 r S') (([.ref (B + a0)] : List Value).toArray) s 0 0 (fun q => B < q)) (F0 m 63 ls []) := by
            intro H locs hM hX24 hS h23 ls hl h
            rw [eK25] at h
            refine lv_iload hx hb dX12_nearest_63 (lv_at hl 1 rfl) ?_
            refine lv_istore_n (i := 1) (lv' := [(1, .int x9), (0, .ref (B + a0)), (6, .int x9)]) hx hb dX12_nearest_65 rfl hl (by decide) rfl (fun ls hl => ?_)
            refine lv_aload_n hx hb dX12_nearest_66 rfl (lv_at hl 1 rfl) ?_
            refine z_getI hx hb hg zin_12 hown hK hM h23 47 rfl (by decide) (hg _ zw_1047) (fun _ h9 => h9) dX12_nearest_67 ?_
            refine lv_i2l hx hb dX12_nearest_70 rfl ?_
            refine lv_lstore_n (i := 2) (lv' := [(2, .long (Int32.toInt64 (zi S17 a0 47))), (1, .int x9), (0, .ref (B + a0)), (6, .int x9)]) hx hb dX12_nearest_71 rfl hl (by decide) rfl (fun ls hl => ?_)
            refine lv_aload_n hx hb dX12_nearest_72 rfl (lv_at hl 2 rfl) ?_
            refine z_getI hx hb hg zin_12 hown hK hM h23 48 rfl (by decide) (hg _ zw_1048) (fun _ h9 => h9) dX12_nearest_73 ?_
            refine lv_i2l hx hb dX12_nearest_76 rfl ?_
            refine lv_lstore (i := 4) (lv' := [(4, .long (Int32.toInt64 (zi S17 a0 48))), (2, .long (Int32.toInt64 (zi S17 a0 47))), (1, .int x9), (0, .ref (B + a0)), (6, .int x9)]) hx hb dX12_nearest_77 hl (by decide) rfl (fun ls hl => ?_)
            refine lv_iinc (v := (x9 + (1 : Int32))) (lv' := [(6, .int (x9 + (1 : Int32))), (4, .long (Int32.toInt64 (zi S17 a0 48))), (2, .long (Int32.toInt64 (zi S17 a0 47))), (1, .int x9), (0, .ref (B + a0))]) hx hb dX12_nearest_79 hl (k := 4) rfl rfl (by decide) rfl (fun ls hl => ?_)
            refine lv_goto (tgt := 11) hx hb dX12_nearest_82 (by decide) ?_
            exact ih11 x9 (Int32.toInt64 (zi S17 a0 47)) (Int32.toInt64 (zi S17 a0 48)) (x9 + (1 : Int32)) S17 _ _ hM hX24 hS h23 _ (lv_sub hl [4, 3, 2, 1, 0] rfl) h
          refine lv_if_lt (tgt := 63) hx hb dX12_nearest_38 (by decide) (fun hc26 => ?_) (fun hc26 => ?_)
          · have h := zt h hc26
            exact hK25 _ _ hM hX21 hS h20 _ (lv_sub hl [0, 4] rfl) h
          · have h := zf h hc26
            refine lv_aload_n hx hb dX12_nearest_41 rfl (lv_at hl 0 rfl) ?_
            refine z_getI hx hb hg zin_12 hown hK hM h20 47 rfl (by decide) (hg _ zw_1047) (fun _ h9 => h9) dX12_nearest_42 ?_
            refine lv_i2l hx hb dX12_nearest_45 rfl ?_
            refine lv_lload hx hb dX12_nearest_46 (lv_at hl 3 rfl) ?_
            refine lv_lmul hx hb dX12_nearest_48 ?_
            refine lv_lload_n hx hb dX12_nearest_49 rfl (lv_at hl 2 rfl) ?_
            refine lv_aload_n hx hb dX12_nearest_50 rfl (lv_at hl 0 rfl) ?_
            refine z_getI hx hb hg zin_12 hown hK hM h20 48 rfl (by decide) (hg _ zw_1048) (fun _ h9 => h9) dX12_nearest_51 ?_
            refine lv_i2l hx hb dX12_nearest_54 rfl ?_
            refine lv_lmul hx hb dX12_nearest_55 ?_
            refine W.lcmp hx hb dX12_nearest_56 ?_
            refine lv_if_lt (tgt := 63) hx hb dX12_nearest_57 (by decide) (fun hc27 => ?_) (fun hc27 => ?_)
            · have h := zt h hc27
              exact hK25 _ _ hM hX21 hS h20 _ (lv_sub hl [0, 4] rfl) h
            · have h := zf h hc27
              refine lv_goto (tgt := 79) hx hb dX12_nearest_60 (by decide) ?_
              refine lv_iinc (v := (x9 + (1 : Int32))) (lv' := [(6, .int (x9 + (1 : Int32))), (0, .ref (B + a0)), (1, .int x6), (2, .long y7), (4, .long y8)]) hx hb dX12_nearest_79 hl (k := 4) rfl rfl (by decide) rfl (fun ls hl => ?_)
              refine lv_goto (tgt := 11) hx hb dX12_nearest_82 (by decide) ?_
              exact ih11 x6 y7 y8 (x9 + (1 : Int32)) S17 _ _ hM hX21 hS h20 _ (lv_sub hl [1, 2, 3, 4, 0] rfl) h
  exact hL11 n (-4 : Int32) (0 : Int64) (1 : Int64) (0 : Int32) S0 _ _ hM hX0 hS ha0 _ (lv_sub hl [4, 3, 2, 1, 0] rfl) h
def f_X12_seeing_L85b (v2 : Int32) (x23 : Int32) (x39 : Int32) (K44 : Int32 → Option (Int32)) (rec85 : Int32 → Int32 → Option (Int32)) (x49 : Int32) (x50 : Int32) : Option (Int32) :=
  if (7 : Int32) ≤ x50 then K44 x49 else zLet (rec85 (1 : Int32) (x50 + (1 : Int32))) (fun K54 => if x49 = 0 then zLet (rec85 (0 : Int32) (x50 + (1 : Int32))) (fun K57 => if ((x23 >>> (x50 &&& 31)) &&& (1 : Int32)) = (1 : Int32) then zLet (f_X12_isSeen x39 x50 v2) (fun r60 => if r60 = 0 then K57 else K54) else K57) else K54)
def f_X12_seeing_L85 (v2 : Int32) (x23 : Int32) (x39 : Int32) (K44 : Int32 → Option (Int32)) : Nat → Int32 → Int32 → Option (Int32)
  | 0 => fun _ _ => none
  | k + 1 => fun x49 x50 => f_X12_seeing_L85b v2 x23 x39 K44 (f_X12_seeing_L85 v2 x23 x39 K44 k) x49 x50
def f_X12_seeing_L72b (n : Nat) (v2 : Int32) (x23 : Int32) (K33 : Int32 → Option (Int32)) (rec72 : Int32 → Int32 → Option (Int32)) (x38 : Int32) (x39 : Int32) : Option (Int32) :=
  if (6 : Int32) ≤ x39 then K33 x38 else zLet (fun (x42 : Int32) => zLet (fun (x45 : Int32) => rec72 (x38 + x45) (x39 + (1 : Int32))) (fun K47 => if x42 = 0 then K47 (0 : Int32) else K47 (1 : Int32))) (fun K44 => f_X12_seeing_L85 v2 x23 x39 K44 n (0 : Int32) (0 : Int32))
def f_X12_seeing_L72 (n : Nat) (v2 : Int32) (x23 : Int32) (K33 : Int32 → Option (Int32)) : Nat → Int32 → Int32 → Option (Int32)
  | 0 => fun _ _ => none
  | k + 1 => fun x38 x39 => f_X12_seeing_L72b n v2 x23 K33 (f_X12_seeing_L72 n v2 x23 K33 k) x38 x39
def f_X12_seeing_L46b (n : Nat) (v1 : Int32) (v2 : Int32) (K19 : Int32 → Int32 → Option (Int32)) (rec46 : Int32 → Int32 → Int32 → Option (Int32)) (x21 : Int32) (x22 : Int32) (x23 : Int32) : Option (Int32) :=
  if (128 : Int32) ≤ x23 then K19 x21 x22 else zB1 (f_X12_bits n x23) (fun r27 => if r27 = v1 then zLet (fun (x31 : Int32) => zLet (rec46 x23 x31 (x23 + (1 : Int32))) (fun K35 => if x21 < 0 then K35 else if x22 < x31 then K35 else rec46 x21 x22 (x23 + (1 : Int32)))) (fun K33 => f_X12_seeing_L72 n v2 x23 K33 n (0 : Int32) (0 : Int32)) else rec46 x21 x22 (x23 + (1 : Int32)))
def f_X12_seeing_L46 (n : Nat) (v1 : Int32) (v2 : Int32) (K19 : Int32 → Int32 → Option (Int32)) : Nat → Int32 → Int32 → Int32 → Option (Int32)
  | 0 => fun _ _ _ => none
  | k + 1 => fun x21 x22 x23 => f_X12_seeing_L46b n v1 v2 K19 (f_X12_seeing_L46 n v1 v2 K19 k) x21 x22 x23
def f_X12_seeing (n : Nat) (a0 : Nat) (v1 : Int32) (v2 : Int32) (v3 : Int32) : Option (Int32) :=
  zLet (f_X12_isIn (Int32.toInt64 v1) (0 : Int64) (7 : Int64)) (fun r2 => if r2 = 0 then some (-1 : Int32) else zLet (f_X12_isIn (Int32.toInt64 v2) (0 : Int64) (9 : Int64)) (fun r7 => if r7 = 0 then some (-1 : Int32) else zLet (f_X12_isIn (Int32.toInt64 v3) (0 : Int64) (1 : Int64)) (fun r12 => if r12 = 0 then some (-1 : Int32) else zLet (fun (x16 : Int32) (x17 : Int32) => if v3 = 0 then some x17 else some x16) (fun K19 => f_X12_seeing_L46 n v1 v2 K19 n (-4 : Int32) (0 : Int32) (0 : Int32)))))
set_option maxHeartbeats 4000000 in
set_option maxRecDepth 100000 in
theorem c_X12_seeing (l : Launch) (D : va_G) (cy : Nat → ClassId) (B : Nat) {n : Nat} {S0 : zM} {a0 : Nat} {v1 : Int32} {v2 : Int32} {v3 : Int32} {r : Int32} (ha0 : zA S0 a0 12) (h : f_X12_seeing n a0 v1 v2 v3 = some r) : Met l yX12_seeing (zws yX12_seeing cX12_seeing 11 ((some .int))) { frames := 1, cells := 0, slots := 0, locals := 25 } (zPc D cy B S0 [.ref (B + a0), .int v1, .int v2, .int v3]) (zQi D cy B S0 r S0) 0 0 (fun q => B < q) := by
  refine Met.ofW (cc := cX12_seeing) (maxL := 11) (ret := ((some .int))) (by decide) rfl ?_
  intro p e s m args below meth c s₁ Bd hml hv
  obtain ⟨rfl, hC, hM⟩ := hv
  obtain ⟨hx, hb, hr, hg, hown, hlk⟩ := z_open Bd
  have hK := hC.1
  have hS : va_S (fun q => B < q) s.heap s.heap [] := va_S.rf
  have hX0 : zX S0 S0 := zX.rf
  refine z_entry (vs := [.ref (B + a0), .int v1, .int v2, .int v3]) (Nat.le_of_ble_eq_true rfl) (fun ls hl => ?_)
  have hl : lv_has ls 11 [(0, .ref (B + a0)), (1, .int v1), (2, .int v2), (3, .int v3)] := hl
  unfold f_X12_seeing at h
  refine lv_iload_n hx hb dX12_seeing_0 rfl (lv_at hl 1 rfl) ?_
  refine lv_i2l hx hb dX12_seeing_1 rfl ?_
  refine lv_lconst (v := (0 : Int64)) hx hb dX12_seeing_2 (by decide +kernel) ?_
  refine lv_ldc2 (v := (7 : Int64)) hx hb hown (hg _ zw_1119) dX12_seeing_3 ?_
  obtain ⟨r2, hr1, h⟩ := zlg h
  have hr1 := hr1.symm
  refine z_runi (va_runS (As := [.long (Int32.toInt64 v1), .long (0 : Int64), .long (7 : Int64)]) (rest := []) ⟨hx, hb, hml, hown, hg⟩ (c_X12_isIn l D cy B hr1) (z_cwS hg zw_1111 zw_1112 zw_13 zw_1113 zh_X12_isIn.2 ⟨(Nat.le_of_ble_eq_true rfl), (Nat.le_of_ble_eq_true rfl)⟩) (zPS hC hM) rfl rfl hl.1 rfl (lv_room (Nat.le_of_ble_eq_true rfl)) dX12_seeing_6 ⟨(Nat.le_of_ble_eq_true rfl), (Nat.le_of_ble_eq_true rfl)⟩) hS (fun H locs hM hX3 hS => ?_)
  refine lv_if_eq (tgt := 34) hx hb dX12_seeing_9 (by decide) (fun hc5 => ?_) (fun hc5 => ?_)
  · have h := zt h hc5
    refine lv_iconst (v := (-1 : Int32)) hx hb dX12_seeing_34 (by decide +kernel) ?_
    exact z_iret hx hb hr hlk hM hX0 hS ⟨zsm h, rfl⟩ dX12_seeing_35
  · have h := zf h hc5
    refine lv_iload_n hx hb dX12_seeing_12 rfl (lv_at hl 2 rfl) ?_
    refine lv_i2l hx hb dX12_seeing_13 rfl ?_
    refine lv_lconst (v := (0 : Int64)) hx hb dX12_seeing_14 (by decide +kernel) ?_
    refine lv_ldc2 (v := (9 : Int64)) hx hb hown (hg _ zw_1114) dX12_seeing_15 ?_
    obtain ⟨r7, hr6, h⟩ := zlg h
    have hr6 := hr6.symm
    refine z_runi (va_runS (As := [.long (Int32.toInt64 v2), .long (0 : Int64), .long (9 : Int64)]) (rest := []) ⟨hx, hb, hml, hown, hg⟩ (c_X12_isIn l D cy B hr6) (z_cwS hg zw_1111 zw_1112 zw_13 zw_1113 zh_X12_isIn.2 ⟨(Nat.le_of_ble_eq_true rfl), (Nat.le_of_ble_eq_true rfl)⟩) (zPS hC hM) rfl rfl hl.1 rfl (lv_room (Nat.le_of_ble_eq_true rfl)) dX12_seeing_18 ⟨(Nat.le_of_ble_eq_true rfl), (Nat.le_of_ble_eq_true rfl)⟩) hS (fun H locs hM hX8 hS => ?_)
    refine lv_if_eq (tgt := 34) hx hb dX12_seeing_21 (by decide) (fun hc10 => ?_) (fun hc10 => ?_)
    · have h := zt h hc10
      refine lv_iconst (v := (-1 : Int32)) hx hb dX12_seeing_34 (by decide +kernel) ?_
      exact z_iret hx hb hr hlk hM hX0 hS ⟨zsm h, rfl⟩ dX12_seeing_35
    · have h := zf h hc10
      refine lv_iload_n hx hb dX12_seeing_24 rfl (lv_at hl 3 rfl) ?_
      refine lv_i2l hx hb dX12_seeing_25 rfl ?_
      refine lv_lconst (v := (0 : Int64)) hx hb dX12_seeing_26 (by decide +kernel) ?_
      refine lv_lconst (v := (1 : Int64)) hx hb dX12_seeing_27 (by decide +kernel) ?_
      obtain ⟨r12, hr11, h⟩ := zlg h
      have hr11 := hr11.symm
      refine z_runi (va_runS (As := [.long (Int32.toInt64 v3), .long (0 : Int64), .long (1 : Int64)]) (rest := []) ⟨hx, hb, hml, hown, hg⟩ (c_X12_isIn l D cy B hr11) (z_cwS hg zw_1111 zw_1112 zw_13 zw_1113 zh_X12_isIn.2 ⟨(Nat.le_of_ble_eq_true rfl), (Nat.le_of_ble_eq_true rfl)⟩) (zPS hC hM) rfl rfl hl.1 rfl (lv_room (Nat.le_of_ble_eq_true rfl)) dX12_seeing_28 ⟨(Nat.le_of_ble_eq_true rfl), (Nat.le_of_ble_eq_true rfl)⟩) hS (fun H locs hM hX13 hS => ?_)
      refine lv_if_ne (tgt := 36) hx hb dX12_seeing_31 (by decide) (fun hc15 => ?_) (fun hc15 => ?_)
      · have h := zf h hc15
        refine lv_bipush (v := (-4 : Int32)) hx hb dX12_seeing_36 (by decide +kernel) ?_
        refine lv_istore (i := 4) (lv' := [(4, .int (-4 : Int32)), (0, .ref (B + a0)), (1, .int v1), (2, .int v2), (3, .int v3)]) hx hb dX12_seeing_38 hl (by decide) rfl (fun ls hl => ?_)
        refine lv_iconst (v := (0 : Int32)) hx hb dX12_seeing_40 (by decide +kernel) ?_
        refine lv_istore (i := 5) (lv' := [(5, .int (0 : Int32)), (4, .int (-4 : Int32)), (0, .ref (B + a0)), (1, .int v1), (2, .int v2), (3, .int v3)]) hx hb dX12_seeing_41 hl (by decide) rfl (fun ls hl => ?_)
        refine lv_iconst (v := (0 : Int32)) hx hb dX12_seeing_43 (by decide +kernel) ?_
        refine lv_istore (i := 6) (lv' := [(6, .int (0 : Int32)), (5, .int (0 : Int32)), (4, .int (-4 : Int32)), (0, .ref (B + a0)), (1, .int v1), (2, .int v2), (3, .int v3)]) hx hb dX12_seeing_44 hl (by decide) rfl (fun ls hl => ?_)
        obtain ⟨K19, eK19, h⟩ := zlg h
        have hK19 : ∀ (x16 : Int32) (x17 : Int32) (H : Heap) (locs : List Loc), zMR D cy B S0 H → zX S0 S0 → va_S (fun q => B < q) s.heap H locs → ∀ ls : Array Slot, lv_has ls 11 [(3, .int v3), (4, .int x16), (5, .int x17)] → K19 x16 x17 = some r → W p l e (headSpec (zws yX12_seeing cX12_seeing 11 ((some .int))) { frames := 1, cells := 0, slots := 0, locals := 25 }).room s m (([.ref (B + a0), .int v1, .int v2, .int v3] : List Value).toArray) below meth c H locs 0 0 (MQ below (zQi D cy B S0 r S0) (([.ref (B + a0), .int v1, .int v2, .int v3] : List Value).toArray) s 0 0 (fun q => B < q)) (F0 m 182 ls []) := by
          intro x16 x17 H locs hM hX18 hS ls hl h
          rw [eK19] at h
          refine lv_iload_n hx hb dX12_seeing_182 rfl (lv_at hl 0 rfl) ?_
          refine lv_if_ne (tgt := 191) hx hb dX12_seeing_183 (by decide) (fun hc20 => ?_) (fun hc20 => ?_)
          · have h := zf h hc20
            refine lv_iload hx hb dX12_seeing_191 (lv_at hl 1 rfl) ?_
            exact z_iret hx hb hr hlk hM hX18 hS ⟨zsm h, rfl⟩ dX12_seeing_193
          · have h := zt h hc20
            refine lv_iload hx hb dX12_seeing_186 (lv_at hl 2 rfl) ?_
            refine lv_goto (tgt := 193) hx hb dX12_seeing_188 (by decide) ?_
            exact z_iret hx hb hr hlk hM hX18 hS ⟨zsm h, rfl⟩ dX12_seeing_193
        have hL46 : ∀ (k : Nat) (x21 : Int32) (x22 : Int32) (x23 : Int32) (H : Heap) (locs : List Loc), zMR D cy B S0 H → zX S0 S0 → va_S (fun q => B < q) s.heap H locs → ∀ ls : Array Slot, lv_has ls 11 [(1, .int v1), (2, .int v2), (3, .int v3), (4, .int x21), (5, .int x22), (6, .int x23)] → f_X12_seeing_L46 n v1 v2 K19 k x21 x22 x23 = some r → W p l e (headSpec (zws yX12_seeing cX12_seeing 11 ((some .int))) { frames := 1, cells := 0, slots := 0, locals := 25 }).room s m (([.ref (B + a0), .int v1, .int v2, .int v3] : List Value).toArray) below meth c H locs 0 0 (MQ below (zQi D cy B S0 r S0) (([.ref (B + a0), .int v1, .int v2, .int v3] : List Value).toArray) s 0 0 (fun q => B < q)) (F0 m 46 ls []) := by
          intro k
          induction k with
          | zero =>
            intro x21 x22 x23 H locs hM hX24 hS ls hl h
            exact znone h
          | succ k ih46 =>
            intro x21 x22 x23 H locs hM hX24 hS ls hl h
            replace h : f_X12_seeing_L46b n v1 v2 K19 (f_X12_seeing_L46 n v1 v2 K19 k) x21 x22 x23 = some r := h
            generalize f_X12_seeing_L46 n v1 v2 K19 k = rec46 at ih46 h
            unfold f_X12_seeing_L46b at h
            refine lv_iload hx hb dX12_seeing_46 (lv_at hl 5 rfl) ?_
            refine lv_sipush (v := (128 : Int32)) hx hb dX12_seeing_48 (by decide +kernel) ?_
            refine lv_icmp_ge (tgt := 182) hx hb dX12_seeing_51 (by decide) (fun hc25 => ?_) (fun hc25 => ?_)
            · have h := zt h hc25
              exact hK19 x21 x22 _ _ hM hX24 hS _ (lv_sub hl [2, 3, 4] rfl) h
            · have h := zf h hc25
              refine lv_iload hx hb dX12_seeing_54 (lv_at hl 5 rfl) ?_
              obtain ⟨r27, hr26, h⟩ := zb1 h
              refine z_runi (va_runS (As := [.int x23]) (rest := []) ⟨hx, hb, hml, hown, hg⟩ (c_X12_bits l D cy B hr26) (z_cwS hg zw_1321 zw_1322 zw_13 zw_1323 zh_X12_bits.2 ⟨(Nat.le_of_ble_eq_true rfl), (Nat.le_of_ble_eq_true rfl)⟩) (zPS hC hM) rfl rfl hl.1 rfl (lv_room (Nat.le_of_ble_eq_true rfl)) dX12_seeing_56 ⟨(Nat.le_of_ble_eq_true rfl), (Nat.le_of_ble_eq_true rfl)⟩) hS (fun H locs hM hX28 hS => ?_)
              refine lv_iload_n hx hb dX12_seeing_59 rfl (lv_at hl 0 rfl) ?_
              refine lv_icmp_eq (tgt := 66) hx hb dX12_seeing_60 (by decide) (fun hc30 => ?_) (fun hc30 => ?_)
              · have h := zt h hc30
                refine lv_iconst (v := (0 : Int32)) hx hb dX12_seeing_66 (by decide +kernel) ?_
                refine lv_istore (i := 7) (lv' := [(7, .int (0 : Int32)), (1, .int v1), (2, .int v2), (3, .int v3), (4, .int x21), (5, .int x22), (6, .int x23)]) hx hb dX12_seeing_67 hl (by decide) rfl (fun ls hl => ?_)
                refine lv_iconst (v := (0 : Int32)) hx hb dX12_seeing_69 (by decide +kernel) ?_
                refine lv_istore (i := 8) (lv' := [(8, .int (0 : Int32)), (7, .int (0 : Int32)), (1, .int v1), (2, .int v2), (3, .int v3), (4, .int x21), (5, .int x22), (6, .int x23)]) hx hb dX12_seeing_70 hl (by decide) rfl (fun ls hl => ?_)
                obtain ⟨K33, eK33, h⟩ := zlg h
                have hK33 : ∀ (x31 : Int32) (H : Heap) (locs : List Loc), zMR D cy B S0 H → zX S0 S0 → va_S (fun q => B < q) s.heap H locs → ∀ ls : Array Slot, lv_has ls 11 [(1, .int v1), (2, .int v2), (3, .int v3), (4, .int x21), (5, .int x22), (6, .int x23), (7, .int x31)] → K33 x31 = some r → W p l e (headSpec (zws yX12_seeing cX12_seeing 11 ((some .int))) { frames := 1, cells := 0, slots := 0, locals := 25 }).room s m (([.ref (B + a0), .int v1, .int v2, .int v3] : List Value).toArray) below meth c H locs 0 0 (MQ below (zQi D cy B S0 r S0) (([.ref (B + a0), .int v1, .int v2, .int v3] : List Value).toArray) s 0 0 (fun q => B < q)) (F0 m 153 ls []) := by
                  intro x31 H locs hM hX32 hS ls hl h
                  rw [eK33] at h
                  refine lv_iload hx hb dX12_seeing_153 (lv_at hl 3 rfl) ?_
                  obtain ⟨K35, eK35, h⟩ := zlg h
                  have hK35 : ∀ (H : Heap) (locs : List Loc), zMR D cy B S0 H → zX S0 S0 → va_S (fun q => B < q) s.heap H locs → ∀ ls : Array Slot, lv_has ls 11 [(1, .int v1), (2, .int v2), (3, .int v3), (6, .int x23), (7, .int x31)] → K35 = some r → W p l e (headSpec (zws yX12_seeing cX12_seeing 11 ((some .int))) { frames := 1, cells := 0, slots := 0, locals := 25 }).room s m (([.ref (B + a0), .int v1, .int v2, .int v3] : List Value).toArray) below meth c H locs 0 0 (MQ below (zQi D cy B S0 r S0) (([.ref (B + a0), .int v1, .int v2, .int v3] : List Value).toArray) s 0 0 (fun q => B < q)) (F0 m 168 ls []) := by
                    intro H locs hM hX34 hS ls hl h
                    rw [eK35] at h
                    refine lv_iload hx hb dX12_seeing_168 (lv_at hl 3 rfl) ?_
                    refine lv_istore (i := 4) (lv' := [(4, .int x23), (1, .int v1), (2, .int v2), (3, .int v3), (6, .int x23), (7, .int x31)]) hx hb dX12_seeing_170 hl (by decide) rfl (fun ls hl => ?_)
                    refine lv_iload hx hb dX12_seeing_172 (lv_at hl 5 rfl) ?_
                    refine lv_istore (i := 5) (lv' := [(5, .int x31), (4, .int x23), (1, .int v1), (2, .int v2), (3, .int v3), (6, .int x23), (7, .int x31)]) hx hb dX12_seeing_174 hl (by decide) rfl (fun ls hl => ?_)
                    refine lv_iinc (v := (x23 + (1 : Int32))) (lv' := [(6, .int (x23 + (1 : Int32))), (5, .int x31), (4, .int x23), (1, .int v1), (2, .int v2), (3, .int v3), (7, .int x31)]) hx hb dX12_seeing_176 hl (k := 5) rfl rfl (by decide) rfl (fun ls hl => ?_)
                    refine lv_goto (tgt := 46) hx hb dX12_seeing_179 (by decide) ?_
                    exact ih46 x23 x31 (x23 + (1 : Int32)) _ _ hM hX34 hS _ (lv_sub hl [3, 4, 5, 2, 1, 0] rfl) h
                  refine lv_if_lt (tgt := 168) hx hb dX12_seeing_155 (by decide) (fun hc36 => ?_) (fun hc36 => ?_)
                  · have h := zt h hc36
                    exact hK35 _ _ hM hX32 hS _ (lv_sub hl [0, 1, 2, 5, 6] rfl) h
                  · have h := zf h hc36
                    refine lv_iload hx hb dX12_seeing_158 (lv_at hl 6 rfl) ?_
                    refine lv_iload hx hb dX12_seeing_160 (lv_at hl 4 rfl) ?_
                    refine lv_icmp_gt (tgt := 168) hx hb dX12_seeing_162 (by decide) (fun hc37 => ?_) (fun hc37 => ?_)
                    · have h := zt h hc37
                      exact hK35 _ _ hM hX32 hS _ (lv_sub hl [0, 1, 2, 5, 6] rfl) h
                    · have h := zf h hc37
                      refine lv_goto (tgt := 176) hx hb dX12_seeing_165 (by decide) ?_
                      refine lv_iinc (v := (x23 + (1 : Int32))) (lv' := [(6, .int (x23 + (1 : Int32))), (1, .int v1), (2, .int v2), (3, .int v3), (4, .int x21), (5, .int x22), (7, .int x31)]) hx hb dX12_seeing_176 hl (k := 5) rfl rfl (by decide) rfl (fun ls hl => ?_)
                      refine lv_goto (tgt := 46) hx hb dX12_seeing_179 (by decide) ?_
                      exact ih46 x21 x22 (x23 + (1 : Int32)) _ _ hM hX32 hS _ (lv_sub hl [1, 2, 3, 4, 5, 0] rfl) h
                have hL72 : ∀ (k : Nat) (x38 : Int32) (x39 : Int32) (H : Heap) (locs : List Loc), zMR D cy B S0 H → zX S0 S0 → va_S (fun q => B < q) s.heap H locs → ∀ ls : Array Slot, lv_has ls 11 [(1, .int v1), (2, .int v2), (3, .int v3), (4, .int x21), (5, .int x22), (6, .int x23), (7, .int x38), (8, .int x39)] → f_X12_seeing_L72 n v2 x23 K33 k x38 x39 = some r → W p l e (headSpec (zws yX12_seeing cX12_seeing 11 ((some .int))) { frames := 1, cells := 0, slots := 0, locals := 25 }).room s m (([.ref (B + a0), .int v1, .int v2, .int v3] : List Value).toArray) below meth c H locs 0 0 (MQ below (zQi D cy B S0 r S0) (([.ref (B + a0), .int v1, .int v2, .int v3] : List Value).toArray) s 0 0 (fun q => B < q)) (F0 m 72 ls []) := by
                  intro k
                  induction k with
                  | zero =>
                    intro x38 x39 H locs hM hX40 hS ls hl h
                    exact znone h
                  | succ k ih72 =>
                    intro x38 x39 H locs hM hX40 hS ls hl h
                    replace h : f_X12_seeing_L72b n v2 x23 K33 (f_X12_seeing_L72 n v2 x23 K33 k) x38 x39 = some r := h
                    generalize f_X12_seeing_L72 n v2 x23 K33 k = rec72 at ih72 h
                    unfold f_X12_seeing_L72b at h
                    refine lv_iload hx hb dX12_seeing_72 (lv_at hl 7 rfl) ?_
                    refine lv_bipush (v := (6 : Int32)) hx hb dX12_seeing_74 (by decide +kernel) ?_
                    refine lv_icmp_ge (tgt := 153) hx hb dX12_seeing_76 (by decide) (fun hc41 => ?_) (fun hc41 => ?_)
                    · have h := zt h hc41
                      exact hK33 x38 _ _ hM hX40 hS _ (lv_sub hl [0, 1, 2, 3, 4, 5, 6] rfl) h
                    · have h := zf h hc41
                      refine lv_iconst (v := (0 : Int32)) hx hb dX12_seeing_79 (by decide +kernel) ?_
                      refine lv_istore (i := 9) (lv' := [(9, .int (0 : Int32)), (1, .int v1), (2, .int v2), (3, .int v3), (4, .int x21), (5, .int x22), (6, .int x23), (7, .int x38), (8, .int x39)]) hx hb dX12_seeing_80 hl (by decide) rfl (fun ls hl => ?_)
                      refine lv_iconst (v := (0 : Int32)) hx hb dX12_seeing_82 (by decide +kernel) ?_
                      refine lv_istore (i := 10) (lv' := [(10, .int (0 : Int32)), (9, .int (0 : Int32)), (1, .int v1), (2, .int v2), (3, .int v3), (4, .int x21), (5, .int x22), (6, .int x23), (7, .int x38), (8, .int x39)]) hx hb dX12_seeing_83 hl (by decide) rfl (fun ls hl => ?_)
                      obtain ⟨K44, eK44, h⟩ := zlg h
                      have hK44 : ∀ (x42 : Int32) (H : Heap) (locs : List Loc), zMR D cy B S0 H → zX S0 S0 → va_S (fun q => B < q) s.heap H locs → ∀ ls : Array Slot, lv_has ls 11 [(1, .int v1), (2, .int v2), (3, .int v3), (4, .int x21), (5, .int x22), (6, .int x23), (7, .int x38), (8, .int x39), (9, .int x42)] → K44 x42 = some r → W p l e (headSpec (zws yX12_seeing cX12_seeing 11 ((some .int))) { frames := 1, cells := 0, slots := 0, locals := 25 }).room s m (([.ref (B + a0), .int v1, .int v2, .int v3] : List Value).toArray) below meth c H locs 0 0 (MQ below (zQi D cy B S0 r S0) (([.ref (B + a0), .int v1, .int v2, .int v3] : List Value).toArray) s 0 0 (fun q => B < q)) (F0 m 132 ls []) := by
                        intro x42 H locs hM hX43 hS ls hl h
                        rw [eK44] at h
                        refine lv_iload hx hb dX12_seeing_132 (lv_at hl 6 rfl) ?_
                        refine lv_iload hx hb dX12_seeing_134 (lv_at hl 8 rfl) ?_
                        obtain ⟨K47, eK47, h⟩ := zlg h
                        have hK47 : ∀ (x45 : Int32) (H : Heap) (locs : List Loc), zMR D cy B S0 H → zX S0 S0 → va_S (fun q => B < q) s.heap H locs → ∀ ls : Array Slot, lv_has ls 11 [(1, .int v1), (2, .int v2), (3, .int v3), (4, .int x21), (5, .int x22), (6, .int x23), (8, .int x39)] → K47 x45 = some r → W p l e (headSpec (zws yX12_seeing cX12_seeing 11 ((some .int))) { frames := 1, cells := 0, slots := 0, locals := 25 }).room s m (([.ref (B + a0), .int v1, .int v2, .int v3] : List Value).toArray) below meth c H locs 0 0 (MQ below (zQi D cy B S0 r S0) (([.ref (B + a0), .int v1, .int v2, .int v3] : List Value).toArray) s 0 0 (fun q => B < q)) (F0 m 144 ls [.int x45, .int x38]) := by
                          intro x45 H locs hM hX46 hS ls hl h
                          rw [eK47] at h
                          refine lv_iadd hx hb dX12_seeing_144 ?_
                          refine lv_istore (i := 7) (lv' := [(7, .int (x38 + x45)), (1, .int v1), (2, .int v2), (3, .int v3), (4, .int x21), (5, .int x22), (6, .int x23), (8, .int x39)]) hx hb dX12_seeing_145 hl (by decide) rfl (fun ls hl => ?_)
                          refine lv_iinc (v := (x39 + (1 : Int32))) (lv' := [(8, .int (x39 + (1 : Int32))), (7, .int (x38 + x45)), (1, .int v1), (2, .int v2), (3, .int v3), (4, .int x21), (5, .int x22), (6, .int x23)]) hx hb dX12_seeing_147 hl (k := 7) rfl rfl (by decide) rfl (fun ls hl => ?_)
                          refine lv_goto (tgt := 72) hx hb dX12_seeing_150 (by decide) ?_
                          exact ih72 (x38 + x45) (x39 + (1 : Int32)) _ _ hM hX46 hS _ (lv_sub hl [2, 3, 4, 5, 6, 7, 1, 0] rfl) h
                        refine lv_if_eq (tgt := 143) hx hb dX12_seeing_136 (by decide) (fun hc48 => ?_) (fun hc48 => ?_)
                        · have h := zt h hc48
                          refine lv_iconst (v := (0 : Int32)) hx hb dX12_seeing_143 (by decide +kernel) ?_
                          exact hK47 (0 : Int32) _ _ hM hX43 hS _ (lv_sub hl [0, 1, 2, 3, 4, 5, 7] rfl) h
                        · have h := zf h hc48
                          refine lv_iconst (v := (1 : Int32)) hx hb dX12_seeing_139 (by decide +kernel) ?_
                          refine lv_goto (tgt := 144) hx hb dX12_seeing_140 (by decide) ?_
                          exact hK47 (1 : Int32) _ _ hM hX43 hS _ (lv_sub hl [0, 1, 2, 3, 4, 5, 7] rfl) h
                      have hL85 : ∀ (k : Nat) (x49 : Int32) (x50 : Int32) (H : Heap) (locs : List Loc), zMR D cy B S0 H → zX S0 S0 → va_S (fun q => B < q) s.heap H locs → ∀ ls : Array Slot, lv_has ls 11 [(1, .int v1), (2, .int v2), (3, .int v3), (4, .int x21), (5, .int x22), (6, .int x23), (7, .int x38), (8, .int x39), (9, .int x49), (10, .int x50)] → f_X12_seeing_L85 v2 x23 x39 K44 k x49 x50 = some r → W p l e (headSpec (zws yX12_seeing cX12_seeing 11 ((some .int))) { frames := 1, cells := 0, slots := 0, locals := 25 }).room s m (([.ref (B + a0), .int v1, .int v2, .int v3] : List Value).toArray) below meth c H locs 0 0 (MQ below (zQi D cy B S0 r S0) (([.ref (B + a0), .int v1, .int v2, .int v3] : List Value).toArray) s 0 0 (fun q => B < q)) (F0 m 85 ls []) := by
                        intro k
                        induction k with
                        | zero =>
                          intro x49 x50 H locs hM hX51 hS ls hl h
                          exact znone h
                        | succ k ih85 =>
                          intro x49 x50 H locs hM hX51 hS ls hl h
                          replace h : f_X12_seeing_L85b v2 x23 x39 K44 (f_X12_seeing_L85 v2 x23 x39 K44 k) x49 x50 = some r := h
                          generalize f_X12_seeing_L85 v2 x23 x39 K44 k = rec85 at ih85 h
                          unfold f_X12_seeing_L85b at h
                          refine lv_iload hx hb dX12_seeing_85 (lv_at hl 9 rfl) ?_
                          refine lv_bipush (v := (7 : Int32)) hx hb dX12_seeing_87 (by decide +kernel) ?_
                          refine lv_icmp_ge (tgt := 132) hx hb dX12_seeing_89 (by decide) (fun hc52 => ?_) (fun hc52 => ?_)
                          · have h := zt h hc52
                            exact hK44 x49 _ _ hM hX51 hS _ (lv_sub hl [0, 1, 2, 3, 4, 5, 6, 7, 8] rfl) h
                          · have h := zf h hc52
                            refine lv_iload hx hb dX12_seeing_92 (lv_at hl 8 rfl) ?_
                            obtain ⟨K54, eK54, h⟩ := zlg h
                            have hK54 : ∀ (H : Heap) (locs : List Loc), zMR D cy B S0 H → zX S0 S0 → va_S (fun q => B < q) s.heap H locs → ∀ ls : Array Slot, lv_has ls 11 [(1, .int v1), (2, .int v2), (3, .int v3), (4, .int x21), (5, .int x22), (6, .int x23), (7, .int x38), (8, .int x39), (10, .int x50)] → K54 = some r → W p l e (headSpec (zws yX12_seeing cX12_seeing 11 ((some .int))) { frames := 1, cells := 0, slots := 0, locals := 25 }).room s m (([.ref (B + a0), .int v1, .int v2, .int v3] : List Value).toArray) below meth c H locs 0 0 (MQ below (zQi D cy B S0 r S0) (([.ref (B + a0), .int v1, .int v2, .int v3] : List Value).toArray) s 0 0 (fun q => B < q)) (F0 m 119 ls []) := by
                              intro H locs hM hX53 hS ls hl h
                              rw [eK54] at h
                              refine lv_iconst (v := (1 : Int32)) hx hb dX12_seeing_119 (by decide +kernel) ?_
                              refine lv_goto (tgt := 124) hx hb dX12_seeing_120 (by decide) ?_
                              refine lv_istore (i := 9) (lv' := [(9, .int (1 : Int32)), (1, .int v1), (2, .int v2), (3, .int v3), (4, .int x21), (5, .int x22), (6, .int x23), (7, .int x38), (8, .int x39), (10, .int x50)]) hx hb dX12_seeing_124 hl (by decide) rfl (fun ls hl => ?_)
                              refine lv_iinc (v := (x50 + (1 : Int32))) (lv' := [(10, .int (x50 + (1 : Int32))), (9, .int (1 : Int32)), (1, .int v1), (2, .int v2), (3, .int v3), (4, .int x21), (5, .int x22), (6, .int x23), (7, .int x38), (8, .int x39)]) hx hb dX12_seeing_126 hl (k := 9) rfl rfl (by decide) rfl (fun ls hl => ?_)
                              refine lv_goto (tgt := 85) hx hb dX12_seeing_129 (by decide) ?_
                              exact ih85 (1 : Int32) (x50 + (1 : Int32)) _ _ hM hX53 hS _ (lv_sub hl [2, 3, 4, 5, 6, 7, 8, 9, 1, 0] rfl) h
                            refine lv_if_ne (tgt := 119) hx hb dX12_seeing_94 (by decide) (fun hc55 => ?_) (fun hc55 => ?_)
                            · have h := zf h hc55
                              exact hK54 _ _ hM hX51 hS _ (lv_sub hl [0, 1, 2, 3, 4, 5, 6, 7, 9] rfl) h
                            · have h := zt h hc55
                              refine lv_iload hx hb dX12_seeing_97 (lv_at hl 5 rfl) ?_
                              refine lv_iload hx hb dX12_seeing_99 (lv_at hl 9 rfl) ?_
                              refine lv_ishr hx hb dX12_seeing_101 ?_
                              refine lv_iconst (v := (1 : Int32)) hx hb dX12_seeing_102 (by decide +kernel) ?_
                              refine lv_iand hx hb dX12_seeing_103 ?_
                              refine lv_iconst (v := (1 : Int32)) hx hb dX12_seeing_104 (by decide +kernel) ?_
                              obtain ⟨K57, eK57, h⟩ := zlg h
                              have hK57 : ∀ (H : Heap) (locs : List Loc), zMR D cy B S0 H → zX S0 S0 → va_S (fun q => B < q) s.heap H locs → ∀ ls : Array Slot, lv_has ls 11 [(1, .int v1), (2, .int v2), (3, .int v3), (4, .int x21), (5, .int x22), (6, .int x23), (7, .int x38), (8, .int x39), (10, .int x50)] → K57 = some r → W p l e (headSpec (zws yX12_seeing cX12_seeing 11 ((some .int))) { frames := 1, cells := 0, slots := 0, locals := 25 }).room s m (([.ref (B + a0), .int v1, .int v2, .int v3] : List Value).toArray) below meth c H locs 0 0 (MQ below (zQi D cy B S0 r S0) (([.ref (B + a0), .int v1, .int v2, .int v3] : List Value).toArray) s 0 0 (fun q => B < q)) (F0 m 123 ls []) := by
                                intro H locs hM hX56 hS ls hl h
                                rw [eK57] at h
                                refine lv_iconst (v := (0 : Int32)) hx hb dX12_seeing_123 (by decide +kernel) ?_
                                refine lv_istore (i := 9) (lv' := [(9, .int (0 : Int32)), (1, .int v1), (2, .int v2), (3, .int v3), (4, .int x21), (5, .int x22), (6, .int x23), (7, .int x38), (8, .int x39), (10, .int x50)]) hx hb dX12_seeing_124 hl (by decide) rfl (fun ls hl => ?_)
                                refine lv_iinc (v := (x50 + (1 : Int32))) (lv' := [(10, .int (x50 + (1 : Int32))), (9, .int (0 : Int32)), (1, .int v1), (2, .int v2), (3, .int v3), (4, .int x21), (5, .int x22), (6, .int x23), (7, .int x38), (8, .int x39)]) hx hb dX12_seeing_126 hl (k := 9) rfl rfl (by decide) rfl (fun ls hl => ?_)
                                refine lv_goto (tgt := 85) hx hb dX12_seeing_129 (by decide) ?_
                                exact ih85 (0 : Int32) (x50 + (1 : Int32)) _ _ hM hX56 hS _ (lv_sub hl [2, 3, 4, 5, 6, 7, 8, 9, 1, 0] rfl) h
                              refine lv_icmp_ne (tgt := 123) hx hb dX12_seeing_105 (by decide) (fun hc58 => ?_) (fun hc58 => ?_)
                              · have h := zf h hc58
                                exact hK57 _ _ hM hX51 hS _ (lv_sub hl [0, 1, 2, 3, 4, 5, 6, 7, 9] rfl) h
                              · have h := zt h hc58
                                refine lv_iload hx hb dX12_seeing_108 (lv_at hl 7 rfl) ?_
                                refine lv_iload hx hb dX12_seeing_110 (lv_at hl 9 rfl) ?_
                                refine lv_iload_n hx hb dX12_seeing_112 rfl (lv_at hl 1 rfl) ?_
                                obtain ⟨r60, hr59, h⟩ := zlg h
                                have hr59 := hr59.symm
                                refine z_runi (va_runS (As := [.int x39, .int x50, .int v2]) (rest := []) ⟨hx, hb, hml, hown, hg⟩ (c_X12_isSeen l D cy B hr59) (z_cwS hg zw_1176 zw_1177 zw_13 zw_1178 zh_X12_isSeen.2 ⟨(Nat.le_of_ble_eq_true rfl), (Nat.le_of_ble_eq_true rfl)⟩) (zPS hC hM) rfl rfl hl.1 rfl (lv_room (Nat.le_of_ble_eq_true rfl)) dX12_seeing_113 ⟨(Nat.le_of_ble_eq_true rfl), (Nat.le_of_ble_eq_true rfl)⟩) hS (fun H locs hM hX61 hS => ?_)
                                refine lv_if_eq (tgt := 123) hx hb dX12_seeing_116 (by decide) (fun hc63 => ?_) (fun hc63 => ?_)
                                · have h := zt h hc63
                                  exact hK57 _ _ hM hX51 hS _ (lv_sub hl [0, 1, 2, 3, 4, 5, 6, 7, 9] rfl) h
                                · have h := zf h hc63
                                  exact hK54 _ _ hM hX51 hS _ (lv_sub hl [0, 1, 2, 3, 4, 5, 6, 7, 9] rfl) h
                      exact hL85 n (0 : Int32) (0 : Int32) _ _ hM hX40 hS _ (lv_sub hl [2, 3, 4, 5, 6, 7, 8, 9, 1, 0] rfl) h
                exact hL72 n (0 : Int32) (0 : Int32) _ _ hM hX24 hS _ (lv_sub hl [2, 3, 4, 5, 6, 7, 1, 0] rfl) h
              · have h := zf h hc30
                refine lv_goto (tgt := 176) hx hb dX12_seeing_63 (by decide) ?_
                refine lv_iinc (v := (x23 + (1 : Int32))) (lv' := [(6, .int (x23 + (1 : Int32))), (1, .int v1), (2, .int v2), (3, .int v3), (4, .int x21), (5, .int x22)]) hx hb dX12_seeing_176 hl (k := 5) rfl rfl (by decide) rfl (fun ls hl => ?_)
                refine lv_goto (tgt := 46) hx hb dX12_seeing_179 (by decide) ?_
                exact ih46 x21 x22 (x23 + (1 : Int32)) _ _ hM hX24 hS _ (lv_sub hl [1, 2, 3, 4, 5, 0] rfl) h
        exact hL46 n (-4 : Int32) (0 : Int32) (0 : Int32) _ _ hM hX0 hS _ (lv_sub hl [4, 5, 6, 2, 1, 0] rfl) h
      · have h := zt h hc15
        refine lv_iconst (v := (-1 : Int32)) hx hb dX12_seeing_34 (by decide +kernel) ?_
        exact z_iret hx hb hr hlk hM hX0 hS ⟨zsm h, rfl⟩ dX12_seeing_35
def f_X12_truly_L5b (n : Nat) (S0 : zM) (a0 : Nat) (v1 : Int32) (v2 : Int32) (K3 : Int64 → Option (Int64)) (rec5 : Int64 → Int32 → Option (Int64)) (y5 : Int64) (x6 : Int32) : Option (Int64) :=
  zChk (¬ (zr S0 a0 0) = 0) (zChk (¬ ((1003 : Int32) < 0 ∨ zln S0 (zr S0 a0 0) ≤ ((1003 : Int32)).toNatClampNeg)) (if (zi S0 (zr S0 a0 0) (Int32.toNatClampNeg (1003 : Int32))) ≤ x6 then K3 y5 else zB1 (f_X12_get S0 a0 x6 (0 : Int32)) (fun r13 => zLet (fun (y17 : Int64) => rec5 (y5 + y17) (x6 + (1 : Int32))) (fun K19 => zLet (K19 (0 : Int64)) (fun K22 => if r13 = v1 then zB1 (f_X12_get S0 a0 x6 (1 : Int32)) (fun r25 => if r25 = v2 then zB1 (f_X12_worth n S0 a0 x6) (fun r30 => zB1 (f_X12_get S0 a0 x6 (4 : Int32)) (fun r34 => K19 (Int32.toInt64 (r30 * r34)))) else K22) else K22)))))
def f_X12_truly_L5 (n : Nat) (S0 : zM) (a0 : Nat) (v1 : Int32) (v2 : Int32) (K3 : Int64 → Option (Int64)) : Nat → Int64 → Int32 → Option (Int64)
  | 0 => fun _ _ => none
  | k + 1 => fun y5 x6 => f_X12_truly_L5b n S0 a0 v1 v2 K3 (f_X12_truly_L5 n S0 a0 v1 v2 K3 k) y5 x6
def f_X12_truly (n : Nat) (S0 : zM) (a0 : Nat) (v1 : Int32) (v2 : Int32) : Option (Int64) :=
  zLet (fun (y1 : Int64) => some y1) (fun K3 => f_X12_truly_L5 n S0 a0 v1 v2 K3 n (0 : Int64) (0 : Int32))
set_option maxHeartbeats 4000000 in
set_option maxRecDepth 100000 in
theorem c_X12_truly (l : Launch) (D : va_G) (cy : Nat → ClassId) (B : Nat) {n : Nat} {S0 : zM} {a0 : Nat} {v1 : Int32} {v2 : Int32} {r : Int64} (ha0 : zA S0 a0 12) (h : f_X12_truly n S0 a0 v1 v2 = some r) : Met l yX12_truly (zws yX12_truly cX12_truly 6 ((some .long))) { frames := 2, cells := 0, slots := 0, locals := 45 } (zPc D cy B S0 [.ref (B + a0), .int v1, .int v2]) (zQl D cy B S0 r S0) 0 0 (fun q => B < q) := by
  refine Met.ofW (cc := cX12_truly) (maxL := 6) (ret := ((some .long))) (by decide) rfl ?_
  intro p e s m args below meth c s₁ Bd hml hv
  obtain ⟨rfl, hC, hM⟩ := hv
  obtain ⟨hx, hb, hr, hg, hown, hlk⟩ := z_open Bd
  have hK := hC.1
  have hS : va_S (fun q => B < q) s.heap s.heap [] := va_S.rf
  have hX0 : zX S0 S0 := zX.rf
  refine z_entry (vs := [.ref (B + a0), .int v1, .int v2]) (Nat.le_of_ble_eq_true rfl) (fun ls hl => ?_)
  have hl : lv_has ls 6 [(0, .ref (B + a0)), (1, .int v1), (2, .int v2)] := hl
  unfold f_X12_truly at h
  refine lv_lconst (v := (0 : Int64)) hx hb dX12_truly_0 (by decide +kernel) ?_
  refine lv_lstore_n (i := 3) (lv' := [(3, .long (0 : Int64)), (0, .ref (B + a0)), (1, .int v1), (2, .int v2)]) hx hb dX12_truly_1 rfl hl (by decide) rfl (fun ls hl => ?_)
  refine lv_iconst (v := (0 : Int32)) hx hb dX12_truly_2 (by decide +kernel) ?_
  refine lv_istore (i := 5) (lv' := [(5, .int (0 : Int32)), (3, .long (0 : Int64)), (0, .ref (B + a0)), (1, .int v1), (2, .int v2)]) hx hb dX12_truly_3 hl (by decide) rfl (fun ls hl => ?_)
  obtain ⟨K3, eK3, h⟩ := zlg h
  have hK3 : ∀ (y1 : Int64) (H : Heap) (locs : List Loc), zMR D cy B S0 H → zX S0 S0 → va_S (fun q => B < q) s.heap H locs → ∀ ls : Array Slot, lv_has ls 6 [(3, .long y1)] → K3 y1 = some r → W p l e (headSpec (zws yX12_truly cX12_truly 6 ((some .long))) { frames := 2, cells := 0, slots := 0, locals := 45 }).room s m (([.ref (B + a0), .int v1, .int v2] : List Value).toArray) below meth c H locs 0 0 (MQ below (zQl D cy B S0 r S0) (([.ref (B + a0), .int v1, .int v2] : List Value).toArray) s 0 0 (fun q => B < q)) (F0 m 68 ls []) := by
    intro y1 H locs hM hX2 hS ls hl h
    rw [eK3] at h
    refine lv_lload_n hx hb dX12_truly_68 rfl (lv_at hl 0 rfl) ?_
    exact z_lret hx hb hr hlk hM hX2 hS ⟨zsm h, rfl⟩ dX12_truly_69
  have hL5 : ∀ (k : Nat) (y5 : Int64) (x6 : Int32) (H : Heap) (locs : List Loc), zMR D cy B S0 H → zX S0 S0 → va_S (fun q => B < q) s.heap H locs → zA S0 a0 12 → ∀ ls : Array Slot, lv_has ls 6 [(0, .ref (B + a0)), (1, .int v1), (2, .int v2), (3, .long y5), (5, .int x6)] → f_X12_truly_L5 n S0 a0 v1 v2 K3 k y5 x6 = some r → W p l e (headSpec (zws yX12_truly cX12_truly 6 ((some .long))) { frames := 2, cells := 0, slots := 0, locals := 45 }).room s m (([.ref (B + a0), .int v1, .int v2] : List Value).toArray) below meth c H locs 0 0 (MQ below (zQl D cy B S0 r S0) (([.ref (B + a0), .int v1, .int v2] : List Value).toArray) s 0 0 (fun q => B < q)) (F0 m 5 ls []) := by
    intro k
    induction k with
    | zero =>
      intro y5 x6 H locs hM hX7 hS h4 ls hl h
      exact znone h
    | succ k ih5 =>
      intro y5 x6 H locs hM hX7 hS h4 ls hl h
      replace h : f_X12_truly_L5b n S0 a0 v1 v2 K3 (f_X12_truly_L5 n S0 a0 v1 v2 K3 k) y5 x6 = some r := h
      generalize f_X12_truly_L5 n S0 a0 v1 v2 K3 k = rec5 at ih5 h
      unfold f_X12_truly_L5b at h
      refine lv_iload hx hb dX12_truly_5 (lv_at hl 4 rfl) ?_
      refine lv_aload_n hx hb dX12_truly_7 rfl (lv_at hl 0 rfl) ?_
      obtain ⟨hq9, h⟩ := zk h
      refine z_getN hx hb hg zin_12 hown hK hM h4 0 rfl (by decide) (hg _ zw_1000) (fun _ h9 => h9) hq9 dX12_truly_8 (fun h8 => ?_)
      refine lv_sipush (v := (1003 : Int32)) hx hb dX12_truly_11 (by decide +kernel) ?_
      obtain ⟨hq10, h⟩ := zk h
      refine z_iald hx hb hK hM h8 hq10 dX12_truly_14 ?_
      refine lv_icmp_ge (tgt := 68) hx hb dX12_truly_15 (by decide) (fun hc11 => ?_) (fun hc11 => ?_)
      · have h := zt h hc11
        exact hK3 y5 _ _ hM hX7 hS _ (lv_sub hl [3] rfl) h
      · have h := zf h hc11
        refine lv_lload_n hx hb dX12_truly_18 rfl (lv_at hl 3 rfl) ?_
        refine lv_aload_n hx hb dX12_truly_19 rfl (lv_at hl 0 rfl) ?_
        refine lv_iload hx hb dX12_truly_20 (lv_at hl 4 rfl) ?_
        refine lv_iconst (v := (0 : Int32)) hx hb dX12_truly_22 (by decide +kernel) ?_
        obtain ⟨r13, hr12, h⟩ := zb1 h
        refine z_runi (va_runV (As := [.int x6, .int (0 : Int32)]) (rest := [.long y5]) ⟨hx, hb, hml, hown, hg⟩ (c_X12_get l D cy B h4 hr12) (z_cwV hg zw_1163 zw_1164 zw_1487 zw_13 zw_1165 zh_X12_get ⟨(Nat.le_of_ble_eq_true rfl), (Nat.le_of_ble_eq_true rfl)⟩) (zPV hC hM h4 (by decide) rfl) rfl rfl hl.1 rfl (lv_room (Nat.le_of_ble_eq_true rfl)) dX12_truly_23 ⟨(Nat.le_of_ble_eq_true rfl), (Nat.le_of_ble_eq_true rfl)⟩) hS (fun H locs hM hX14 hS => ?_)
        refine lv_iload_n hx hb dX12_truly_26 rfl (lv_at hl 1 rfl) ?_
        obtain ⟨K19, eK19, h⟩ := zlg h
        have hK19 : ∀ (y17 : Int64) (H : Heap) (locs : List Loc), zMR D cy B S0 H → zX S0 S0 → va_S (fun q => B < q) s.heap H locs → zA S0 a0 12 → ∀ ls : Array Slot, lv_has ls 6 [(0, .ref (B + a0)), (1, .int v1), (2, .int v2), (5, .int x6)] → K19 y17 = some r → W p l e (headSpec (zws yX12_truly cX12_truly 6 ((some .long))) { frames := 2, cells := 0, slots := 0, locals := 45 }).room s m (([.ref (B + a0), .int v1, .int v2] : List Value).toArray) below meth c H locs 0 0 (MQ below (zQl D cy B S0 r S0) (([.ref (B + a0), .int v1, .int v2] : List Value).toArray) s 0 0 (fun q => B < q)) (F0 m 60 ls [.long y17, .long y5]) := by
          intro y17 H locs hM hX18 hS h16 ls hl h
          rw [eK19] at h
          refine lv_ladd hx hb dX12_truly_60 ?_
          refine lv_lstore_n (i := 3) (lv' := [(3, .long (y5 + y17)), (0, .ref (B + a0)), (1, .int v1), (2, .int v2), (5, .int x6)]) hx hb dX12_truly_61 rfl hl (by decide) rfl (fun ls hl => ?_)
          refine lv_iinc (v := (x6 + (1 : Int32))) (lv' := [(5, .int (x6 + (1 : Int32))), (3, .long (y5 + y17)), (0, .ref (B + a0)), (1, .int v1), (2, .int v2)]) hx hb dX12_truly_62 hl (k := 4) rfl rfl (by decide) rfl (fun ls hl => ?_)
          refine lv_goto (tgt := 5) hx hb dX12_truly_65 (by decide) ?_
          exact ih5 (y5 + y17) (x6 + (1 : Int32)) _ _ hM hX18 hS h16 _ (lv_sub hl [2, 3, 4, 1, 0] rfl) h
        obtain ⟨K22, eK22, h⟩ := zlg h
        have hK22 : ∀ (H : Heap) (locs : List Loc), zMR D cy B S0 H → zX S0 S0 → va_S (fun q => B < q) s.heap H locs → zA S0 a0 12 → ∀ ls : Array Slot, lv_has ls 6 [(0, .ref (B + a0)), (1, .int v1), (2, .int v2), (5, .int x6)] → K22 = some r → W p l e (headSpec (zws yX12_truly cX12_truly 6 ((some .long))) { frames := 2, cells := 0, slots := 0, locals := 45 }).room s m (([.ref (B + a0), .int v1, .int v2] : List Value).toArray) below meth c H locs 0 0 (MQ below (zQl D cy B S0 r S0) (([.ref (B + a0), .int v1, .int v2] : List Value).toArray) s 0 0 (fun q => B < q)) (F0 m 59 ls [.long y5]) := by
          intro H locs hM hX21 hS h20 ls hl h
          rw [eK22] at h
          refine lv_lconst (v := (0 : Int64)) hx hb dX12_truly_59 (by decide +kernel) ?_
          exact hK19 (0 : Int64) _ _ hM hX21 hS h20 _ (lv_sub hl [0, 1, 2, 3] rfl) h
        refine lv_icmp_ne (tgt := 59) hx hb dX12_truly_27 (by decide) (fun hc23 => ?_) (fun hc23 => ?_)
        · have h := zf h hc23
          exact hK22 _ _ hM hX7 hS h4 _ (lv_sub hl [0, 1, 2, 4] rfl) h
        · have h := zt h hc23
          refine lv_aload_n hx hb dX12_truly_30 rfl (lv_at hl 0 rfl) ?_
          refine lv_iload hx hb dX12_truly_31 (lv_at hl 4 rfl) ?_
          refine lv_iconst (v := (1 : Int32)) hx hb dX12_truly_33 (by decide +kernel) ?_
          obtain ⟨r25, hr24, h⟩ := zb1 h
          refine z_runi (va_runV (As := [.int x6, .int (1 : Int32)]) (rest := [.long y5]) ⟨hx, hb, hml, hown, hg⟩ (c_X12_get l D cy B h4 hr24) (z_cwV hg zw_1163 zw_1164 zw_1487 zw_13 zw_1165 zh_X12_get ⟨(Nat.le_of_ble_eq_true rfl), (Nat.le_of_ble_eq_true rfl)⟩) (zPV hC hM h4 (by decide) rfl) rfl rfl hl.1 rfl (lv_room (Nat.le_of_ble_eq_true rfl)) dX12_truly_34 ⟨(Nat.le_of_ble_eq_true rfl), (Nat.le_of_ble_eq_true rfl)⟩) hS (fun H locs hM hX26 hS => ?_)
          refine lv_iload_n hx hb dX12_truly_37 rfl (lv_at hl 2 rfl) ?_
          refine lv_icmp_ne (tgt := 59) hx hb dX12_truly_38 (by decide) (fun hc28 => ?_) (fun hc28 => ?_)
          · have h := zf h hc28
            exact hK22 _ _ hM hX7 hS h4 _ (lv_sub hl [0, 1, 2, 4] rfl) h
          · have h := zt h hc28
            refine lv_aload_n hx hb dX12_truly_41 rfl (lv_at hl 0 rfl) ?_
            refine lv_iload hx hb dX12_truly_42 (lv_at hl 4 rfl) ?_
            obtain ⟨r30, hr29, h⟩ := zb1 h
            refine z_runi (va_runV (As := [.int x6]) (rest := [.long y5]) ⟨hx, hb, hml, hown, hg⟩ (c_X12_worth l D cy B h4 hr29) (z_cwV hg zw_1166 zw_1167 zw_1488 zw_13 zw_1168 zh_X12_worth ⟨(Nat.le_of_ble_eq_true rfl), (Nat.le_of_ble_eq_true rfl)⟩) (zPV hC hM h4 (by decide) rfl) rfl rfl hl.1 rfl (lv_room (Nat.le_of_ble_eq_true rfl)) dX12_truly_44 ⟨(Nat.le_of_ble_eq_true rfl), (Nat.le_of_ble_eq_true rfl)⟩) hS (fun H locs hM hX31 hS => ?_)
            refine lv_aload_n hx hb dX12_truly_47 rfl (lv_at hl 0 rfl) ?_
            refine lv_iload hx hb dX12_truly_48 (lv_at hl 4 rfl) ?_
            refine lv_iconst (v := (4 : Int32)) hx hb dX12_truly_50 (by decide +kernel) ?_
            obtain ⟨r34, hr33, h⟩ := zb1 h
            refine z_runi (va_runV (As := [.int x6, .int (4 : Int32)]) (rest := [.int r30, .long y5]) ⟨hx, hb, hml, hown, hg⟩ (c_X12_get l D cy B h4 hr33) (z_cwV hg zw_1163 zw_1164 zw_1487 zw_13 zw_1165 zh_X12_get ⟨(Nat.le_of_ble_eq_true rfl), (Nat.le_of_ble_eq_true rfl)⟩) (zPV hC hM h4 (by decide) rfl) rfl rfl hl.1 rfl (lv_room (Nat.le_of_ble_eq_true rfl)) dX12_truly_51 ⟨(Nat.le_of_ble_eq_true rfl), (Nat.le_of_ble_eq_true rfl)⟩) hS (fun H locs hM hX35 hS => ?_)
            refine lv_imul hx hb dX12_truly_54 ?_
            refine lv_i2l hx hb dX12_truly_55 rfl ?_
            refine lv_goto (tgt := 60) hx hb dX12_truly_56 (by decide) ?_
            exact hK19 (Int32.toInt64 (r30 * r34)) _ _ hM hX7 hS h4 _ (lv_sub hl [0, 1, 2, 4] rfl) h
  exact hL5 n (0 : Int64) (0 : Int32) _ _ hM hX0 hS ha0 _ (lv_sub hl [2, 3, 4, 1, 0] rfl) h
def f_X12_isRight_L16b (n : Nat) (a0 : Nat) (v1 : Int32) (S3 : zM) (r9 : Int64) (rec16 : Int32 → Option (Int32 × zM)) (x13 : Int32) : Option (Int32 × zM) :=
  zChk (¬ (zr S3 a0 0) = 0) (zChk (¬ ((1001 : Int32) < 0 ∨ zln S3 (zr S3 a0 0) ≤ ((1001 : Int32)).toNatClampNeg)) (if (zi S3 (zr S3 a0 0) (Int32.toNatClampNeg (1001 : Int32))) ≤ x13 then some (((1 : Int32), S3)) else zB1 (f_X12_dives n S3 a0 v1 x13) (fun r20 => if r20 = 0 then rec16 (x13 + (1 : Int32)) else zB1 (f_X12_truly n S3 a0 v1 x13) (fun r25 => if (lg_cmp r25 r9) ≤ 0 then rec16 (x13 + (1 : Int32)) else some (((0 : Int32), S3))))))
def f_X12_isRight_L16 (n : Nat) (a0 : Nat) (v1 : Int32) (S3 : zM) (r9 : Int64) : Nat → Int32 → Option (Int32 × zM)
  | 0 => fun _ => none
  | k + 1 => fun x13 => f_X12_isRight_L16b n a0 v1 S3 r9 (f_X12_isRight_L16 n a0 v1 S3 r9 k) x13
def f_X12_isRight (n : Nat) (S0 : zM) (a0 : Nat) (v1 : Int32) : Option (Int32 × zM) :=
  zB2 (f_X12_wonNow n S0 a0 v1) (fun r2 S3 => zB1 (f_X12_truly n S3 a0 v1 r2) (fun r9 => f_X12_isRight_L16 n a0 v1 S3 r9 n (0 : Int32)))
set_option maxHeartbeats 4000000 in
set_option maxRecDepth 100000 in
theorem c_X12_isRight (l : Launch) (D : va_G) (cy : Nat → ClassId) (B : Nat) {n : Nat} {S0 : zM} {a0 : Nat} {v1 : Int32} {r : Int32} {S' : zM} (ha0 : zA S0 a0 12) (h : f_X12_isRight n S0 a0 v1 = some (r, S')) : Met l yX12_isRight (zws yX12_isRight cX12_isRight 6 ((some .boolean))) { frames := 36, cells := 0, slots := 0, locals := 833 } (zPc D cy B S0 [.ref (B + a0), .int v1]) (zQi D cy B S0 r S') 0 0 (fun q => B < q) := by
  refine Met.ofW (cc := cX12_isRight) (maxL := 6) (ret := ((some .boolean))) (by decide) rfl ?_
  intro p e s m args below meth c s₁ Bd hml hv
  obtain ⟨rfl, hC, hM⟩ := hv
  obtain ⟨hx, hb, hr, hg, hown, hlk⟩ := z_open Bd
  have hK := hC.1
  have hS : va_S (fun q => B < q) s.heap s.heap [] := va_S.rf
  have hX0 : zX S0 S0 := zX.rf
  refine z_entry (vs := [.ref (B + a0), .int v1]) (Nat.le_of_ble_eq_true rfl) (fun ls hl => ?_)
  have hl : lv_has ls 6 [(0, .ref (B + a0)), (1, .int v1)] := hl
  unfold f_X12_isRight at h
  refine lv_aload_n hx hb dX12_isRight_0 rfl (lv_at hl 0 rfl) ?_
  refine lv_iload_n hx hb dX12_isRight_1 rfl (lv_at hl 1 rfl) ?_
  obtain ⟨r2, S3, hr1, h⟩ := zb2 h
  refine z_runi (va_runV (As := [.int v1]) (rest := []) ⟨hx, hb, hml, hown, hg⟩ (c_X12_wonNow l D cy B ha0 hr1) (z_cwV hg zw_1307 zw_1308 zw_1516 zw_13 zw_1309 zh_X12_wonNow ⟨(Nat.le_of_ble_eq_true rfl), (Nat.le_of_ble_eq_true rfl)⟩) (zPV hC hM ha0 (by decide) rfl) rfl rfl hl.1 rfl (lv_room (Nat.le_of_ble_eq_true rfl)) dX12_isRight_2 ⟨(Nat.le_of_ble_eq_true rfl), (Nat.le_of_ble_eq_true rfl)⟩) hS (fun H locs hM hX4 hS => ?_)
  have h6 := ha0.mo hX4
  have hX7 := hX0.tr hX4
  refine lv_istore_n (i := 2) (lv' := [(2, .int r2), (0, .ref (B + a0)), (1, .int v1)]) hx hb dX12_isRight_5 rfl hl (by decide) rfl (fun ls hl => ?_)
  refine lv_aload_n hx hb dX12_isRight_6 rfl (lv_at hl 1 rfl) ?_
  refine lv_iload_n hx hb dX12_isRight_7 rfl (lv_at hl 2 rfl) ?_
  refine lv_iload_n hx hb dX12_isRight_8 rfl (lv_at hl 0 rfl) ?_
  obtain ⟨r9, hr8, h⟩ := zb1 h
  refine z_runl (va_runV (As := [.int v1, .int r2]) (rest := []) ⟨hx, hb, hml, hown, hg⟩ (c_X12_truly l D cy B h6 hr8) (z_cwV hg zw_1405 zw_1406 zw_1529 zw_13 zw_1407 zh_X12_truly ⟨(Nat.le_of_ble_eq_true rfl), (Nat.le_of_ble_eq_true rfl)⟩) (zPV hC hM h6 (by decide) rfl) rfl rfl hl.1 rfl (lv_room (Nat.le_of_ble_eq_true rfl)) dX12_isRight_9 ⟨(Nat.le_of_ble_eq_true rfl), (Nat.le_of_ble_eq_true rfl)⟩) hS (fun H locs hM hX10 hS => ?_)
  refine lv_lstore_n (i := 3) (lv' := [(3, .long r9), (2, .int r2), (0, .ref (B + a0)), (1, .int v1)]) hx hb dX12_isRight_12 rfl hl (by decide) rfl (fun ls hl => ?_)
  refine lv_iconst (v := (0 : Int32)) hx hb dX12_isRight_13 (by decide +kernel) ?_
  refine lv_istore (i := 5) (lv' := [(5, .int (0 : Int32)), (3, .long r9), (2, .int r2), (0, .ref (B + a0)), (1, .int v1)]) hx hb dX12_isRight_14 hl (by decide) rfl (fun ls hl => ?_)
  have hL16 : ∀ (k : Nat) (x13 : Int32) (H : Heap) (locs : List Loc), zMR D cy B S3 H → zX S0 S3 → va_S (fun q => B < q) s.heap H locs → zA S3 a0 12 → ∀ ls : Array Slot, lv_has ls 6 [(0, .ref (B + a0)), (1, .int v1), (3, .long r9), (5, .int x13)] → f_X12_isRight_L16 n a0 v1 S3 r9 k x13 = some (r, S') → W p l e (headSpec (zws yX12_isRight cX12_isRight 6 ((some .boolean))) { frames := 36, cells := 0, slots := 0, locals := 833 }).room s m (([.ref (B + a0), .int v1] : List Value).toArray) below meth c H locs 0 0 (MQ below (zQi D cy B S0 r S') (([.ref (B + a0), .int v1] : List Value).toArray) s 0 0 (fun q => B < q)) (F0 m 16 ls []) := by
    intro k
    induction k with
    | zero =>
      intro x13 H locs hM hX14 hS h12 ls hl h
      exact znone h
    | succ k ih16 =>
      intro x13 H locs hM hX14 hS h12 ls hl h
      replace h : f_X12_isRight_L16b n a0 v1 S3 r9 (f_X12_isRight_L16 n a0 v1 S3 r9 k) x13 = some (r, S') := h
      generalize f_X12_isRight_L16 n a0 v1 S3 r9 k = rec16 at ih16 h
      unfold f_X12_isRight_L16b at h
      refine lv_iload hx hb dX12_isRight_16 (lv_at hl 3 rfl) ?_
      refine lv_aload_n hx hb dX12_isRight_18 rfl (lv_at hl 0 rfl) ?_
      obtain ⟨hq16, h⟩ := zk h
      refine z_getN hx hb hg zin_12 hown hK hM h12 0 rfl (by decide) (hg _ zw_1000) (fun _ h9 => h9) hq16 dX12_isRight_19 (fun h15 => ?_)
      refine lv_sipush (v := (1001 : Int32)) hx hb dX12_isRight_22 (by decide +kernel) ?_
      obtain ⟨hq17, h⟩ := zk h
      refine z_iald hx hb hK hM h15 hq17 dX12_isRight_25 ?_
      refine lv_icmp_ge (tgt := 59) hx hb dX12_isRight_26 (by decide) (fun hc18 => ?_) (fun hc18 => ?_)
      · have h := zt h hc18
        refine lv_iconst (v := (1 : Int32)) hx hb dX12_isRight_59 (by decide +kernel) ?_
        exact z_zret (by decide +kernel) hx hb hr hlk hM hX14 hS (zsp h) dX12_isRight_60
      · have h := zf h hc18
        refine lv_aload_n hx hb dX12_isRight_29 rfl (lv_at hl 0 rfl) ?_
        refine lv_iload_n hx hb dX12_isRight_30 rfl (lv_at hl 1 rfl) ?_
        refine lv_iload hx hb dX12_isRight_31 (lv_at hl 3 rfl) ?_
        obtain ⟨r20, hr19, h⟩ := zb1 h
        refine z_runi (va_runV (As := [.int v1, .int x13]) (rest := []) ⟨hx, hb, hml, hown, hg⟩ (c_X12_dives l D cy B h12 hr19) (z_cwV hg zw_1289 zw_1290 zw_1513 zw_13 zw_1291 zh_X12_dives ⟨(Nat.le_of_ble_eq_true rfl), (Nat.le_of_ble_eq_true rfl)⟩) (zPV hC hM h12 (by decide) rfl) rfl rfl hl.1 rfl (lv_room (Nat.le_of_ble_eq_true rfl)) dX12_isRight_33 ⟨(Nat.le_of_ble_eq_true rfl), (Nat.le_of_ble_eq_true rfl)⟩) hS (fun H locs hM hX21 hS => ?_)
        refine lv_if_eq (tgt := 53) hx hb dX12_isRight_36 (by decide) (fun hc23 => ?_) (fun hc23 => ?_)
        · have h := zt h hc23
          refine lv_iinc (v := (x13 + (1 : Int32))) (lv' := [(5, .int (x13 + (1 : Int32))), (0, .ref (B + a0)), (1, .int v1), (3, .long r9)]) hx hb dX12_isRight_53 hl (k := 3) rfl rfl (by decide) rfl (fun ls hl => ?_)
          refine lv_goto (tgt := 16) hx hb dX12_isRight_56 (by decide) ?_
          exact ih16 (x13 + (1 : Int32)) _ _ hM hX14 hS h12 _ (lv_sub hl [1, 2, 3, 0] rfl) h
        · have h := zf h hc23
          refine lv_aload_n hx hb dX12_isRight_39 rfl (lv_at hl 0 rfl) ?_
          refine lv_iload_n hx hb dX12_isRight_40 rfl (lv_at hl 1 rfl) ?_
          refine lv_iload hx hb dX12_isRight_41 (lv_at hl 3 rfl) ?_
          obtain ⟨r25, hr24, h⟩ := zb1 h
          refine z_runl (va_runV (As := [.int v1, .int x13]) (rest := []) ⟨hx, hb, hml, hown, hg⟩ (c_X12_truly l D cy B h12 hr24) (z_cwV hg zw_1405 zw_1406 zw_1529 zw_13 zw_1407 zh_X12_truly ⟨(Nat.le_of_ble_eq_true rfl), (Nat.le_of_ble_eq_true rfl)⟩) (zPV hC hM h12 (by decide) rfl) rfl rfl hl.1 rfl (lv_room (Nat.le_of_ble_eq_true rfl)) dX12_isRight_43 ⟨(Nat.le_of_ble_eq_true rfl), (Nat.le_of_ble_eq_true rfl)⟩) hS (fun H locs hM hX26 hS => ?_)
          refine lv_lload_n hx hb dX12_isRight_46 rfl (lv_at hl 2 rfl) ?_
          refine W.lcmp hx hb dX12_isRight_47 ?_
          refine lv_if_le (tgt := 53) hx hb dX12_isRight_48 (by decide) (fun hc28 => ?_) (fun hc28 => ?_)
          · have h := zt h hc28
            refine lv_iinc (v := (x13 + (1 : Int32))) (lv' := [(5, .int (x13 + (1 : Int32))), (0, .ref (B + a0)), (1, .int v1), (3, .long r9)]) hx hb dX12_isRight_53 hl (k := 3) rfl rfl (by decide) rfl (fun ls hl => ?_)
            refine lv_goto (tgt := 16) hx hb dX12_isRight_56 (by decide) ?_
            exact ih16 (x13 + (1 : Int32)) _ _ hM hX14 hS h12 _ (lv_sub hl [1, 2, 3, 0] rfl) h
          · have h := zf h hc28
            refine lv_iconst (v := (0 : Int32)) hx hb dX12_isRight_51 (by decide +kernel) ?_
            exact z_zret (by decide +kernel) hx hb hr hlk hM hX14 hS (zsp h) dX12_isRight_52
  exact hL16 n (0 : Int32) _ _ hM hX7 hS h6 _ (lv_sub hl [3, 4, 1, 0] rfl) h
def f_X12_worlds_L226b (a0 : Nat) (K36 : zM → Option (Int32 × zM)) (rec226 : Int32 → zM → Option (Int32 × zM)) (x38 : Int32) (S39 : zM) : Option (Int32 × zM) :=
  if (1004 : Int32) ≤ x38 then K36 S39 else zChk (¬ (zr S39 a0 0) = 0) (zChk (¬ (zr S39 a0 49) = 0) (zChk (¬ (x38 < 0 ∨ zln S39 (zr S39 a0 49) ≤ (x38).toNatClampNeg)) (zChk (¬ (x38 < 0 ∨ zln S39 (zr S39 a0 0) ≤ (x38).toNatClampNeg)) (zLet (zpI S39 (zr S39 a0 0) (Int32.toNatClampNeg x38) (zi S39 (zr S39 a0 49) (Int32.toNatClampNeg x38))) (fun S48 => rec226 (x38 + (1 : Int32)) S48)))))
def f_X12_worlds_L226 (a0 : Nat) (K36 : zM → Option (Int32 × zM)) : Nat → Int32 → zM → Option (Int32 × zM)
  | 0 => fun _ _ => none
  | k + 1 => fun x38 S39 => f_X12_worlds_L226b a0 K36 (f_X12_worlds_L226 a0 K36 k) x38 S39
def f_X12_worlds_L163b (n : Nat) (a0 : Nat) (v1 : Int32) (K68 : zM → Option (Int32 × zM)) (rec163 : Int32 → zM → Option (Int32 × zM)) (x82 : Int32) (S83 : zM) : Option (Int32 × zM) :=
  zChk (¬ (zr S83 a0 0) = 0) (zChk (¬ ((1003 : Int32) < 0 ∨ zln S83 (zr S83 a0 0) ≤ ((1003 : Int32)).toNatClampNeg)) (if (zi S83 (zr S83 a0 0) (Int32.toNatClampNeg (1003 : Int32))) ≤ x82 then K68 S83 else zB1 (f_X12_get S83 a0 x82 (0 : Int32)) (fun r90 => if r90 = v1 then zB1 (f_X12_marksAs n S83 a0 x82) (fun S95 => rec163 (x82 + (1 : Int32)) S95) else rec163 (x82 + (1 : Int32)) S83)))
def f_X12_worlds_L163 (n : Nat) (a0 : Nat) (v1 : Int32) (K68 : zM → Option (Int32 × zM)) : Nat → Int32 → zM → Option (Int32 × zM)
  | 0 => fun _ _ => none
  | k + 1 => fun x82 S83 => f_X12_worlds_L163b n a0 v1 K68 (f_X12_worlds_L163 n a0 v1 K68 k) x82 S83
def f_X12_worlds_L87b (a0 : Nat) (v1 : Int32) (K64 : Int32 → zM → Option (Int32 × zM)) (rec87 : Int32 → Int32 → zM → Option (Int32 × zM)) (x101 : Int32) (x102 : Int32) (S103 : zM) : Option (Int32 × zM) :=
  zChk (¬ (zr S103 a0 0) = 0) (zChk (¬ ((1003 : Int32) < 0 ∨ zln S103 (zr S103 a0 0) ≤ ((1003 : Int32)).toNatClampNeg)) (if (zi S103 (zr S103 a0 0) (Int32.toNatClampNeg (1003 : Int32))) ≤ x102 then K64 x101 S103 else zB1 (f_X12_get S103 a0 x102 (0 : Int32)) (fun r110 => if r110 = v1 then zChk (¬ ((((112 : Int32) + ((19 : Int32) * x102)) + (2 : Int32)) < 0 ∨ zln S103 (zr S103 a0 0) ≤ ((((112 : Int32) + ((19 : Int32) * x102)) + (2 : Int32))).toNatClampNeg)) (zLet (zpI S103 (zr S103 a0 0) (Int32.toNatClampNeg (((112 : Int32) + ((19 : Int32) * x102)) + (2 : Int32))) (((((x101 * (1103515245 : Int32)) + (12345 : Int32)) &&& (2147483647 : Int32)) / (65536 : Int32)) - ((((x101 * (1103515245 : Int32)) + (12345 : Int32)) &&& (2147483647 : Int32)) / (65536 : Int32)) / (64 : Int32) * (64 : Int32))) (fun S116 => rec87 ((x101 * (1103515245 : Int32)) + (12345 : Int32)) (x102 + (1 : Int32)) S116)) else rec87 x101 (x102 + (1 : Int32)) S103)))
def f_X12_worlds_L87 (a0 : Nat) (v1 : Int32) (K64 : Int32 → zM → Option (Int32 × zM)) : Nat → Int32 → Int32 → zM → Option (Int32 × zM)
  | 0 => fun _ _ _ => none
  | k + 1 => fun x101 x102 S103 => f_X12_worlds_L87b a0 v1 K64 (f_X12_worlds_L87 a0 v1 K64 k) x101 x102 S103
def f_X12_worlds_L78b (n : Nat) (a0 : Nat) (v1 : Int32) (v2 : Int32) (K33 : Int32 → zM → Option (Int32 × zM)) (rec78 : Int32 → Int32 → Int32 → zM → Option (Int32 × zM)) (x54 : Int32) (x55 : Int32) (x56 : Int32) (S57 : zM) : Option (Int32 × zM) :=
  if v2 ≤ x56 then K33 x55 S57 else zLet (fun (x61 : Int32) (S62 : zM) => zLet (fun (S66 : zM) => zB2 (f_X12_isRight n S66 a0 v1) (fun r70 S71 => zLet (fun (x77 : Int32) => rec78 x61 (x55 + x77) (x56 + (1 : Int32)) S71) (fun K79 => if r70 = 0 then K79 (0 : Int32) else K79 (1 : Int32)))) (fun K68 => f_X12_worlds_L163 n a0 v1 K68 n (0 : Int32) S62)) (fun K64 => f_X12_worlds_L87 a0 v1 K64 n x54 (0 : Int32) S57)
def f_X12_worlds_L78 (n : Nat) (a0 : Nat) (v1 : Int32) (v2 : Int32) (K33 : Int32 → zM → Option (Int32 × zM)) : Nat → Int32 → Int32 → Int32 → zM → Option (Int32 × zM)
  | 0 => fun _ _ _ _ => none
  | k + 1 => fun x54 x55 x56 S57 => f_X12_worlds_L78b n a0 v1 v2 K33 (f_X12_worlds_L78 n a0 v1 v2 K33 k) x54 x55 x56 S57
def f_X12_worlds_L41b (a0 : Nat) (K28 : zM → Option (Int32 × zM)) (rec41 : Int32 → zM → Option (Int32 × zM)) (x122 : Int32) (S123 : zM) : Option (Int32 × zM) :=
  if (1004 : Int32) ≤ x122 then K28 S123 else zChk (¬ (zr S123 a0 49) = 0) (zChk (¬ (zr S123 a0 0) = 0) (zChk (¬ (x122 < 0 ∨ zln S123 (zr S123 a0 0) ≤ (x122).toNatClampNeg)) (zChk (¬ (x122 < 0 ∨ zln S123 (zr S123 a0 49) ≤ (x122).toNatClampNeg)) (zLet (zpI S123 (zr S123 a0 49) (Int32.toNatClampNeg x122) (zi S123 (zr S123 a0 0) (Int32.toNatClampNeg x122))) (fun S132 => rec41 (x122 + (1 : Int32)) S132)))))
def f_X12_worlds_L41 (a0 : Nat) (K28 : zM → Option (Int32 × zM)) : Nat → Int32 → zM → Option (Int32 × zM)
  | 0 => fun _ _ => none
  | k + 1 => fun x122 S123 => f_X12_worlds_L41b a0 K28 (f_X12_worlds_L41 a0 K28 k) x122 S123
def f_X12_worlds (n : Nat) (S0 : zM) (a0 : Nat) (v1 : Int32) (v2 : Int32) (v3 : Int32) : Option (Int32 × zM) :=
  zB1 (f_X12_isHall v1) (fun r2 => if r2 = 0 then some (((-1 : Int32), S0)) else zLet (f_X12_isIn (Int32.toInt64 v2) (1 : Int64) (30 : Int64)) (fun r7 => if r7 = 0 then some (((-1 : Int32), S0)) else zB1 (f_X12_asTold S0 a0) (fun S12 => zB2 (f_X12_wonNow n S12 a0 v1) (fun r18 S19 => if r18 = (-4 : Int32) then some (((-4 : Int32), S19)) else zLet (fun (S26 : zM) => zLet (fun (x30 : Int32) (S31 : zM) => zLet (fun (S34 : zM) => some ((x30, S34))) (fun K36 => f_X12_worlds_L226 a0 K36 n (0 : Int32) S31)) (fun K33 => f_X12_worlds_L78 n a0 v1 v2 K33 n v3 (0 : Int32) (0 : Int32) S26)) (fun K28 => f_X12_worlds_L41 a0 K28 n (0 : Int32) S19)))))
set_option maxHeartbeats 4000000 in
set_option maxRecDepth 100000 in
theorem c_X12_worlds (l : Launch) (D : va_G) (cy : Nat → ClassId) (B : Nat) {n : Nat} {S0 : zM} {a0 : Nat} {v1 : Int32} {v2 : Int32} {v3 : Int32} {r : Int32} {S' : zM} (ha0 : zA S0 a0 12) (h : f_X12_worlds n S0 a0 v1 v2 v3 = some (r, S')) : Met l yX12_worlds (zws yX12_worlds cX12_worlds 8 ((some .int))) { frames := 37, cells := 0, slots := 0, locals := 858 } (zPc D cy B S0 [.ref (B + a0), .int v1, .int v2, .int v3]) (zQi D cy B S0 r S') 0 0 (fun q => B < q) := by
  refine Met.ofW (cc := cX12_worlds) (maxL := 8) (ret := ((some .int))) (by decide) rfl ?_
  intro p e s m args below meth c s₁ Bd hml hv
  obtain ⟨rfl, hC, hM⟩ := hv
  obtain ⟨hx, hb, hr, hg, hown, hlk⟩ := z_open Bd
  have hK := hC.1
  have hS : va_S (fun q => B < q) s.heap s.heap [] := va_S.rf
  have hX0 : zX S0 S0 := zX.rf
  refine z_entry (vs := [.ref (B + a0), .int v1, .int v2, .int v3]) (Nat.le_of_ble_eq_true rfl) (fun ls hl => ?_)
  have hl : lv_has ls 8 [(0, .ref (B + a0)), (1, .int v1), (2, .int v2), (3, .int v3)] := hl
  unfold f_X12_worlds at h
  refine lv_iload_n hx hb dX12_worlds_0 rfl (lv_at hl 1 rfl) ?_
  obtain ⟨r2, hr1, h⟩ := zb1 h
  refine z_runi (va_runS (As := [.int v1]) (rest := []) ⟨hx, hb, hml, hown, hg⟩ (c_X12_isHall l D cy B hr1) (z_cwS hg zw_1125 zw_1126 zw_13 zw_1127 zh_X12_isHall.2 ⟨(Nat.le_of_ble_eq_true rfl), (Nat.le_of_ble_eq_true rfl)⟩) (zPS hC hM) rfl rfl hl.1 rfl (lv_room (Nat.le_of_ble_eq_true rfl)) dX12_worlds_1 ⟨(Nat.le_of_ble_eq_true rfl), (Nat.le_of_ble_eq_true rfl)⟩) hS (fun H locs hM hX3 hS => ?_)
  refine lv_if_eq (tgt := 19) hx hb dX12_worlds_4 (by decide) (fun hc5 => ?_) (fun hc5 => ?_)
  · have h := zt h hc5
    refine lv_iconst (v := (-1 : Int32)) hx hb dX12_worlds_19 (by decide +kernel) ?_
    exact z_iret hx hb hr hlk hM hX0 hS (zsp h) dX12_worlds_20
  · have h := zf h hc5
    refine lv_iload_n hx hb dX12_worlds_7 rfl (lv_at hl 2 rfl) ?_
    refine lv_i2l hx hb dX12_worlds_8 rfl ?_
    refine lv_lconst (v := (1 : Int64)) hx hb dX12_worlds_9 (by decide +kernel) ?_
    refine lv_ldc2 (v := (30 : Int64)) hx hb hown (hg _ zw_1398) dX12_worlds_10 ?_
    obtain ⟨r7, hr6, h⟩ := zlg h
    have hr6 := hr6.symm
    refine z_runi (va_runS (As := [.long (Int32.toInt64 v2), .long (1 : Int64), .long (30 : Int64)]) (rest := []) ⟨hx, hb, hml, hown, hg⟩ (c_X12_isIn l D cy B hr6) (z_cwS hg zw_1111 zw_1112 zw_13 zw_1113 zh_X12_isIn.2 ⟨(Nat.le_of_ble_eq_true rfl), (Nat.le_of_ble_eq_true rfl)⟩) (zPS hC hM) rfl rfl hl.1 rfl (lv_room (Nat.le_of_ble_eq_true rfl)) dX12_worlds_13 ⟨(Nat.le_of_ble_eq_true rfl), (Nat.le_of_ble_eq_true rfl)⟩) hS (fun H locs hM hX8 hS => ?_)
    refine lv_if_ne (tgt := 21) hx hb dX12_worlds_16 (by decide) (fun hc10 => ?_) (fun hc10 => ?_)
    · have h := zf h hc10
      refine lv_aload_n hx hb dX12_worlds_21 rfl (lv_at hl 0 rfl) ?_
      obtain ⟨S12, hr11, h⟩ := zb1 h
      refine z_runv (va_runV (As := []) (rest := []) ⟨hx, hb, hml, hown, hg⟩ (c_X12_asTold l D cy B ha0 hr11) (z_cwV hg zw_1264 zw_1265 zw_1506 zw_13 zw_1266 zh_X12_asTold ⟨(Nat.le_of_ble_eq_true rfl), (Nat.le_of_ble_eq_true rfl)⟩) (zPV hC hM ha0 (by decide) rfl) rfl rfl hl.1 rfl (lv_room (Nat.le_of_ble_eq_true rfl)) dX12_worlds_22 ⟨(Nat.le_of_ble_eq_true rfl), (Nat.le_of_ble_eq_true rfl)⟩) hS (fun H locs hM hX13 hS => ?_)
      have h15 := ha0.mo hX13
      have hX16 := hX0.tr hX13
      refine lv_aload_n hx hb dX12_worlds_25 rfl (lv_at hl 0 rfl) ?_
      refine lv_iload_n hx hb dX12_worlds_26 rfl (lv_at hl 1 rfl) ?_
      obtain ⟨r18, S19, hr17, h⟩ := zb2 h
      refine z_runi (va_runV (As := [.int v1]) (rest := []) ⟨hx, hb, hml, hown, hg⟩ (c_X12_wonNow l D cy B h15 hr17) (z_cwV hg zw_1307 zw_1308 zw_1516 zw_13 zw_1309 zh_X12_wonNow ⟨(Nat.le_of_ble_eq_true rfl), (Nat.le_of_ble_eq_true rfl)⟩) (zPV hC hM h15 (by decide) rfl) rfl rfl hl.1 rfl (lv_room (Nat.le_of_ble_eq_true rfl)) dX12_worlds_27 ⟨(Nat.le_of_ble_eq_true rfl), (Nat.le_of_ble_eq_true rfl)⟩) hS (fun H locs hM hX20 hS => ?_)
      have h22 := h15.mo hX20
      have hX23 := hX16.tr hX20
      refine lv_bipush (v := (-4 : Int32)) hx hb dX12_worlds_30 (by decide +kernel) ?_
      refine lv_icmp_ne (tgt := 38) hx hb dX12_worlds_32 (by decide) (fun hc24 => ?_) (fun hc24 => ?_)
      · have h := zf h hc24
        refine lv_iconst (v := (0 : Int32)) hx hb dX12_worlds_38 (by decide +kernel) ?_
        refine lv_istore (i := 4) (lv' := [(4, .int (0 : Int32)), (0, .ref (B + a0)), (1, .int v1), (2, .int v2), (3, .int v3)]) hx hb dX12_worlds_39 hl (by decide) rfl (fun ls hl => ?_)
        obtain ⟨K28, eK28, h⟩ := zlg h
        have hK28 : ∀ (S26 : zM) (H : Heap) (locs : List Loc), zMR D cy B S26 H → zX S0 S26 → va_S (fun q => B < q) s.heap H locs → zA S26 a0 12 → ∀ ls : Array Slot, lv_has ls 8 [(0, .ref (B + a0)), (1, .int v1), (2, .int v2), (3, .int v3)] → K28 S26 = some (r, S') → W p l e (headSpec (zws yX12_worlds cX12_worlds 8 ((some .int))) { frames := 37, cells := 0, slots := 0, locals := 858 }).room s m (([.ref (B + a0), .int v1, .int v2, .int v3] : List Value).toArray) below meth c H locs 0 0 (MQ below (zQi D cy B S0 r S') (([.ref (B + a0), .int v1, .int v2, .int v3] : List Value).toArray) s 0 0 (fun q => B < q)) (F0 m 69 ls []) := by
          intro S26 H locs hM hX27 hS h25 ls hl h
          rw [eK28] at h
          refine lv_iload_n hx hb dX12_worlds_69 rfl (lv_at hl 3 rfl) ?_
          refine lv_istore (i := 4) (lv' := [(4, .int v3), (0, .ref (B + a0)), (1, .int v1), (2, .int v2), (3, .int v3)]) hx hb dX12_worlds_70 hl (by decide) rfl (fun ls hl => ?_)
          refine lv_iconst (v := (0 : Int32)) hx hb dX12_worlds_72 (by decide +kernel) ?_
          refine lv_istore (i := 5) (lv' := [(5, .int (0 : Int32)), (4, .int v3), (0, .ref (B + a0)), (1, .int v1), (2, .int v2), (3, .int v3)]) hx hb dX12_worlds_73 hl (by decide) rfl (fun ls hl => ?_)
          refine lv_iconst (v := (0 : Int32)) hx hb dX12_worlds_75 (by decide +kernel) ?_
          refine lv_istore (i := 6) (lv' := [(6, .int (0 : Int32)), (5, .int (0 : Int32)), (4, .int v3), (0, .ref (B + a0)), (1, .int v1), (2, .int v2), (3, .int v3)]) hx hb dX12_worlds_76 hl (by decide) rfl (fun ls hl => ?_)
          obtain ⟨K33, eK33, h⟩ := zlg h
          have hK33 : ∀ (x30 : Int32) (S31 : zM) (H : Heap) (locs : List Loc), zMR D cy B S31 H → zX S0 S31 → va_S (fun q => B < q) s.heap H locs → zA S31 a0 12 → ∀ ls : Array Slot, lv_has ls 8 [(0, .ref (B + a0)), (5, .int x30)] → K33 x30 S31 = some (r, S') → W p l e (headSpec (zws yX12_worlds cX12_worlds 8 ((some .int))) { frames := 37, cells := 0, slots := 0, locals := 858 }).room s m (([.ref (B + a0), .int v1, .int v2, .int v3] : List Value).toArray) below meth c H locs 0 0 (MQ below (zQi D cy B S0 r S') (([.ref (B + a0), .int v1, .int v2, .int v3] : List Value).toArray) s 0 0 (fun q => B < q)) (F0 m 223 ls []) := by
            intro x30 S31 H locs hM hX32 hS h29 ls hl h
            rw [eK33] at h
            refine lv_iconst (v := (0 : Int32)) hx hb dX12_worlds_223 (by decide +kernel) ?_
            refine lv_istore (i := 6) (lv' := [(6, .int (0 : Int32)), (0, .ref (B + a0)), (5, .int x30)]) hx hb dX12_worlds_224 hl (by decide) rfl (fun ls hl => ?_)
            obtain ⟨K36, eK36, h⟩ := zlg h
            have hK36 : ∀ (S34 : zM) (H : Heap) (locs : List Loc), zMR D cy B S34 H → zX S0 S34 → va_S (fun q => B < q) s.heap H locs → ∀ ls : Array Slot, lv_has ls 8 [(5, .int x30)] → K36 S34 = some (r, S') → W p l e (headSpec (zws yX12_worlds cX12_worlds 8 ((some .int))) { frames := 37, cells := 0, slots := 0, locals := 858 }).room s m (([.ref (B + a0), .int v1, .int v2, .int v3] : List Value).toArray) below meth c H locs 0 0 (MQ below (zQi D cy B S0 r S') (([.ref (B + a0), .int v1, .int v2, .int v3] : List Value).toArray) s 0 0 (fun q => B < q)) (F0 m 254 ls []) := by
              intro S34 H locs hM hX35 hS ls hl h
              rw [eK36] at h
              refine lv_iload hx hb dX12_worlds_254 (lv_at hl 0 rfl) ?_
              exact z_iret hx hb hr hlk hM hX35 hS (zsp h) dX12_worlds_256
            have hL226 : ∀ (k : Nat) (x38 : Int32) (S39 : zM) (H : Heap) (locs : List Loc), zMR D cy B S39 H → zX S0 S39 → va_S (fun q => B < q) s.heap H locs → zA S39 a0 12 → ∀ ls : Array Slot, lv_has ls 8 [(0, .ref (B + a0)), (5, .int x30), (6, .int x38)] → f_X12_worlds_L226 a0 K36 k x38 S39 = some (r, S') → W p l e (headSpec (zws yX12_worlds cX12_worlds 8 ((some .int))) { frames := 37, cells := 0, slots := 0, locals := 858 }).room s m (([.ref (B + a0), .int v1, .int v2, .int v3] : List Value).toArray) below meth c H locs 0 0 (MQ below (zQi D cy B S0 r S') (([.ref (B + a0), .int v1, .int v2, .int v3] : List Value).toArray) s 0 0 (fun q => B < q)) (F0 m 226 ls []) := by
              intro k
              induction k with
              | zero =>
                intro x38 S39 H locs hM hX40 hS h37 ls hl h
                exact znone h
              | succ k ih226 =>
                intro x38 S39 H locs hM hX40 hS h37 ls hl h
                replace h : f_X12_worlds_L226b a0 K36 (f_X12_worlds_L226 a0 K36 k) x38 S39 = some (r, S') := h
                generalize f_X12_worlds_L226 a0 K36 k = rec226 at ih226 h
                unfold f_X12_worlds_L226b at h
                refine lv_iload hx hb dX12_worlds_226 (lv_at hl 2 rfl) ?_
                refine lv_sipush (v := (1004 : Int32)) hx hb dX12_worlds_228 (by decide +kernel) ?_
                refine lv_icmp_ge (tgt := 254) hx hb dX12_worlds_231 (by decide) (fun hc41 => ?_) (fun hc41 => ?_)
                · have h := zt h hc41
                  exact hK36 S39 _ _ hM hX40 hS _ (lv_sub hl [1] rfl) h
                · have h := zf h hc41
                  refine lv_aload_n hx hb dX12_worlds_234 rfl (lv_at hl 0 rfl) ?_
                  obtain ⟨hq43, h⟩ := zk h
                  refine z_getN hx hb hg zin_12 hown hK hM h37 0 rfl (by decide) (hg _ zw_1000) (fun _ h9 => h9) hq43 dX12_worlds_235 (fun h42 => ?_)
                  refine lv_iload hx hb dX12_worlds_238 (lv_at hl 2 rfl) ?_
                  refine lv_aload_n hx hb dX12_worlds_240 rfl (lv_at hl 0 rfl) ?_
                  obtain ⟨hq45, h⟩ := zk h
                  refine z_getN hx hb hg zin_12 hown hK hM h37 49 rfl (by decide) (hg _ zw_1049) (fun _ h9 => h9) hq45 dX12_worlds_241 (fun h44 => ?_)
                  refine lv_iload hx hb dX12_worlds_244 (lv_at hl 2 rfl) ?_
                  obtain ⟨hq46, h⟩ := zk h
                  refine z_iald hx hb hK hM h44 hq46 dX12_worlds_246 ?_
                  obtain ⟨hq47, h⟩ := zk h
                  refine z_iast hx hb hK hM hS h42 hq47 dX12_worlds_247 (fun H locs hM hS => ?_)
                  obtain ⟨S48, e49, h⟩ := zlg h
                  rw [← e49] at hM
                  have hX50 : zX S39 S48 := by rw [e49]; exact zX_pI
                  have h51 := h37.mo hX50
                  have hX52 := hX40.tr hX50
                  refine lv_iinc (v := (x38 + (1 : Int32))) (lv' := [(6, .int (x38 + (1 : Int32))), (0, .ref (B + a0)), (5, .int x30)]) hx hb dX12_worlds_248 hl (k := 2) rfl rfl (by decide) rfl (fun ls hl => ?_)
                  refine lv_goto (tgt := 226) hx hb dX12_worlds_251 (by decide) ?_
                  exact ih226 (x38 + (1 : Int32)) S48 _ _ hM hX52 hS h51 _ (lv_sub hl [1, 2, 0] rfl) h
            exact hL226 n (0 : Int32) S31 _ _ hM hX32 hS h29 _ (lv_sub hl [1, 2, 0] rfl) h
          have hL78 : ∀ (k : Nat) (x54 : Int32) (x55 : Int32) (x56 : Int32) (S57 : zM) (H : Heap) (locs : List Loc), zMR D cy B S57 H → zX S0 S57 → va_S (fun q => B < q) s.heap H locs → zA S57 a0 12 → ∀ ls : Array Slot, lv_has ls 8 [(0, .ref (B + a0)), (1, .int v1), (2, .int v2), (4, .int x54), (5, .int x55), (6, .int x56)] → f_X12_worlds_L78 n a0 v1 v2 K33 k x54 x55 x56 S57 = some (r, S') → W p l e (headSpec (zws yX12_worlds cX12_worlds 8 ((some .int))) { frames := 37, cells := 0, slots := 0, locals := 858 }).room s m (([.ref (B + a0), .int v1, .int v2, .int v3] : List Value).toArray) below meth c H locs 0 0 (MQ below (zQi D cy B S0 r S') (([.ref (B + a0), .int v1, .int v2, .int v3] : List Value).toArray) s 0 0 (fun q => B < q)) (F0 m 78 ls []) := by
            intro k
            induction k with
            | zero =>
              intro x54 x55 x56 S57 H locs hM hX58 hS h53 ls hl h
              exact znone h
            | succ k ih78 =>
              intro x54 x55 x56 S57 H locs hM hX58 hS h53 ls hl h
              replace h : f_X12_worlds_L78b n a0 v1 v2 K33 (f_X12_worlds_L78 n a0 v1 v2 K33 k) x54 x55 x56 S57 = some (r, S') := h
              generalize f_X12_worlds_L78 n a0 v1 v2 K33 k = rec78 at ih78 h
              unfold f_X12_worlds_L78b at h
              refine lv_iload hx hb dX12_worlds_78 (lv_at hl 5 rfl) ?_
              refine lv_iload_n hx hb dX12_worlds_80 rfl (lv_at hl 2 rfl) ?_
              refine lv_icmp_ge (tgt := 223) hx hb dX12_worlds_81 (by decide) (fun hc59 => ?_) (fun hc59 => ?_)
              · have h := zt h hc59
                exact hK33 x55 S57 _ _ hM hX58 hS h53 _ (lv_sub hl [0, 4] rfl) h
              · have h := zf h hc59
                refine lv_iconst (v := (0 : Int32)) hx hb dX12_worlds_84 (by decide +kernel) ?_
                refine lv_istore (i := 7) (lv' := [(7, .int (0 : Int32)), (0, .ref (B + a0)), (1, .int v1), (2, .int v2), (4, .int x54), (5, .int x55), (6, .int x56)]) hx hb dX12_worlds_85 hl (by decide) rfl (fun ls hl => ?_)
                obtain ⟨K64, eK64, h⟩ := zlg h
                have hK64 : ∀ (x61 : Int32) (S62 : zM) (H : Heap) (locs : List Loc), zMR D cy B S62 H → zX S0 S62 → va_S (fun q => B < q) s.heap H locs → zA S62 a0 12 → ∀ ls : Array Slot, lv_has ls 8 [(0, .ref (B + a0)), (1, .int v1), (2, .int v2), (4, .int x61), (5, .int x55), (6, .int x56)] → K64 x61 S62 = some (r, S') → W p l e (headSpec (zws yX12_worlds cX12_worlds 8 ((some .int))) { frames := 37, cells := 0, slots := 0, locals := 858 }).room s m (([.ref (B + a0), .int v1, .int v2, .int v3] : List Value).toArray) below meth c H locs 0 0 (MQ below (zQi D cy B S0 r S') (([.ref (B + a0), .int v1, .int v2, .int v3] : List Value).toArray) s 0 0 (fun q => B < q)) (F0 m 160 ls []) := by
                  intro x61 S62 H locs hM hX63 hS h60 ls hl h
                  rw [eK64] at h
                  refine lv_iconst (v := (0 : Int32)) hx hb dX12_worlds_160 (by decide +kernel) ?_
                  refine lv_istore (i := 7) (lv' := [(7, .int (0 : Int32)), (0, .ref (B + a0)), (1, .int v1), (2, .int v2), (4, .int x61), (5, .int x55), (6, .int x56)]) hx hb dX12_worlds_161 hl (by decide) rfl (fun ls hl => ?_)
                  obtain ⟨K68, eK68, h⟩ := zlg h
                  have hK68 : ∀ (S66 : zM) (H : Heap) (locs : List Loc), zMR D cy B S66 H → zX S0 S66 → va_S (fun q => B < q) s.heap H locs → zA S66 a0 12 → ∀ ls : Array Slot, lv_has ls 8 [(0, .ref (B + a0)), (1, .int v1), (2, .int v2), (4, .int x61), (5, .int x55), (6, .int x56)] → K68 S66 = some (r, S') → W p l e (headSpec (zws yX12_worlds cX12_worlds 8 ((some .int))) { frames := 37, cells := 0, slots := 0, locals := 858 }).room s m (([.ref (B + a0), .int v1, .int v2, .int v3] : List Value).toArray) below meth c H locs 0 0 (MQ below (zQi D cy B S0 r S') (([.ref (B + a0), .int v1, .int v2, .int v3] : List Value).toArray) s 0 0 (fun q => B < q)) (F0 m 199 ls []) := by
                    intro S66 H locs hM hX67 hS h65 ls hl h
                    rw [eK68] at h
                    refine lv_iload hx hb dX12_worlds_199 (lv_at hl 4 rfl) ?_
                    refine lv_aload_n hx hb dX12_worlds_201 rfl (lv_at hl 0 rfl) ?_
                    refine lv_iload_n hx hb dX12_worlds_202 rfl (lv_at hl 1 rfl) ?_
                    obtain ⟨r70, S71, hr69, h⟩ := zb2 h
                    refine z_runi (va_runV (As := [.int v1]) (rest := [.int x55]) ⟨hx, hb, hml, hown, hg⟩ (c_X12_isRight l D cy B h65 hr69) (z_cwV hg zw_1402 zw_1403 zw_1528 zw_13 zw_1404 zh_X12_isRight ⟨(Nat.le_of_ble_eq_true rfl), (Nat.le_of_ble_eq_true rfl)⟩) (zPV hC hM h65 (by decide) rfl) rfl rfl hl.1 rfl (lv_room (Nat.le_of_ble_eq_true rfl)) dX12_worlds_203 ⟨(Nat.le_of_ble_eq_true rfl), (Nat.le_of_ble_eq_true rfl)⟩) hS (fun H locs hM hX72 hS => ?_)
                    have h74 := h65.mo hX72
                    have hX75 := hX67.tr hX72
                    obtain ⟨K79, eK79, h⟩ := zlg h
                    have hK79 : ∀ (x77 : Int32) (H : Heap) (locs : List Loc), zMR D cy B S71 H → zX S0 S71 → va_S (fun q => B < q) s.heap H locs → zA S71 a0 12 → ∀ ls : Array Slot, lv_has ls 8 [(0, .ref (B + a0)), (1, .int v1), (2, .int v2), (4, .int x61), (6, .int x56)] → K79 x77 = some (r, S') → W p l e (headSpec (zws yX12_worlds cX12_worlds 8 ((some .int))) { frames := 37, cells := 0, slots := 0, locals := 858 }).room s m (([.ref (B + a0), .int v1, .int v2, .int v3] : List Value).toArray) below meth c H locs 0 0 (MQ below (zQi D cy B S0 r S') (([.ref (B + a0), .int v1, .int v2, .int v3] : List Value).toArray) s 0 0 (fun q => B < q)) (F0 m 214 ls [.int x77, .int x55]) := by
                      intro x77 H locs hM hX78 hS h76 ls hl h
                      rw [eK79] at h
                      refine lv_iadd hx hb dX12_worlds_214 ?_
                      refine lv_istore (i := 5) (lv' := [(5, .int (x55 + x77)), (0, .ref (B + a0)), (1, .int v1), (2, .int v2), (4, .int x61), (6, .int x56)]) hx hb dX12_worlds_215 hl (by decide) rfl (fun ls hl => ?_)
                      refine lv_iinc (v := (x56 + (1 : Int32))) (lv' := [(6, .int (x56 + (1 : Int32))), (5, .int (x55 + x77)), (0, .ref (B + a0)), (1, .int v1), (2, .int v2), (4, .int x61)]) hx hb dX12_worlds_217 hl (k := 5) rfl rfl (by decide) rfl (fun ls hl => ?_)
                      refine lv_goto (tgt := 78) hx hb dX12_worlds_220 (by decide) ?_
                      exact ih78 x61 (x55 + x77) (x56 + (1 : Int32)) S71 _ _ hM hX78 hS h76 _ (lv_sub hl [2, 3, 4, 5, 1, 0] rfl) h
                    refine lv_if_eq (tgt := 213) hx hb dX12_worlds_206 (by decide) (fun hc80 => ?_) (fun hc80 => ?_)
                    · have h := zt h hc80
                      refine lv_iconst (v := (0 : Int32)) hx hb dX12_worlds_213 (by decide +kernel) ?_
                      exact hK79 (0 : Int32) _ _ hM hX75 hS h74 _ (lv_sub hl [0, 1, 2, 3, 5] rfl) h
                    · have h := zf h hc80
                      refine lv_iconst (v := (1 : Int32)) hx hb dX12_worlds_209 (by decide +kernel) ?_
                      refine lv_goto (tgt := 214) hx hb dX12_worlds_210 (by decide) ?_
                      exact hK79 (1 : Int32) _ _ hM hX75 hS h74 _ (lv_sub hl [0, 1, 2, 3, 5] rfl) h
                  have hL163 : ∀ (k : Nat) (x82 : Int32) (S83 : zM) (H : Heap) (locs : List Loc), zMR D cy B S83 H → zX S0 S83 → va_S (fun q => B < q) s.heap H locs → zA S83 a0 12 → ∀ ls : Array Slot, lv_has ls 8 [(0, .ref (B + a0)), (1, .int v1), (2, .int v2), (4, .int x61), (5, .int x55), (6, .int x56), (7, .int x82)] → f_X12_worlds_L163 n a0 v1 K68 k x82 S83 = some (r, S') → W p l e (headSpec (zws yX12_worlds cX12_worlds 8 ((some .int))) { frames := 37, cells := 0, slots := 0, locals := 858 }).room s m (([.ref (B + a0), .int v1, .int v2, .int v3] : List Value).toArray) below meth c H locs 0 0 (MQ below (zQi D cy B S0 r S') (([.ref (B + a0), .int v1, .int v2, .int v3] : List Value).toArray) s 0 0 (fun q => B < q)) (F0 m 163 ls []) := by
                    intro k
                    induction k with
                    | zero =>
                      intro x82 S83 H locs hM hX84 hS h81 ls hl h
                      exact znone h
                    | succ k ih163 =>
                      intro x82 S83 H locs hM hX84 hS h81 ls hl h
                      replace h : f_X12_worlds_L163b n a0 v1 K68 (f_X12_worlds_L163 n a0 v1 K68 k) x82 S83 = some (r, S') := h
                      generalize f_X12_worlds_L163 n a0 v1 K68 k = rec163 at ih163 h
                      unfold f_X12_worlds_L163b at h
                      refine lv_iload hx hb dX12_worlds_163 (lv_at hl 6 rfl) ?_
                      refine lv_aload_n hx hb dX12_worlds_165 rfl (lv_at hl 0 rfl) ?_
                      obtain ⟨hq86, h⟩ := zk h
                      refine z_getN hx hb hg zin_12 hown hK hM h81 0 rfl (by decide) (hg _ zw_1000) (fun _ h9 => h9) hq86 dX12_worlds_166 (fun h85 => ?_)
                      refine lv_sipush (v := (1003 : Int32)) hx hb dX12_worlds_169 (by decide +kernel) ?_
                      obtain ⟨hq87, h⟩ := zk h
                      refine z_iald hx hb hK hM h85 hq87 dX12_worlds_172 ?_
                      refine lv_icmp_ge (tgt := 199) hx hb dX12_worlds_173 (by decide) (fun hc88 => ?_) (fun hc88 => ?_)
                      · have h := zt h hc88
                        exact hK68 S83 _ _ hM hX84 hS h81 _ (lv_sub hl [0, 1, 2, 3, 4, 5] rfl) h
                      · have h := zf h hc88
                        refine lv_aload_n hx hb dX12_worlds_176 rfl (lv_at hl 0 rfl) ?_
                        refine lv_iload hx hb dX12_worlds_177 (lv_at hl 6 rfl) ?_
                        refine lv_iconst (v := (0 : Int32)) hx hb dX12_worlds_179 (by decide +kernel) ?_
                        obtain ⟨r90, hr89, h⟩ := zb1 h
                        refine z_runi (va_runV (As := [.int x82, .int (0 : Int32)]) (rest := []) ⟨hx, hb, hml, hown, hg⟩ (c_X12_get l D cy B h81 hr89) (z_cwV hg zw_1163 zw_1164 zw_1487 zw_13 zw_1165 zh_X12_get ⟨(Nat.le_of_ble_eq_true rfl), (Nat.le_of_ble_eq_true rfl)⟩) (zPV hC hM h81 (by decide) rfl) rfl rfl hl.1 rfl (lv_room (Nat.le_of_ble_eq_true rfl)) dX12_worlds_180 ⟨(Nat.le_of_ble_eq_true rfl), (Nat.le_of_ble_eq_true rfl)⟩) hS (fun H locs hM hX91 hS => ?_)
                        refine lv_iload_n hx hb dX12_worlds_183 rfl (lv_at hl 1 rfl) ?_
                        refine lv_icmp_ne (tgt := 193) hx hb dX12_worlds_184 (by decide) (fun hc93 => ?_) (fun hc93 => ?_)
                        · have h := zf h hc93
                          refine lv_iinc (v := (x82 + (1 : Int32))) (lv' := [(7, .int (x82 + (1 : Int32))), (0, .ref (B + a0)), (1, .int v1), (2, .int v2), (4, .int x61), (5, .int x55), (6, .int x56)]) hx hb dX12_worlds_193 hl (k := 6) rfl rfl (by decide) rfl (fun ls hl => ?_)
                          refine lv_goto (tgt := 163) hx hb dX12_worlds_196 (by decide) ?_
                          exact ih163 (x82 + (1 : Int32)) S83 _ _ hM hX84 hS h81 _ (lv_sub hl [1, 2, 3, 4, 5, 6, 0] rfl) h
                        · have h := zt h hc93
                          refine lv_aload_n hx hb dX12_worlds_187 rfl (lv_at hl 0 rfl) ?_
                          refine lv_iload hx hb dX12_worlds_188 (lv_at hl 6 rfl) ?_
                          obtain ⟨S95, hr94, h⟩ := zb1 h
                          refine z_runv (va_runV (As := [.int x82]) (rest := []) ⟨hx, hb, hml, hown, hg⟩ (c_X12_marksAs l D cy B h81 hr94) (z_cwV hg zw_1205 zw_1206 zw_1495 zw_13 zw_1207 zh_X12_marksAs ⟨(Nat.le_of_ble_eq_true rfl), (Nat.le_of_ble_eq_true rfl)⟩) (zPV hC hM h81 (by decide) rfl) rfl rfl hl.1 rfl (lv_room (Nat.le_of_ble_eq_true rfl)) dX12_worlds_190 ⟨(Nat.le_of_ble_eq_true rfl), (Nat.le_of_ble_eq_true rfl)⟩) hS (fun H locs hM hX96 hS => ?_)
                          have h98 := h81.mo hX96
                          have hX99 := hX84.tr hX96
                          refine lv_iinc (v := (x82 + (1 : Int32))) (lv' := [(7, .int (x82 + (1 : Int32))), (0, .ref (B + a0)), (1, .int v1), (2, .int v2), (4, .int x61), (5, .int x55), (6, .int x56)]) hx hb dX12_worlds_193 hl (k := 6) rfl rfl (by decide) rfl (fun ls hl => ?_)
                          refine lv_goto (tgt := 163) hx hb dX12_worlds_196 (by decide) ?_
                          exact ih163 (x82 + (1 : Int32)) S95 _ _ hM hX99 hS h98 _ (lv_sub hl [1, 2, 3, 4, 5, 6, 0] rfl) h
                  exact hL163 n (0 : Int32) S62 _ _ hM hX63 hS h60 _ (lv_sub hl [1, 2, 3, 4, 5, 6, 0] rfl) h
                have hL87 : ∀ (k : Nat) (x101 : Int32) (x102 : Int32) (S103 : zM) (H : Heap) (locs : List Loc), zMR D cy B S103 H → zX S0 S103 → va_S (fun q => B < q) s.heap H locs → zA S103 a0 12 → ∀ ls : Array Slot, lv_has ls 8 [(0, .ref (B + a0)), (1, .int v1), (2, .int v2), (4, .int x101), (5, .int x55), (6, .int x56), (7, .int x102)] → f_X12_worlds_L87 a0 v1 K64 k x101 x102 S103 = some (r, S') → W p l e (headSpec (zws yX12_worlds cX12_worlds 8 ((some .int))) { frames := 37, cells := 0, slots := 0, locals := 858 }).room s m (([.ref (B + a0), .int v1, .int v2, .int v3] : List Value).toArray) below meth c H locs 0 0 (MQ below (zQi D cy B S0 r S') (([.ref (B + a0), .int v1, .int v2, .int v3] : List Value).toArray) s 0 0 (fun q => B < q)) (F0 m 87 ls []) := by
                  intro k
                  induction k with
                  | zero =>
                    intro x101 x102 S103 H locs hM hX104 hS h100 ls hl h
                    exact znone h
                  | succ k ih87 =>
                    intro x101 x102 S103 H locs hM hX104 hS h100 ls hl h
                    replace h : f_X12_worlds_L87b a0 v1 K64 (f_X12_worlds_L87 a0 v1 K64 k) x101 x102 S103 = some (r, S') := h
                    generalize f_X12_worlds_L87 a0 v1 K64 k = rec87 at ih87 h
                    unfold f_X12_worlds_L87b at h
                    refine lv_iload hx hb dX12_worlds_87 (lv_at hl 6 rfl) ?_
                    refine lv_aload_n hx hb dX12_worlds_89 rfl (lv_at hl 0 rfl) ?_
                    obtain ⟨hq106, h⟩ := zk h
                    refine z_getN hx hb hg zin_12 hown hK hM h100 0 rfl (by decide) (hg _ zw_1000) (fun _ h9 => h9) hq106 dX12_worlds_90 (fun h105 => ?_)
                    refine lv_sipush (v := (1003 : Int32)) hx hb dX12_worlds_93 (by decide +kernel) ?_
                    obtain ⟨hq107, h⟩ := zk h
                    refine z_iald hx hb hK hM h105 hq107 dX12_worlds_96 ?_
                    refine lv_icmp_ge (tgt := 160) hx hb dX12_worlds_97 (by decide) (fun hc108 => ?_) (fun hc108 => ?_)
                    · have h := zt h hc108
                      exact hK64 x101 S103 _ _ hM hX104 hS h100 _ (lv_sub hl [0, 1, 2, 3, 4, 5] rfl) h
                    · have h := zf h hc108
                      refine lv_aload_n hx hb dX12_worlds_100 rfl (lv_at hl 0 rfl) ?_
                      refine lv_iload hx hb dX12_worlds_101 (lv_at hl 6 rfl) ?_
                      refine lv_iconst (v := (0 : Int32)) hx hb dX12_worlds_103 (by decide +kernel) ?_
                      obtain ⟨r110, hr109, h⟩ := zb1 h
                      refine z_runi (va_runV (As := [.int x102, .int (0 : Int32)]) (rest := []) ⟨hx, hb, hml, hown, hg⟩ (c_X12_get l D cy B h100 hr109) (z_cwV hg zw_1163 zw_1164 zw_1487 zw_13 zw_1165 zh_X12_get ⟨(Nat.le_of_ble_eq_true rfl), (Nat.le_of_ble_eq_true rfl)⟩) (zPV hC hM h100 (by decide) rfl) rfl rfl hl.1 rfl (lv_room (Nat.le_of_ble_eq_true rfl)) dX12_worlds_104 ⟨(Nat.le_of_ble_eq_true rfl), (Nat.le_of_ble_eq_true rfl)⟩) hS (fun H locs hM hX111 hS => ?_)
                      refine lv_iload_n hx hb dX12_worlds_107 rfl (lv_at hl 1 rfl) ?_
                      refine lv_icmp_eq (tgt := 114) hx hb dX12_worlds_108 (by decide) (fun hc113 => ?_) (fun hc113 => ?_)
                      · have h := zt h hc113
                        refine lv_iload hx hb dX12_worlds_114 (lv_at hl 3 rfl) ?_
                        refine lv_ldcw (v := (1103515245 : Int32)) hx hb hown (hg _ zw_1399) dX12_worlds_116 ?_
                        refine lv_imul hx hb dX12_worlds_119 ?_
                        refine lv_sipush (v := (12345 : Int32)) hx hb dX12_worlds_120 (by decide +kernel) ?_
                        refine lv_iadd hx hb dX12_worlds_123 ?_
                        refine lv_istore (i := 4) (lv' := [(4, .int ((x101 * (1103515245 : Int32)) + (12345 : Int32))), (0, .ref (B + a0)), (1, .int v1), (2, .int v2), (5, .int x55), (6, .int x56), (7, .int x102)]) hx hb dX12_worlds_124 hl (by decide) rfl (fun ls hl => ?_)
                        refine lv_aload_n hx hb dX12_worlds_126 rfl (lv_at hl 1 rfl) ?_
                        refine z_getN hx hb hg zin_12 hown hK hM h100 0 rfl (by decide) (hg _ zw_1000) (fun _ h9 => h9) h105.ne dX12_worlds_127 (fun h114 => ?_)
                        refine lv_bipush (v := (112 : Int32)) hx hb dX12_worlds_130 (by decide +kernel) ?_
                        refine lv_bipush (v := (19 : Int32)) hx hb dX12_worlds_132 (by decide +kernel) ?_
                        refine lv_iload hx hb dX12_worlds_134 (lv_at hl 6 rfl) ?_
                        refine lv_imul hx hb dX12_worlds_136 ?_
                        refine lv_iadd hx hb dX12_worlds_137 ?_
                        refine lv_iconst (v := (2 : Int32)) hx hb dX12_worlds_138 (by decide +kernel) ?_
                        refine lv_iadd hx hb dX12_worlds_139 ?_
                        refine lv_iload hx hb dX12_worlds_140 (lv_at hl 0 rfl) ?_
                        refine lv_ldcw (v := (2147483647 : Int32)) hx hb hown (hg _ zw_1400) dX12_worlds_142 ?_
                        refine lv_iand hx hb dX12_worlds_145 ?_
                        refine lv_ldcw (v := (65536 : Int32)) hx hb hown (hg _ zw_1401) dX12_worlds_146 ?_
                        refine lv_idiv hx hb dX12_worlds_149 (by decide +kernel) ?_
                        refine lv_bipush (v := (64 : Int32)) hx hb dX12_worlds_150 (by decide +kernel) ?_
                        refine lv_irem hx hb dX12_worlds_152 (by decide +kernel) ?_
                        obtain ⟨hq115, h⟩ := zk h
                        refine z_iast hx hb hK hM hS h114 hq115 dX12_worlds_153 (fun H locs hM hS => ?_)
                        obtain ⟨S116, e117, h⟩ := zlg h
                        rw [← e117] at hM
                        have hX118 : zX S103 S116 := by rw [e117]; exact zX_pI
                        have h119 := h100.mo hX118
                        have hX120 := hX104.tr hX118
                        refine lv_iinc (v := (x102 + (1 : Int32))) (lv' := [(7, .int (x102 + (1 : Int32))), (4, .int ((x101 * (1103515245 : Int32)) + (12345 : Int32))), (0, .ref (B + a0)), (1, .int v1), (2, .int v2), (5, .int x55), (6, .int x56)]) hx hb dX12_worlds_154 hl (k := 6) rfl rfl (by decide) rfl (fun ls hl => ?_)
                        refine lv_goto (tgt := 87) hx hb dX12_worlds_157 (by decide) ?_
                        exact ih87 ((x101 * (1103515245 : Int32)) + (12345 : Int32)) (x102 + (1 : Int32)) S116 _ _ hM hX120 hS h119 _ (lv_sub hl [2, 3, 4, 1, 5, 6, 0] rfl) h
                      · have h := zf h hc113
                        refine lv_goto (tgt := 154) hx hb dX12_worlds_111 (by decide) ?_
                        refine lv_iinc (v := (x102 + (1 : Int32))) (lv' := [(7, .int (x102 + (1 : Int32))), (0, .ref (B + a0)), (1, .int v1), (2, .int v2), (4, .int x101), (5, .int x55), (6, .int x56)]) hx hb dX12_worlds_154 hl (k := 6) rfl rfl (by decide) rfl (fun ls hl => ?_)
                        refine lv_goto (tgt := 87) hx hb dX12_worlds_157 (by decide) ?_
                        exact ih87 x101 (x102 + (1 : Int32)) S103 _ _ hM hX104 hS h100 _ (lv_sub hl [1, 2, 3, 4, 5, 6, 0] rfl) h
                exact hL87 n x54 (0 : Int32) S57 _ _ hM hX58 hS h53 _ (lv_sub hl [1, 2, 3, 4, 5, 6, 0] rfl) h
          exact hL78 n v3 (0 : Int32) (0 : Int32) S26 _ _ hM hX27 hS h25 _ (lv_sub hl [3, 4, 5, 2, 1, 0] rfl) h
        have hL41 : ∀ (k : Nat) (x122 : Int32) (S123 : zM) (H : Heap) (locs : List Loc), zMR D cy B S123 H → zX S0 S123 → va_S (fun q => B < q) s.heap H locs → zA S123 a0 12 → ∀ ls : Array Slot, lv_has ls 8 [(0, .ref (B + a0)), (1, .int v1), (2, .int v2), (3, .int v3), (4, .int x122)] → f_X12_worlds_L41 a0 K28 k x122 S123 = some (r, S') → W p l e (headSpec (zws yX12_worlds cX12_worlds 8 ((some .int))) { frames := 37, cells := 0, slots := 0, locals := 858 }).room s m (([.ref (B + a0), .int v1, .int v2, .int v3] : List Value).toArray) below meth c H locs 0 0 (MQ below (zQi D cy B S0 r S') (([.ref (B + a0), .int v1, .int v2, .int v3] : List Value).toArray) s 0 0 (fun q => B < q)) (F0 m 41 ls []) := by
          intro k
          induction k with
          | zero =>
            intro x122 S123 H locs hM hX124 hS h121 ls hl h
            exact znone h
          | succ k ih41 =>
            intro x122 S123 H locs hM hX124 hS h121 ls hl h
            replace h : f_X12_worlds_L41b a0 K28 (f_X12_worlds_L41 a0 K28 k) x122 S123 = some (r, S') := h
            generalize f_X12_worlds_L41 a0 K28 k = rec41 at ih41 h
            unfold f_X12_worlds_L41b at h
            refine lv_iload hx hb dX12_worlds_41 (lv_at hl 4 rfl) ?_
            refine lv_sipush (v := (1004 : Int32)) hx hb dX12_worlds_43 (by decide +kernel) ?_
            refine lv_icmp_ge (tgt := 69) hx hb dX12_worlds_46 (by decide) (fun hc125 => ?_) (fun hc125 => ?_)
            · have h := zt h hc125
              exact hK28 S123 _ _ hM hX124 hS h121 _ (lv_sub hl [0, 1, 2, 3] rfl) h
            · have h := zf h hc125
              refine lv_aload_n hx hb dX12_worlds_49 rfl (lv_at hl 0 rfl) ?_
              obtain ⟨hq127, h⟩ := zk h
              refine z_getN hx hb hg zin_12 hown hK hM h121 49 rfl (by decide) (hg _ zw_1049) (fun _ h9 => h9) hq127 dX12_worlds_50 (fun h126 => ?_)
              refine lv_iload hx hb dX12_worlds_53 (lv_at hl 4 rfl) ?_
              refine lv_aload_n hx hb dX12_worlds_55 rfl (lv_at hl 0 rfl) ?_
              obtain ⟨hq129, h⟩ := zk h
              refine z_getN hx hb hg zin_12 hown hK hM h121 0 rfl (by decide) (hg _ zw_1000) (fun _ h9 => h9) hq129 dX12_worlds_56 (fun h128 => ?_)
              refine lv_iload hx hb dX12_worlds_59 (lv_at hl 4 rfl) ?_
              obtain ⟨hq130, h⟩ := zk h
              refine z_iald hx hb hK hM h128 hq130 dX12_worlds_61 ?_
              obtain ⟨hq131, h⟩ := zk h
              refine z_iast hx hb hK hM hS h126 hq131 dX12_worlds_62 (fun H locs hM hS => ?_)
              obtain ⟨S132, e133, h⟩ := zlg h
              rw [← e133] at hM
              have hX134 : zX S123 S132 := by rw [e133]; exact zX_pI
              have h135 := h121.mo hX134
              have hX136 := hX124.tr hX134
              refine lv_iinc (v := (x122 + (1 : Int32))) (lv' := [(4, .int (x122 + (1 : Int32))), (0, .ref (B + a0)), (1, .int v1), (2, .int v2), (3, .int v3)]) hx hb dX12_worlds_63 hl (k := 4) rfl rfl (by decide) rfl (fun ls hl => ?_)
              refine lv_goto (tgt := 41) hx hb dX12_worlds_66 (by decide) ?_
              exact ih41 (x122 + (1 : Int32)) S132 _ _ hM hX136 hS h135 _ (lv_sub hl [1, 2, 3, 4, 0] rfl) h
        exact hL41 n (0 : Int32) S19 _ _ hM hX23 hS h22 _ (lv_sub hl [1, 2, 3, 4, 0] rfl) h
      · have h := zt h hc24
        refine lv_bipush (v := (-4 : Int32)) hx hb dX12_worlds_35 (by decide +kernel) ?_
        exact z_iret hx hb hr hlk hM hX23 hS (zsp h) dX12_worlds_37
    · have h := zt h hc10
      refine lv_iconst (v := (-1 : Int32)) hx hb dX12_worlds_19 (by decide +kernel) ?_
      exact z_iret hx hb hr hlk hM hX0 hS (zsp h) dX12_worlds_20
def f_X12_image_L2b (a0 : Nat) (K4 : zM → Option (Int32 × zM)) (rec2 : Int32 → zM → Option (Int32 × zM)) (x14 : Int32) (S15 : zM) : Option (Int32 × zM) :=
  if (1004 : Int32) ≤ x14 then K4 S15 else zChk (¬ (zr S15 a0 1) = 0) (zChk (¬ (zr S15 a0 0) = 0) (zChk (¬ (x14 < 0 ∨ zln S15 (zr S15 a0 0) ≤ (x14).toNatClampNeg)) (zChk (¬ (x14 < 0 ∨ zln S15 (zr S15 a0 1) ≤ (x14).toNatClampNeg)) (zLet (zpI S15 (zr S15 a0 1) (Int32.toNatClampNeg x14) (zi S15 (zr S15 a0 0) (Int32.toNatClampNeg x14))) (fun S24 => rec2 (x14 + (1 : Int32)) S24)))))
def f_X12_image_L2 (a0 : Nat) (K4 : zM → Option (Int32 × zM)) : Nat → Int32 → zM → Option (Int32 × zM)
  | 0 => fun _ _ => none
  | k + 1 => fun x14 S15 => f_X12_image_L2b a0 K4 (f_X12_image_L2 a0 K4 k) x14 S15
def f_X12_image (n : Nat) (S0 : zM) (a0 : Nat) : Option (Int32 × zM) :=
  zLet (fun (S2 : zM) => zLet (zpI S2 a0 8 (1 : Int32)) (fun S5 => zChk (¬ (zr S5 a0 0) = 0) (zChk (¬ ((1003 : Int32) < 0 ∨ zln S5 (zr S5 a0 0) ≤ ((1003 : Int32)).toNatClampNeg)) (some (((zi S5 (zr S5 a0 0) (Int32.toNatClampNeg (1003 : Int32))), S5)))))) (fun K4 => f_X12_image_L2 a0 K4 n (0 : Int32) S0)
set_option maxHeartbeats 4000000 in
set_option maxRecDepth 100000 in
theorem c_X12_image (l : Launch) (D : va_G) (cy : Nat → ClassId) (B : Nat) {n : Nat} {S0 : zM} {a0 : Nat} {r : Int32} {S' : zM} (ha0 : zA S0 a0 12) (h : f_X12_image n S0 a0 = some (r, S')) : Met l yX12_image (zws yX12_image cX12_image 2 ((some .int))) { frames := 0, cells := 0, slots := 0, locals := 0 } (zPc D cy B S0 [.ref (B + a0)]) (zQi D cy B S0 r S') 0 0 (fun q => B < q) := by
  refine Met.ofW (cc := cX12_image) (maxL := 2) (ret := ((some .int))) (by decide) rfl ?_
  intro p e s m args below meth c s₁ Bd hml hv
  obtain ⟨rfl, hC, hM⟩ := hv
  obtain ⟨hx, hb, hr, hg, hown, hlk⟩ := z_open Bd
  have hK := hC.1
  have hS : va_S (fun q => B < q) s.heap s.heap [] := va_S.rf
  have hX0 : zX S0 S0 := zX.rf
  refine z_entry (vs := [.ref (B + a0)]) (Nat.le_of_ble_eq_true rfl) (fun ls hl => ?_)
  have hl : lv_has ls 2 [(0, .ref (B + a0))] := hl
  unfold f_X12_image at h
  refine lv_iconst (v := (0 : Int32)) hx hb dX12_image_0 (by decide +kernel) ?_
  refine lv_istore_n (i := 1) (lv' := [(1, .int (0 : Int32)), (0, .ref (B + a0))]) hx hb dX12_image_1 rfl hl (by decide) rfl (fun ls hl => ?_)
  obtain ⟨K4, eK4, h⟩ := zlg h
  have hK4 : ∀ (S2 : zM) (H : Heap) (locs : List Loc), zMR D cy B S2 H → zX S0 S2 → va_S (fun q => B < q) s.heap H locs → zA S2 a0 12 → ∀ ls : Array Slot, lv_has ls 2 [(0, .ref (B + a0))] → K4 S2 = some (r, S') → W p l e (headSpec (zws yX12_image cX12_image 2 ((some .int))) { frames := 0, cells := 0, slots := 0, locals := 0 }).room s m (([.ref (B + a0)] : List Value).toArray) below meth c H locs 0 0 (MQ below (zQi D cy B S0 r S') (([.ref (B + a0)] : List Value).toArray) s 0 0 (fun q => B < q)) (F0 m 27 ls []) := by
    intro S2 H locs hM hX3 hS h1 ls hl h
    rw [eK4] at h
    refine lv_aload_n hx hb dX12_image_27 rfl (lv_at hl 0 rfl) ?_
    refine lv_iconst (v := (1 : Int32)) hx hb dX12_image_28 (by decide +kernel) ?_
    refine z_putI hx hb hg zin_12 tyX12 tyX12_ok nmX12 hown hK hM hS h1 8 rfl (by decide) (hg _ zw_1008) (fun _ h9 => h9) (Or.inl rfl) (tyX12_ok 8 (by decide)) (by decide +kernel) (by decide +kernel) dX12_image_29 (fun H locs hM hS => ?_)
    obtain ⟨S5, e6, h⟩ := zlg h
    rw [← e6] at hM
    have hX7 : zX S2 S5 := by rw [e6]; exact zX_pI
    have h8 := h1.mo hX7
    have hX9 := hX3.tr hX7
    refine lv_aload_n hx hb dX12_image_32 rfl (lv_at hl 0 rfl) ?_
    obtain ⟨hq11, h⟩ := zk h
    refine z_getN hx hb hg zin_12 hown hK hM h8 0 rfl (by decide) (hg _ zw_1000) (fun _ h9 => h9) hq11 dX12_image_33 (fun h10 => ?_)
    refine lv_sipush (v := (1003 : Int32)) hx hb dX12_image_36 (by decide +kernel) ?_
    obtain ⟨hq12, h⟩ := zk h
    refine z_iald hx hb hK hM h10 hq12 dX12_image_39 ?_
    exact z_iret hx hb hr hlk hM hX9 hS (zsp h) dX12_image_40
  have hL2 : ∀ (k : Nat) (x14 : Int32) (S15 : zM) (H : Heap) (locs : List Loc), zMR D cy B S15 H → zX S0 S15 → va_S (fun q => B < q) s.heap H locs → zA S15 a0 12 → ∀ ls : Array Slot, lv_has ls 2 [(0, .ref (B + a0)), (1, .int x14)] → f_X12_image_L2 a0 K4 k x14 S15 = some (r, S') → W p l e (headSpec (zws yX12_image cX12_image 2 ((some .int))) { frames := 0, cells := 0, slots := 0, locals := 0 }).room s m (([.ref (B + a0)] : List Value).toArray) below meth c H locs 0 0 (MQ below (zQi D cy B S0 r S') (([.ref (B + a0)] : List Value).toArray) s 0 0 (fun q => B < q)) (F0 m 2 ls []) := by
    intro k
    induction k with
    | zero =>
      intro x14 S15 H locs hM hX16 hS h13 ls hl h
      exact znone h
    | succ k ih2 =>
      intro x14 S15 H locs hM hX16 hS h13 ls hl h
      replace h : f_X12_image_L2b a0 K4 (f_X12_image_L2 a0 K4 k) x14 S15 = some (r, S') := h
      generalize f_X12_image_L2 a0 K4 k = rec2 at ih2 h
      unfold f_X12_image_L2b at h
      refine lv_iload_n hx hb dX12_image_2 rfl (lv_at hl 1 rfl) ?_
      refine lv_sipush (v := (1004 : Int32)) hx hb dX12_image_3 (by decide +kernel) ?_
      refine lv_icmp_ge (tgt := 27) hx hb dX12_image_6 (by decide) (fun hc17 => ?_) (fun hc17 => ?_)
      · have h := zt h hc17
        exact hK4 S15 _ _ hM hX16 hS h13 _ (lv_sub hl [0] rfl) h
      · have h := zf h hc17
        refine lv_aload_n hx hb dX12_image_9 rfl (lv_at hl 0 rfl) ?_
        obtain ⟨hq19, h⟩ := zk h
        refine z_getN hx hb hg zin_12 hown hK hM h13 1 rfl (by decide) (hg _ zw_1001) (fun _ h9 => h9) hq19 dX12_image_10 (fun h18 => ?_)
        refine lv_iload_n hx hb dX12_image_13 rfl (lv_at hl 1 rfl) ?_
        refine lv_aload_n hx hb dX12_image_14 rfl (lv_at hl 0 rfl) ?_
        obtain ⟨hq21, h⟩ := zk h
        refine z_getN hx hb hg zin_12 hown hK hM h13 0 rfl (by decide) (hg _ zw_1000) (fun _ h9 => h9) hq21 dX12_image_15 (fun h20 => ?_)
        refine lv_iload_n hx hb dX12_image_18 rfl (lv_at hl 1 rfl) ?_
        obtain ⟨hq22, h⟩ := zk h
        refine z_iald hx hb hK hM h20 hq22 dX12_image_19 ?_
        obtain ⟨hq23, h⟩ := zk h
        refine z_iast hx hb hK hM hS h18 hq23 dX12_image_20 (fun H locs hM hS => ?_)
        obtain ⟨S24, e25, h⟩ := zlg h
        rw [← e25] at hM
        have hX26 : zX S15 S24 := by rw [e25]; exact zX_pI
        have h27 := h13.mo hX26
        have hX28 := hX16.tr hX26
        refine lv_iinc (v := (x14 + (1 : Int32))) (lv' := [(1, .int (x14 + (1 : Int32))), (0, .ref (B + a0))]) hx hb dX12_image_21 hl (k := 1) rfl rfl (by decide) rfl (fun ls hl => ?_)
        refine lv_goto (tgt := 2) hx hb dX12_image_24 (by decide) ?_
        exact ih2 (x14 + (1 : Int32)) S24 _ _ hM hX28 hS h27 _ (lv_sub hl [1, 0] rfl) h
  exact hL2 n (0 : Int32) S0 _ _ hM hX0 hS ha0 _ (lv_sub hl [1, 0] rfl) h
def f_X12_restore_L12b (a0 : Nat) (K5 : zM → Option (Int32 × zM)) (rec12 : Int32 → zM → Option (Int32 × zM)) (x10 : Int32) (S11 : zM) : Option (Int32 × zM) :=
  if (1004 : Int32) ≤ x10 then K5 S11 else zChk (¬ (zr S11 a0 0) = 0) (zChk (¬ (zr S11 a0 1) = 0) (zChk (¬ (x10 < 0 ∨ zln S11 (zr S11 a0 1) ≤ (x10).toNatClampNeg)) (zChk (¬ (x10 < 0 ∨ zln S11 (zr S11 a0 0) ≤ (x10).toNatClampNeg)) (zLet (zpI S11 (zr S11 a0 0) (Int32.toNatClampNeg x10) (zi S11 (zr S11 a0 1) (Int32.toNatClampNeg x10))) (fun S20 => rec12 (x10 + (1 : Int32)) S20)))))
def f_X12_restore_L12 (a0 : Nat) (K5 : zM → Option (Int32 × zM)) : Nat → Int32 → zM → Option (Int32 × zM)
  | 0 => fun _ _ => none
  | k + 1 => fun x10 S11 => f_X12_restore_L12b a0 K5 (f_X12_restore_L12 a0 K5 k) x10 S11
def f_X12_restore (n : Nat) (S0 : zM) (a0 : Nat) : Option (Int32 × zM) :=
  if (zi S0 a0 8) = 0 then some (((-3 : Int32), S0)) else zLet (fun (S3 : zM) => zChk (¬ (zr S3 a0 0) = 0) (zChk (¬ ((1003 : Int32) < 0 ∨ zln S3 (zr S3 a0 0) ≤ ((1003 : Int32)).toNatClampNeg)) (some (((zi S3 (zr S3 a0 0) (Int32.toNatClampNeg (1003 : Int32))), S3))))) (fun K5 => f_X12_restore_L12 a0 K5 n (0 : Int32) S0)
set_option maxHeartbeats 4000000 in
set_option maxRecDepth 100000 in
theorem c_X12_restore (l : Launch) (D : va_G) (cy : Nat → ClassId) (B : Nat) {n : Nat} {S0 : zM} {a0 : Nat} {r : Int32} {S' : zM} (ha0 : zA S0 a0 12) (h : f_X12_restore n S0 a0 = some (r, S')) : Met l yX12_restore (zws yX12_restore cX12_restore 2 ((some .int))) { frames := 0, cells := 0, slots := 0, locals := 0 } (zPc D cy B S0 [.ref (B + a0)]) (zQi D cy B S0 r S') 0 0 (fun q => B < q) := by
  refine Met.ofW (cc := cX12_restore) (maxL := 2) (ret := ((some .int))) (by decide) rfl ?_
  intro p e s m args below meth c s₁ Bd hml hv
  obtain ⟨rfl, hC, hM⟩ := hv
  obtain ⟨hx, hb, hr, hg, hown, hlk⟩ := z_open Bd
  have hK := hC.1
  have hS : va_S (fun q => B < q) s.heap s.heap [] := va_S.rf
  have hX0 : zX S0 S0 := zX.rf
  refine z_entry (vs := [.ref (B + a0)]) (Nat.le_of_ble_eq_true rfl) (fun ls hl => ?_)
  have hl : lv_has ls 2 [(0, .ref (B + a0))] := hl
  unfold f_X12_restore at h
  refine lv_aload_n hx hb dX12_restore_0 rfl (lv_at hl 0 rfl) ?_
  refine z_getI hx hb hg zin_12 hown hK hM ha0 8 rfl (by decide) (hg _ zw_1008) (fun _ h9 => h9) dX12_restore_1 ?_
  refine lv_if_ne (tgt := 10) hx hb dX12_restore_4 (by decide) (fun hc1 => ?_) (fun hc1 => ?_)
  · have h := zf h hc1
    refine lv_iconst (v := (0 : Int32)) hx hb dX12_restore_10 (by decide +kernel) ?_
    refine lv_istore_n (i := 1) (lv' := [(1, .int (0 : Int32)), (0, .ref (B + a0))]) hx hb dX12_restore_11 rfl hl (by decide) rfl (fun ls hl => ?_)
    obtain ⟨K5, eK5, h⟩ := zlg h
    have hK5 : ∀ (S3 : zM) (H : Heap) (locs : List Loc), zMR D cy B S3 H → zX S0 S3 → va_S (fun q => B < q) s.heap H locs → zA S3 a0 12 → ∀ ls : Array Slot, lv_has ls 2 [(0, .ref (B + a0))] → K5 S3 = some (r, S') → W p l e (headSpec (zws yX12_restore cX12_restore 2 ((some .int))) { frames := 0, cells := 0, slots := 0, locals := 0 }).room s m (([.ref (B + a0)] : List Value).toArray) below meth c H locs 0 0 (MQ below (zQi D cy B S0 r S') (([.ref (B + a0)] : List Value).toArray) s 0 0 (fun q => B < q)) (F0 m 37 ls []) := by
      intro S3 H locs hM hX4 hS h2 ls hl h
      rw [eK5] at h
      refine lv_aload_n hx hb dX12_restore_37 rfl (lv_at hl 0 rfl) ?_
      obtain ⟨hq7, h⟩ := zk h
      refine z_getN hx hb hg zin_12 hown hK hM h2 0 rfl (by decide) (hg _ zw_1000) (fun _ h9 => h9) hq7 dX12_restore_38 (fun h6 => ?_)
      refine lv_sipush (v := (1003 : Int32)) hx hb dX12_restore_41 (by decide +kernel) ?_
      obtain ⟨hq8, h⟩ := zk h
      refine z_iald hx hb hK hM h6 hq8 dX12_restore_44 ?_
      exact z_iret hx hb hr hlk hM hX4 hS (zsp h) dX12_restore_45
    have hL12 : ∀ (k : Nat) (x10 : Int32) (S11 : zM) (H : Heap) (locs : List Loc), zMR D cy B S11 H → zX S0 S11 → va_S (fun q => B < q) s.heap H locs → zA S11 a0 12 → ∀ ls : Array Slot, lv_has ls 2 [(0, .ref (B + a0)), (1, .int x10)] → f_X12_restore_L12 a0 K5 k x10 S11 = some (r, S') → W p l e (headSpec (zws yX12_restore cX12_restore 2 ((some .int))) { frames := 0, cells := 0, slots := 0, locals := 0 }).room s m (([.ref (B + a0)] : List Value).toArray) below meth c H locs 0 0 (MQ below (zQi D cy B S0 r S') (([.ref (B + a0)] : List Value).toArray) s 0 0 (fun q => B < q)) (F0 m 12 ls []) := by
      intro k
      induction k with
      | zero =>
        intro x10 S11 H locs hM hX12 hS h9 ls hl h
        exact znone h
      | succ k ih12 =>
        intro x10 S11 H locs hM hX12 hS h9 ls hl h
        replace h : f_X12_restore_L12b a0 K5 (f_X12_restore_L12 a0 K5 k) x10 S11 = some (r, S') := h
        generalize f_X12_restore_L12 a0 K5 k = rec12 at ih12 h
        unfold f_X12_restore_L12b at h
        refine lv_iload_n hx hb dX12_restore_12 rfl (lv_at hl 1 rfl) ?_
        refine lv_sipush (v := (1004 : Int32)) hx hb dX12_restore_13 (by decide +kernel) ?_
        refine lv_icmp_ge (tgt := 37) hx hb dX12_restore_16 (by decide) (fun hc13 => ?_) (fun hc13 => ?_)
        · have h := zt h hc13
          exact hK5 S11 _ _ hM hX12 hS h9 _ (lv_sub hl [0] rfl) h
        · have h := zf h hc13
          refine lv_aload_n hx hb dX12_restore_19 rfl (lv_at hl 0 rfl) ?_
          obtain ⟨hq15, h⟩ := zk h
          refine z_getN hx hb hg zin_12 hown hK hM h9 0 rfl (by decide) (hg _ zw_1000) (fun _ h9 => h9) hq15 dX12_restore_20 (fun h14 => ?_)
          refine lv_iload_n hx hb dX12_restore_23 rfl (lv_at hl 1 rfl) ?_
          refine lv_aload_n hx hb dX12_restore_24 rfl (lv_at hl 0 rfl) ?_
          obtain ⟨hq17, h⟩ := zk h
          refine z_getN hx hb hg zin_12 hown hK hM h9 1 rfl (by decide) (hg _ zw_1001) (fun _ h9 => h9) hq17 dX12_restore_25 (fun h16 => ?_)
          refine lv_iload_n hx hb dX12_restore_28 rfl (lv_at hl 1 rfl) ?_
          obtain ⟨hq18, h⟩ := zk h
          refine z_iald hx hb hK hM h16 hq18 dX12_restore_29 ?_
          obtain ⟨hq19, h⟩ := zk h
          refine z_iast hx hb hK hM hS h14 hq19 dX12_restore_30 (fun H locs hM hS => ?_)
          obtain ⟨S20, e21, h⟩ := zlg h
          rw [← e21] at hM
          have hX22 : zX S11 S20 := by rw [e21]; exact zX_pI
          have h23 := h9.mo hX22
          have hX24 := hX12.tr hX22
          refine lv_iinc (v := (x10 + (1 : Int32))) (lv' := [(1, .int (x10 + (1 : Int32))), (0, .ref (B + a0))]) hx hb dX12_restore_31 hl (k := 1) rfl rfl (by decide) rfl (fun ls hl => ?_)
          refine lv_goto (tgt := 12) hx hb dX12_restore_34 (by decide) ?_
          exact ih12 (x10 + (1 : Int32)) S20 _ _ hM hX24 hS h23 _ (lv_sub hl [1, 0] rfl) h
    exact hL12 n (0 : Int32) S0 _ _ hM hX0 hS ha0 _ (lv_sub hl [1, 0] rfl) h
  · have h := zt h hc1
    refine lv_bipush (v := (-3 : Int32)) hx hb dX12_restore_7 (by decide +kernel) ?_
    exact z_iret hx hb hr hlk hM hX0 hS (zsp h) dX12_restore_9
def f_X12_count_L128b (S0 : zM) (a0 : Nat) (v1 : Int32) (x14 : Int32) (K23 : Int32 → Option (Int32)) (rec128 : Int32 → Int32 → Option (Int32)) (x25 : Int32) (x26 : Int32) : Option (Int32) :=
  if (7 : Int32) ≤ x26 then K23 x25 else zB1 (f_X12_markOf S0 a0 x14 x26) (fun r30 => zLet (fun (x34 : Int32) => rec128 (x25 + x34) (x26 + (1 : Int32))) (fun K36 => if 0 ≤ r30 then if v1 = (3 : Int32) then K36 (1 : Int32) else zB1 (f_X12_markOf S0 a0 x14 x26) (fun r40 => K36 r40) else K36 (0 : Int32)))
def f_X12_count_L128 (S0 : zM) (a0 : Nat) (v1 : Int32) (x14 : Int32) (K23 : Int32 → Option (Int32)) : Nat → Int32 → Int32 → Option (Int32)
  | 0 => fun _ _ => none
  | k + 1 => fun x25 x26 => f_X12_count_L128b S0 a0 v1 x14 K23 (f_X12_count_L128 S0 a0 v1 x14 K23 k) x25 x26
def f_X12_count_L113b (n : Nat) (S0 : zM) (a0 : Nat) (v1 : Int32) (K11 : Int32 → Option (Int32)) (rec113 : Int32 → Int32 → Option (Int32)) (x13 : Int32) (x14 : Int32) : Option (Int32) :=
  zChk (¬ (zr S0 a0 0) = 0) (zChk (¬ ((1003 : Int32) < 0 ∨ zln S0 (zr S0 a0 0) ≤ ((1003 : Int32)).toNatClampNeg)) (if (zi S0 (zr S0 a0 0) (Int32.toNatClampNeg (1003 : Int32))) ≤ x14 then K11 x13 else zLet (fun (x21 : Int32) => rec113 x21 (x14 + (1 : Int32))) (fun K23 => f_X12_count_L128 S0 a0 v1 x14 K23 n x13 (0 : Int32))))
def f_X12_count_L113 (n : Nat) (S0 : zM) (a0 : Nat) (v1 : Int32) (K11 : Int32 → Option (Int32)) : Nat → Int32 → Int32 → Option (Int32)
  | 0 => fun _ _ => none
  | k + 1 => fun x13 x14 => f_X12_count_L113b n S0 a0 v1 K11 (f_X12_count_L113 n S0 a0 v1 K11 k) x13 x14
def f_X12_count_L77b (S0 : zM) (a0 : Nat) (K45 : Int32 → Option (Int32)) (rec77 : Int32 → Int32 → Option (Int32)) (x47 : Int32) (x48 : Int32) : Option (Int32) :=
  if (42 : Int32) ≤ x48 then K45 x47 else zChk (¬ (zr S0 a0 0) = 0) (zChk (¬ (((70 : Int32) + x48) < 0 ∨ zln S0 (zr S0 a0 0) ≤ (((70 : Int32) + x48)).toNatClampNeg)) (zLet (fun (x55 : Int32) => rec77 (x47 + x55) (x48 + (1 : Int32))) (fun K57 => if (zi S0 (zr S0 a0 0) (Int32.toNatClampNeg ((70 : Int32) + x48))) ≤ 0 then K57 (0 : Int32) else K57 (1 : Int32))))
def f_X12_count_L77 (S0 : zM) (a0 : Nat) (K45 : Int32 → Option (Int32)) : Nat → Int32 → Int32 → Option (Int32)
  | 0 => fun _ _ => none
  | k + 1 => fun x47 x48 => f_X12_count_L77b S0 a0 K45 (f_X12_count_L77 S0 a0 K45 k) x47 x48
def f_X12_count (n : Nat) (S0 : zM) (a0 : Nat) (v1 : Int32) : Option (Int32) :=
  zLet (f_X12_isIn (Int32.toInt64 v1) (0 : Int64) (13 : Int64)) (fun r2 => if r2 = 0 then some (-1 : Int32) else if (3 : Int32) ≤ v1 then if v1 ≤ (5 : Int32) then if v1 = (5 : Int32) then zLet (fun (x43 : Int32) => some x43) (fun K45 => f_X12_count_L77 S0 a0 K45 n (0 : Int32) (0 : Int32)) else zLet (fun (x9 : Int32) => some x9) (fun K11 => f_X12_count_L113 n S0 a0 v1 K11 n (0 : Int32) (0 : Int32)) else zChk (¬ (zr S0 a0 0) = 0) (zChk (¬ ((((872 : Int32) + v1) - (6 : Int32)) < 0 ∨ zln S0 (zr S0 a0 0) ≤ ((((872 : Int32) + v1) - (6 : Int32))).toNatClampNeg)) (some (zi S0 (zr S0 a0 0) (Int32.toNatClampNeg (((872 : Int32) + v1) - (6 : Int32)))))) else zChk (¬ (zr S0 a0 0) = 0) (if v1 = 0 then zChk (¬ ((1001 : Int32) < 0 ∨ zln S0 (zr S0 a0 0) ≤ ((1001 : Int32)).toNatClampNeg)) (some (zi S0 (zr S0 a0 0) (Int32.toNatClampNeg (1001 : Int32)))) else if v1 = (1 : Int32) then zChk (¬ ((1002 : Int32) < 0 ∨ zln S0 (zr S0 a0 0) ≤ ((1002 : Int32)).toNatClampNeg)) (some (zi S0 (zr S0 a0 0) (Int32.toNatClampNeg (1002 : Int32)))) else zChk (¬ ((1003 : Int32) < 0 ∨ zln S0 (zr S0 a0 0) ≤ ((1003 : Int32)).toNatClampNeg)) (some (zi S0 (zr S0 a0 0) (Int32.toNatClampNeg (1003 : Int32))))))
set_option maxHeartbeats 4000000 in
set_option maxRecDepth 100000 in
theorem c_X12_count (l : Launch) (D : va_G) (cy : Nat → ClassId) (B : Nat) {n : Nat} {S0 : zM} {a0 : Nat} {v1 : Int32} {r : Int32} (ha0 : zA S0 a0 12) (h : f_X12_count n S0 a0 v1 = some r) : Met l yX12_count (zws yX12_count cX12_count 5 ((some .int))) { frames := 2, cells := 0, slots := 0, locals := 44 } (zPc D cy B S0 [.ref (B + a0), .int v1]) (zQi D cy B S0 r S0) 0 0 (fun q => B < q) := by
  refine Met.ofW (cc := cX12_count) (maxL := 5) (ret := ((some .int))) (by decide) rfl ?_
  intro p e s m args below meth c s₁ Bd hml hv
  obtain ⟨rfl, hC, hM⟩ := hv
  obtain ⟨hx, hb, hr, hg, hown, hlk⟩ := z_open Bd
  have hK := hC.1
  have hS : va_S (fun q => B < q) s.heap s.heap [] := va_S.rf
  have hX0 : zX S0 S0 := zX.rf
  refine z_entry (vs := [.ref (B + a0), .int v1]) (Nat.le_of_ble_eq_true rfl) (fun ls hl => ?_)
  have hl : lv_has ls 5 [(0, .ref (B + a0)), (1, .int v1)] := hl
  unfold f_X12_count at h
  refine lv_iload_n hx hb dX12_count_0 rfl (lv_at hl 1 rfl) ?_
  refine lv_i2l hx hb dX12_count_1 rfl ?_
  refine lv_lconst (v := (0 : Int64)) hx hb dX12_count_2 (by decide +kernel) ?_
  refine lv_ldc2 (v := (13 : Int64)) hx hb hown (hg _ zw_1420) dX12_count_3 ?_
  obtain ⟨r2, hr1, h⟩ := zlg h
  have hr1 := hr1.symm
  refine z_runi (va_runS (As := [.long (Int32.toInt64 v1), .long (0 : Int64), .long (13 : Int64)]) (rest := []) ⟨hx, hb, hml, hown, hg⟩ (c_X12_isIn l D cy B hr1) (z_cwS hg zw_1111 zw_1112 zw_13 zw_1113 zh_X12_isIn.2 ⟨(Nat.le_of_ble_eq_true rfl), (Nat.le_of_ble_eq_true rfl)⟩) (zPS hC hM) rfl rfl hl.1 rfl (lv_room (Nat.le_of_ble_eq_true rfl)) dX12_count_6 ⟨(Nat.le_of_ble_eq_true rfl), (Nat.le_of_ble_eq_true rfl)⟩) hS (fun H locs hM hX3 hS => ?_)
  refine lv_if_ne (tgt := 14) hx hb dX12_count_9 (by decide) (fun hc5 => ?_) (fun hc5 => ?_)
  · have h := zf h hc5
    refine lv_iload_n hx hb dX12_count_14 rfl (lv_at hl 1 rfl) ?_
    refine lv_iconst (v := (3 : Int32)) hx hb dX12_count_15 (by decide +kernel) ?_
    refine lv_icmp_ge (tgt := 49) hx hb dX12_count_16 (by decide) (fun hc6 => ?_) (fun hc6 => ?_)
    · have h := zt h hc6
      refine lv_iload_n hx hb dX12_count_49 rfl (lv_at hl 1 rfl) ?_
      refine lv_iconst (v := (5 : Int32)) hx hb dX12_count_50 (by decide +kernel) ?_
      refine lv_icmp_le (tgt := 68) hx hb dX12_count_51 (by decide) (fun hc7 => ?_) (fun hc7 => ?_)
      · have h := zt h hc7
        refine lv_iconst (v := (0 : Int32)) hx hb dX12_count_68 (by decide +kernel) ?_
        refine lv_istore_n (i := 2) (lv' := [(2, .int (0 : Int32)), (0, .ref (B + a0)), (1, .int v1)]) hx hb dX12_count_69 rfl hl (by decide) rfl (fun ls hl => ?_)
        refine lv_iload_n hx hb dX12_count_70 rfl (lv_at hl 2 rfl) ?_
        refine lv_iconst (v := (5 : Int32)) hx hb dX12_count_71 (by decide +kernel) ?_
        refine lv_icmp_ne (tgt := 111) hx hb dX12_count_72 (by decide) (fun hc8 => ?_) (fun hc8 => ?_)
        · have h := zf h hc8
          refine lv_iconst (v := (0 : Int32)) hx hb dX12_count_111 (by decide +kernel) ?_
          refine lv_istore_n (i := 3) (lv' := [(3, .int (0 : Int32)), (2, .int (0 : Int32)), (0, .ref (B + a0)), (1, .int v1)]) hx hb dX12_count_112 rfl hl (by decide) rfl (fun ls hl => ?_)
          obtain ⟨K11, eK11, h⟩ := zlg h
          have hK11 : ∀ (x9 : Int32) (H : Heap) (locs : List Loc), zMR D cy B S0 H → zX S0 S0 → va_S (fun q => B < q) s.heap H locs → ∀ ls : Array Slot, lv_has ls 5 [(2, .int x9)] → K11 x9 = some r → W p l e (headSpec (zws yX12_count cX12_count 5 ((some .int))) { frames := 2, cells := 0, slots := 0, locals := 44 }).room s m (([.ref (B + a0), .int v1] : List Value).toArray) below meth c H locs 0 0 (MQ below (zQi D cy B S0 r S0) (([.ref (B + a0), .int v1] : List Value).toArray) s 0 0 (fun q => B < q)) (F0 m 180 ls []) := by
            intro x9 H locs hM hX10 hS ls hl h
            rw [eK11] at h
            refine lv_iload_n hx hb dX12_count_180 rfl (lv_at hl 0 rfl) ?_
            exact z_iret hx hb hr hlk hM hX10 hS ⟨zsm h, rfl⟩ dX12_count_181
          have hL113 : ∀ (k : Nat) (x13 : Int32) (x14 : Int32) (H : Heap) (locs : List Loc), zMR D cy B S0 H → zX S0 S0 → va_S (fun q => B < q) s.heap H locs → zA S0 a0 12 → ∀ ls : Array Slot, lv_has ls 5 [(0, .ref (B + a0)), (1, .int v1), (2, .int x13), (3, .int x14)] → f_X12_count_L113 n S0 a0 v1 K11 k x13 x14 = some r → W p l e (headSpec (zws yX12_count cX12_count 5 ((some .int))) { frames := 2, cells := 0, slots := 0, locals := 44 }).room s m (([.ref (B + a0), .int v1] : List Value).toArray) below meth c H locs 0 0 (MQ below (zQi D cy B S0 r S0) (([.ref (B + a0), .int v1] : List Value).toArray) s 0 0 (fun q => B < q)) (F0 m 113 ls []) := by
            intro k
            induction k with
            | zero =>
              intro x13 x14 H locs hM hX15 hS h12 ls hl h
              exact znone h
            | succ k ih113 =>
              intro x13 x14 H locs hM hX15 hS h12 ls hl h
              replace h : f_X12_count_L113b n S0 a0 v1 K11 (f_X12_count_L113 n S0 a0 v1 K11 k) x13 x14 = some r := h
              generalize f_X12_count_L113 n S0 a0 v1 K11 k = rec113 at ih113 h
              unfold f_X12_count_L113b at h
              refine lv_iload_n hx hb dX12_count_113 rfl (lv_at hl 3 rfl) ?_
              refine lv_aload_n hx hb dX12_count_114 rfl (lv_at hl 0 rfl) ?_
              obtain ⟨hq17, h⟩ := zk h
              refine z_getN hx hb hg zin_12 hown hK hM h12 0 rfl (by decide) (hg _ zw_1000) (fun _ h9 => h9) hq17 dX12_count_115 (fun h16 => ?_)
              refine lv_sipush (v := (1003 : Int32)) hx hb dX12_count_118 (by decide +kernel) ?_
              obtain ⟨hq18, h⟩ := zk h
              refine z_iald hx hb hK hM h16 hq18 dX12_count_121 ?_
              refine lv_icmp_ge (tgt := 180) hx hb dX12_count_122 (by decide) (fun hc19 => ?_) (fun hc19 => ?_)
              · have h := zt h hc19
                exact hK11 x13 _ _ hM hX15 hS _ (lv_sub hl [2] rfl) h
              · have h := zf h hc19
                refine lv_iconst (v := (0 : Int32)) hx hb dX12_count_125 (by decide +kernel) ?_
                refine lv_istore (i := 4) (lv' := [(4, .int (0 : Int32)), (0, .ref (B + a0)), (1, .int v1), (2, .int x13), (3, .int x14)]) hx hb dX12_count_126 hl (by decide) rfl (fun ls hl => ?_)
                obtain ⟨K23, eK23, h⟩ := zlg h
                have hK23 : ∀ (x21 : Int32) (H : Heap) (locs : List Loc), zMR D cy B S0 H → zX S0 S0 → va_S (fun q => B < q) s.heap H locs → zA S0 a0 12 → ∀ ls : Array Slot, lv_has ls 5 [(0, .ref (B + a0)), (1, .int v1), (2, .int x21), (3, .int x14)] → K23 x21 = some r → W p l e (headSpec (zws yX12_count cX12_count 5 ((some .int))) { frames := 2, cells := 0, slots := 0, locals := 44 }).room s m (([.ref (B + a0), .int v1] : List Value).toArray) below meth c H locs 0 0 (MQ below (zQi D cy B S0 r S0) (([.ref (B + a0), .int v1] : List Value).toArray) s 0 0 (fun q => B < q)) (F0 m 174 ls []) := by
                  intro x21 H locs hM hX22 hS h20 ls hl h
                  rw [eK23] at h
                  refine lv_iinc (v := (x14 + (1 : Int32))) (lv' := [(3, .int (x14 + (1 : Int32))), (0, .ref (B + a0)), (1, .int v1), (2, .int x21)]) hx hb dX12_count_174 hl (k := 3) rfl rfl (by decide) rfl (fun ls hl => ?_)
                  refine lv_goto (tgt := 113) hx hb dX12_count_177 (by decide) ?_
                  exact ih113 x21 (x14 + (1 : Int32)) _ _ hM hX22 hS h20 _ (lv_sub hl [1, 2, 3, 0] rfl) h
                have hL128 : ∀ (k : Nat) (x25 : Int32) (x26 : Int32) (H : Heap) (locs : List Loc), zMR D cy B S0 H → zX S0 S0 → va_S (fun q => B < q) s.heap H locs → zA S0 a0 12 → ∀ ls : Array Slot, lv_has ls 5 [(0, .ref (B + a0)), (1, .int v1), (2, .int x25), (3, .int x14), (4, .int x26)] → f_X12_count_L128 S0 a0 v1 x14 K23 k x25 x26 = some r → W p l e (headSpec (zws yX12_count cX12_count 5 ((some .int))) { frames := 2, cells := 0, slots := 0, locals := 44 }).room s m (([.ref (B + a0), .int v1] : List Value).toArray) below meth c H locs 0 0 (MQ below (zQi D cy B S0 r S0) (([.ref (B + a0), .int v1] : List Value).toArray) s 0 0 (fun q => B < q)) (F0 m 128 ls []) := by
                  intro k
                  induction k with
                  | zero =>
                    intro x25 x26 H locs hM hX27 hS h24 ls hl h
                    exact znone h
                  | succ k ih128 =>
                    intro x25 x26 H locs hM hX27 hS h24 ls hl h
                    replace h : f_X12_count_L128b S0 a0 v1 x14 K23 (f_X12_count_L128 S0 a0 v1 x14 K23 k) x25 x26 = some r := h
                    generalize f_X12_count_L128 S0 a0 v1 x14 K23 k = rec128 at ih128 h
                    unfold f_X12_count_L128b at h
                    refine lv_iload hx hb dX12_count_128 (lv_at hl 4 rfl) ?_
                    refine lv_bipush (v := (7 : Int32)) hx hb dX12_count_130 (by decide +kernel) ?_
                    refine lv_icmp_ge (tgt := 174) hx hb dX12_count_132 (by decide) (fun hc28 => ?_) (fun hc28 => ?_)
                    · have h := zt h hc28
                      exact hK23 x25 _ _ hM hX27 hS h24 _ (lv_sub hl [0, 1, 2, 3] rfl) h
                    · have h := zf h hc28
                      refine lv_iload_n hx hb dX12_count_135 rfl (lv_at hl 2 rfl) ?_
                      refine lv_aload_n hx hb dX12_count_136 rfl (lv_at hl 0 rfl) ?_
                      refine lv_iload_n hx hb dX12_count_137 rfl (lv_at hl 3 rfl) ?_
                      refine lv_iload hx hb dX12_count_138 (lv_at hl 4 rfl) ?_
                      obtain ⟨r30, hr29, h⟩ := zb1 h
                      refine z_runi (va_runV (As := [.int x14, .int x26]) (rest := [.int x25]) ⟨hx, hb, hml, hown, hg⟩ (c_X12_markOf l D cy B h24 hr29) (z_cwV hg zw_1223 zw_1224 zw_1497 zw_13 zw_1225 zh_X12_markOf ⟨(Nat.le_of_ble_eq_true rfl), (Nat.le_of_ble_eq_true rfl)⟩) (zPV hC hM h24 (by decide) rfl) rfl rfl hl.1 rfl (lv_room (Nat.le_of_ble_eq_true rfl)) dX12_count_140 ⟨(Nat.le_of_ble_eq_true rfl), (Nat.le_of_ble_eq_true rfl)⟩) hS (fun H locs hM hX31 hS => ?_)
                      obtain ⟨K36, eK36, h⟩ := zlg h
                      have hK36 : ∀ (x34 : Int32) (H : Heap) (locs : List Loc), zMR D cy B S0 H → zX S0 S0 → va_S (fun q => B < q) s.heap H locs → zA S0 a0 12 → ∀ ls : Array Slot, lv_has ls 5 [(0, .ref (B + a0)), (1, .int v1), (3, .int x14), (4, .int x26)] → K36 x34 = some r → W p l e (headSpec (zws yX12_count cX12_count 5 ((some .int))) { frames := 2, cells := 0, slots := 0, locals := 44 }).room s m (([.ref (B + a0), .int v1] : List Value).toArray) below meth c H locs 0 0 (MQ below (zQi D cy B S0 r S0) (([.ref (B + a0), .int v1] : List Value).toArray) s 0 0 (fun q => B < q)) (F0 m 166 ls [.int x34, .int x25]) := by
                        intro x34 H locs hM hX35 hS h33 ls hl h
                        rw [eK36] at h
                        refine lv_iadd hx hb dX12_count_166 ?_
                        refine lv_istore_n (i := 2) (lv' := [(2, .int (x25 + x34)), (0, .ref (B + a0)), (1, .int v1), (3, .int x14), (4, .int x26)]) hx hb dX12_count_167 rfl hl (by decide) rfl (fun ls hl => ?_)
                        refine lv_iinc (v := (x26 + (1 : Int32))) (lv' := [(4, .int (x26 + (1 : Int32))), (2, .int (x25 + x34)), (0, .ref (B + a0)), (1, .int v1), (3, .int x14)]) hx hb dX12_count_168 hl (k := 4) rfl rfl (by decide) rfl (fun ls hl => ?_)
                        refine lv_goto (tgt := 128) hx hb dX12_count_171 (by decide) ?_
                        exact ih128 (x25 + x34) (x26 + (1 : Int32)) _ _ hM hX35 hS h33 _ (lv_sub hl [2, 3, 1, 4, 0] rfl) h
                      refine lv_if_ge (tgt := 150) hx hb dX12_count_143 (by decide) (fun hc37 => ?_) (fun hc37 => ?_)
                      · have h := zt h hc37
                        refine lv_iload_n hx hb dX12_count_150 rfl (lv_at hl 1 rfl) ?_
                        refine lv_iconst (v := (3 : Int32)) hx hb dX12_count_151 (by decide +kernel) ?_
                        refine lv_icmp_ne (tgt := 159) hx hb dX12_count_152 (by decide) (fun hc38 => ?_) (fun hc38 => ?_)
                        · have h := zf h hc38
                          refine lv_aload_n hx hb dX12_count_159 rfl (lv_at hl 0 rfl) ?_
                          refine lv_iload_n hx hb dX12_count_160 rfl (lv_at hl 3 rfl) ?_
                          refine lv_iload hx hb dX12_count_161 (lv_at hl 4 rfl) ?_
                          obtain ⟨r40, hr39, h⟩ := zb1 h
                          refine z_runi (va_runV (As := [.int x14, .int x26]) (rest := [.int x25]) ⟨hx, hb, hml, hown, hg⟩ (c_X12_markOf l D cy B h24 hr39) (z_cwV hg zw_1223 zw_1224 zw_1497 zw_13 zw_1225 zh_X12_markOf ⟨(Nat.le_of_ble_eq_true rfl), (Nat.le_of_ble_eq_true rfl)⟩) (zPV hC hM h24 (by decide) rfl) rfl rfl hl.1 rfl (lv_room (Nat.le_of_ble_eq_true rfl)) dX12_count_163 ⟨(Nat.le_of_ble_eq_true rfl), (Nat.le_of_ble_eq_true rfl)⟩) hS (fun H locs hM hX41 hS => ?_)
                          exact hK36 r40 _ _ hM hX27 hS h24 _ (lv_sub hl [0, 1, 3, 4] rfl) h
                        · have h := zt h hc38
                          refine lv_iconst (v := (1 : Int32)) hx hb dX12_count_155 (by decide +kernel) ?_
                          refine lv_goto (tgt := 166) hx hb dX12_count_156 (by decide) ?_
                          exact hK36 (1 : Int32) _ _ hM hX27 hS h24 _ (lv_sub hl [0, 1, 3, 4] rfl) h
                      · have h := zf h hc37
                        refine lv_iconst (v := (0 : Int32)) hx hb dX12_count_146 (by decide +kernel) ?_
                        refine lv_goto (tgt := 166) hx hb dX12_count_147 (by decide) ?_
                        exact hK36 (0 : Int32) _ _ hM hX27 hS h24 _ (lv_sub hl [0, 1, 3, 4] rfl) h
                exact hL128 n x13 (0 : Int32) _ _ hM hX15 hS h12 _ (lv_sub hl [1, 2, 3, 4, 0] rfl) h
          exact hL113 n (0 : Int32) (0 : Int32) _ _ hM hX0 hS ha0 _ (lv_sub hl [2, 3, 1, 0] rfl) h
        · have h := zt h hc8
          refine lv_iconst (v := (0 : Int32)) hx hb dX12_count_75 (by decide +kernel) ?_
          refine lv_istore_n (i := 3) (lv' := [(3, .int (0 : Int32)), (2, .int (0 : Int32)), (0, .ref (B + a0)), (1, .int v1)]) hx hb dX12_count_76 rfl hl (by decide) rfl (fun ls hl => ?_)
          obtain ⟨K45, eK45, h⟩ := zlg h
          have hK45 : ∀ (x43 : Int32) (H : Heap) (locs : List Loc), zMR D cy B S0 H → zX S0 S0 → va_S (fun q => B < q) s.heap H locs → ∀ ls : Array Slot, lv_has ls 5 [(2, .int x43)] → K45 x43 = some r → W p l e (headSpec (zws yX12_count cX12_count 5 ((some .int))) { frames := 2, cells := 0, slots := 0, locals := 44 }).room s m (([.ref (B + a0), .int v1] : List Value).toArray) below meth c H locs 0 0 (MQ below (zQi D cy B S0 r S0) (([.ref (B + a0), .int v1] : List Value).toArray) s 0 0 (fun q => B < q)) (F0 m 109 ls []) := by
            intro x43 H locs hM hX44 hS ls hl h
            rw [eK45] at h
            refine lv_iload_n hx hb dX12_count_109 rfl (lv_at hl 0 rfl) ?_
            exact z_iret hx hb hr hlk hM hX44 hS ⟨zsm h, rfl⟩ dX12_count_110
          have hL77 : ∀ (k : Nat) (x47 : Int32) (x48 : Int32) (H : Heap) (locs : List Loc), zMR D cy B S0 H → zX S0 S0 → va_S (fun q => B < q) s.heap H locs → zA S0 a0 12 → ∀ ls : Array Slot, lv_has ls 5 [(0, .ref (B + a0)), (2, .int x47), (3, .int x48)] → f_X12_count_L77 S0 a0 K45 k x47 x48 = some r → W p l e (headSpec (zws yX12_count cX12_count 5 ((some .int))) { frames := 2, cells := 0, slots := 0, locals := 44 }).room s m (([.ref (B + a0), .int v1] : List Value).toArray) below meth c H locs 0 0 (MQ below (zQi D cy B S0 r S0) (([.ref (B + a0), .int v1] : List Value).toArray) s 0 0 (fun q => B < q)) (F0 m 77 ls []) := by
            intro k
            induction k with
            | zero =>
              intro x47 x48 H locs hM hX49 hS h46 ls hl h
              exact znone h
            | succ k ih77 =>
              intro x47 x48 H locs hM hX49 hS h46 ls hl h
              replace h : f_X12_count_L77b S0 a0 K45 (f_X12_count_L77 S0 a0 K45 k) x47 x48 = some r := h
              generalize f_X12_count_L77 S0 a0 K45 k = rec77 at ih77 h
              unfold f_X12_count_L77b at h
              refine lv_iload_n hx hb dX12_count_77 rfl (lv_at hl 2 rfl) ?_
              refine lv_bipush (v := (42 : Int32)) hx hb dX12_count_78 (by decide +kernel) ?_
              refine lv_icmp_ge (tgt := 109) hx hb dX12_count_80 (by decide) (fun hc50 => ?_) (fun hc50 => ?_)
              · have h := zt h hc50
                exact hK45 x47 _ _ hM hX49 hS _ (lv_sub hl [1] rfl) h
              · have h := zf h hc50
                refine lv_iload_n hx hb dX12_count_83 rfl (lv_at hl 1 rfl) ?_
                refine lv_aload_n hx hb dX12_count_84 rfl (lv_at hl 0 rfl) ?_
                obtain ⟨hq52, h⟩ := zk h
                refine z_getN hx hb hg zin_12 hown hK hM h46 0 rfl (by decide) (hg _ zw_1000) (fun _ h9 => h9) hq52 dX12_count_85 (fun h51 => ?_)
                refine lv_bipush (v := (70 : Int32)) hx hb dX12_count_88 (by decide +kernel) ?_
                refine lv_iload_n hx hb dX12_count_90 rfl (lv_at hl 2 rfl) ?_
                refine lv_iadd hx hb dX12_count_91 ?_
                obtain ⟨hq53, h⟩ := zk h
                refine z_iald hx hb hK hM h51 hq53 dX12_count_92 ?_
                obtain ⟨K57, eK57, h⟩ := zlg h
                have hK57 : ∀ (x55 : Int32) (H : Heap) (locs : List Loc), zMR D cy B S0 H → zX S0 S0 → va_S (fun q => B < q) s.heap H locs → zA S0 a0 12 → ∀ ls : Array Slot, lv_has ls 5 [(0, .ref (B + a0)), (3, .int x48)] → K57 x55 = some r → W p l e (headSpec (zws yX12_count cX12_count 5 ((some .int))) { frames := 2, cells := 0, slots := 0, locals := 44 }).room s m (([.ref (B + a0), .int v1] : List Value).toArray) below meth c H locs 0 0 (MQ below (zQi D cy B S0 r S0) (([.ref (B + a0), .int v1] : List Value).toArray) s 0 0 (fun q => B < q)) (F0 m 101 ls [.int x55, .int x47]) := by
                  intro x55 H locs hM hX56 hS h54 ls hl h
                  rw [eK57] at h
                  refine lv_iadd hx hb dX12_count_101 ?_
                  refine lv_istore_n (i := 2) (lv' := [(2, .int (x47 + x55)), (0, .ref (B + a0)), (3, .int x48)]) hx hb dX12_count_102 rfl hl (by decide) rfl (fun ls hl => ?_)
                  refine lv_iinc (v := (x48 + (1 : Int32))) (lv' := [(3, .int (x48 + (1 : Int32))), (2, .int (x47 + x55)), (0, .ref (B + a0))]) hx hb dX12_count_103 hl (k := 2) rfl rfl (by decide) rfl (fun ls hl => ?_)
                  refine lv_goto (tgt := 77) hx hb dX12_count_106 (by decide) ?_
                  exact ih77 (x47 + x55) (x48 + (1 : Int32)) _ _ hM hX56 hS h54 _ (lv_sub hl [2, 1, 0] rfl) h
                refine lv_if_le (tgt := 100) hx hb dX12_count_93 (by decide) (fun hc58 => ?_) (fun hc58 => ?_)
                · have h := zt h hc58
                  refine lv_iconst (v := (0 : Int32)) hx hb dX12_count_100 (by decide +kernel) ?_
                  exact hK57 (0 : Int32) _ _ hM hX49 hS h46 _ (lv_sub hl [0, 2] rfl) h
                · have h := zf h hc58
                  refine lv_iconst (v := (1 : Int32)) hx hb dX12_count_96 (by decide +kernel) ?_
                  refine lv_goto (tgt := 101) hx hb dX12_count_97 (by decide) ?_
                  exact hK57 (1 : Int32) _ _ hM hX49 hS h46 _ (lv_sub hl [0, 2] rfl) h
          exact hL77 n (0 : Int32) (0 : Int32) _ _ hM hX0 hS ha0 _ (lv_sub hl [2, 1, 0] rfl) h
      · have h := zf h hc7
        refine lv_aload_n hx hb dX12_count_54 rfl (lv_at hl 0 rfl) ?_
        obtain ⟨hq60, h⟩ := zk h
        refine z_getN hx hb hg zin_12 hown hK hM ha0 0 rfl (by decide) (hg _ zw_1000) (fun _ h9 => h9) hq60 dX12_count_55 (fun h59 => ?_)
        refine lv_sipush (v := (872 : Int32)) hx hb dX12_count_58 (by decide +kernel) ?_
        refine lv_iload_n hx hb dX12_count_61 rfl (lv_at hl 1 rfl) ?_
        refine lv_iadd hx hb dX12_count_62 ?_
        refine lv_bipush (v := (6 : Int32)) hx hb dX12_count_63 (by decide +kernel) ?_
        refine lv_isub hx hb dX12_count_65 ?_
        obtain ⟨hq61, h⟩ := zk h
        refine z_iald hx hb hK hM h59 hq61 dX12_count_66 ?_
        exact z_iret hx hb hr hlk hM hX0 hS ⟨zsm h, rfl⟩ dX12_count_67
    · have h := zf h hc6
      refine lv_aload_n hx hb dX12_count_19 rfl (lv_at hl 0 rfl) ?_
      obtain ⟨hq63, h⟩ := zk h
      refine z_getN hx hb hg zin_12 hown hK hM ha0 0 rfl (by decide) (hg _ zw_1000) (fun _ h9 => h9) hq63 dX12_count_20 (fun h62 => ?_)
      refine lv_iload_n hx hb dX12_count_23 rfl (lv_at hl 1 rfl) ?_
      refine lv_if_ne (tgt := 33) hx hb dX12_count_24 (by decide) (fun hc64 => ?_) (fun hc64 => ?_)
      · have h := zf h hc64
        refine lv_iload_n hx hb dX12_count_33 rfl (lv_at hl 1 rfl) ?_
        refine lv_iconst (v := (1 : Int32)) hx hb dX12_count_34 (by decide +kernel) ?_
        refine lv_icmp_ne (tgt := 44) hx hb dX12_count_35 (by decide) (fun hc65 => ?_) (fun hc65 => ?_)
        · have h := zf h hc65
          refine lv_sipush (v := (1003 : Int32)) hx hb dX12_count_44 (by decide +kernel) ?_
          obtain ⟨hq66, h⟩ := zk h
          refine z_iald hx hb hK hM h62 hq66 dX12_count_47 ?_
          exact z_iret hx hb hr hlk hM hX0 hS ⟨zsm h, rfl⟩ dX12_count_48
        · have h := zt h hc65
          refine lv_sipush (v := (1002 : Int32)) hx hb dX12_count_38 (by decide +kernel) ?_
          refine lv_goto (tgt := 47) hx hb dX12_count_41 (by decide) ?_
          obtain ⟨hq67, h⟩ := zk h
          refine z_iald hx hb hK hM h62 hq67 dX12_count_47 ?_
          exact z_iret hx hb hr hlk hM hX0 hS ⟨zsm h, rfl⟩ dX12_count_48
      · have h := zt h hc64
        refine lv_sipush (v := (1001 : Int32)) hx hb dX12_count_27 (by decide +kernel) ?_
        refine lv_goto (tgt := 47) hx hb dX12_count_30 (by decide) ?_
        obtain ⟨hq68, h⟩ := zk h
        refine z_iald hx hb hK hM h62 hq68 dX12_count_47 ?_
        exact z_iret hx hb hr hlk hM hX0 hS ⟨zsm h, rfl⟩ dX12_count_48
  · have h := zt h hc5
    refine lv_iconst (v := (-1 : Int32)) hx hb dX12_count_12 (by decide +kernel) ?_
    exact z_iret hx hb hr hlk hM hX0 hS ⟨zsm h, rfl⟩ dX12_count_13
def f_X12_weightOf (S0 : zM) (a0 : Nat) (v1 : Int32) : Option (Int32) :=
  zChk (¬ (zr S0 a0 0) = 0) (zChk (¬ ((((16 : Int32) + ((4 : Int32) * v1)) + (1 : Int32)) < 0 ∨ zln S0 (zr S0 a0 0) ≤ ((((16 : Int32) + ((4 : Int32) * v1)) + (1 : Int32))).toNatClampNeg)) (zChk (¬ (((16 : Int32) + ((4 : Int32) * v1)) < 0 ∨ zln S0 (zr S0 a0 0) ≤ (((16 : Int32) + ((4 : Int32) * v1))).toNatClampNeg)) (if (zi S0 (zr S0 a0 0) (Int32.toNatClampNeg ((16 : Int32) + ((4 : Int32) * v1)))) = (1 : Int32) then some (((zi S0 (zr S0 a0 0) (Int32.toNatClampNeg (((16 : Int32) + ((4 : Int32) * v1)) + (1 : Int32)))) + (10 : Int32)) + (2 : Int32)) else if (zi S0 (zr S0 a0 0) (Int32.toNatClampNeg ((16 : Int32) + ((4 : Int32) * v1)))) = (2 : Int32) then zChk (¬ ((((16 : Int32) + ((4 : Int32) * v1)) + (2 : Int32)) < 0 ∨ zln S0 (zr S0 a0 0) ≤ ((((16 : Int32) + ((4 : Int32) * v1)) + (2 : Int32))).toNatClampNeg)) (some (((zi S0 (zr S0 a0 0) (Int32.toNatClampNeg (((16 : Int32) + ((4 : Int32) * v1)) + (1 : Int32)))) + (10 : Int32)) + (zi S0 (zr S0 a0 0) (Int32.toNatClampNeg (((16 : Int32) + ((4 : Int32) * v1)) + (2 : Int32)))))) else if (zi S0 (zr S0 a0 0) (Int32.toNatClampNeg ((16 : Int32) + ((4 : Int32) * v1)))) = (3 : Int32) then zChk (¬ ((((16 : Int32) + ((4 : Int32) * v1)) + (2 : Int32)) < 0 ∨ zln S0 (zr S0 a0 0) ≤ ((((16 : Int32) + ((4 : Int32) * v1)) + (2 : Int32))).toNatClampNeg)) (zChk (¬ ((((16 : Int32) + ((4 : Int32) * v1)) + (3 : Int32)) < 0 ∨ zln S0 (zr S0 a0 0) ≤ ((((16 : Int32) + ((4 : Int32) * v1)) + (3 : Int32))).toNatClampNeg)) (some ((((zi S0 (zr S0 a0 0) (Int32.toNatClampNeg (((16 : Int32) + ((4 : Int32) * v1)) + (1 : Int32)))) + (10 : Int32)) + (zi S0 (zr S0 a0 0) (Int32.toNatClampNeg (((16 : Int32) + ((4 : Int32) * v1)) + (2 : Int32))))) + (zi S0 (zr S0 a0 0) (Int32.toNatClampNeg (((16 : Int32) + ((4 : Int32) * v1)) + (3 : Int32))))))) else if (zi S0 (zr S0 a0 0) (Int32.toNatClampNeg ((16 : Int32) + ((4 : Int32) * v1)))) = (4 : Int32) then some ((2 : Int32) * ((zi S0 (zr S0 a0 0) (Int32.toNatClampNeg (((16 : Int32) + ((4 : Int32) * v1)) + (1 : Int32)))) + (10 : Int32))) else if (zi S0 (zr S0 a0 0) (Int32.toNatClampNeg ((16 : Int32) + ((4 : Int32) * v1)))) = (5 : Int32) then some (((zi S0 (zr S0 a0 0) (Int32.toNatClampNeg (((16 : Int32) + ((4 : Int32) * v1)) + (1 : Int32)))) + (10 : Int32)) - (5 : Int32)) else if (zi S0 (zr S0 a0 0) (Int32.toNatClampNeg ((16 : Int32) + ((4 : Int32) * v1)))) = (6 : Int32) then some (10 : Int32) else if (zi S0 (zr S0 a0 0) (Int32.toNatClampNeg ((16 : Int32) + ((4 : Int32) * v1)))) = (7 : Int32) then some (17 : Int32) else some ((zi S0 (zr S0 a0 0) (Int32.toNatClampNeg (((16 : Int32) + ((4 : Int32) * v1)) + (1 : Int32)))) + (10 : Int32)))))
set_option maxHeartbeats 4000000 in
set_option maxRecDepth 100000 in
theorem c_X12_weightOf (l : Launch) (D : va_G) (cy : Nat → ClassId) (B : Nat) {S0 : zM} {a0 : Nat} {v1 : Int32} {r : Int32} (ha0 : zA S0 a0 12) (h : f_X12_weightOf S0 a0 v1 = some r) : Met l yX12_weightOf (zws yX12_weightOf cX12_weightOf 4 ((some .int))) { frames := 0, cells := 0, slots := 0, locals := 0 } (zPc D cy B S0 [.ref (B + a0), .int v1]) (zQi D cy B S0 r S0) 0 0 (fun q => B < q) := by
  refine Met.ofW (cc := cX12_weightOf) (maxL := 4) (ret := ((some .int))) (by decide) rfl ?_
  intro p e s m args below meth c s₁ Bd hml hv
  obtain ⟨rfl, hC, hM⟩ := hv
  obtain ⟨hx, hb, hr, hg, hown, hlk⟩ := z_open Bd
  have hK := hC.1
  have hS : va_S (fun q => B < q) s.heap s.heap [] := va_S.rf
  have hX0 : zX S0 S0 := zX.rf
  refine z_entry (vs := [.ref (B + a0), .int v1]) (Nat.le_of_ble_eq_true rfl) (fun ls hl => ?_)
  have hl : lv_has ls 4 [(0, .ref (B + a0)), (1, .int v1)] := hl
  unfold f_X12_weightOf at h
  refine lv_bipush (v := (16 : Int32)) hx hb dX12_weightOf_0 (by decide +kernel) ?_
  refine lv_iconst (v := (4 : Int32)) hx hb dX12_weightOf_2 (by decide +kernel) ?_
  refine lv_iload_n hx hb dX12_weightOf_3 rfl (lv_at hl 1 rfl) ?_
  refine lv_imul hx hb dX12_weightOf_4 ?_
  refine lv_iadd hx hb dX12_weightOf_5 ?_
  refine lv_istore_n (i := 2) (lv' := [(2, .int ((16 : Int32) + ((4 : Int32) * v1))), (0, .ref (B + a0)), (1, .int v1)]) hx hb dX12_weightOf_6 rfl hl (by decide) rfl (fun ls hl => ?_)
  refine lv_aload_n hx hb dX12_weightOf_7 rfl (lv_at hl 1 rfl) ?_
  obtain ⟨hq2, h⟩ := zk h
  refine z_getN hx hb hg zin_12 hown hK hM ha0 0 rfl (by decide) (hg _ zw_1000) (fun _ h9 => h9) hq2 dX12_weightOf_8 (fun h1 => ?_)
  refine lv_iload_n hx hb dX12_weightOf_11 rfl (lv_at hl 0 rfl) ?_
  refine lv_iconst (v := (1 : Int32)) hx hb dX12_weightOf_12 (by decide +kernel) ?_
  refine lv_iadd hx hb dX12_weightOf_13 ?_
  obtain ⟨hq3, h⟩ := zk h
  refine z_iald hx hb hK hM h1 hq3 dX12_weightOf_14 ?_
  refine lv_bipush (v := (10 : Int32)) hx hb dX12_weightOf_15 (by decide +kernel) ?_
  refine lv_iadd hx hb dX12_weightOf_17 ?_
  refine lv_istore_n (i := 3) (lv' := [(3, .int ((zi S0 (zr S0 a0 0) (Int32.toNatClampNeg (((16 : Int32) + ((4 : Int32) * v1)) + (1 : Int32)))) + (10 : Int32))), (2, .int ((16 : Int32) + ((4 : Int32) * v1))), (0, .ref (B + a0)), (1, .int v1)]) hx hb dX12_weightOf_18 rfl hl (by decide) rfl (fun ls hl => ?_)
  refine lv_aload_n hx hb dX12_weightOf_19 rfl (lv_at hl 2 rfl) ?_
  refine z_getN hx hb hg zin_12 hown hK hM ha0 0 rfl (by decide) (hg _ zw_1000) (fun _ h9 => h9) h1.ne dX12_weightOf_20 (fun h4 => ?_)
  refine lv_iload_n hx hb dX12_weightOf_23 rfl (lv_at hl 1 rfl) ?_
  obtain ⟨hq5, h⟩ := zk h
  refine z_iald hx hb hK hM h4 hq5 dX12_weightOf_24 ?_
  by_cases hc6 : (zi S0 (zr S0 a0 0) (Int32.toNatClampNeg ((16 : Int32) + ((4 : Int32) * v1)))) = (1 : Int32)
  · refine z_tin (off := 43) hx hb hc6 dX12_weightOf_25 (by decide +kernel) (tgt := 68) (by decide) ?_
    have h := zt h hc6
    refine lv_iload_n hx hb dX12_weightOf_68 rfl (lv_at hl 0 rfl) ?_
    refine lv_iconst (v := (2 : Int32)) hx hb dX12_weightOf_69 (by decide +kernel) ?_
    refine lv_iadd hx hb dX12_weightOf_70 ?_
    exact z_iret hx hb hr hlk hM hX0 hS ⟨zsm h, rfl⟩ dX12_weightOf_71
  · have h := zf h hc6
    by_cases hc7 : (zi S0 (zr S0 a0 0) (Int32.toNatClampNeg ((16 : Int32) + ((4 : Int32) * v1)))) = (2 : Int32)
    · refine z_tin (off := 47) hx hb hc7 dX12_weightOf_25 (by decide +kernel) (tgt := 72) (by decide) ?_
      have h := zt h hc7
      refine lv_iload_n hx hb dX12_weightOf_72 rfl (lv_at hl 0 rfl) ?_
      refine lv_aload_n hx hb dX12_weightOf_73 rfl (lv_at hl 2 rfl) ?_
      refine z_getN hx hb hg zin_12 hown hK hM ha0 0 rfl (by decide) (hg _ zw_1000) (fun _ h9 => h9) h4.ne dX12_weightOf_74 (fun h8 => ?_)
      refine lv_iload_n hx hb dX12_weightOf_77 rfl (lv_at hl 1 rfl) ?_
      refine lv_iconst (v := (2 : Int32)) hx hb dX12_weightOf_78 (by decide +kernel) ?_
      refine lv_iadd hx hb dX12_weightOf_79 ?_
      obtain ⟨hq9, h⟩ := zk h
      refine z_iald hx hb hK hM h8 hq9 dX12_weightOf_80 ?_
      refine lv_iadd hx hb dX12_weightOf_81 ?_
      exact z_iret hx hb hr hlk hM hX0 hS ⟨zsm h, rfl⟩ dX12_weightOf_82
    · have h := zf h hc7
      by_cases hc10 : (zi S0 (zr S0 a0 0) (Int32.toNatClampNeg ((16 : Int32) + ((4 : Int32) * v1)))) = (3 : Int32)
      · refine z_tin (off := 58) hx hb hc10 dX12_weightOf_25 (by decide +kernel) (tgt := 83) (by decide) ?_
        have h := zt h hc10
        refine lv_iload_n hx hb dX12_weightOf_83 rfl (lv_at hl 0 rfl) ?_
        refine lv_aload_n hx hb dX12_weightOf_84 rfl (lv_at hl 2 rfl) ?_
        refine z_getN hx hb hg zin_12 hown hK hM ha0 0 rfl (by decide) (hg _ zw_1000) (fun _ h9 => h9) h4.ne dX12_weightOf_85 (fun h11 => ?_)
        refine lv_iload_n hx hb dX12_weightOf_88 rfl (lv_at hl 1 rfl) ?_
        refine lv_iconst (v := (2 : Int32)) hx hb dX12_weightOf_89 (by decide +kernel) ?_
        refine lv_iadd hx hb dX12_weightOf_90 ?_
        obtain ⟨hq12, h⟩ := zk h
        refine z_iald hx hb hK hM h11 hq12 dX12_weightOf_91 ?_
        refine lv_iadd hx hb dX12_weightOf_92 ?_
        refine lv_aload_n hx hb dX12_weightOf_93 rfl (lv_at hl 2 rfl) ?_
        refine z_getN hx hb hg zin_12 hown hK hM ha0 0 rfl (by decide) (hg _ zw_1000) (fun _ h9 => h9) h11.ne dX12_weightOf_94 (fun h13 => ?_)
        refine lv_iload_n hx hb dX12_weightOf_97 rfl (lv_at hl 1 rfl) ?_
        refine lv_iconst (v := (3 : Int32)) hx hb dX12_weightOf_98 (by decide +kernel) ?_
        refine lv_iadd hx hb dX12_weightOf_99 ?_
        obtain ⟨hq14, h⟩ := zk h
        refine z_iald hx hb hK hM h13 hq14 dX12_weightOf_100 ?_
        refine lv_iadd hx hb dX12_weightOf_101 ?_
        exact z_iret hx hb hr hlk hM hX0 hS ⟨zsm h, rfl⟩ dX12_weightOf_102
      · have h := zf h hc10
        by_cases hc15 : (zi S0 (zr S0 a0 0) (Int32.toNatClampNeg ((16 : Int32) + ((4 : Int32) * v1)))) = (4 : Int32)
        · refine z_tin (off := 78) hx hb hc15 dX12_weightOf_25 (by decide +kernel) (tgt := 103) (by decide) ?_
          have h := zt h hc15
          refine lv_iconst (v := (2 : Int32)) hx hb dX12_weightOf_103 (by decide +kernel) ?_
          refine lv_iload_n hx hb dX12_weightOf_104 rfl (lv_at hl 0 rfl) ?_
          refine lv_imul hx hb dX12_weightOf_105 ?_
          exact z_iret hx hb hr hlk hM hX0 hS ⟨zsm h, rfl⟩ dX12_weightOf_106
        · have h := zf h hc15
          by_cases hc16 : (zi S0 (zr S0 a0 0) (Int32.toNatClampNeg ((16 : Int32) + ((4 : Int32) * v1)))) = (5 : Int32)
          · refine z_tin (off := 82) hx hb hc16 dX12_weightOf_25 (by decide +kernel) (tgt := 107) (by decide) ?_
            have h := zt h hc16
            refine lv_iload_n hx hb dX12_weightOf_107 rfl (lv_at hl 0 rfl) ?_
            refine lv_iconst (v := (5 : Int32)) hx hb dX12_weightOf_108 (by decide +kernel) ?_
            refine lv_isub hx hb dX12_weightOf_109 ?_
            exact z_iret hx hb hr hlk hM hX0 hS ⟨zsm h, rfl⟩ dX12_weightOf_110
          · have h := zf h hc16
            by_cases hc17 : (zi S0 (zr S0 a0 0) (Int32.toNatClampNeg ((16 : Int32) + ((4 : Int32) * v1)))) = (6 : Int32)
            · refine z_tin (off := 86) hx hb hc17 dX12_weightOf_25 (by decide +kernel) (tgt := 111) (by decide) ?_
              have h := zt h hc17
              refine lv_bipush (v := (10 : Int32)) hx hb dX12_weightOf_111 (by decide +kernel) ?_
              exact z_iret hx hb hr hlk hM hX0 hS ⟨zsm h, rfl⟩ dX12_weightOf_113
            · have h := zf h hc17
              by_cases hc18 : (zi S0 (zr S0 a0 0) (Int32.toNatClampNeg ((16 : Int32) + ((4 : Int32) * v1)))) = (7 : Int32)
              · refine z_tin (off := 89) hx hb hc18 dX12_weightOf_25 (by decide +kernel) (tgt := 114) (by decide) ?_
                have h := zt h hc18
                refine lv_bipush (v := (17 : Int32)) hx hb dX12_weightOf_114 (by decide +kernel) ?_
                exact z_iret hx hb hr hlk hM hX0 hS ⟨zsm h, rfl⟩ dX12_weightOf_116
              · have h := zf h hc18
                refine lv_tableOut hx hb dX12_weightOf_25 (by have := lv_neT hc6 (a := 1) (by decide +kernel); have := lv_neT hc7 (a := 2) (by decide +kernel); have := lv_neT hc10 (a := 3) (by decide +kernel); have := lv_neT hc15 (a := 4) (by decide +kernel); have := lv_neT hc16 (a := 5) (by decide +kernel); have := lv_neT hc17 (a := 6) (by decide +kernel); have := lv_neT hc18 (a := 7) (by decide +kernel); omega) (tgt := 117) (by decide) ?_
                refine lv_iload_n hx hb dX12_weightOf_117 rfl (lv_at hl 0 rfl) ?_
                exact z_iret hx hb hr hlk hM hX0 hS ⟨zsm h, rfl⟩ dX12_weightOf_118
def f_X12_keep (S0 : zM) (a0 : Nat) (v1 : Int32) (v2 : Int32) (v3 : Int32) : Option (Int32 × zM) :=
  zB1 (f_X12_isShelf v1) (fun r2 => if r2 = 0 then some (((-1 : Int32), S0)) else zLet (f_X12_isIn (Int32.toInt64 v2) (0 : Int64) (1 : Int64)) (fun r7 => if r7 = 0 then some (((-1 : Int32), S0)) else zLet (zChk (¬ (zr S0 a0 2) = 0) (zChk (¬ (v1 < 0 ∨ zln S0 (zr S0 a0 2) ≤ (v1).toNatClampNeg)) (zLet (zpI S0 (zr S0 a0 2) (Int32.toNatClampNeg v1) v2) (fun S17 => if v2 = 0 then some (((0 : Int32), S17)) else zChk (¬ (zr S17 a0 6) = 0) (zB1 (f_X12_weightOf S17 a0 v3) (fun r26 => zChk (¬ (v1 < 0 ∨ zln S17 (zr S17 a0 6) ≤ (v1).toNatClampNeg)) (zLet (zpI S17 (zr S17 a0 6) (Int32.toNatClampNeg v1) r26) (fun S30 => zChk (¬ (zr S30 a0 7) = 0) (zChk (¬ (zr S30 a0 0) = 0) (zChk (¬ (((16 : Int32) + ((4 : Int32) * v3)) < 0 ∨ zln S30 (zr S30 a0 0) ≤ (((16 : Int32) + ((4 : Int32) * v3))).toNatClampNeg)) (if (zi S30 (zr S30 a0 0) (Int32.toNatClampNeg ((16 : Int32) + ((4 : Int32) * v3)))) = (1 : Int32) then zChk (¬ (v1 < 0 ∨ zln S30 (zr S30 a0 7) ≤ (v1).toNatClampNeg)) (zLet (zpI S30 (zr S30 a0 7) (Int32.toNatClampNeg v1) (-15 : Int32)) (fun S42 => some (((0 : Int32), S42)))) else zChk (¬ (((16 : Int32) + ((4 : Int32) * v3)) < 0 ∨ zln S30 (zr S30 a0 0) ≤ (((16 : Int32) + ((4 : Int32) * v3))).toNatClampNeg)) (zLet (zChk (¬ (zr S30 a0 0) = 0) (zChk (¬ (((16 : Int32) + ((4 : Int32) * v3)) < 0 ∨ zln S30 (zr S30 a0 0) ≤ (((16 : Int32) + ((4 : Int32) * v3))).toNatClampNeg)) (if (zi S30 (zr S30 a0 0) (Int32.toNatClampNeg ((16 : Int32) + ((4 : Int32) * v3)))) = (3 : Int32) then zChk (¬ ((((16 : Int32) + ((4 : Int32) * v3)) + (3 : Int32)) < 0 ∨ zln S30 (zr S30 a0 0) ≤ ((((16 : Int32) + ((4 : Int32) * v3)) + (3 : Int32))).toNatClampNeg)) (zChk (¬ (v1 < 0 ∨ zln S30 (zr S30 a0 7) ≤ (v1).toNatClampNeg)) (zLet (zpI S30 (zr S30 a0 7) (Int32.toNatClampNeg v1) ((v3 + (100 : Int32)) + (zi S30 (zr S30 a0 0) (Int32.toNatClampNeg (((16 : Int32) + ((4 : Int32) * v3)) + (3 : Int32)))))) (fun S72 => some (((0 : Int32), S72))))) else zChk (¬ (((16 : Int32) + ((4 : Int32) * v3)) < 0 ∨ zln S30 (zr S30 a0 0) ≤ (((16 : Int32) + ((4 : Int32) * v3))).toNatClampNeg)) (if (zi S30 (zr S30 a0 0) (Int32.toNatClampNeg ((16 : Int32) + ((4 : Int32) * v3)))) = (7 : Int32) then zChk (¬ (v1 < 0 ∨ zln S30 (zr S30 a0 7) ≤ (v1).toNatClampNeg)) (zLet (zpI S30 (zr S30 a0 7) (Int32.toNatClampNeg v1) (v3 + (200 : Int32))) (fun S65 => some (((0 : Int32), S65)))) else zChk (¬ (v1 < 0 ∨ zln S30 (zr S30 a0 7) ≤ (v1).toNatClampNeg)) (zLet (zpI S30 (zr S30 a0 7) (Int32.toNatClampNeg v1) v3) (fun S60 => some (((0 : Int32), S60)))))))) (fun K51 => zLet (zChk (¬ (zr S30 a0 0) = 0) (zChk (¬ ((((16 : Int32) + ((4 : Int32) * v3)) + (2 : Int32)) < 0 ∨ zln S30 (zr S30 a0 0) ≤ ((((16 : Int32) + ((4 : Int32) * v3)) + (2 : Int32))).toNatClampNeg)) (if (zi S30 (zr S30 a0 0) (Int32.toNatClampNeg (((16 : Int32) + ((4 : Int32) * v3)) + (2 : Int32)))) = 0 then zChk (¬ (v1 < 0 ∨ zln S30 (zr S30 a0 7) ≤ (v1).toNatClampNeg)) (zLet (zpI S30 (zr S30 a0 7) (Int32.toNatClampNeg v1) (-15 : Int32)) (fun S85 => some (((0 : Int32), S85)))) else K51))) (fun K79 => if (zi S30 (zr S30 a0 0) (Int32.toNatClampNeg ((16 : Int32) + ((4 : Int32) * v3)))) = (2 : Int32) then K79 else zChk (¬ (((16 : Int32) + ((4 : Int32) * v3)) < 0 ∨ zln S30 (zr S30 a0 0) ≤ (((16 : Int32) + ((4 : Int32) * v3))).toNatClampNeg)) (if (zi S30 (zr S30 a0 0) (Int32.toNatClampNeg ((16 : Int32) + ((4 : Int32) * v3)))) = (3 : Int32) then K79 else K51))))))))))))))) (fun K13 => if v2 = (1 : Int32) then zB1 (f_X12_isJudge S0 a0 v3) (fun r95 => if r95 = 0 then some (((-1 : Int32), S0)) else K13) else K13)))
set_option maxHeartbeats 4000000 in
set_option maxRecDepth 100000 in
theorem c_X12_keep (l : Launch) (D : va_G) (cy : Nat → ClassId) (B : Nat) {S0 : zM} {a0 : Nat} {v1 : Int32} {v2 : Int32} {v3 : Int32} {r : Int32} {S' : zM} (ha0 : zA S0 a0 12) (h : f_X12_keep S0 a0 v1 v2 v3 = some (r, S')) : Met l yX12_keep (zws yX12_keep cX12_keep 5 ((some .int))) { frames := 2, cells := 0, slots := 0, locals := 46 } (zPc D cy B S0 [.ref (B + a0), .int v1, .int v2, .int v3]) (zQi D cy B S0 r S') 0 0 (fun q => B < q) := by
  refine Met.ofW (cc := cX12_keep) (maxL := 5) (ret := ((some .int))) (by decide) rfl ?_
  intro p e s m args below meth c s₁ Bd hml hv
  obtain ⟨rfl, hC, hM⟩ := hv
  obtain ⟨hx, hb, hr, hg, hown, hlk⟩ := z_open Bd
  have hK := hC.1
  have hS : va_S (fun q => B < q) s.heap s.heap [] := va_S.rf
  have hX0 : zX S0 S0 := zX.rf
  refine z_entry (vs := [.ref (B + a0), .int v1, .int v2, .int v3]) (Nat.le_of_ble_eq_true rfl) (fun ls hl => ?_)
  have hl : lv_has ls 5 [(0, .ref (B + a0)), (1, .int v1), (2, .int v2), (3, .int v3)] := hl
  unfold f_X12_keep at h
  refine lv_iload_n hx hb dX12_keep_0 rfl (lv_at hl 1 rfl) ?_
  obtain ⟨r2, hr1, h⟩ := zb1 h
  refine z_runi (va_runS (As := [.int v1]) (rest := []) ⟨hx, hb, hml, hown, hg⟩ (c_X12_isShelf l D cy B hr1) (z_cwS hg zw_1215 zw_1216 zw_13 zw_1217 zh_X12_isShelf.2 ⟨(Nat.le_of_ble_eq_true rfl), (Nat.le_of_ble_eq_true rfl)⟩) (zPS hC hM) rfl rfl hl.1 rfl (lv_room (Nat.le_of_ble_eq_true rfl)) dX12_keep_1 ⟨(Nat.le_of_ble_eq_true rfl), (Nat.le_of_ble_eq_true rfl)⟩) hS (fun H locs hM hX3 hS => ?_)
  refine lv_if_eq (tgt := 30) hx hb dX12_keep_4 (by decide) (fun hc5 => ?_) (fun hc5 => ?_)
  · have h := zt h hc5
    refine lv_iconst (v := (-1 : Int32)) hx hb dX12_keep_30 (by decide +kernel) ?_
    exact z_iret hx hb hr hlk hM hX0 hS (zsp h) dX12_keep_31
  · have h := zf h hc5
    refine lv_iload_n hx hb dX12_keep_7 rfl (lv_at hl 2 rfl) ?_
    refine lv_i2l hx hb dX12_keep_8 rfl ?_
    refine lv_lconst (v := (0 : Int64)) hx hb dX12_keep_9 (by decide +kernel) ?_
    refine lv_lconst (v := (1 : Int64)) hx hb dX12_keep_10 (by decide +kernel) ?_
    obtain ⟨r7, hr6, h⟩ := zlg h
    have hr6 := hr6.symm
    refine z_runi (va_runS (As := [.long (Int32.toInt64 v2), .long (0 : Int64), .long (1 : Int64)]) (rest := []) ⟨hx, hb, hml, hown, hg⟩ (c_X12_isIn l D cy B hr6) (z_cwS hg zw_1111 zw_1112 zw_13 zw_1113 zh_X12_isIn.2 ⟨(Nat.le_of_ble_eq_true rfl), (Nat.le_of_ble_eq_true rfl)⟩) (zPS hC hM) rfl rfl hl.1 rfl (lv_room (Nat.le_of_ble_eq_true rfl)) dX12_keep_11 ⟨(Nat.le_of_ble_eq_true rfl), (Nat.le_of_ble_eq_true rfl)⟩) hS (fun H locs hM hX8 hS => ?_)
    refine lv_if_eq (tgt := 30) hx hb dX12_keep_14 (by decide) (fun hc10 => ?_) (fun hc10 => ?_)
    · have h := zt h hc10
      refine lv_iconst (v := (-1 : Int32)) hx hb dX12_keep_30 (by decide +kernel) ?_
      exact z_iret hx hb hr hlk hM hX0 hS (zsp h) dX12_keep_31
    · have h := zf h hc10
      refine lv_iload_n hx hb dX12_keep_17 rfl (lv_at hl 2 rfl) ?_
      refine lv_iconst (v := (1 : Int32)) hx hb dX12_keep_18 (by decide +kernel) ?_
      obtain ⟨K13, eK13, h⟩ := zlg h
      have hK13 : ∀ (H : Heap) (locs : List Loc), zMR D cy B S0 H → zX S0 S0 → va_S (fun q => B < q) s.heap H locs → zA S0 a0 12 → ∀ ls : Array Slot, lv_has ls 5 [(0, .ref (B + a0)), (1, .int v1), (2, .int v2), (3, .int v3)] → K13 = some (r, S') → W p l e (headSpec (zws yX12_keep cX12_keep 5 ((some .int))) { frames := 2, cells := 0, slots := 0, locals := 46 }).room s m (([.ref (B + a0), .int v1, .int v2, .int v3] : List Value).toArray) below meth c H locs 0 0 (MQ below (zQi D cy B S0 r S') (([.ref (B + a0), .int v1, .int v2, .int v3] : List Value).toArray) s 0 0 (fun q => B < q)) (F0 m 32 ls []) := by
        intro H locs hM hX12 hS h11 ls hl h
        rw [eK13] at h
        refine lv_aload_n hx hb dX12_keep_32 rfl (lv_at hl 0 rfl) ?_
        obtain ⟨hq15, h⟩ := zk h
        refine z_getN hx hb hg zin_12 hown hK hM h11 2 rfl (by decide) (hg _ zw_1002) (fun _ h9 => h9) hq15 dX12_keep_33 (fun h14 => ?_)
        refine lv_iload_n hx hb dX12_keep_36 rfl (lv_at hl 1 rfl) ?_
        refine lv_iload_n hx hb dX12_keep_37 rfl (lv_at hl 2 rfl) ?_
        obtain ⟨hq16, h⟩ := zk h
        refine z_iast hx hb hK hM hS h14 hq16 dX12_keep_38 (fun H locs hM hS => ?_)
        obtain ⟨S17, e18, h⟩ := zlg h
        rw [← e18] at hM
        have hX19 : zX S0 S17 := by rw [e18]; exact zX_pI
        have h20 := h11.mo hX19
        have hX21 := hX12.tr hX19
        refine lv_iload_n hx hb dX12_keep_39 rfl (lv_at hl 2 rfl) ?_
        refine lv_if_ne (tgt := 45) hx hb dX12_keep_40 (by decide) (fun hc22 => ?_) (fun hc22 => ?_)
        · have h := zf h hc22
          refine lv_bipush (v := (16 : Int32)) hx hb dX12_keep_45 (by decide +kernel) ?_
          refine lv_iconst (v := (4 : Int32)) hx hb dX12_keep_47 (by decide +kernel) ?_
          refine lv_iload_n hx hb dX12_keep_48 rfl (lv_at hl 3 rfl) ?_
          refine lv_imul hx hb dX12_keep_49 ?_
          refine lv_iadd hx hb dX12_keep_50 ?_
          refine lv_istore (i := 4) (lv' := [(4, .int ((16 : Int32) + ((4 : Int32) * v3))), (0, .ref (B + a0)), (1, .int v1), (2, .int v2), (3, .int v3)]) hx hb dX12_keep_51 hl (by decide) rfl (fun ls hl => ?_)
          refine lv_aload_n hx hb dX12_keep_53 rfl (lv_at hl 1 rfl) ?_
          obtain ⟨hq24, h⟩ := zk h
          refine z_getN hx hb hg zin_12 hown hK hM h20 6 rfl (by decide) (hg _ zw_1006) (fun _ h9 => h9) hq24 dX12_keep_54 (fun h23 => ?_)
          refine lv_iload_n hx hb dX12_keep_57 rfl (lv_at hl 2 rfl) ?_
          refine lv_aload_n hx hb dX12_keep_58 rfl (lv_at hl 1 rfl) ?_
          refine lv_iload_n hx hb dX12_keep_59 rfl (lv_at hl 4 rfl) ?_
          obtain ⟨r26, hr25, h⟩ := zb1 h
          refine z_runi (va_runV (As := [.int v3]) (rest := [.int v1, .ref (B + (zr S17 a0 6))]) ⟨hx, hb, hml, hown, hg⟩ (c_X12_weightOf l D cy B h20 hr25) (z_cwV hg zw_1425 zw_1426 zw_1530 zw_13 zw_1427 zh_X12_weightOf ⟨(Nat.le_of_ble_eq_true rfl), (Nat.le_of_ble_eq_true rfl)⟩) (zPV hC hM h20 (by decide) rfl) rfl rfl hl.1 rfl (lv_room (Nat.le_of_ble_eq_true rfl)) dX12_keep_60 ⟨(Nat.le_of_ble_eq_true rfl), (Nat.le_of_ble_eq_true rfl)⟩) hS (fun H locs hM hX27 hS => ?_)
          obtain ⟨hq29, h⟩ := zk h
          refine z_iast hx hb hK hM hS h23 hq29 dX12_keep_63 (fun H locs hM hS => ?_)
          obtain ⟨S30, e31, h⟩ := zlg h
          rw [← e31] at hM
          have hX32 : zX S17 S30 := by rw [e31]; exact zX_pI
          have h33 := h20.mo hX32
          have hX34 := hX21.tr hX32
          refine lv_aload_n hx hb dX12_keep_64 rfl (lv_at hl 1 rfl) ?_
          obtain ⟨hq36, h⟩ := zk h
          refine z_getN hx hb hg zin_12 hown hK hM h33 7 rfl (by decide) (hg _ zw_1007) (fun _ h9 => h9) hq36 dX12_keep_65 (fun h35 => ?_)
          refine lv_iload_n hx hb dX12_keep_68 rfl (lv_at hl 2 rfl) ?_
          refine lv_aload_n hx hb dX12_keep_69 rfl (lv_at hl 1 rfl) ?_
          obtain ⟨hq38, h⟩ := zk h
          refine z_getN hx hb hg zin_12 hown hK hM h33 0 rfl (by decide) (hg _ zw_1000) (fun _ h9 => h9) hq38 dX12_keep_70 (fun h37 => ?_)
          refine lv_iload hx hb dX12_keep_73 (lv_at hl 0 rfl) ?_
          obtain ⟨hq39, h⟩ := zk h
          refine z_iald hx hb hK hM h37 hq39 dX12_keep_75 ?_
          refine lv_iconst (v := (1 : Int32)) hx hb dX12_keep_76 (by decide +kernel) ?_
          refine lv_icmp_eq (tgt := 114) hx hb dX12_keep_77 (by decide) (fun hc40 => ?_) (fun hc40 => ?_)
          · have h := zt h hc40
            refine lv_bipush (v := (-15 : Int32)) hx hb dX12_keep_114 (by decide +kernel) ?_
            refine lv_goto (tgt := 168) hx hb dX12_keep_116 (by decide) ?_
            obtain ⟨hq41, h⟩ := zk h
            refine z_iast hx hb hK hM hS h35 hq41 dX12_keep_168 (fun H locs hM hS => ?_)
            obtain ⟨S42, e43, h⟩ := zlg h
            rw [← e43] at hM
            have hX44 : zX S30 S42 := by rw [e43]; exact zX_pI
            have hX45 := hX34.tr hX44
            refine lv_iconst (v := (0 : Int32)) hx hb dX12_keep_169 (by decide +kernel) ?_
            exact z_iret hx hb hr hlk hM hX45 hS (zsp h) dX12_keep_170
          · have h := zf h hc40
            refine lv_aload_n hx hb dX12_keep_80 rfl (lv_at hl 1 rfl) ?_
            refine z_getN hx hb hg zin_12 hown hK hM h33 0 rfl (by decide) (hg _ zw_1000) (fun _ h9 => h9) h37.ne dX12_keep_81 (fun h46 => ?_)
            refine lv_iload hx hb dX12_keep_84 (lv_at hl 0 rfl) ?_
            obtain ⟨hq47, h⟩ := zk h
            refine z_iald hx hb hK hM h46 hq47 dX12_keep_86 ?_
            refine lv_iconst (v := (2 : Int32)) hx hb dX12_keep_87 (by decide +kernel) ?_
            obtain ⟨K51, eK51, h⟩ := zlg h
            have hK51 : ∀ (H : Heap) (locs : List Loc), zMR D cy B S30 H → zX S0 S30 → va_S (fun q => B < q) s.heap H locs → zA S30 a0 12 → zA S30 (zr S30 a0 7) 20 → ∀ ls : Array Slot, lv_has ls 5 [(0, .ref (B + a0)), (3, .int v3), (4, .int ((16 : Int32) + ((4 : Int32) * v3)))] → K51 = some (r, S') → W p l e (headSpec (zws yX12_keep cX12_keep 5 ((some .int))) { frames := 2, cells := 0, slots := 0, locals := 46 }).room s m (([.ref (B + a0), .int v1, .int v2, .int v3] : List Value).toArray) below meth c H locs 0 0 (MQ below (zQi D cy B S0 r S') (([.ref (B + a0), .int v1, .int v2, .int v3] : List Value).toArray) s 0 0 (fun q => B < q)) (F0 m 119 ls [.int v1, .ref (B + (zr S30 a0 7))]) := by
              intro H locs hM hX50 hS h48 h49 ls hl h
              rw [eK51] at h
              refine lv_aload_n hx hb dX12_keep_119 rfl (lv_at hl 0 rfl) ?_
              obtain ⟨hq53, h⟩ := zk h
              refine z_getN hx hb hg zin_12 hown hK hM h48 0 rfl (by decide) (hg _ zw_1000) (fun _ h9 => h9) hq53 dX12_keep_120 (fun h52 => ?_)
              refine lv_iload hx hb dX12_keep_123 (lv_at hl 2 rfl) ?_
              obtain ⟨hq54, h⟩ := zk h
              refine z_iald hx hb hK hM h52 hq54 dX12_keep_125 ?_
              refine lv_iconst (v := (3 : Int32)) hx hb dX12_keep_126 (by decide +kernel) ?_
              refine lv_icmp_ne (tgt := 147) hx hb dX12_keep_127 (by decide) (fun hc55 => ?_) (fun hc55 => ?_)
              · have h := zf h hc55
                refine lv_aload_n hx hb dX12_keep_147 rfl (lv_at hl 0 rfl) ?_
                refine z_getN hx hb hg zin_12 hown hK hM h48 0 rfl (by decide) (hg _ zw_1000) (fun _ h9 => h9) h52.ne dX12_keep_148 (fun h56 => ?_)
                refine lv_iload hx hb dX12_keep_151 (lv_at hl 2 rfl) ?_
                obtain ⟨hq57, h⟩ := zk h
                refine z_iald hx hb hK hM h56 hq57 dX12_keep_153 ?_
                refine lv_bipush (v := (7 : Int32)) hx hb dX12_keep_154 (by decide +kernel) ?_
                refine lv_icmp_ne (tgt := 167) hx hb dX12_keep_156 (by decide) (fun hc58 => ?_) (fun hc58 => ?_)
                · have h := zf h hc58
                  refine lv_iload_n hx hb dX12_keep_167 rfl (lv_at hl 1 rfl) ?_
                  obtain ⟨hq59, h⟩ := zk h
                  refine z_iast hx hb hK hM hS h49 hq59 dX12_keep_168 (fun H locs hM hS => ?_)
                  obtain ⟨S60, e61, h⟩ := zlg h
                  rw [← e61] at hM
                  have hX62 : zX S30 S60 := by rw [e61]; exact zX_pI
                  have hX63 := hX50.tr hX62
                  refine lv_iconst (v := (0 : Int32)) hx hb dX12_keep_169 (by decide +kernel) ?_
                  exact z_iret hx hb hr hlk hM hX63 hS (zsp h) dX12_keep_170
                · have h := zt h hc58
                  refine lv_iload_n hx hb dX12_keep_159 rfl (lv_at hl 1 rfl) ?_
                  refine lv_sipush (v := (200 : Int32)) hx hb dX12_keep_160 (by decide +kernel) ?_
                  refine lv_iadd hx hb dX12_keep_163 ?_
                  refine lv_goto (tgt := 168) hx hb dX12_keep_164 (by decide) ?_
                  obtain ⟨hq64, h⟩ := zk h
                  refine z_iast hx hb hK hM hS h49 hq64 dX12_keep_168 (fun H locs hM hS => ?_)
                  obtain ⟨S65, e66, h⟩ := zlg h
                  rw [← e66] at hM
                  have hX67 : zX S30 S65 := by rw [e66]; exact zX_pI
                  have hX68 := hX50.tr hX67
                  refine lv_iconst (v := (0 : Int32)) hx hb dX12_keep_169 (by decide +kernel) ?_
                  exact z_iret hx hb hr hlk hM hX68 hS (zsp h) dX12_keep_170
              · have h := zt h hc55
                refine lv_iload_n hx hb dX12_keep_130 rfl (lv_at hl 1 rfl) ?_
                refine lv_bipush (v := (100 : Int32)) hx hb dX12_keep_131 (by decide +kernel) ?_
                refine lv_iadd hx hb dX12_keep_133 ?_
                refine lv_aload_n hx hb dX12_keep_134 rfl (lv_at hl 0 rfl) ?_
                refine z_getN hx hb hg zin_12 hown hK hM h48 0 rfl (by decide) (hg _ zw_1000) (fun _ h9 => h9) h52.ne dX12_keep_135 (fun h69 => ?_)
                refine lv_iload hx hb dX12_keep_138 (lv_at hl 2 rfl) ?_
                refine lv_iconst (v := (3 : Int32)) hx hb dX12_keep_140 (by decide +kernel) ?_
                refine lv_iadd hx hb dX12_keep_141 ?_
                obtain ⟨hq70, h⟩ := zk h
                refine z_iald hx hb hK hM h69 hq70 dX12_keep_142 ?_
                refine lv_iadd hx hb dX12_keep_143 ?_
                refine lv_goto (tgt := 168) hx hb dX12_keep_144 (by decide) ?_
                obtain ⟨hq71, h⟩ := zk h
                refine z_iast hx hb hK hM hS h49 hq71 dX12_keep_168 (fun H locs hM hS => ?_)
                obtain ⟨S72, e73, h⟩ := zlg h
                rw [← e73] at hM
                have hX74 : zX S30 S72 := by rw [e73]; exact zX_pI
                have hX75 := hX50.tr hX74
                refine lv_iconst (v := (0 : Int32)) hx hb dX12_keep_169 (by decide +kernel) ?_
                exact z_iret hx hb hr hlk hM hX75 hS (zsp h) dX12_keep_170
            obtain ⟨K79, eK79, h⟩ := zlg h
            have hK79 : ∀ (H : Heap) (locs : List Loc), zMR D cy B S30 H → zX S0 S30 → va_S (fun q => B < q) s.heap H locs → zA S30 a0 12 → zA S30 (zr S30 a0 7) 20 → ∀ ls : Array Slot, lv_has ls 5 [(0, .ref (B + a0)), (3, .int v3), (4, .int ((16 : Int32) + ((4 : Int32) * v3)))] → K79 = some (r, S') → W p l e (headSpec (zws yX12_keep cX12_keep 5 ((some .int))) { frames := 2, cells := 0, slots := 0, locals := 46 }).room s m (([.ref (B + a0), .int v1, .int v2, .int v3] : List Value).toArray) below meth c H locs 0 0 (MQ below (zQi D cy B S0 r S') (([.ref (B + a0), .int v1, .int v2, .int v3] : List Value).toArray) s 0 0 (fun q => B < q)) (F0 m 102 ls [.int v1, .ref (B + (zr S30 a0 7))]) := by
              intro H locs hM hX78 hS h76 h77 ls hl h
              rw [eK79] at h
              refine lv_aload_n hx hb dX12_keep_102 rfl (lv_at hl 0 rfl) ?_
              obtain ⟨hq81, h⟩ := zk h
              refine z_getN hx hb hg zin_12 hown hK hM h76 0 rfl (by decide) (hg _ zw_1000) (fun _ h9 => h9) hq81 dX12_keep_103 (fun h80 => ?_)
              refine lv_iload hx hb dX12_keep_106 (lv_at hl 2 rfl) ?_
              refine lv_iconst (v := (2 : Int32)) hx hb dX12_keep_108 (by decide +kernel) ?_
              refine lv_iadd hx hb dX12_keep_109 ?_
              obtain ⟨hq82, h⟩ := zk h
              refine z_iald hx hb hK hM h80 hq82 dX12_keep_110 ?_
              refine lv_if_ne (tgt := 119) hx hb dX12_keep_111 (by decide) (fun hc83 => ?_) (fun hc83 => ?_)
              · have h := zf h hc83
                exact hK51 _ _ hM hX78 hS h76 h77 _ (lv_sub hl [0, 1, 2] rfl) h
              · have h := zt h hc83
                refine lv_bipush (v := (-15 : Int32)) hx hb dX12_keep_114 (by decide +kernel) ?_
                refine lv_goto (tgt := 168) hx hb dX12_keep_116 (by decide) ?_
                obtain ⟨hq84, h⟩ := zk h
                refine z_iast hx hb hK hM hS h77 hq84 dX12_keep_168 (fun H locs hM hS => ?_)
                obtain ⟨S85, e86, h⟩ := zlg h
                rw [← e86] at hM
                have hX87 : zX S30 S85 := by rw [e86]; exact zX_pI
                have hX88 := hX78.tr hX87
                refine lv_iconst (v := (0 : Int32)) hx hb dX12_keep_169 (by decide +kernel) ?_
                exact z_iret hx hb hr hlk hM hX88 hS (zsp h) dX12_keep_170
            refine lv_icmp_eq (tgt := 102) hx hb dX12_keep_88 (by decide) (fun hc89 => ?_) (fun hc89 => ?_)
            · have h := zt h hc89
              exact hK79 _ _ hM hX34 hS h33 h35 _ (lv_sub hl [1, 4, 0] rfl) h
            · have h := zf h hc89
              refine lv_aload_n hx hb dX12_keep_91 rfl (lv_at hl 1 rfl) ?_
              refine z_getN hx hb hg zin_12 hown hK hM h33 0 rfl (by decide) (hg _ zw_1000) (fun _ h9 => h9) h46.ne dX12_keep_92 (fun h90 => ?_)
              refine lv_iload hx hb dX12_keep_95 (lv_at hl 0 rfl) ?_
              obtain ⟨hq91, h⟩ := zk h
              refine z_iald hx hb hK hM h90 hq91 dX12_keep_97 ?_
              refine lv_iconst (v := (3 : Int32)) hx hb dX12_keep_98 (by decide +kernel) ?_
              refine lv_icmp_ne (tgt := 119) hx hb dX12_keep_99 (by decide) (fun hc92 => ?_) (fun hc92 => ?_)
              · have h := zf h hc92
                exact hK51 _ _ hM hX34 hS h33 h35 _ (lv_sub hl [1, 4, 0] rfl) h
              · have h := zt h hc92
                exact hK79 _ _ hM hX34 hS h33 h35 _ (lv_sub hl [1, 4, 0] rfl) h
        · have h := zt h hc22
          refine lv_iconst (v := (0 : Int32)) hx hb dX12_keep_43 (by decide +kernel) ?_
          exact z_iret hx hb hr hlk hM hX21 hS (zsp h) dX12_keep_44
      refine lv_icmp_ne (tgt := 32) hx hb dX12_keep_19 (by decide) (fun hc93 => ?_) (fun hc93 => ?_)
      · have h := zf h hc93
        exact hK13 _ _ hM hX0 hS ha0 _ (lv_sub hl [0, 1, 2, 3] rfl) h
      · have h := zt h hc93
        refine lv_aload_n hx hb dX12_keep_22 rfl (lv_at hl 0 rfl) ?_
        refine lv_iload_n hx hb dX12_keep_23 rfl (lv_at hl 3 rfl) ?_
        obtain ⟨r95, hr94, h⟩ := zb1 h
        refine z_runi (va_runV (As := [.int v3]) (rest := []) ⟨hx, hb, hml, hown, hg⟩ (c_X12_isJudge l D cy B ha0 hr94) (z_cwV hg zw_1140 zw_1141 zw_1483 zw_13 zw_1142 zh_X12_isJudge ⟨(Nat.le_of_ble_eq_true rfl), (Nat.le_of_ble_eq_true rfl)⟩) (zPV hC hM ha0 (by decide) rfl) rfl rfl hl.1 rfl (lv_room (Nat.le_of_ble_eq_true rfl)) dX12_keep_24 ⟨(Nat.le_of_ble_eq_true rfl), (Nat.le_of_ble_eq_true rfl)⟩) hS (fun H locs hM hX96 hS => ?_)
        refine lv_if_ne (tgt := 32) hx hb dX12_keep_27 (by decide) (fun hc98 => ?_) (fun hc98 => ?_)
        · have h := zf h hc98
          exact hK13 _ _ hM hX0 hS ha0 _ (lv_sub hl [0, 1, 2, 3] rfl) h
        · have h := zt h hc98
          refine lv_iconst (v := (-1 : Int32)) hx hb dX12_keep_30 (by decide +kernel) ?_
          exact z_iret hx hb hr hlk hM hX0 hS (zsp h) dX12_keep_31
def f_X12_row_L58b (a0 : Nat) (v1 : Int32) (K39 : zM → Option (Int32 × zM)) (rec58 : Int32 → zM → Option (Int32 × zM)) (x41 : Int32) (S42 : zM) : Option (Int32 × zM) :=
  if (120 : Int32) ≤ x41 then K39 S42 else zChk (¬ (zr S42 a0 5) = 0) (zChk (¬ ((((120 : Int32) * v1) + x41) < 0 ∨ zln S42 (zr S42 a0 5) ≤ ((((120 : Int32) * v1) + x41)).toNatClampNeg)) (zLet (zpI S42 (zr S42 a0 5) (Int32.toNatClampNeg (((120 : Int32) * v1) + x41)) (0 : Int32)) (fun S48 => rec58 (x41 + (1 : Int32)) S48)))
def f_X12_row_L58 (a0 : Nat) (v1 : Int32) (K39 : zM → Option (Int32 × zM)) : Nat → Int32 → zM → Option (Int32 × zM)
  | 0 => fun _ _ => none
  | k + 1 => fun x41 S42 => f_X12_row_L58b a0 v1 K39 (f_X12_row_L58 a0 v1 K39 k) x41 S42
def f_X12_row (n : Nat) (S0 : zM) (a0 : Nat) (v1 : Int32) (v2 : Int32) (v3 : Int32) : Option (Int32 × zM) :=
  zB1 (f_X12_isShelf v1) (fun r2 => if r2 = 0 then some (((-1 : Int32), S0)) else zLet (f_X12_isIn (Int32.toInt64 v2) (0 : Int64) (2 : Int64)) (fun r7 => if r7 = 0 then some (((-1 : Int32), S0)) else if v3 ≤ (120 : Int32) then if 0 ≤ v3 then zChk (¬ (zr S0 a0 2) = 0) (zChk (¬ (v1 < 0 ∨ zln S0 (zr S0 a0 2) ≤ (v1).toNatClampNeg)) (zLet (zpI S0 (zr S0 a0 2) (Int32.toNatClampNeg v1) (2 : Int32)) (fun S16 => zChk (¬ (zr S16 a0 3) = 0) (zChk (¬ (v1 < 0 ∨ zln S16 (zr S16 a0 3) ≤ (v1).toNatClampNeg)) (zLet (zpI S16 (zr S16 a0 3) (Int32.toNatClampNeg v1) v2) (fun S24 => zChk (¬ (zr S24 a0 4) = 0) (zChk (¬ (v1 < 0 ∨ zln S24 (zr S24 a0 4) ≤ (v1).toNatClampNeg)) (zLet (zpI S24 (zr S24 a0 4) (Int32.toNatClampNeg v1) v3) (fun S32 => zLet (fun (S37 : zM) => some (((0 : Int32), S37))) (fun K39 => f_X12_row_L58 a0 v1 K39 n (0 : Int32) S32)))))))))) else some (((-14 : Int32), S0)) else some (((-1 : Int32), S0))))
set_option maxHeartbeats 4000000 in
set_option maxRecDepth 100000 in
theorem c_X12_row (l : Launch) (D : va_G) (cy : Nat → ClassId) (B : Nat) {n : Nat} {S0 : zM} {a0 : Nat} {v1 : Int32} {v2 : Int32} {v3 : Int32} {r : Int32} {S' : zM} (ha0 : zA S0 a0 12) (h : f_X12_row n S0 a0 v1 v2 v3 = some (r, S')) : Met l yX12_row (zws yX12_row cX12_row 5 ((some .int))) { frames := 2, cells := 0, slots := 0, locals := 45 } (zPc D cy B S0 [.ref (B + a0), .int v1, .int v2, .int v3]) (zQi D cy B S0 r S') 0 0 (fun q => B < q) := by
  refine Met.ofW (cc := cX12_row) (maxL := 5) (ret := ((some .int))) (by decide) rfl ?_
  intro p e s m args below meth c s₁ Bd hml hv
  obtain ⟨rfl, hC, hM⟩ := hv
  obtain ⟨hx, hb, hr, hg, hown, hlk⟩ := z_open Bd
  have hK := hC.1
  have hS : va_S (fun q => B < q) s.heap s.heap [] := va_S.rf
  have hX0 : zX S0 S0 := zX.rf
  refine z_entry (vs := [.ref (B + a0), .int v1, .int v2, .int v3]) (Nat.le_of_ble_eq_true rfl) (fun ls hl => ?_)
  have hl : lv_has ls 5 [(0, .ref (B + a0)), (1, .int v1), (2, .int v2), (3, .int v3)] := hl
  unfold f_X12_row at h
  refine lv_iload_n hx hb dX12_row_0 rfl (lv_at hl 1 rfl) ?_
  obtain ⟨r2, hr1, h⟩ := zb1 h
  refine z_runi (va_runS (As := [.int v1]) (rest := []) ⟨hx, hb, hml, hown, hg⟩ (c_X12_isShelf l D cy B hr1) (z_cwS hg zw_1215 zw_1216 zw_13 zw_1217 zh_X12_isShelf.2 ⟨(Nat.le_of_ble_eq_true rfl), (Nat.le_of_ble_eq_true rfl)⟩) (zPS hC hM) rfl rfl hl.1 rfl (lv_room (Nat.le_of_ble_eq_true rfl)) dX12_row_1 ⟨(Nat.le_of_ble_eq_true rfl), (Nat.le_of_ble_eq_true rfl)⟩) hS (fun H locs hM hX3 hS => ?_)
  refine lv_if_eq (tgt := 25) hx hb dX12_row_4 (by decide) (fun hc5 => ?_) (fun hc5 => ?_)
  · have h := zt h hc5
    refine lv_iconst (v := (-1 : Int32)) hx hb dX12_row_25 (by decide +kernel) ?_
    exact z_iret hx hb hr hlk hM hX0 hS (zsp h) dX12_row_26
  · have h := zf h hc5
    refine lv_iload_n hx hb dX12_row_7 rfl (lv_at hl 2 rfl) ?_
    refine lv_i2l hx hb dX12_row_8 rfl ?_
    refine lv_lconst (v := (0 : Int64)) hx hb dX12_row_9 (by decide +kernel) ?_
    refine lv_ldc2 (v := (2 : Int64)) hx hb hown (hg _ zw_1314) dX12_row_10 ?_
    obtain ⟨r7, hr6, h⟩ := zlg h
    have hr6 := hr6.symm
    refine z_runi (va_runS (As := [.long (Int32.toInt64 v2), .long (0 : Int64), .long (2 : Int64)]) (rest := []) ⟨hx, hb, hml, hown, hg⟩ (c_X12_isIn l D cy B hr6) (z_cwS hg zw_1111 zw_1112 zw_13 zw_1113 zh_X12_isIn.2 ⟨(Nat.le_of_ble_eq_true rfl), (Nat.le_of_ble_eq_true rfl)⟩) (zPS hC hM) rfl rfl hl.1 rfl (lv_room (Nat.le_of_ble_eq_true rfl)) dX12_row_13 ⟨(Nat.le_of_ble_eq_true rfl), (Nat.le_of_ble_eq_true rfl)⟩) hS (fun H locs hM hX8 hS => ?_)
    refine lv_if_eq (tgt := 25) hx hb dX12_row_16 (by decide) (fun hc10 => ?_) (fun hc10 => ?_)
    · have h := zt h hc10
      refine lv_iconst (v := (-1 : Int32)) hx hb dX12_row_25 (by decide +kernel) ?_
      exact z_iret hx hb hr hlk hM hX0 hS (zsp h) dX12_row_26
    · have h := zf h hc10
      refine lv_iload_n hx hb dX12_row_19 rfl (lv_at hl 3 rfl) ?_
      refine lv_bipush (v := (120 : Int32)) hx hb dX12_row_20 (by decide +kernel) ?_
      refine lv_icmp_le (tgt := 27) hx hb dX12_row_22 (by decide) (fun hc11 => ?_) (fun hc11 => ?_)
      · have h := zt h hc11
        refine lv_iload_n hx hb dX12_row_27 rfl (lv_at hl 3 rfl) ?_
        refine lv_if_ge (tgt := 34) hx hb dX12_row_28 (by decide) (fun hc12 => ?_) (fun hc12 => ?_)
        · have h := zt h hc12
          refine lv_aload_n hx hb dX12_row_34 rfl (lv_at hl 0 rfl) ?_
          obtain ⟨hq14, h⟩ := zk h
          refine z_getN hx hb hg zin_12 hown hK hM ha0 2 rfl (by decide) (hg _ zw_1002) (fun _ h9 => h9) hq14 dX12_row_35 (fun h13 => ?_)
          refine lv_iload_n hx hb dX12_row_38 rfl (lv_at hl 1 rfl) ?_
          refine lv_iconst (v := (2 : Int32)) hx hb dX12_row_39 (by decide +kernel) ?_
          obtain ⟨hq15, h⟩ := zk h
          refine z_iast hx hb hK hM hS h13 hq15 dX12_row_40 (fun H locs hM hS => ?_)
          obtain ⟨S16, e17, h⟩ := zlg h
          rw [← e17] at hM
          have hX18 : zX S0 S16 := by rw [e17]; exact zX_pI
          have h19 := ha0.mo hX18
          have hX20 := hX0.tr hX18
          refine lv_aload_n hx hb dX12_row_41 rfl (lv_at hl 0 rfl) ?_
          obtain ⟨hq22, h⟩ := zk h
          refine z_getN hx hb hg zin_12 hown hK hM h19 3 rfl (by decide) (hg _ zw_1003) (fun _ h9 => h9) hq22 dX12_row_42 (fun h21 => ?_)
          refine lv_iload_n hx hb dX12_row_45 rfl (lv_at hl 1 rfl) ?_
          refine lv_iload_n hx hb dX12_row_46 rfl (lv_at hl 2 rfl) ?_
          obtain ⟨hq23, h⟩ := zk h
          refine z_iast hx hb hK hM hS h21 hq23 dX12_row_47 (fun H locs hM hS => ?_)
          obtain ⟨S24, e25, h⟩ := zlg h
          rw [← e25] at hM
          have hX26 : zX S16 S24 := by rw [e25]; exact zX_pI
          have h27 := h19.mo hX26
          have hX28 := hX20.tr hX26
          refine lv_aload_n hx hb dX12_row_48 rfl (lv_at hl 0 rfl) ?_
          obtain ⟨hq30, h⟩ := zk h
          refine z_getN hx hb hg zin_12 hown hK hM h27 4 rfl (by decide) (hg _ zw_1004) (fun _ h9 => h9) hq30 dX12_row_49 (fun h29 => ?_)
          refine lv_iload_n hx hb dX12_row_52 rfl (lv_at hl 1 rfl) ?_
          refine lv_iload_n hx hb dX12_row_53 rfl (lv_at hl 3 rfl) ?_
          obtain ⟨hq31, h⟩ := zk h
          refine z_iast hx hb hK hM hS h29 hq31 dX12_row_54 (fun H locs hM hS => ?_)
          obtain ⟨S32, e33, h⟩ := zlg h
          rw [← e33] at hM
          have hX34 : zX S24 S32 := by rw [e33]; exact zX_pI
          have h35 := h27.mo hX34
          have hX36 := hX28.tr hX34
          refine lv_iconst (v := (0 : Int32)) hx hb dX12_row_55 (by decide +kernel) ?_
          refine lv_istore (i := 4) (lv' := [(4, .int (0 : Int32)), (0, .ref (B + a0)), (1, .int v1), (2, .int v2), (3, .int v3)]) hx hb dX12_row_56 hl (by decide) rfl (fun ls hl => ?_)
          obtain ⟨K39, eK39, h⟩ := zlg h
          have hK39 : ∀ (S37 : zM) (H : Heap) (locs : List Loc), zMR D cy B S37 H → zX S0 S37 → va_S (fun q => B < q) s.heap H locs → ∀ ls : Array Slot, lv_has ls 5 [] → K39 S37 = some (r, S') → W p l e (headSpec (zws yX12_row cX12_row 5 ((some .int))) { frames := 2, cells := 0, slots := 0, locals := 45 }).room s m (([.ref (B + a0), .int v1, .int v2, .int v3] : List Value).toArray) below meth c H locs 0 0 (MQ below (zQi D cy B S0 r S') (([.ref (B + a0), .int v1, .int v2, .int v3] : List Value).toArray) s 0 0 (fun q => B < q)) (F0 m 84 ls []) := by
            intro S37 H locs hM hX38 hS ls hl h
            rw [eK39] at h
            refine lv_iconst (v := (0 : Int32)) hx hb dX12_row_84 (by decide +kernel) ?_
            exact z_iret hx hb hr hlk hM hX38 hS (zsp h) dX12_row_85
          have hL58 : ∀ (k : Nat) (x41 : Int32) (S42 : zM) (H : Heap) (locs : List Loc), zMR D cy B S42 H → zX S0 S42 → va_S (fun q => B < q) s.heap H locs → zA S42 a0 12 → ∀ ls : Array Slot, lv_has ls 5 [(0, .ref (B + a0)), (1, .int v1), (4, .int x41)] → f_X12_row_L58 a0 v1 K39 k x41 S42 = some (r, S') → W p l e (headSpec (zws yX12_row cX12_row 5 ((some .int))) { frames := 2, cells := 0, slots := 0, locals := 45 }).room s m (([.ref (B + a0), .int v1, .int v2, .int v3] : List Value).toArray) below meth c H locs 0 0 (MQ below (zQi D cy B S0 r S') (([.ref (B + a0), .int v1, .int v2, .int v3] : List Value).toArray) s 0 0 (fun q => B < q)) (F0 m 58 ls []) := by
            intro k
            induction k with
            | zero =>
              intro x41 S42 H locs hM hX43 hS h40 ls hl h
              exact znone h
            | succ k ih58 =>
              intro x41 S42 H locs hM hX43 hS h40 ls hl h
              replace h : f_X12_row_L58b a0 v1 K39 (f_X12_row_L58 a0 v1 K39 k) x41 S42 = some (r, S') := h
              generalize f_X12_row_L58 a0 v1 K39 k = rec58 at ih58 h
              unfold f_X12_row_L58b at h
              refine lv_iload hx hb dX12_row_58 (lv_at hl 2 rfl) ?_
              refine lv_bipush (v := (120 : Int32)) hx hb dX12_row_60 (by decide +kernel) ?_
              refine lv_icmp_ge (tgt := 84) hx hb dX12_row_62 (by decide) (fun hc44 => ?_) (fun hc44 => ?_)
              · have h := zt h hc44
                exact hK39 S42 _ _ hM hX43 hS _ (lv_sub hl [] rfl) h
              · have h := zf h hc44
                refine lv_aload_n hx hb dX12_row_65 rfl (lv_at hl 0 rfl) ?_
                obtain ⟨hq46, h⟩ := zk h
                refine z_getN hx hb hg zin_12 hown hK hM h40 5 rfl (by decide) (hg _ zw_1005) (fun _ h9 => h9) hq46 dX12_row_66 (fun h45 => ?_)
                refine lv_bipush (v := (120 : Int32)) hx hb dX12_row_69 (by decide +kernel) ?_
                refine lv_iload_n hx hb dX12_row_71 rfl (lv_at hl 1 rfl) ?_
                refine lv_imul hx hb dX12_row_72 ?_
                refine lv_iload hx hb dX12_row_73 (lv_at hl 2 rfl) ?_
                refine lv_iadd hx hb dX12_row_75 ?_
                refine lv_iconst (v := (0 : Int32)) hx hb dX12_row_76 (by decide +kernel) ?_
                obtain ⟨hq47, h⟩ := zk h
                refine z_iast hx hb hK hM hS h45 hq47 dX12_row_77 (fun H locs hM hS => ?_)
                obtain ⟨S48, e49, h⟩ := zlg h
                rw [← e49] at hM
                have hX50 : zX S42 S48 := by rw [e49]; exact zX_pI
                have h51 := h40.mo hX50
                have hX52 := hX43.tr hX50
                refine lv_iinc (v := (x41 + (1 : Int32))) (lv' := [(4, .int (x41 + (1 : Int32))), (0, .ref (B + a0)), (1, .int v1)]) hx hb dX12_row_78 hl (k := 2) rfl rfl (by decide) rfl (fun ls hl => ?_)
                refine lv_goto (tgt := 58) hx hb dX12_row_81 (by decide) ?_
                exact ih58 (x41 + (1 : Int32)) S48 _ _ hM hX52 hS h51 _ (lv_sub hl [1, 2, 0] rfl) h
          exact hL58 n (0 : Int32) S32 _ _ hM hX36 hS h35 _ (lv_sub hl [1, 2, 0] rfl) h
        · have h := zf h hc12
          refine lv_bipush (v := (-14 : Int32)) hx hb dX12_row_31 (by decide +kernel) ?_
          exact z_iret hx hb hr hlk hM hX0 hS (zsp h) dX12_row_33
      · have h := zf h hc11
        refine lv_iconst (v := (-1 : Int32)) hx hb dX12_row_25 (by decide +kernel) ?_
        exact z_iret hx hb hr hlk hM hX0 hS (zsp h) dX12_row_26
def f_X12_put (S0 : zM) (a0 : Nat) (v1 : Int32) (v2 : Int32) (v3 : Int32) : Option (Int32 × zM) :=
  zB1 (f_X12_wrongRow S0 a0 v1 (-1 : Int32)) (fun r2 => if r2 = 0 then zChk (¬ (zr S0 a0 4) = 0) (zChk (¬ (v1 < 0 ∨ zln S0 (zr S0 a0 4) ≤ (v1).toNatClampNeg)) (zLet (f_X12_isIn (Int32.toInt64 v2) (0 : Int64) (Int32.toInt64 ((zi S0 (zr S0 a0 4) (Int32.toNatClampNeg v1)) - (1 : Int32)))) (fun r10 => if r10 = 0 then some (((-13 : Int32), S0)) else zChk (¬ (zr S0 a0 5) = 0) (zChk (¬ (zr S0 a0 3) = 0) (zChk (¬ (v1 < 0 ∨ zln S0 (zr S0 a0 3) ≤ (v1).toNatClampNeg)) (if (zi S0 (zr S0 a0 3) (Int32.toNatClampNeg v1)) = 0 then zChk (¬ ((((120 : Int32) * v1) + v2) < 0 ∨ zln S0 (zr S0 a0 5) ≤ ((((120 : Int32) * v1) + v2)).toNatClampNeg)) (zLet (zpI S0 (zr S0 a0 5) (Int32.toNatClampNeg (((120 : Int32) * v1) + v2)) (Int8.toInt32 (Int32.toInt8 v3))) (fun S34 => some (((0 : Int32), S34)))) else zChk (¬ (v1 < 0 ∨ zln S0 (zr S0 a0 3) ≤ (v1).toNatClampNeg)) (if (zi S0 (zr S0 a0 3) (Int32.toNatClampNeg v1)) = (1 : Int32) then zChk (¬ ((((120 : Int32) * v1) + v2) < 0 ∨ zln S0 (zr S0 a0 5) ≤ ((((120 : Int32) * v1) + v2)).toNatClampNeg)) (zLet (zpI S0 (zr S0 a0 5) (Int32.toNatClampNeg (((120 : Int32) * v1) + v2)) (Int16.toInt32 (Int32.toInt16 v3))) (fun S29 => some (((0 : Int32), S29)))) else zChk (¬ ((((120 : Int32) * v1) + v2) < 0 ∨ zln S0 (zr S0 a0 5) ≤ ((((120 : Int32) * v1) + v2)).toNatClampNeg)) (zLet (zpI S0 (zr S0 a0 5) (Int32.toNatClampNeg (((120 : Int32) * v1) + v2)) v3) (fun S24 => some (((0 : Int32), S24))))))))))) else some ((r2, S0)))
set_option maxHeartbeats 4000000 in
set_option maxRecDepth 100000 in
theorem c_X12_put (l : Launch) (D : va_G) (cy : Nat → ClassId) (B : Nat) {S0 : zM} {a0 : Nat} {v1 : Int32} {v2 : Int32} {v3 : Int32} {r : Int32} {S' : zM} (ha0 : zA S0 a0 12) (h : f_X12_put S0 a0 v1 v2 v3 = some (r, S')) : Met l yX12_put (zws yX12_put cX12_put 5 ((some .int))) { frames := 3, cells := 0, slots := 0, locals := 67 } (zPc D cy B S0 [.ref (B + a0), .int v1, .int v2, .int v3]) (zQi D cy B S0 r S') 0 0 (fun q => B < q) := by
  refine Met.ofW (cc := cX12_put) (maxL := 5) (ret := ((some .int))) (by decide) rfl ?_
  intro p e s m args below meth c s₁ Bd hml hv
  obtain ⟨rfl, hC, hM⟩ := hv
  obtain ⟨hx, hb, hr, hg, hown, hlk⟩ := z_open Bd
  have hK := hC.1
  have hS : va_S (fun q => B < q) s.heap s.heap [] := va_S.rf
  have hX0 : zX S0 S0 := zX.rf
  refine z_entry (vs := [.ref (B + a0), .int v1, .int v2, .int v3]) (Nat.le_of_ble_eq_true rfl) (fun ls hl => ?_)
  have hl : lv_has ls 5 [(0, .ref (B + a0)), (1, .int v1), (2, .int v2), (3, .int v3)] := hl
  unfold f_X12_put at h
  refine lv_aload_n hx hb dX12_put_0 rfl (lv_at hl 0 rfl) ?_
  refine lv_iload_n hx hb dX12_put_1 rfl (lv_at hl 1 rfl) ?_
  refine lv_iconst (v := (-1 : Int32)) hx hb dX12_put_2 (by decide +kernel) ?_
  obtain ⟨r2, hr1, h⟩ := zb1 h
  refine z_runi (va_runV (As := [.int v1, .int (-1 : Int32)]) (rest := []) ⟨hx, hb, hml, hown, hg⟩ (c_X12_wrongRow l D cy B ha0 hr1) (z_cwV hg zw_1212 zw_1213 zw_1496 zw_13 zw_1214 zh_X12_wrongRow ⟨(Nat.le_of_ble_eq_true rfl), (Nat.le_of_ble_eq_true rfl)⟩) (zPV hC hM ha0 (by decide) rfl) rfl rfl hl.1 rfl (lv_room (Nat.le_of_ble_eq_true rfl)) dX12_put_3 ⟨(Nat.le_of_ble_eq_true rfl), (Nat.le_of_ble_eq_true rfl)⟩) hS (fun H locs hM hX3 hS => ?_)
  refine lv_istore (i := 4) (lv' := [(4, .int r2), (0, .ref (B + a0)), (1, .int v1), (2, .int v2), (3, .int v3)]) hx hb dX12_put_6 hl (by decide) rfl (fun ls hl => ?_)
  refine lv_iload hx hb dX12_put_8 (lv_at hl 0 rfl) ?_
  refine lv_if_eq (tgt := 16) hx hb dX12_put_10 (by decide) (fun hc5 => ?_) (fun hc5 => ?_)
  · have h := zt h hc5
    refine lv_iload_n hx hb dX12_put_16 rfl (lv_at hl 3 rfl) ?_
    refine lv_i2l hx hb dX12_put_17 rfl ?_
    refine lv_lconst (v := (0 : Int64)) hx hb dX12_put_18 (by decide +kernel) ?_
    refine lv_aload_n hx hb dX12_put_19 rfl (lv_at hl 1 rfl) ?_
    obtain ⟨hq7, h⟩ := zk h
    refine z_getN hx hb hg zin_12 hown hK hM ha0 4 rfl (by decide) (hg _ zw_1004) (fun _ h9 => h9) hq7 dX12_put_20 (fun h6 => ?_)
    refine lv_iload_n hx hb dX12_put_23 rfl (lv_at hl 2 rfl) ?_
    obtain ⟨hq8, h⟩ := zk h
    refine z_iald hx hb hK hM h6 hq8 dX12_put_24 ?_
    refine lv_iconst (v := (1 : Int32)) hx hb dX12_put_25 (by decide +kernel) ?_
    refine lv_isub hx hb dX12_put_26 ?_
    refine lv_i2l hx hb dX12_put_27 rfl ?_
    obtain ⟨r10, hr9, h⟩ := zlg h
    have hr9 := hr9.symm
    refine z_runi (va_runS (As := [.long (Int32.toInt64 v2), .long (0 : Int64), .long (Int32.toInt64 ((zi S0 (zr S0 a0 4) (Int32.toNatClampNeg v1)) - (1 : Int32)))]) (rest := []) ⟨hx, hb, hml, hown, hg⟩ (c_X12_isIn l D cy B hr9) (z_cwS hg zw_1111 zw_1112 zw_13 zw_1113 zh_X12_isIn.2 ⟨(Nat.le_of_ble_eq_true rfl), (Nat.le_of_ble_eq_true rfl)⟩) (zPS hC hM) rfl rfl hl.1 rfl (lv_room (Nat.le_of_ble_eq_true rfl)) dX12_put_28 ⟨(Nat.le_of_ble_eq_true rfl), (Nat.le_of_ble_eq_true rfl)⟩) hS (fun H locs hM hX11 hS => ?_)
    refine lv_if_ne (tgt := 37) hx hb dX12_put_31 (by decide) (fun hc13 => ?_) (fun hc13 => ?_)
    · have h := zf h hc13
      refine lv_aload_n hx hb dX12_put_37 rfl (lv_at hl 1 rfl) ?_
      obtain ⟨hq15, h⟩ := zk h
      refine z_getN hx hb hg zin_12 hown hK hM ha0 5 rfl (by decide) (hg _ zw_1005) (fun _ h9 => h9) hq15 dX12_put_38 (fun h14 => ?_)
      refine lv_bipush (v := (120 : Int32)) hx hb dX12_put_41 (by decide +kernel) ?_
      refine lv_iload_n hx hb dX12_put_43 rfl (lv_at hl 2 rfl) ?_
      refine lv_imul hx hb dX12_put_44 ?_
      refine lv_iload_n hx hb dX12_put_45 rfl (lv_at hl 3 rfl) ?_
      refine lv_iadd hx hb dX12_put_46 ?_
      refine lv_aload_n hx hb dX12_put_47 rfl (lv_at hl 1 rfl) ?_
      obtain ⟨hq17, h⟩ := zk h
      refine z_getN hx hb hg zin_12 hown hK hM ha0 3 rfl (by decide) (hg _ zw_1003) (fun _ h9 => h9) hq17 dX12_put_48 (fun h16 => ?_)
      refine lv_iload_n hx hb dX12_put_51 rfl (lv_at hl 2 rfl) ?_
      obtain ⟨hq18, h⟩ := zk h
      refine z_iald hx hb hK hM h16 hq18 dX12_put_52 ?_
      refine lv_if_ne (tgt := 61) hx hb dX12_put_53 (by decide) (fun hc19 => ?_) (fun hc19 => ?_)
      · have h := zf h hc19
        refine lv_aload_n hx hb dX12_put_61 rfl (lv_at hl 1 rfl) ?_
        refine z_getN hx hb hg zin_12 hown hK hM ha0 3 rfl (by decide) (hg _ zw_1003) (fun _ h9 => h9) h16.ne dX12_put_62 (fun h20 => ?_)
        refine lv_iload_n hx hb dX12_put_65 rfl (lv_at hl 2 rfl) ?_
        obtain ⟨hq21, h⟩ := zk h
        refine z_iald hx hb hK hM h20 hq21 dX12_put_66 ?_
        refine lv_iconst (v := (1 : Int32)) hx hb dX12_put_67 (by decide +kernel) ?_
        refine lv_icmp_ne (tgt := 76) hx hb dX12_put_68 (by decide) (fun hc22 => ?_) (fun hc22 => ?_)
        · have h := zf h hc22
          refine lv_iload_n hx hb dX12_put_76 rfl (lv_at hl 4 rfl) ?_
          obtain ⟨hq23, h⟩ := zk h
          refine z_iast hx hb hK hM hS h14 hq23 dX12_put_77 (fun H locs hM hS => ?_)
          obtain ⟨S24, e25, h⟩ := zlg h
          rw [← e25] at hM
          have hX26 : zX S0 S24 := by rw [e25]; exact zX_pI
          have hX27 := hX0.tr hX26
          refine lv_iconst (v := (0 : Int32)) hx hb dX12_put_78 (by decide +kernel) ?_
          exact z_iret hx hb hr hlk hM hX27 hS (zsp h) dX12_put_79
        · have h := zt h hc22
          refine lv_iload_n hx hb dX12_put_71 rfl (lv_at hl 4 rfl) ?_
          refine lv_i2s hx hb dX12_put_72 rfl ?_
          refine lv_goto (tgt := 77) hx hb dX12_put_73 (by decide) ?_
          obtain ⟨hq28, h⟩ := zk h
          refine z_iast hx hb hK hM hS h14 hq28 dX12_put_77 (fun H locs hM hS => ?_)
          obtain ⟨S29, e30, h⟩ := zlg h
          rw [← e30] at hM
          have hX31 : zX S0 S29 := by rw [e30]; exact zX_pI
          have hX32 := hX0.tr hX31
          refine lv_iconst (v := (0 : Int32)) hx hb dX12_put_78 (by decide +kernel) ?_
          exact z_iret hx hb hr hlk hM hX32 hS (zsp h) dX12_put_79
      · have h := zt h hc19
        refine lv_iload_n hx hb dX12_put_56 rfl (lv_at hl 4 rfl) ?_
        refine lv_i2b hx hb dX12_put_57 rfl ?_
        refine lv_goto (tgt := 77) hx hb dX12_put_58 (by decide) ?_
        obtain ⟨hq33, h⟩ := zk h
        refine z_iast hx hb hK hM hS h14 hq33 dX12_put_77 (fun H locs hM hS => ?_)
        obtain ⟨S34, e35, h⟩ := zlg h
        rw [← e35] at hM
        have hX36 : zX S0 S34 := by rw [e35]; exact zX_pI
        have hX37 := hX0.tr hX36
        refine lv_iconst (v := (0 : Int32)) hx hb dX12_put_78 (by decide +kernel) ?_
        exact z_iret hx hb hr hlk hM hX37 hS (zsp h) dX12_put_79
    · have h := zt h hc13
      refine lv_bipush (v := (-13 : Int32)) hx hb dX12_put_34 (by decide +kernel) ?_
      exact z_iret hx hb hr hlk hM hX0 hS (zsp h) dX12_put_36
  · have h := zf h hc5
    refine lv_iload hx hb dX12_put_13 (lv_at hl 0 rfl) ?_
    exact z_iret hx hb hr hlk hM hX0 hS (zsp h) dX12_put_15
def f_X12_element (S0 : zM) (a0 : Nat) (v1 : Int32) (v2 : Int32) : Option (Int64 × zM) :=
  zB1 (f_X12_isShelf v1) (fun r2 => zLet (fun (x6 : Int32) => zLet (zpI S0 a0 9 x6) (fun S9 => if (zi S9 a0 9) = 0 then zChk (¬ (zr S9 a0 5) = 0) (zChk (¬ ((((120 : Int32) * v1) + v2) < 0 ∨ zln S9 (zr S9 a0 5) ≤ ((((120 : Int32) * v1) + v2)).toNatClampNeg)) (some (((Int32.toInt64 (zi S9 (zr S9 a0 5) (Int32.toNatClampNeg (((120 : Int32) * v1) + v2)))), S9)))) else some (((0 : Int64), S9)))) (fun K8 => if r2 = 0 then K8 (1 : Int32) else zChk (¬ (zr S0 a0 2) = 0) (zChk (¬ (v1 < 0 ∨ zln S0 (zr S0 a0 2) ≤ (v1).toNatClampNeg)) (zLet (K8 (2 : Int32)) (fun K24 => if (zi S0 (zr S0 a0 2) (Int32.toNatClampNeg v1)) = (2 : Int32) then zChk (¬ (zr S0 a0 4) = 0) (zChk (¬ (v1 < 0 ∨ zln S0 (zr S0 a0 4) ≤ (v1).toNatClampNeg)) (zLet (f_X12_isIn (Int32.toInt64 v2) (0 : Int64) (Int32.toInt64 ((zi S0 (zr S0 a0 4) (Int32.toNatClampNeg v1)) - (1 : Int32)))) (fun r30 => if r30 = 0 then K24 else K8 (0 : Int32)))) else K24)))))
set_option maxHeartbeats 4000000 in
set_option maxRecDepth 100000 in
theorem c_X12_element (l : Launch) (D : va_G) (cy : Nat → ClassId) (B : Nat) {S0 : zM} {a0 : Nat} {v1 : Int32} {v2 : Int32} {r : Int64} {S' : zM} (ha0 : zA S0 a0 12) (h : f_X12_element S0 a0 v1 v2 = some (r, S')) : Met l yX12_element (zws yX12_element cX12_element 3 ((some .long))) { frames := 2, cells := 0, slots := 0, locals := 45 } (zPc D cy B S0 [.ref (B + a0), .int v1, .int v2]) (zQl D cy B S0 r S') 0 0 (fun q => B < q) := by
  refine Met.ofW (cc := cX12_element) (maxL := 3) (ret := ((some .long))) (by decide) rfl ?_
  intro p e s m args below meth c s₁ Bd hml hv
  obtain ⟨rfl, hC, hM⟩ := hv
  obtain ⟨hx, hb, hr, hg, hown, hlk⟩ := z_open Bd
  have hK := hC.1
  have hS : va_S (fun q => B < q) s.heap s.heap [] := va_S.rf
  have hX0 : zX S0 S0 := zX.rf
  refine z_entry (vs := [.ref (B + a0), .int v1, .int v2]) (Nat.le_of_ble_eq_true rfl) (fun ls hl => ?_)
  have hl : lv_has ls 3 [(0, .ref (B + a0)), (1, .int v1), (2, .int v2)] := hl
  unfold f_X12_element at h
  refine lv_aload_n hx hb dX12_element_0 rfl (lv_at hl 0 rfl) ?_
  refine lv_iload_n hx hb dX12_element_1 rfl (lv_at hl 1 rfl) ?_
  obtain ⟨r2, hr1, h⟩ := zb1 h
  refine z_runi (va_runS (As := [.int v1]) (rest := [.ref (B + a0)]) ⟨hx, hb, hml, hown, hg⟩ (c_X12_isShelf l D cy B hr1) (z_cwS hg zw_1215 zw_1216 zw_13 zw_1217 zh_X12_isShelf.2 ⟨(Nat.le_of_ble_eq_true rfl), (Nat.le_of_ble_eq_true rfl)⟩) (zPS hC hM) rfl rfl hl.1 rfl (lv_room (Nat.le_of_ble_eq_true rfl)) dX12_element_2 ⟨(Nat.le_of_ble_eq_true rfl), (Nat.le_of_ble_eq_true rfl)⟩) hS (fun H locs hM hX3 hS => ?_)
  obtain ⟨K8, eK8, h⟩ := zlg h
  have hK8 : ∀ (x6 : Int32) (H : Heap) (locs : List Loc), zMR D cy B S0 H → zX S0 S0 → va_S (fun q => B < q) s.heap H locs → zA S0 a0 12 → ∀ ls : Array Slot, lv_has ls 3 [(0, .ref (B + a0)), (1, .int v1), (2, .int v2)] → K8 x6 = some (r, S') → W p l e (headSpec (zws yX12_element cX12_element 3 ((some .long))) { frames := 2, cells := 0, slots := 0, locals := 45 }).room s m (([.ref (B + a0), .int v1, .int v2] : List Value).toArray) below meth c H locs 0 0 (MQ below (zQl D cy B S0 r S') (([.ref (B + a0), .int v1, .int v2] : List Value).toArray) s 0 0 (fun q => B < q)) (F0 m 45 ls [.int x6, .ref (B + a0)]) := by
    intro x6 H locs hM hX7 hS h5 ls hl h
    rw [eK8] at h
    refine z_putI hx hb hg zin_12 tyX12 tyX12_ok nmX12 hown hK hM hS h5 9 rfl (by decide) (hg _ zw_1009) (fun _ h9 => h9) (Or.inl rfl) (tyX12_ok 9 (by decide)) rfl rfl dX12_element_45 (fun H locs hM hS => ?_)
    obtain ⟨S9, e10, h⟩ := zlg h
    rw [← e10] at hM
    have hX11 : zX S0 S9 := by rw [e10]; exact zX_pI
    have h12 := h5.mo hX11
    have hX13 := hX7.tr hX11
    refine lv_aload_n hx hb dX12_element_48 rfl (lv_at hl 0 rfl) ?_
    refine z_getI hx hb hg zin_12 hown hK hM h12 9 rfl (by decide) (hg _ zw_1009) (fun _ h9 => h9) dX12_element_49 ?_
    refine lv_if_ne (tgt := 70) hx hb dX12_element_52 (by decide) (fun hc14 => ?_) (fun hc14 => ?_)
    · have h := zf h hc14
      refine lv_lconst (v := (0 : Int64)) hx hb dX12_element_70 (by decide +kernel) ?_
      exact z_lret hx hb hr hlk hM hX13 hS (zsp h) dX12_element_71
    · have h := zt h hc14
      refine lv_aload_n hx hb dX12_element_55 rfl (lv_at hl 0 rfl) ?_
      obtain ⟨hq16, h⟩ := zk h
      refine z_getN hx hb hg zin_12 hown hK hM h12 5 rfl (by decide) (hg _ zw_1005) (fun _ h9 => h9) hq16 dX12_element_56 (fun h15 => ?_)
      refine lv_bipush (v := (120 : Int32)) hx hb dX12_element_59 (by decide +kernel) ?_
      refine lv_iload_n hx hb dX12_element_61 rfl (lv_at hl 1 rfl) ?_
      refine lv_imul hx hb dX12_element_62 ?_
      refine lv_iload_n hx hb dX12_element_63 rfl (lv_at hl 2 rfl) ?_
      refine lv_iadd hx hb dX12_element_64 ?_
      obtain ⟨hq17, h⟩ := zk h
      refine z_iald hx hb hK hM h15 hq17 dX12_element_65 ?_
      refine lv_i2l hx hb dX12_element_66 rfl ?_
      refine lv_goto (tgt := 71) hx hb dX12_element_67 (by decide) ?_
      exact z_lret hx hb hr hlk hM hX13 hS (zsp h) dX12_element_71
  refine lv_if_ne (tgt := 12) hx hb dX12_element_5 (by decide) (fun hc18 => ?_) (fun hc18 => ?_)
  · have h := zf h hc18
    refine lv_aload_n hx hb dX12_element_12 rfl (lv_at hl 0 rfl) ?_
    obtain ⟨hq20, h⟩ := zk h
    refine z_getN hx hb hg zin_12 hown hK hM ha0 2 rfl (by decide) (hg _ zw_1002) (fun _ h9 => h9) hq20 dX12_element_13 (fun h19 => ?_)
    refine lv_iload_n hx hb dX12_element_16 rfl (lv_at hl 1 rfl) ?_
    obtain ⟨hq21, h⟩ := zk h
    refine z_iald hx hb hK hM h19 hq21 dX12_element_17 ?_
    refine lv_iconst (v := (2 : Int32)) hx hb dX12_element_18 (by decide +kernel) ?_
    obtain ⟨K24, eK24, h⟩ := zlg h
    have hK24 : ∀ (H : Heap) (locs : List Loc), zMR D cy B S0 H → zX S0 S0 → va_S (fun q => B < q) s.heap H locs → zA S0 a0 12 → ∀ ls : Array Slot, lv_has ls 3 [(0, .ref (B + a0)), (1, .int v1), (2, .int v2)] → K24 = some (r, S') → W p l e (headSpec (zws yX12_element cX12_element 3 ((some .long))) { frames := 2, cells := 0, slots := 0, locals := 45 }).room s m (([.ref (B + a0), .int v1, .int v2] : List Value).toArray) below meth c H locs 0 0 (MQ below (zQl D cy B S0 r S') (([.ref (B + a0), .int v1, .int v2] : List Value).toArray) s 0 0 (fun q => B < q)) (F0 m 40 ls [.ref (B + a0)]) := by
      intro H locs hM hX23 hS h22 ls hl h
      rw [eK24] at h
      refine lv_iconst (v := (2 : Int32)) hx hb dX12_element_40 (by decide +kernel) ?_
      refine lv_goto (tgt := 45) hx hb dX12_element_41 (by decide) ?_
      exact hK8 (2 : Int32) _ _ hM hX23 hS h22 _ (lv_sub hl [0, 1, 2] rfl) h
    refine lv_icmp_ne (tgt := 40) hx hb dX12_element_19 (by decide) (fun hc25 => ?_) (fun hc25 => ?_)
    · have h := zf h hc25
      exact hK24 _ _ hM hX0 hS ha0 _ (lv_sub hl [0, 1, 2] rfl) h
    · have h := zt h hc25
      refine lv_iload_n hx hb dX12_element_22 rfl (lv_at hl 2 rfl) ?_
      refine lv_i2l hx hb dX12_element_23 rfl ?_
      refine lv_lconst (v := (0 : Int64)) hx hb dX12_element_24 (by decide +kernel) ?_
      refine lv_aload_n hx hb dX12_element_25 rfl (lv_at hl 0 rfl) ?_
      obtain ⟨hq27, h⟩ := zk h
      refine z_getN hx hb hg zin_12 hown hK hM ha0 4 rfl (by decide) (hg _ zw_1004) (fun _ h9 => h9) hq27 dX12_element_26 (fun h26 => ?_)
      refine lv_iload_n hx hb dX12_element_29 rfl (lv_at hl 1 rfl) ?_
      obtain ⟨hq28, h⟩ := zk h
      refine z_iald hx hb hK hM h26 hq28 dX12_element_30 ?_
      refine lv_iconst (v := (1 : Int32)) hx hb dX12_element_31 (by decide +kernel) ?_
      refine lv_isub hx hb dX12_element_32 ?_
      refine lv_i2l hx hb dX12_element_33 rfl ?_
      obtain ⟨r30, hr29, h⟩ := zlg h
      have hr29 := hr29.symm
      refine z_runi (va_runS (As := [.long (Int32.toInt64 v2), .long (0 : Int64), .long (Int32.toInt64 ((zi S0 (zr S0 a0 4) (Int32.toNatClampNeg v1)) - (1 : Int32)))]) (rest := [.ref (B + a0)]) ⟨hx, hb, hml, hown, hg⟩ (c_X12_isIn l D cy B hr29) (z_cwS hg zw_1111 zw_1112 zw_13 zw_1113 zh_X12_isIn.2 ⟨(Nat.le_of_ble_eq_true rfl), (Nat.le_of_ble_eq_true rfl)⟩) (zPS hC hM) rfl rfl hl.1 rfl (lv_room (Nat.le_of_ble_eq_true rfl)) dX12_element_34 ⟨(Nat.le_of_ble_eq_true rfl), (Nat.le_of_ble_eq_true rfl)⟩) hS (fun H locs hM hX31 hS => ?_)
      refine lv_if_ne (tgt := 44) hx hb dX12_element_37 (by decide) (fun hc33 => ?_) (fun hc33 => ?_)
      · have h := zf h hc33
        refine lv_iconst (v := (0 : Int32)) hx hb dX12_element_44 (by decide +kernel) ?_
        exact hK8 (0 : Int32) _ _ hM hX0 hS ha0 _ (lv_sub hl [0, 1, 2] rfl) h
      · have h := zt h hc33
        exact hK24 _ _ hM hX0 hS ha0 _ (lv_sub hl [0, 1, 2] rfl) h
  · have h := zt h hc18
    refine lv_iconst (v := (1 : Int32)) hx hb dX12_element_8 (by decide +kernel) ?_
    refine lv_goto (tgt := 45) hx hb dX12_element_9 (by decide) ?_
    exact hK8 (1 : Int32) _ _ hM hX0 hS ha0 _ (lv_sub hl [0, 1, 2] rfl) h
def f_X12_copy_L122b (a0 : Nat) (v1 : Int32) (v2 : Int32) (v3 : Int32) (v4 : Int32) (v5 : Int32) (K42 : zM → Option (Int32 × zM)) (rec122 : Int32 → zM → Option (Int32 × zM)) (x44 : Int32) (S45 : zM) : Option (Int32 × zM) :=
  if v5 ≤ x44 then K42 S45 else zLet (fun (x49 : Int32) => zChk (¬ (zr S45 a0 5) = 0) (zChk (¬ (((((120 : Int32) * v1) + v2) + x49) < 0 ∨ zln S45 (zr S45 a0 5) ≤ (((((120 : Int32) * v1) + v2) + x49)).toNatClampNeg)) (zChk (¬ (((((120 : Int32) * v3) + v4) + x49) < 0 ∨ zln S45 (zr S45 a0 5) ≤ (((((120 : Int32) * v3) + v4) + x49)).toNatClampNeg)) (zLet (zpI S45 (zr S45 a0 5) (Int32.toNatClampNeg ((((120 : Int32) * v3) + v4) + x49)) (zi S45 (zr S45 a0 5) (Int32.toNatClampNeg ((((120 : Int32) * v1) + v2) + x49)))) (fun S57 => rec122 (x44 + (1 : Int32)) S57))))) (fun K51 => if v2 ≤ v4 then K51 ((v5 - (1 : Int32)) - x44) else K51 x44)
def f_X12_copy_L122 (a0 : Nat) (v1 : Int32) (v2 : Int32) (v3 : Int32) (v4 : Int32) (v5 : Int32) (K42 : zM → Option (Int32 × zM)) : Nat → Int32 → zM → Option (Int32 × zM)
  | 0 => fun _ _ => none
  | k + 1 => fun x44 S45 => f_X12_copy_L122b a0 v1 v2 v3 v4 v5 K42 (f_X12_copy_L122 a0 v1 v2 v3 v4 v5 K42 k) x44 S45
def f_X12_copy (n : Nat) (S0 : zM) (a0 : Nat) (v1 : Int32) (v2 : Int32) (v3 : Int32) (v4 : Int32) (v5 : Int32) : Option (Int32 × zM) :=
  zB1 (f_X12_isShelf v1) (fun r2 => if r2 = 0 then some (((-1 : Int32), S0)) else zB1 (f_X12_isShelf v3) (fun r7 => if r7 = 0 then some (((-1 : Int32), S0)) else zChk (¬ (zr S0 a0 2) = 0) (zChk (¬ (v1 < 0 ∨ zln S0 (zr S0 a0 2) ≤ (v1).toNatClampNeg)) (if (zi S0 (zr S0 a0 2) (Int32.toNatClampNeg v1)) = 0 then some (((-11 : Int32), S0)) else zChk (¬ (v3 < 0 ∨ zln S0 (zr S0 a0 2) ≤ (v3).toNatClampNeg)) (if (zi S0 (zr S0 a0 2) (Int32.toNatClampNeg v3)) = 0 then some (((-11 : Int32), S0)) else zChk (¬ (v1 < 0 ∨ zln S0 (zr S0 a0 2) ≤ (v1).toNatClampNeg)) (if (zi S0 (zr S0 a0 2) (Int32.toNatClampNeg v1)) = (2 : Int32) then zChk (¬ (v3 < 0 ∨ zln S0 (zr S0 a0 2) ≤ (v3).toNatClampNeg)) (if (zi S0 (zr S0 a0 2) (Int32.toNatClampNeg v3)) = (2 : Int32) then zChk (¬ (zr S0 a0 3) = 0) (zChk (¬ (v1 < 0 ∨ zln S0 (zr S0 a0 3) ≤ (v1).toNatClampNeg)) (zChk (¬ (v3 < 0 ∨ zln S0 (zr S0 a0 3) ≤ (v3).toNatClampNeg)) (if (zi S0 (zr S0 a0 3) (Int32.toNatClampNeg v1)) = (zi S0 (zr S0 a0 3) (Int32.toNatClampNeg v3)) then if v5 < 0 then some (((-13 : Int32), S0)) else if v2 < 0 then some (((-13 : Int32), S0)) else if v4 < 0 then some (((-13 : Int32), S0)) else zChk (¬ (zr S0 a0 4) = 0) (zChk (¬ (v1 < 0 ∨ zln S0 (zr S0 a0 4) ≤ (v1).toNatClampNeg)) (if ((zi S0 (zr S0 a0 4) (Int32.toNatClampNeg v1)) - v2) < v5 then some (((-13 : Int32), S0)) else zChk (¬ (v3 < 0 ∨ zln S0 (zr S0 a0 4) ≤ (v3).toNatClampNeg)) (if v5 ≤ ((zi S0 (zr S0 a0 4) (Int32.toNatClampNeg v3)) - v4) then zLet (fun (S40 : zM) => some ((v5, S40))) (fun K42 => f_X12_copy_L122 a0 v1 v2 v3 v4 v5 K42 n (0 : Int32) S0) else some (((-13 : Int32), S0))))) else some (((-12 : Int32), S0))))) else some (((-12 : Int32), S0))) else some (((-12 : Int32), S0))))))))
set_option maxHeartbeats 4000000 in
set_option maxRecDepth 100000 in
theorem c_X12_copy (l : Launch) (D : va_G) (cy : Nat → ClassId) (B : Nat) {n : Nat} {S0 : zM} {a0 : Nat} {v1 : Int32} {v2 : Int32} {v3 : Int32} {v4 : Int32} {v5 : Int32} {r : Int32} {S' : zM} (ha0 : zA S0 a0 12) (h : f_X12_copy n S0 a0 v1 v2 v3 v4 v5 = some (r, S')) : Met l yX12_copy (zws yX12_copy cX12_copy 8 ((some .int))) { frames := 2, cells := 0, slots := 0, locals := 45 } (zPc D cy B S0 [.ref (B + a0), .int v1, .int v2, .int v3, .int v4, .int v5]) (zQi D cy B S0 r S') 0 0 (fun q => B < q) := by
  refine Met.ofW (cc := cX12_copy) (maxL := 8) (ret := ((some .int))) (by decide) rfl ?_
  intro p e s m args below meth c s₁ Bd hml hv
  obtain ⟨rfl, hC, hM⟩ := hv
  obtain ⟨hx, hb, hr, hg, hown, hlk⟩ := z_open Bd
  have hK := hC.1
  have hS : va_S (fun q => B < q) s.heap s.heap [] := va_S.rf
  have hX0 : zX S0 S0 := zX.rf
  refine z_entry (vs := [.ref (B + a0), .int v1, .int v2, .int v3, .int v4, .int v5]) (Nat.le_of_ble_eq_true rfl) (fun ls hl => ?_)
  have hl : lv_has ls 8 [(0, .ref (B + a0)), (1, .int v1), (2, .int v2), (3, .int v3), (4, .int v4), (5, .int v5)] := hl
  unfold f_X12_copy at h
  refine lv_iload_n hx hb dX12_copy_0 rfl (lv_at hl 1 rfl) ?_
  obtain ⟨r2, hr1, h⟩ := zb1 h
  refine z_runi (va_runS (As := [.int v1]) (rest := []) ⟨hx, hb, hml, hown, hg⟩ (c_X12_isShelf l D cy B hr1) (z_cwS hg zw_1215 zw_1216 zw_13 zw_1217 zh_X12_isShelf.2 ⟨(Nat.le_of_ble_eq_true rfl), (Nat.le_of_ble_eq_true rfl)⟩) (zPS hC hM) rfl rfl hl.1 rfl (lv_room (Nat.le_of_ble_eq_true rfl)) dX12_copy_1 ⟨(Nat.le_of_ble_eq_true rfl), (Nat.le_of_ble_eq_true rfl)⟩) hS (fun H locs hM hX3 hS => ?_)
  refine lv_if_eq (tgt := 14) hx hb dX12_copy_4 (by decide) (fun hc5 => ?_) (fun hc5 => ?_)
  · have h := zt h hc5
    refine lv_iconst (v := (-1 : Int32)) hx hb dX12_copy_14 (by decide +kernel) ?_
    exact z_iret hx hb hr hlk hM hX0 hS (zsp h) dX12_copy_15
  · have h := zf h hc5
    refine lv_iload_n hx hb dX12_copy_7 rfl (lv_at hl 3 rfl) ?_
    obtain ⟨r7, hr6, h⟩ := zb1 h
    refine z_runi (va_runS (As := [.int v3]) (rest := []) ⟨hx, hb, hml, hown, hg⟩ (c_X12_isShelf l D cy B hr6) (z_cwS hg zw_1215 zw_1216 zw_13 zw_1217 zh_X12_isShelf.2 ⟨(Nat.le_of_ble_eq_true rfl), (Nat.le_of_ble_eq_true rfl)⟩) (zPS hC hM) rfl rfl hl.1 rfl (lv_room (Nat.le_of_ble_eq_true rfl)) dX12_copy_8 ⟨(Nat.le_of_ble_eq_true rfl), (Nat.le_of_ble_eq_true rfl)⟩) hS (fun H locs hM hX8 hS => ?_)
    refine lv_if_ne (tgt := 16) hx hb dX12_copy_11 (by decide) (fun hc10 => ?_) (fun hc10 => ?_)
    · have h := zf h hc10
      refine lv_aload_n hx hb dX12_copy_16 rfl (lv_at hl 0 rfl) ?_
      obtain ⟨hq12, h⟩ := zk h
      refine z_getN hx hb hg zin_12 hown hK hM ha0 2 rfl (by decide) (hg _ zw_1002) (fun _ h9 => h9) hq12 dX12_copy_17 (fun h11 => ?_)
      refine lv_iload_n hx hb dX12_copy_20 rfl (lv_at hl 1 rfl) ?_
      obtain ⟨hq13, h⟩ := zk h
      refine z_iald hx hb hK hM h11 hq13 dX12_copy_21 ?_
      refine lv_if_eq (tgt := 34) hx hb dX12_copy_22 (by decide) (fun hc14 => ?_) (fun hc14 => ?_)
      · have h := zt h hc14
        refine lv_bipush (v := (-11 : Int32)) hx hb dX12_copy_34 (by decide +kernel) ?_
        exact z_iret hx hb hr hlk hM hX0 hS (zsp h) dX12_copy_36
      · have h := zf h hc14
        refine lv_aload_n hx hb dX12_copy_25 rfl (lv_at hl 0 rfl) ?_
        refine z_getN hx hb hg zin_12 hown hK hM ha0 2 rfl (by decide) (hg _ zw_1002) (fun _ h9 => h9) h11.ne dX12_copy_26 (fun h15 => ?_)
        refine lv_iload_n hx hb dX12_copy_29 rfl (lv_at hl 3 rfl) ?_
        obtain ⟨hq16, h⟩ := zk h
        refine z_iald hx hb hK hM h15 hq16 dX12_copy_30 ?_
        refine lv_if_ne (tgt := 37) hx hb dX12_copy_31 (by decide) (fun hc17 => ?_) (fun hc17 => ?_)
        · have h := zf h hc17
          refine lv_aload_n hx hb dX12_copy_37 rfl (lv_at hl 0 rfl) ?_
          refine z_getN hx hb hg zin_12 hown hK hM ha0 2 rfl (by decide) (hg _ zw_1002) (fun _ h9 => h9) h15.ne dX12_copy_38 (fun h18 => ?_)
          refine lv_iload_n hx hb dX12_copy_41 rfl (lv_at hl 1 rfl) ?_
          obtain ⟨hq19, h⟩ := zk h
          refine z_iald hx hb hK hM h18 hq19 dX12_copy_42 ?_
          refine lv_iconst (v := (2 : Int32)) hx hb dX12_copy_43 (by decide +kernel) ?_
          refine lv_icmp_ne (tgt := 72) hx hb dX12_copy_44 (by decide) (fun hc20 => ?_) (fun hc20 => ?_)
          · have h := zf h hc20
            refine lv_bipush (v := (-12 : Int32)) hx hb dX12_copy_72 (by decide +kernel) ?_
            exact z_iret hx hb hr hlk hM hX0 hS (zsp h) dX12_copy_74
          · have h := zt h hc20
            refine lv_aload_n hx hb dX12_copy_47 rfl (lv_at hl 0 rfl) ?_
            refine z_getN hx hb hg zin_12 hown hK hM ha0 2 rfl (by decide) (hg _ zw_1002) (fun _ h9 => h9) h18.ne dX12_copy_48 (fun h21 => ?_)
            refine lv_iload_n hx hb dX12_copy_51 rfl (lv_at hl 3 rfl) ?_
            obtain ⟨hq22, h⟩ := zk h
            refine z_iald hx hb hK hM h21 hq22 dX12_copy_52 ?_
            refine lv_iconst (v := (2 : Int32)) hx hb dX12_copy_53 (by decide +kernel) ?_
            refine lv_icmp_ne (tgt := 72) hx hb dX12_copy_54 (by decide) (fun hc23 => ?_) (fun hc23 => ?_)
            · have h := zf h hc23
              refine lv_bipush (v := (-12 : Int32)) hx hb dX12_copy_72 (by decide +kernel) ?_
              exact z_iret hx hb hr hlk hM hX0 hS (zsp h) dX12_copy_74
            · have h := zt h hc23
              refine lv_aload_n hx hb dX12_copy_57 rfl (lv_at hl 0 rfl) ?_
              obtain ⟨hq25, h⟩ := zk h
              refine z_getN hx hb hg zin_12 hown hK hM ha0 3 rfl (by decide) (hg _ zw_1003) (fun _ h9 => h9) hq25 dX12_copy_58 (fun h24 => ?_)
              refine lv_iload_n hx hb dX12_copy_61 rfl (lv_at hl 1 rfl) ?_
              obtain ⟨hq26, h⟩ := zk h
              refine z_iald hx hb hK hM h24 hq26 dX12_copy_62 ?_
              refine lv_aload_n hx hb dX12_copy_63 rfl (lv_at hl 0 rfl) ?_
              refine z_getN hx hb hg zin_12 hown hK hM ha0 3 rfl (by decide) (hg _ zw_1003) (fun _ h9 => h9) h24.ne dX12_copy_64 (fun h27 => ?_)
              refine lv_iload_n hx hb dX12_copy_67 rfl (lv_at hl 3 rfl) ?_
              obtain ⟨hq28, h⟩ := zk h
              refine z_iald hx hb hK hM h27 hq28 dX12_copy_68 ?_
              refine lv_icmp_eq (tgt := 75) hx hb dX12_copy_69 (by decide) (fun hc29 => ?_) (fun hc29 => ?_)
              · have h := zt h hc29
                refine lv_iload hx hb dX12_copy_75 (lv_at hl 5 rfl) ?_
                refine lv_if_lt (tgt := 116) hx hb dX12_copy_77 (by decide) (fun hc30 => ?_) (fun hc30 => ?_)
                · have h := zt h hc30
                  refine lv_bipush (v := (-13 : Int32)) hx hb dX12_copy_116 (by decide +kernel) ?_
                  exact z_iret hx hb hr hlk hM hX0 hS (zsp h) dX12_copy_118
                · have h := zf h hc30
                  refine lv_iload_n hx hb dX12_copy_80 rfl (lv_at hl 2 rfl) ?_
                  refine lv_if_lt (tgt := 116) hx hb dX12_copy_81 (by decide) (fun hc31 => ?_) (fun hc31 => ?_)
                  · have h := zt h hc31
                    refine lv_bipush (v := (-13 : Int32)) hx hb dX12_copy_116 (by decide +kernel) ?_
                    exact z_iret hx hb hr hlk hM hX0 hS (zsp h) dX12_copy_118
                  · have h := zf h hc31
                    refine lv_iload hx hb dX12_copy_84 (lv_at hl 4 rfl) ?_
                    refine lv_if_lt (tgt := 116) hx hb dX12_copy_86 (by decide) (fun hc32 => ?_) (fun hc32 => ?_)
                    · have h := zt h hc32
                      refine lv_bipush (v := (-13 : Int32)) hx hb dX12_copy_116 (by decide +kernel) ?_
                      exact z_iret hx hb hr hlk hM hX0 hS (zsp h) dX12_copy_118
                    · have h := zf h hc32
                      refine lv_iload hx hb dX12_copy_89 (lv_at hl 5 rfl) ?_
                      refine lv_aload_n hx hb dX12_copy_91 rfl (lv_at hl 0 rfl) ?_
                      obtain ⟨hq34, h⟩ := zk h
                      refine z_getN hx hb hg zin_12 hown hK hM ha0 4 rfl (by decide) (hg _ zw_1004) (fun _ h9 => h9) hq34 dX12_copy_92 (fun h33 => ?_)
                      refine lv_iload_n hx hb dX12_copy_95 rfl (lv_at hl 1 rfl) ?_
                      obtain ⟨hq35, h⟩ := zk h
                      refine z_iald hx hb hK hM h33 hq35 dX12_copy_96 ?_
                      refine lv_iload_n hx hb dX12_copy_97 rfl (lv_at hl 2 rfl) ?_
                      refine lv_isub hx hb dX12_copy_98 ?_
                      refine lv_icmp_gt (tgt := 116) hx hb dX12_copy_99 (by decide) (fun hc36 => ?_) (fun hc36 => ?_)
                      · have h := zt h hc36
                        refine lv_bipush (v := (-13 : Int32)) hx hb dX12_copy_116 (by decide +kernel) ?_
                        exact z_iret hx hb hr hlk hM hX0 hS (zsp h) dX12_copy_118
                      · have h := zf h hc36
                        refine lv_iload hx hb dX12_copy_102 (lv_at hl 5 rfl) ?_
                        refine lv_aload_n hx hb dX12_copy_104 rfl (lv_at hl 0 rfl) ?_
                        refine z_getN hx hb hg zin_12 hown hK hM ha0 4 rfl (by decide) (hg _ zw_1004) (fun _ h9 => h9) h33.ne dX12_copy_105 (fun h37 => ?_)
                        refine lv_iload_n hx hb dX12_copy_108 rfl (lv_at hl 3 rfl) ?_
                        obtain ⟨hq38, h⟩ := zk h
                        refine z_iald hx hb hK hM h37 hq38 dX12_copy_109 ?_
                        refine lv_iload hx hb dX12_copy_110 (lv_at hl 4 rfl) ?_
                        refine lv_isub hx hb dX12_copy_112 ?_
                        refine lv_icmp_le (tgt := 119) hx hb dX12_copy_113 (by decide) (fun hc39 => ?_) (fun hc39 => ?_)
                        · have h := zt h hc39
                          refine lv_iconst (v := (0 : Int32)) hx hb dX12_copy_119 (by decide +kernel) ?_
                          refine lv_istore (i := 6) (lv' := [(6, .int (0 : Int32)), (0, .ref (B + a0)), (1, .int v1), (2, .int v2), (3, .int v3), (4, .int v4), (5, .int v5)]) hx hb dX12_copy_120 hl (by decide) rfl (fun ls hl => ?_)
                          obtain ⟨K42, eK42, h⟩ := zlg h
                          have hK42 : ∀ (S40 : zM) (H : Heap) (locs : List Loc), zMR D cy B S40 H → zX S0 S40 → va_S (fun q => B < q) s.heap H locs → ∀ ls : Array Slot, lv_has ls 8 [(5, .int v5)] → K42 S40 = some (r, S') → W p l e (headSpec (zws yX12_copy cX12_copy 8 ((some .int))) { frames := 2, cells := 0, slots := 0, locals := 45 }).room s m (([.ref (B + a0), .int v1, .int v2, .int v3, .int v4, .int v5] : List Value).toArray) below meth c H locs 0 0 (MQ below (zQi D cy B S0 r S') (([.ref (B + a0), .int v1, .int v2, .int v3, .int v4, .int v5] : List Value).toArray) s 0 0 (fun q => B < q)) (F0 m 184 ls []) := by
                            intro S40 H locs hM hX41 hS ls hl h
                            rw [eK42] at h
                            refine lv_iload hx hb dX12_copy_184 (lv_at hl 0 rfl) ?_
                            exact z_iret hx hb hr hlk hM hX41 hS (zsp h) dX12_copy_186
                          have hL122 : ∀ (k : Nat) (x44 : Int32) (S45 : zM) (H : Heap) (locs : List Loc), zMR D cy B S45 H → zX S0 S45 → va_S (fun q => B < q) s.heap H locs → zA S45 a0 12 → ∀ ls : Array Slot, lv_has ls 8 [(0, .ref (B + a0)), (1, .int v1), (2, .int v2), (3, .int v3), (4, .int v4), (5, .int v5), (6, .int x44)] → f_X12_copy_L122 a0 v1 v2 v3 v4 v5 K42 k x44 S45 = some (r, S') → W p l e (headSpec (zws yX12_copy cX12_copy 8 ((some .int))) { frames := 2, cells := 0, slots := 0, locals := 45 }).room s m (([.ref (B + a0), .int v1, .int v2, .int v3, .int v4, .int v5] : List Value).toArray) below meth c H locs 0 0 (MQ below (zQi D cy B S0 r S') (([.ref (B + a0), .int v1, .int v2, .int v3, .int v4, .int v5] : List Value).toArray) s 0 0 (fun q => B < q)) (F0 m 122 ls []) := by
                            intro k
                            induction k with
                            | zero =>
                              intro x44 S45 H locs hM hX46 hS h43 ls hl h
                              exact znone h
                            | succ k ih122 =>
                              intro x44 S45 H locs hM hX46 hS h43 ls hl h
                              replace h : f_X12_copy_L122b a0 v1 v2 v3 v4 v5 K42 (f_X12_copy_L122 a0 v1 v2 v3 v4 v5 K42 k) x44 S45 = some (r, S') := h
                              generalize f_X12_copy_L122 a0 v1 v2 v3 v4 v5 K42 k = rec122 at ih122 h
                              unfold f_X12_copy_L122b at h
                              refine lv_iload hx hb dX12_copy_122 (lv_at hl 6 rfl) ?_
                              refine lv_iload hx hb dX12_copy_124 (lv_at hl 5 rfl) ?_
                              refine lv_icmp_ge (tgt := 184) hx hb dX12_copy_126 (by decide) (fun hc47 => ?_) (fun hc47 => ?_)
                              · have h := zt h hc47
                                exact hK42 S45 _ _ hM hX46 hS _ (lv_sub hl [5] rfl) h
                              · have h := zf h hc47
                                refine lv_iload_n hx hb dX12_copy_129 rfl (lv_at hl 2 rfl) ?_
                                refine lv_iload hx hb dX12_copy_130 (lv_at hl 4 rfl) ?_
                                obtain ⟨K51, eK51, h⟩ := zlg h
                                have hK51 : ∀ (x49 : Int32) (H : Heap) (locs : List Loc), zMR D cy B S45 H → zX S0 S45 → va_S (fun q => B < q) s.heap H locs → zA S45 a0 12 → ∀ ls : Array Slot, lv_has ls 8 [(0, .ref (B + a0)), (1, .int v1), (2, .int v2), (3, .int v3), (4, .int v4), (5, .int v5), (6, .int x44)] → K51 x49 = some (r, S') → W p l e (headSpec (zws yX12_copy cX12_copy 8 ((some .int))) { frames := 2, cells := 0, slots := 0, locals := 45 }).room s m (([.ref (B + a0), .int v1, .int v2, .int v3, .int v4, .int v5] : List Value).toArray) below meth c H locs 0 0 (MQ below (zQi D cy B S0 r S') (([.ref (B + a0), .int v1, .int v2, .int v3, .int v4, .int v5] : List Value).toArray) s 0 0 (fun q => B < q)) (F0 m 147 ls [.int x49]) := by
                                  intro x49 H locs hM hX50 hS h48 ls hl h
                                  rw [eK51] at h
                                  refine lv_istore (i := 7) (lv' := [(7, .int x49), (0, .ref (B + a0)), (1, .int v1), (2, .int v2), (3, .int v3), (4, .int v4), (5, .int v5), (6, .int x44)]) hx hb dX12_copy_147 hl (by decide) rfl (fun ls hl => ?_)
                                  refine lv_aload_n hx hb dX12_copy_149 rfl (lv_at hl 1 rfl) ?_
                                  obtain ⟨hq53, h⟩ := zk h
                                  refine z_getN hx hb hg zin_12 hown hK hM h48 5 rfl (by decide) (hg _ zw_1005) (fun _ h9 => h9) hq53 dX12_copy_150 (fun h52 => ?_)
                                  refine lv_bipush (v := (120 : Int32)) hx hb dX12_copy_153 (by decide +kernel) ?_
                                  refine lv_iload_n hx hb dX12_copy_155 rfl (lv_at hl 4 rfl) ?_
                                  refine lv_imul hx hb dX12_copy_156 ?_
                                  refine lv_iload hx hb dX12_copy_157 (lv_at hl 5 rfl) ?_
                                  refine lv_iadd hx hb dX12_copy_159 ?_
                                  refine lv_iload hx hb dX12_copy_160 (lv_at hl 0 rfl) ?_
                                  refine lv_iadd hx hb dX12_copy_162 ?_
                                  refine lv_aload_n hx hb dX12_copy_163 rfl (lv_at hl 1 rfl) ?_
                                  refine z_getN hx hb hg zin_12 hown hK hM h48 5 rfl (by decide) (hg _ zw_1005) (fun _ h9 => h9) h52.ne dX12_copy_164 (fun h54 => ?_)
                                  refine lv_bipush (v := (120 : Int32)) hx hb dX12_copy_167 (by decide +kernel) ?_
                                  refine lv_iload_n hx hb dX12_copy_169 rfl (lv_at hl 2 rfl) ?_
                                  refine lv_imul hx hb dX12_copy_170 ?_
                                  refine lv_iload_n hx hb dX12_copy_171 rfl (lv_at hl 3 rfl) ?_
                                  refine lv_iadd hx hb dX12_copy_172 ?_
                                  refine lv_iload hx hb dX12_copy_173 (lv_at hl 0 rfl) ?_
                                  refine lv_iadd hx hb dX12_copy_175 ?_
                                  obtain ⟨hq55, h⟩ := zk h
                                  refine z_iald hx hb hK hM h54 hq55 dX12_copy_176 ?_
                                  obtain ⟨hq56, h⟩ := zk h
                                  refine z_iast hx hb hK hM hS h54 hq56 dX12_copy_177 (fun H locs hM hS => ?_)
                                  obtain ⟨S57, e58, h⟩ := zlg h
                                  rw [← e58] at hM
                                  have hX59 : zX S45 S57 := by rw [e58]; exact zX_pI
                                  have h60 := h48.mo hX59
                                  have hX61 := hX50.tr hX59
                                  refine lv_iinc (v := (x44 + (1 : Int32))) (lv' := [(6, .int (x44 + (1 : Int32))), (7, .int x49), (0, .ref (B + a0)), (1, .int v1), (2, .int v2), (3, .int v3), (4, .int v4), (5, .int v5)]) hx hb dX12_copy_178 hl (k := 7) rfl rfl (by decide) rfl (fun ls hl => ?_)
                                  refine lv_goto (tgt := 122) hx hb dX12_copy_181 (by decide) ?_
                                  exact ih122 (x44 + (1 : Int32)) S57 _ _ hM hX61 hS h60 _ (lv_sub hl [2, 3, 4, 5, 6, 7, 0] rfl) h
                                refine lv_icmp_le (tgt := 140) hx hb dX12_copy_132 (by decide) (fun hc62 => ?_) (fun hc62 => ?_)
                                · have h := zt h hc62
                                  refine lv_iload hx hb dX12_copy_140 (lv_at hl 5 rfl) ?_
                                  refine lv_iconst (v := (1 : Int32)) hx hb dX12_copy_142 (by decide +kernel) ?_
                                  refine lv_isub hx hb dX12_copy_143 ?_
                                  refine lv_iload hx hb dX12_copy_144 (lv_at hl 6 rfl) ?_
                                  refine lv_isub hx hb dX12_copy_146 ?_
                                  exact hK51 ((v5 - (1 : Int32)) - x44) _ _ hM hX46 hS h43 _ (lv_sub hl [0, 1, 2, 3, 4, 5, 6] rfl) h
                                · have h := zf h hc62
                                  refine lv_iload hx hb dX12_copy_135 (lv_at hl 6 rfl) ?_
                                  refine lv_goto (tgt := 147) hx hb dX12_copy_137 (by decide) ?_
                                  exact hK51 x44 _ _ hM hX46 hS h43 _ (lv_sub hl [0, 1, 2, 3, 4, 5, 6] rfl) h
                          exact hL122 n (0 : Int32) S0 _ _ hM hX0 hS ha0 _ (lv_sub hl [1, 2, 3, 4, 5, 6, 0] rfl) h
                        · have h := zf h hc39
                          refine lv_bipush (v := (-13 : Int32)) hx hb dX12_copy_116 (by decide +kernel) ?_
                          exact z_iret hx hb hr hlk hM hX0 hS (zsp h) dX12_copy_118
              · have h := zf h hc29
                refine lv_bipush (v := (-12 : Int32)) hx hb dX12_copy_72 (by decide +kernel) ?_
                exact z_iret hx hb hr hlk hM hX0 hS (zsp h) dX12_copy_74
        · have h := zt h hc17
          refine lv_bipush (v := (-11 : Int32)) hx hb dX12_copy_34 (by decide +kernel) ?_
          exact z_iret hx hb hr hlk hM hX0 hS (zsp h) dX12_copy_36
    · have h := zt h hc10
      refine lv_iconst (v := (-1 : Int32)) hx hb dX12_copy_14 (by decide +kernel) ?_
      exact z_iret hx hb hr hlk hM hX0 hS (zsp h) dX12_copy_15
def f_X12_wrongKept (S0 : zM) (a0 : Nat) (v1 : Int32) : Option (Int32) :=
  zB1 (f_X12_isShelf v1) (fun r2 => if r2 = 0 then some (-1 : Int32) else zChk (¬ (zr S0 a0 2) = 0) (zChk (¬ (v1 < 0 ∨ zln S0 (zr S0 a0 2) ≤ (v1).toNatClampNeg)) (if (zi S0 (zr S0 a0 2) (Int32.toNatClampNeg v1)) = 0 then some (-11 : Int32) else zChk (¬ (v1 < 0 ∨ zln S0 (zr S0 a0 2) ≤ (v1).toNatClampNeg)) (if (zi S0 (zr S0 a0 2) (Int32.toNatClampNeg v1)) = (1 : Int32) then some (0 : Int32) else some (-12 : Int32)))))
set_option maxHeartbeats 4000000 in
set_option maxRecDepth 100000 in
theorem c_X12_wrongKept (l : Launch) (D : va_G) (cy : Nat → ClassId) (B : Nat) {S0 : zM} {a0 : Nat} {v1 : Int32} {r : Int32} (ha0 : zA S0 a0 12) (h : f_X12_wrongKept S0 a0 v1 = some r) : Met l yX12_wrongKept (zws yX12_wrongKept cX12_wrongKept 2 ((some .int))) { frames := 2, cells := 0, slots := 0, locals := 45 } (zPc D cy B S0 [.ref (B + a0), .int v1]) (zQi D cy B S0 r S0) 0 0 (fun q => B < q) := by
  refine Met.ofW (cc := cX12_wrongKept) (maxL := 2) (ret := ((some .int))) (by decide) rfl ?_
  intro p e s m args below meth c s₁ Bd hml hv
  obtain ⟨rfl, hC, hM⟩ := hv
  obtain ⟨hx, hb, hr, hg, hown, hlk⟩ := z_open Bd
  have hK := hC.1
  have hS : va_S (fun q => B < q) s.heap s.heap [] := va_S.rf
  have hX0 : zX S0 S0 := zX.rf
  refine z_entry (vs := [.ref (B + a0), .int v1]) (Nat.le_of_ble_eq_true rfl) (fun ls hl => ?_)
  have hl : lv_has ls 2 [(0, .ref (B + a0)), (1, .int v1)] := hl
  unfold f_X12_wrongKept at h
  refine lv_iload_n hx hb dX12_wrongKept_0 rfl (lv_at hl 1 rfl) ?_
  obtain ⟨r2, hr1, h⟩ := zb1 h
  refine z_runi (va_runS (As := [.int v1]) (rest := []) ⟨hx, hb, hml, hown, hg⟩ (c_X12_isShelf l D cy B hr1) (z_cwS hg zw_1215 zw_1216 zw_13 zw_1217 zh_X12_isShelf.2 ⟨(Nat.le_of_ble_eq_true rfl), (Nat.le_of_ble_eq_true rfl)⟩) (zPS hC hM) rfl rfl hl.1 rfl (lv_room (Nat.le_of_ble_eq_true rfl)) dX12_wrongKept_1 ⟨(Nat.le_of_ble_eq_true rfl), (Nat.le_of_ble_eq_true rfl)⟩) hS (fun H locs hM hX3 hS => ?_)
  refine lv_if_ne (tgt := 11) hx hb dX12_wrongKept_4 (by decide) (fun hc5 => ?_) (fun hc5 => ?_)
  · have h := zf h hc5
    refine lv_aload_n hx hb dX12_wrongKept_11 rfl (lv_at hl 0 rfl) ?_
    obtain ⟨hq7, h⟩ := zk h
    refine z_getN hx hb hg zin_12 hown hK hM ha0 2 rfl (by decide) (hg _ zw_1002) (fun _ h9 => h9) hq7 dX12_wrongKept_12 (fun h6 => ?_)
    refine lv_iload_n hx hb dX12_wrongKept_15 rfl (lv_at hl 1 rfl) ?_
    obtain ⟨hq8, h⟩ := zk h
    refine z_iald hx hb hK hM h6 hq8 dX12_wrongKept_16 ?_
    refine lv_if_ne (tgt := 25) hx hb dX12_wrongKept_17 (by decide) (fun hc9 => ?_) (fun hc9 => ?_)
    · have h := zf h hc9
      refine lv_aload_n hx hb dX12_wrongKept_25 rfl (lv_at hl 0 rfl) ?_
      refine z_getN hx hb hg zin_12 hown hK hM ha0 2 rfl (by decide) (hg _ zw_1002) (fun _ h9 => h9) h6.ne dX12_wrongKept_26 (fun h10 => ?_)
      refine lv_iload_n hx hb dX12_wrongKept_29 rfl (lv_at hl 1 rfl) ?_
      obtain ⟨hq11, h⟩ := zk h
      refine z_iald hx hb hK hM h10 hq11 dX12_wrongKept_30 ?_
      refine lv_iconst (v := (1 : Int32)) hx hb dX12_wrongKept_31 (by decide +kernel) ?_
      refine lv_icmp_ne (tgt := 39) hx hb dX12_wrongKept_32 (by decide) (fun hc12 => ?_) (fun hc12 => ?_)
      · have h := zf h hc12
        refine lv_bipush (v := (-12 : Int32)) hx hb dX12_wrongKept_39 (by decide +kernel) ?_
        exact z_iret hx hb hr hlk hM hX0 hS ⟨zsm h, rfl⟩ dX12_wrongKept_41
      · have h := zt h hc12
        refine lv_iconst (v := (0 : Int32)) hx hb dX12_wrongKept_35 (by decide +kernel) ?_
        refine lv_goto (tgt := 41) hx hb dX12_wrongKept_36 (by decide) ?_
        exact z_iret hx hb hr hlk hM hX0 hS ⟨zsm h, rfl⟩ dX12_wrongKept_41
    · have h := zt h hc9
      refine lv_bipush (v := (-11 : Int32)) hx hb dX12_wrongKept_20 (by decide +kernel) ?_
      refine lv_goto (tgt := 41) hx hb dX12_wrongKept_22 (by decide) ?_
      exact z_iret hx hb hr hlk hM hX0 hS ⟨zsm h, rfl⟩ dX12_wrongKept_41
  · have h := zt h hc5
    refine lv_iconst (v := (-1 : Int32)) hx hb dX12_wrongKept_7 (by decide +kernel) ?_
    refine lv_goto (tgt := 41) hx hb dX12_wrongKept_8 (by decide) ?_
    exact z_iret hx hb hr hlk hM hX0 hS ⟨zsm h, rfl⟩ dX12_wrongKept_41
def f_X12_weight (S0 : zM) (a0 : Nat) (v1 : Int32) : Option (Int32) :=
  zB1 (f_X12_wrongKept S0 a0 v1) (fun r2 => if r2 = 0 then zChk (¬ (zr S0 a0 6) = 0) (zChk (¬ (v1 < 0 ∨ zln S0 (zr S0 a0 6) ≤ (v1).toNatClampNeg)) (some (zi S0 (zr S0 a0 6) (Int32.toNatClampNeg v1)))) else some r2)
set_option maxHeartbeats 4000000 in
set_option maxRecDepth 100000 in
theorem c_X12_weight (l : Launch) (D : va_G) (cy : Nat → ClassId) (B : Nat) {S0 : zM} {a0 : Nat} {v1 : Int32} {r : Int32} (ha0 : zA S0 a0 12) (h : f_X12_weight S0 a0 v1 = some r) : Met l yX12_weight (zws yX12_weight cX12_weight 3 ((some .int))) { frames := 3, cells := 0, slots := 0, locals := 66 } (zPc D cy B S0 [.ref (B + a0), .int v1]) (zQi D cy B S0 r S0) 0 0 (fun q => B < q) := by
  refine Met.ofW (cc := cX12_weight) (maxL := 3) (ret := ((some .int))) (by decide) rfl ?_
  intro p e s m args below meth c s₁ Bd hml hv
  obtain ⟨rfl, hC, hM⟩ := hv
  obtain ⟨hx, hb, hr, hg, hown, hlk⟩ := z_open Bd
  have hK := hC.1
  have hS : va_S (fun q => B < q) s.heap s.heap [] := va_S.rf
  have hX0 : zX S0 S0 := zX.rf
  refine z_entry (vs := [.ref (B + a0), .int v1]) (Nat.le_of_ble_eq_true rfl) (fun ls hl => ?_)
  have hl : lv_has ls 3 [(0, .ref (B + a0)), (1, .int v1)] := hl
  unfold f_X12_weight at h
  refine lv_aload_n hx hb dX12_weight_0 rfl (lv_at hl 0 rfl) ?_
  refine lv_iload_n hx hb dX12_weight_1 rfl (lv_at hl 1 rfl) ?_
  obtain ⟨r2, hr1, h⟩ := zb1 h
  refine z_runi (va_runV (As := [.int v1]) (rest := []) ⟨hx, hb, hml, hown, hg⟩ (c_X12_wrongKept l D cy B ha0 hr1) (z_cwV hg zw_1448 zw_1449 zw_1531 zw_13 zw_1450 zh_X12_wrongKept ⟨(Nat.le_of_ble_eq_true rfl), (Nat.le_of_ble_eq_true rfl)⟩) (zPV hC hM ha0 (by decide) rfl) rfl rfl hl.1 rfl (lv_room (Nat.le_of_ble_eq_true rfl)) dX12_weight_2 ⟨(Nat.le_of_ble_eq_true rfl), (Nat.le_of_ble_eq_true rfl)⟩) hS (fun H locs hM hX3 hS => ?_)
  refine lv_istore_n (i := 2) (lv' := [(2, .int r2), (0, .ref (B + a0)), (1, .int v1)]) hx hb dX12_weight_5 rfl hl (by decide) rfl (fun ls hl => ?_)
  refine lv_iload_n hx hb dX12_weight_6 rfl (lv_at hl 0 rfl) ?_
  refine lv_if_eq (tgt := 14) hx hb dX12_weight_7 (by decide) (fun hc5 => ?_) (fun hc5 => ?_)
  · have h := zt h hc5
    refine lv_aload_n hx hb dX12_weight_14 rfl (lv_at hl 1 rfl) ?_
    obtain ⟨hq7, h⟩ := zk h
    refine z_getN hx hb hg zin_12 hown hK hM ha0 6 rfl (by decide) (hg _ zw_1006) (fun _ h9 => h9) hq7 dX12_weight_15 (fun h6 => ?_)
    refine lv_iload_n hx hb dX12_weight_18 rfl (lv_at hl 2 rfl) ?_
    obtain ⟨hq8, h⟩ := zk h
    refine z_iald hx hb hK hM h6 hq8 dX12_weight_19 ?_
    exact z_iret hx hb hr hlk hM hX0 hS ⟨zsm h, rfl⟩ dX12_weight_20
  · have h := zf h hc5
    refine lv_iload_n hx hb dX12_weight_10 rfl (lv_at hl 0 rfl) ?_
    refine lv_goto (tgt := 20) hx hb dX12_weight_11 (by decide) ?_
    exact z_iret hx hb hr hlk hM hX0 hS ⟨zsm h, rfl⟩ dX12_weight_20
def f_X12_toss (S0 : zM) (a0 : Nat) (v1 : Int32) : Option (Int32) :=
  zB1 (f_X12_wrongKept S0 a0 v1) (fun r2 => if r2 = 0 then zChk (¬ (zr S0 a0 7) = 0) (zChk (¬ (v1 < 0 ∨ zln S0 (zr S0 a0 7) ≤ (v1).toNatClampNeg)) (some (zi S0 (zr S0 a0 7) (Int32.toNatClampNeg v1)))) else some r2)
set_option maxHeartbeats 4000000 in
set_option maxRecDepth 100000 in
theorem c_X12_toss (l : Launch) (D : va_G) (cy : Nat → ClassId) (B : Nat) {S0 : zM} {a0 : Nat} {v1 : Int32} {r : Int32} (ha0 : zA S0 a0 12) (h : f_X12_toss S0 a0 v1 = some r) : Met l yX12_toss (zws yX12_toss cX12_toss 3 ((some .int))) { frames := 3, cells := 0, slots := 0, locals := 66 } (zPc D cy B S0 [.ref (B + a0), .int v1]) (zQi D cy B S0 r S0) 0 0 (fun q => B < q) := by
  refine Met.ofW (cc := cX12_toss) (maxL := 3) (ret := ((some .int))) (by decide) rfl ?_
  intro p e s m args below meth c s₁ Bd hml hv
  obtain ⟨rfl, hC, hM⟩ := hv
  obtain ⟨hx, hb, hr, hg, hown, hlk⟩ := z_open Bd
  have hK := hC.1
  have hS : va_S (fun q => B < q) s.heap s.heap [] := va_S.rf
  have hX0 : zX S0 S0 := zX.rf
  refine z_entry (vs := [.ref (B + a0), .int v1]) (Nat.le_of_ble_eq_true rfl) (fun ls hl => ?_)
  have hl : lv_has ls 3 [(0, .ref (B + a0)), (1, .int v1)] := hl
  unfold f_X12_toss at h
  refine lv_aload_n hx hb dX12_toss_0 rfl (lv_at hl 0 rfl) ?_
  refine lv_iload_n hx hb dX12_toss_1 rfl (lv_at hl 1 rfl) ?_
  obtain ⟨r2, hr1, h⟩ := zb1 h
  refine z_runi (va_runV (As := [.int v1]) (rest := []) ⟨hx, hb, hml, hown, hg⟩ (c_X12_wrongKept l D cy B ha0 hr1) (z_cwV hg zw_1448 zw_1449 zw_1531 zw_13 zw_1450 zh_X12_wrongKept ⟨(Nat.le_of_ble_eq_true rfl), (Nat.le_of_ble_eq_true rfl)⟩) (zPV hC hM ha0 (by decide) rfl) rfl rfl hl.1 rfl (lv_room (Nat.le_of_ble_eq_true rfl)) dX12_toss_2 ⟨(Nat.le_of_ble_eq_true rfl), (Nat.le_of_ble_eq_true rfl)⟩) hS (fun H locs hM hX3 hS => ?_)
  refine lv_istore_n (i := 2) (lv' := [(2, .int r2), (0, .ref (B + a0)), (1, .int v1)]) hx hb dX12_toss_5 rfl hl (by decide) rfl (fun ls hl => ?_)
  refine lv_iload_n hx hb dX12_toss_6 rfl (lv_at hl 0 rfl) ?_
  refine lv_if_eq (tgt := 14) hx hb dX12_toss_7 (by decide) (fun hc5 => ?_) (fun hc5 => ?_)
  · have h := zt h hc5
    refine lv_aload_n hx hb dX12_toss_14 rfl (lv_at hl 1 rfl) ?_
    obtain ⟨hq7, h⟩ := zk h
    refine z_getN hx hb hg zin_12 hown hK hM ha0 7 rfl (by decide) (hg _ zw_1007) (fun _ h9 => h9) hq7 dX12_toss_15 (fun h6 => ?_)
    refine lv_iload_n hx hb dX12_toss_18 rfl (lv_at hl 2 rfl) ?_
    obtain ⟨hq8, h⟩ := zk h
    refine z_iald hx hb hK hM h6 hq8 dX12_toss_19 ?_
    exact z_iret hx hb hr hlk hM hX0 hS ⟨zsm h, rfl⟩ dX12_toss_20
  · have h := zf h hc5
    refine lv_iload_n hx hb dX12_toss_10 rfl (lv_at hl 0 rfl) ?_
    refine lv_goto (tgt := 20) hx hb dX12_toss_11 (by decide) ?_
    exact z_iret hx hb hr hlk hM hX0 hS ⟨zsm h, rfl⟩ dX12_toss_20
