def f_X12_chair_L32b (S0 : zM) (a0 : Nat) (v1 : Int32) (v2 : Int32) (v3 : Int32) (K16 : Option (Int32 × zM)) (rec32 : Int32 → Option (Int32 × zM)) (x25 : Int32) : Option (Int32 × zM) :=
  if (7 : Int32) ≤ x25 then K16 else if v3 < 0 then K16 else if x25 = v2 then rec32 (x25 + (1 : Int32)) else zB1 (f_X12_onChair S0 a0 v1 x25) (fun r31 => if r31 = v3 then some (((-3 : Int32), S0)) else rec32 (x25 + (1 : Int32)))
def f_X12_chair_L32 (S0 : zM) (a0 : Nat) (v1 : Int32) (v2 : Int32) (v3 : Int32) (K16 : Option (Int32 × zM)) : Nat → Int32 → Option (Int32 × zM)
  | 0 => fun _ => none
  | k + 1 => fun x25 => f_X12_chair_L32b S0 a0 v1 v2 v3 K16 (f_X12_chair_L32 S0 a0 v1 v2 v3 K16 k) x25
def f_X12_chair (n : Nat) (S0 : zM) (a0 : Nat) (v1 : Int32) (v2 : Int32) (v3 : Int32) : Option (Int32 × zM) :=
  zB1 (f_X12_isHall v1) (fun r2 => if r2 = 0 then some (((-1 : Int32), S0)) else zB1 (f_X12_isChair v2) (fun r7 => if r7 = 0 then some (((-1 : Int32), S0)) else zLet (zLet (zB2 (f_X12_becomes S0 a0 (((70 : Int32) + ((7 : Int32) * v1)) + v2) (v3 + (1 : Int32))) (fun r18 S19 => if r18 = 0 then some (((-4 : Int32), S19)) else some (((r18 - (1 : Int32)), S19)))) (fun K16 => f_X12_chair_L32 S0 a0 v1 v2 v3 K16 n (0 : Int32))) (fun K13 => if v3 = (-1 : Int32) then K13 else zB1 (f_X12_isJudge S0 a0 v3) (fun r37 => if r37 = 0 then some (((-1 : Int32), S0)) else K13))))
set_option maxHeartbeats 4000000 in
set_option maxRecDepth 100000 in
theorem c_X12_chair (l : Launch) (D : va_G) (cy : Nat → ClassId) (B : Nat) {n : Nat} {S0 : zM} {a0 : Nat} {v1 : Int32} {v2 : Int32} {v3 : Int32} {r : Int32} {S' : zM} (ha0 : zA S0 a0 12) (h : f_X12_chair n S0 a0 v1 v2 v3 = some (r, S')) : Met l yX12_chair (zws yX12_chair cX12_chair 5 ((some .int))) { frames := 2, cells := 0, slots := 0, locals := 46 } (zPc D cy B S0 [.ref (B + a0), .int v1, .int v2, .int v3]) (zQi D cy B S0 r S') 0 0 (fun q => B < q) := by
  refine Met.ofW (cc := cX12_chair) (maxL := 5) (ret := ((some .int))) (by decide) rfl ?_
  intro p e s m args below meth c s₁ Bd hml hv
  obtain ⟨rfl, hC, hM⟩ := hv
  obtain ⟨hx, hb, hr, hg, hown, hlk⟩ := z_open Bd
  have hK := hC.1
  have hS : va_S (fun q => B < q) s.heap s.heap [] := va_S.rf
  have hX0 : zX S0 S0 := zX.rf
  refine z_entry (vs := [.ref (B + a0), .int v1, .int v2, .int v3]) (Nat.le_of_ble_eq_true rfl) (fun ls hl => ?_)
  have hl : lv_has ls 5 [(0, .ref (B + a0)), (1, .int v1), (2, .int v2), (3, .int v3)] := hl
  unfold f_X12_chair at h
  refine lv_iload_n hx hb dX12_chair_0 rfl (lv_at hl 1 rfl) ?_
  obtain ⟨r2, hr1, h⟩ := zb1 h
  refine z_runi (va_runS (As := [.int v1]) (rest := []) ⟨hx, hb, hml, hown, hg⟩ (c_X12_isHall l D cy B hr1) (z_cwS hg zw_1125 zw_1126 zw_13 zw_1127 zh_X12_isHall.2 ⟨(Nat.le_of_ble_eq_true rfl), (Nat.le_of_ble_eq_true rfl)⟩) (zPS hC hM) rfl rfl hl.1 rfl (lv_room (Nat.le_of_ble_eq_true rfl)) dX12_chair_1 ⟨(Nat.le_of_ble_eq_true rfl), (Nat.le_of_ble_eq_true rfl)⟩) hS (fun H locs hM hX3 hS => ?_)
  refine lv_if_eq (tgt := 27) hx hb dX12_chair_4 (by decide) (fun hc5 => ?_) (fun hc5 => ?_)
  · have h := zt h hc5
    refine lv_iconst (v := (-1 : Int32)) hx hb dX12_chair_27 (by decide +kernel) ?_
    exact z_iret hx hb hr hlk hM hX0 hS (zsp h) dX12_chair_28
  · have h := zf h hc5
    refine lv_iload_n hx hb dX12_chair_7 rfl (lv_at hl 2 rfl) ?_
    obtain ⟨r7, hr6, h⟩ := zb1 h
    refine z_runi (va_runS (As := [.int v2]) (rest := []) ⟨hx, hb, hml, hown, hg⟩ (c_X12_isChair l D cy B hr6) (z_cwS hg zw_1136 zw_1137 zw_13 zw_1138 zh_X12_isChair.2 ⟨(Nat.le_of_ble_eq_true rfl), (Nat.le_of_ble_eq_true rfl)⟩) (zPS hC hM) rfl rfl hl.1 rfl (lv_room (Nat.le_of_ble_eq_true rfl)) dX12_chair_8 ⟨(Nat.le_of_ble_eq_true rfl), (Nat.le_of_ble_eq_true rfl)⟩) hS (fun H locs hM hX8 hS => ?_)
    refine lv_if_eq (tgt := 27) hx hb dX12_chair_11 (by decide) (fun hc10 => ?_) (fun hc10 => ?_)
    · have h := zt h hc10
      refine lv_iconst (v := (-1 : Int32)) hx hb dX12_chair_27 (by decide +kernel) ?_
      exact z_iret hx hb hr hlk hM hX0 hS (zsp h) dX12_chair_28
    · have h := zf h hc10
      refine lv_iload_n hx hb dX12_chair_14 rfl (lv_at hl 3 rfl) ?_
      refine lv_iconst (v := (-1 : Int32)) hx hb dX12_chair_15 (by decide +kernel) ?_
      obtain ⟨K13, eK13, h⟩ := zlg h
      have hK13 : ∀ (H : Heap) (locs : List Loc), zMR D cy B S0 H → zX S0 S0 → va_S (fun q => B < q) s.heap H locs → zA S0 a0 12 → ∀ ls : Array Slot, lv_has ls 5 [(0, .ref (B + a0)), (1, .int v1), (2, .int v2), (3, .int v3)] → K13 = some (r, S') → W p l e (headSpec (zws yX12_chair cX12_chair 5 ((some .int))) { frames := 2, cells := 0, slots := 0, locals := 46 }).room s m (([.ref (B + a0), .int v1, .int v2, .int v3] : List Value).toArray) below meth c H locs 0 0 (MQ below (zQi D cy B S0 r S') (([.ref (B + a0), .int v1, .int v2, .int v3] : List Value).toArray) s 0 0 (fun q => B < q)) (F0 m 29 ls []) := by
        intro H locs hM hX12 hS h11 ls hl h
        rw [eK13] at h
        refine lv_iconst (v := (0 : Int32)) hx hb dX12_chair_29 (by decide +kernel) ?_
        refine lv_istore (i := 4) (lv' := [(4, .int (0 : Int32)), (0, .ref (B + a0)), (1, .int v1), (2, .int v2), (3, .int v3)]) hx hb dX12_chair_30 hl (by decide) rfl (fun ls hl => ?_)
        obtain ⟨K16, eK16, h⟩ := zlg h
        have hK16 : ∀ (H : Heap) (locs : List Loc), zMR D cy B S0 H → zX S0 S0 → va_S (fun q => B < q) s.heap H locs → zA S0 a0 12 → ∀ ls : Array Slot, lv_has ls 5 [(0, .ref (B + a0)), (1, .int v1), (2, .int v2), (3, .int v3)] → K16 = some (r, S') → W p l e (headSpec (zws yX12_chair cX12_chair 5 ((some .int))) { frames := 2, cells := 0, slots := 0, locals := 46 }).room s m (([.ref (B + a0), .int v1, .int v2, .int v3] : List Value).toArray) below meth c H locs 0 0 (MQ below (zQi D cy B S0 r S') (([.ref (B + a0), .int v1, .int v2, .int v3] : List Value).toArray) s 0 0 (fun q => B < q)) (F0 m 69 ls []) := by
          intro H locs hM hX15 hS h14 ls hl h
          rw [eK16] at h
          refine lv_aload_n hx hb dX12_chair_69 rfl (lv_at hl 0 rfl) ?_
          refine lv_bipush (v := (70 : Int32)) hx hb dX12_chair_70 (by decide +kernel) ?_
          refine lv_bipush (v := (7 : Int32)) hx hb dX12_chair_72 (by decide +kernel) ?_
          refine lv_iload_n hx hb dX12_chair_74 rfl (lv_at hl 1 rfl) ?_
          refine lv_imul hx hb dX12_chair_75 ?_
          refine lv_iadd hx hb dX12_chair_76 ?_
          refine lv_iload_n hx hb dX12_chair_77 rfl (lv_at hl 2 rfl) ?_
          refine lv_iadd hx hb dX12_chair_78 ?_
          refine lv_iload_n hx hb dX12_chair_79 rfl (lv_at hl 3 rfl) ?_
          refine lv_iconst (v := (1 : Int32)) hx hb dX12_chair_80 (by decide +kernel) ?_
          refine lv_iadd hx hb dX12_chair_81 ?_
          obtain ⟨r18, S19, hr17, h⟩ := zb2 h
          refine z_runi (va_runV (As := [.int (((70 : Int32) + ((7 : Int32) * v1)) + v2), .int (v3 + (1 : Int32))]) (rest := []) ⟨hx, hb, hml, hown, hg⟩ (c_X12_becomes l D cy B h14 hr17) (z_cwV hg zw_1129 zw_1130 zw_1482 zw_13 zw_1131 zh_X12_becomes ⟨(Nat.le_of_ble_eq_true rfl), (Nat.le_of_ble_eq_true rfl)⟩) (zPV hC hM h14 (by decide) rfl) rfl rfl hl.1 rfl (lv_room (Nat.le_of_ble_eq_true rfl)) dX12_chair_82 ⟨(Nat.le_of_ble_eq_true rfl), (Nat.le_of_ble_eq_true rfl)⟩) hS (fun H locs hM hX20 hS => ?_)
          have hX22 := hX15.tr hX20
          refine lv_istore (i := 4) (lv' := [(4, .int r18), (0, .ref (B + a0)), (1, .int v1), (2, .int v2), (3, .int v3)]) hx hb dX12_chair_85 hl (by decide) rfl (fun ls hl => ?_)
          refine lv_iload hx hb dX12_chair_87 (lv_at hl 0 rfl) ?_
          refine lv_if_ne (tgt := 97) hx hb dX12_chair_89 (by decide) (fun hc23 => ?_) (fun hc23 => ?_)
          · have h := zf h hc23
            refine lv_iload hx hb dX12_chair_97 (lv_at hl 0 rfl) ?_
            refine lv_iconst (v := (1 : Int32)) hx hb dX12_chair_99 (by decide +kernel) ?_
            refine lv_isub hx hb dX12_chair_100 ?_
            exact z_iret hx hb hr hlk hM hX22 hS (zsp h) dX12_chair_101
          · have h := zt h hc23
            refine lv_bipush (v := (-4 : Int32)) hx hb dX12_chair_92 (by decide +kernel) ?_
            refine lv_goto (tgt := 101) hx hb dX12_chair_94 (by decide) ?_
            exact z_iret hx hb hr hlk hM hX22 hS (zsp h) dX12_chair_101
        have hL32 : ∀ (k : Nat) (x25 : Int32) (H : Heap) (locs : List Loc), zMR D cy B S0 H → zX S0 S0 → va_S (fun q => B < q) s.heap H locs → zA S0 a0 12 → ∀ ls : Array Slot, lv_has ls 5 [(0, .ref (B + a0)), (1, .int v1), (2, .int v2), (3, .int v3), (4, .int x25)] → f_X12_chair_L32 S0 a0 v1 v2 v3 K16 k x25 = some (r, S') → W p l e (headSpec (zws yX12_chair cX12_chair 5 ((some .int))) { frames := 2, cells := 0, slots := 0, locals := 46 }).room s m (([.ref (B + a0), .int v1, .int v2, .int v3] : List Value).toArray) below meth c H locs 0 0 (MQ below (zQi D cy B S0 r S') (([.ref (B + a0), .int v1, .int v2, .int v3] : List Value).toArray) s 0 0 (fun q => B < q)) (F0 m 32 ls []) := by
          intro k
          induction k with
          | zero =>
            intro x25 H locs hM hX26 hS h24 ls hl h
            exact znone h
          | succ k ih32 =>
            intro x25 H locs hM hX26 hS h24 ls hl h
            replace h : f_X12_chair_L32b S0 a0 v1 v2 v3 K16 (f_X12_chair_L32 S0 a0 v1 v2 v3 K16 k) x25 = some (r, S') := h
            generalize f_X12_chair_L32 S0 a0 v1 v2 v3 K16 k = rec32 at ih32 h
            unfold f_X12_chair_L32b at h
            refine lv_iload hx hb dX12_chair_32 (lv_at hl 4 rfl) ?_
            refine lv_bipush (v := (7 : Int32)) hx hb dX12_chair_34 (by decide +kernel) ?_
            refine lv_icmp_ge (tgt := 69) hx hb dX12_chair_36 (by decide) (fun hc27 => ?_) (fun hc27 => ?_)
            · have h := zt h hc27
              exact hK16 _ _ hM hX26 hS h24 _ (lv_sub hl [0, 1, 2, 3] rfl) h
            · have h := zf h hc27
              refine lv_iload_n hx hb dX12_chair_39 rfl (lv_at hl 3 rfl) ?_
              refine lv_if_lt (tgt := 69) hx hb dX12_chair_40 (by decide) (fun hc28 => ?_) (fun hc28 => ?_)
              · have h := zt h hc28
                exact hK16 _ _ hM hX26 hS h24 _ (lv_sub hl [0, 1, 2, 3] rfl) h
              · have h := zf h hc28
                refine lv_iload hx hb dX12_chair_43 (lv_at hl 4 rfl) ?_
                refine lv_iload_n hx hb dX12_chair_45 rfl (lv_at hl 2 rfl) ?_
                refine lv_icmp_eq (tgt := 63) hx hb dX12_chair_46 (by decide) (fun hc29 => ?_) (fun hc29 => ?_)
                · have h := zt h hc29
                  refine lv_iinc (v := (x25 + (1 : Int32))) (lv' := [(4, .int (x25 + (1 : Int32))), (0, .ref (B + a0)), (1, .int v1), (2, .int v2), (3, .int v3)]) hx hb dX12_chair_63 hl (k := 4) rfl rfl (by decide) rfl (fun ls hl => ?_)
                  refine lv_goto (tgt := 32) hx hb dX12_chair_66 (by decide) ?_
                  exact ih32 (x25 + (1 : Int32)) _ _ hM hX26 hS h24 _ (lv_sub hl [1, 2, 3, 4, 0] rfl) h
                · have h := zf h hc29
                  refine lv_aload_n hx hb dX12_chair_49 rfl (lv_at hl 0 rfl) ?_
                  refine lv_iload_n hx hb dX12_chair_50 rfl (lv_at hl 1 rfl) ?_
                  refine lv_iload hx hb dX12_chair_51 (lv_at hl 4 rfl) ?_
                  obtain ⟨r31, hr30, h⟩ := zb1 h
                  refine z_runi (va_runV (As := [.int v1, .int x25]) (rest := []) ⟨hx, hb, hml, hown, hg⟩ (c_X12_onChair l D cy B h24 hr30) (z_cwV hg zw_1143 zw_1144 zw_1484 zw_13 zw_1145 zh_X12_onChair ⟨(Nat.le_of_ble_eq_true rfl), (Nat.le_of_ble_eq_true rfl)⟩) (zPV hC hM h24 (by decide) rfl) rfl rfl hl.1 rfl (lv_room (Nat.le_of_ble_eq_true rfl)) dX12_chair_53 ⟨(Nat.le_of_ble_eq_true rfl), (Nat.le_of_ble_eq_true rfl)⟩) hS (fun H locs hM hX32 hS => ?_)
                  refine lv_iload_n hx hb dX12_chair_56 rfl (lv_at hl 3 rfl) ?_
                  refine lv_icmp_ne (tgt := 63) hx hb dX12_chair_57 (by decide) (fun hc34 => ?_) (fun hc34 => ?_)
                  · have h := zf h hc34
                    refine lv_iinc (v := (x25 + (1 : Int32))) (lv' := [(4, .int (x25 + (1 : Int32))), (0, .ref (B + a0)), (1, .int v1), (2, .int v2), (3, .int v3)]) hx hb dX12_chair_63 hl (k := 4) rfl rfl (by decide) rfl (fun ls hl => ?_)
                    refine lv_goto (tgt := 32) hx hb dX12_chair_66 (by decide) ?_
                    exact ih32 (x25 + (1 : Int32)) _ _ hM hX26 hS h24 _ (lv_sub hl [1, 2, 3, 4, 0] rfl) h
                  · have h := zt h hc34
                    refine lv_bipush (v := (-3 : Int32)) hx hb dX12_chair_60 (by decide +kernel) ?_
                    exact z_iret hx hb hr hlk hM hX26 hS (zsp h) dX12_chair_62
        exact hL32 n (0 : Int32) _ _ hM hX12 hS h11 _ (lv_sub hl [1, 2, 3, 4, 0] rfl) h
      refine lv_icmp_eq (tgt := 29) hx hb dX12_chair_16 (by decide) (fun hc35 => ?_) (fun hc35 => ?_)
      · have h := zt h hc35
        exact hK13 _ _ hM hX0 hS ha0 _ (lv_sub hl [0, 1, 2, 3] rfl) h
      · have h := zf h hc35
        refine lv_aload_n hx hb dX12_chair_19 rfl (lv_at hl 0 rfl) ?_
        refine lv_iload_n hx hb dX12_chair_20 rfl (lv_at hl 3 rfl) ?_
        obtain ⟨r37, hr36, h⟩ := zb1 h
        refine z_runi (va_runV (As := [.int v3]) (rest := []) ⟨hx, hb, hml, hown, hg⟩ (c_X12_isJudge l D cy B ha0 hr36) (z_cwV hg zw_1140 zw_1141 zw_1483 zw_13 zw_1142 zh_X12_isJudge ⟨(Nat.le_of_ble_eq_true rfl), (Nat.le_of_ble_eq_true rfl)⟩) (zPV hC hM ha0 (by decide) rfl) rfl rfl hl.1 rfl (lv_room (Nat.le_of_ble_eq_true rfl)) dX12_chair_21 ⟨(Nat.le_of_ble_eq_true rfl), (Nat.le_of_ble_eq_true rfl)⟩) hS (fun H locs hM hX38 hS => ?_)
        refine lv_if_ne (tgt := 29) hx hb dX12_chair_24 (by decide) (fun hc40 => ?_) (fun hc40 => ?_)
        · have h := zf h hc40
          exact hK13 _ _ hM hX0 hS ha0 _ (lv_sub hl [0, 1, 2, 3] rfl) h
        · have h := zt h hc40
          refine lv_iconst (v := (-1 : Int32)) hx hb dX12_chair_27 (by decide +kernel) ?_
          exact z_iret hx hb hr hlk hM hX0 hS (zsp h) dX12_chair_28
def f_X12_dive_L97b (S0 : zM) (a0 : Nat) (K32 : zM → Option (Int32 × zM)) (rec97 : Int32 → zM → Option (Int32 × zM)) (x86 : Int32) (S87 : zM) : Option (Int32 × zM) :=
  if (19 : Int32) ≤ x86 then K32 S87 else zChk (¬ (zr S87 a0 0) = 0) (zChk (¬ ((((112 : Int32) + ((19 : Int32) * (zi S0 (zr S0 a0 0) (Int32.toNatClampNeg (1003 : Int32))))) + x86) < 0 ∨ zln S87 (zr S87 a0 0) ≤ ((((112 : Int32) + ((19 : Int32) * (zi S0 (zr S0 a0 0) (Int32.toNatClampNeg (1003 : Int32))))) + x86)).toNatClampNeg)) (zLet (zpI S87 (zr S87 a0 0) (Int32.toNatClampNeg (((112 : Int32) + ((19 : Int32) * (zi S0 (zr S0 a0 0) (Int32.toNatClampNeg (1003 : Int32))))) + x86)) (0 : Int32)) (fun S93 => rec97 (x86 + (1 : Int32)) S93)))
def f_X12_dive_L97 (S0 : zM) (a0 : Nat) (K32 : zM → Option (Int32 × zM)) : Nat → Int32 → zM → Option (Int32 × zM)
  | 0 => fun _ _ => none
  | k + 1 => fun x86 S87 => f_X12_dive_L97b S0 a0 K32 (f_X12_dive_L97 S0 a0 K32 k) x86 S87
def f_X12_dive (n : Nat) (S0 : zM) (a0 : Nat) (v1 : Int32) (v2 : Int32) (v3 : Int32) (v4 : Int32) : Option (Int32 × zM) :=
  zB1 (f_X12_isHall v1) (fun r2 => if r2 = 0 then some (((-1 : Int32), S0)) else zB1 (f_X12_isDiver S0 a0 v2) (fun r7 => if r7 = 0 then some (((-1 : Int32), S0)) else zLet (f_X12_isIn (Int32.toInt64 v3) (0 : Int64) (63 : Int64)) (fun r12 => if r12 = 0 then some (((-1 : Int32), S0)) else zLet (f_X12_isIn (Int32.toInt64 v4) (1000 : Int64) (4099 : Int64)) (fun r17 => if r17 = 0 then some (((-1 : Int32), S0)) else if (40 : Int32) < (v4 / (100 : Int32)) then some (((-1 : Int32), S0)) else if (v4 - v4 / (10 : Int32) * (10 : Int32)) = 0 then zChk (¬ (zr S0 a0 0) = 0) (zChk (¬ ((1003 : Int32) < 0 ∨ zln S0 (zr S0 a0 0) ≤ ((1003 : Int32)).toNatClampNeg)) (if (zi S0 (zr S0 a0 0) (Int32.toNatClampNeg (1003 : Int32))) = (40 : Int32) then some (((-2 : Int32), S0)) else zChk (¬ ((1003 : Int32) < 0 ∨ zln S0 (zr S0 a0 0) ≤ ((1003 : Int32)).toNatClampNeg)) (zLet (fun (S30 : zM) => zChk (¬ (zr S30 a0 0) = 0) (zChk (¬ (((112 : Int32) + ((19 : Int32) * (zi S0 (zr S0 a0 0) (Int32.toNatClampNeg (1003 : Int32))))) < 0 ∨ zln S30 (zr S30 a0 0) ≤ (((112 : Int32) + ((19 : Int32) * (zi S0 (zr S0 a0 0) (Int32.toNatClampNeg (1003 : Int32)))))).toNatClampNeg)) (zLet (zpI S30 (zr S30 a0 0) (Int32.toNatClampNeg ((112 : Int32) + ((19 : Int32) * (zi S0 (zr S0 a0 0) (Int32.toNatClampNeg (1003 : Int32)))))) v1) (fun S36 => zChk (¬ (zr S36 a0 0) = 0) (zChk (¬ ((((112 : Int32) + ((19 : Int32) * (zi S0 (zr S0 a0 0) (Int32.toNatClampNeg (1003 : Int32))))) + (1 : Int32)) < 0 ∨ zln S36 (zr S36 a0 0) ≤ ((((112 : Int32) + ((19 : Int32) * (zi S0 (zr S0 a0 0) (Int32.toNatClampNeg (1003 : Int32))))) + (1 : Int32))).toNatClampNeg)) (zLet (zpI S36 (zr S36 a0 0) (Int32.toNatClampNeg (((112 : Int32) + ((19 : Int32) * (zi S0 (zr S0 a0 0) (Int32.toNatClampNeg (1003 : Int32))))) + (1 : Int32))) v2) (fun S44 => zChk (¬ (zr S44 a0 0) = 0) (zChk (¬ ((((112 : Int32) + ((19 : Int32) * (zi S0 (zr S0 a0 0) (Int32.toNatClampNeg (1003 : Int32))))) + (2 : Int32)) < 0 ∨ zln S44 (zr S44 a0 0) ≤ ((((112 : Int32) + ((19 : Int32) * (zi S0 (zr S0 a0 0) (Int32.toNatClampNeg (1003 : Int32))))) + (2 : Int32))).toNatClampNeg)) (zLet (zpI S44 (zr S44 a0 0) (Int32.toNatClampNeg (((112 : Int32) + ((19 : Int32) * (zi S0 (zr S0 a0 0) (Int32.toNatClampNeg (1003 : Int32))))) + (2 : Int32))) v3) (fun S52 => zChk (¬ (zr S52 a0 0) = 0) (zChk (¬ ((((112 : Int32) + ((19 : Int32) * (zi S0 (zr S0 a0 0) (Int32.toNatClampNeg (1003 : Int32))))) + (3 : Int32)) < 0 ∨ zln S52 (zr S52 a0 0) ≤ ((((112 : Int32) + ((19 : Int32) * (zi S0 (zr S0 a0 0) (Int32.toNatClampNeg (1003 : Int32))))) + (3 : Int32))).toNatClampNeg)) (zLet (zpI S52 (zr S52 a0 0) (Int32.toNatClampNeg (((112 : Int32) + ((19 : Int32) * (zi S0 (zr S0 a0 0) (Int32.toNatClampNeg (1003 : Int32))))) + (3 : Int32))) ((v4 / (10 : Int32)) - (v4 / (10 : Int32)) / (10 : Int32) * (10 : Int32))) (fun S60 => zChk (¬ (zr S60 a0 0) = 0) (zChk (¬ ((((112 : Int32) + ((19 : Int32) * (zi S0 (zr S0 a0 0) (Int32.toNatClampNeg (1003 : Int32))))) + (4 : Int32)) < 0 ∨ zln S60 (zr S60 a0 0) ≤ ((((112 : Int32) + ((19 : Int32) * (zi S0 (zr S0 a0 0) (Int32.toNatClampNeg (1003 : Int32))))) + (4 : Int32))).toNatClampNeg)) (zLet (zpI S60 (zr S60 a0 0) (Int32.toNatClampNeg (((112 : Int32) + ((19 : Int32) * (zi S0 (zr S0 a0 0) (Int32.toNatClampNeg (1003 : Int32))))) + (4 : Int32))) (v4 / (100 : Int32))) (fun S68 => zChk (¬ (zr S68 a0 0) = 0) (zChk (¬ ((1003 : Int32) < 0 ∨ zln S68 (zr S68 a0 0) ≤ ((1003 : Int32)).toNatClampNeg)) (zChk (¬ ((1003 : Int32) < 0 ∨ zln S68 (zr S68 a0 0) ≤ ((1003 : Int32)).toNatClampNeg)) (zLet (zpI S68 (zr S68 a0 0) (Int32.toNatClampNeg (1003 : Int32)) ((zi S68 (zr S68 a0 0) (Int32.toNatClampNeg (1003 : Int32))) + (1 : Int32))) (fun S77 => zChk (¬ (zr S77 a0 0) = 0) (zChk (¬ ((1003 : Int32) < 0 ∨ zln S77 (zr S77 a0 0) ≤ ((1003 : Int32)).toNatClampNeg)) (some ((((zi S77 (zr S77 a0 0) (Int32.toNatClampNeg (1003 : Int32))) - (1 : Int32)), S77)))))))))))))))))))))))) (fun K32 => f_X12_dive_L97 S0 a0 K32 n (0 : Int32) S0)))) else some (((-1 : Int32), S0))))))
set_option maxHeartbeats 4000000 in
set_option maxRecDepth 100000 in
theorem c_X12_dive (l : Launch) (D : va_G) (cy : Nat → ClassId) (B : Nat) {n : Nat} {S0 : zM} {a0 : Nat} {v1 : Int32} {v2 : Int32} {v3 : Int32} {v4 : Int32} {r : Int32} {S' : zM} (ha0 : zA S0 a0 12) (h : f_X12_dive n S0 a0 v1 v2 v3 v4 = some (r, S')) : Met l yX12_dive (zws yX12_dive cX12_dive 7 ((some .int))) { frames := 2, cells := 0, slots := 0, locals := 46 } (zPc D cy B S0 [.ref (B + a0), .int v1, .int v2, .int v3, .int v4]) (zQi D cy B S0 r S') 0 0 (fun q => B < q) := by
  refine Met.ofW (cc := cX12_dive) (maxL := 7) (ret := ((some .int))) (by decide) rfl ?_
  intro p e s m args below meth c s₁ Bd hml hv
  obtain ⟨rfl, hC, hM⟩ := hv
  obtain ⟨hx, hb, hr, hg, hown, hlk⟩ := z_open Bd
  have hK := hC.1
  have hS : va_S (fun q => B < q) s.heap s.heap [] := va_S.rf
  have hX0 : zX S0 S0 := zX.rf
  refine z_entry (vs := [.ref (B + a0), .int v1, .int v2, .int v3, .int v4]) (Nat.le_of_ble_eq_true rfl) (fun ls hl => ?_)
  have hl : lv_has ls 7 [(0, .ref (B + a0)), (1, .int v1), (2, .int v2), (3, .int v3), (4, .int v4)] := hl
  unfold f_X12_dive at h
  refine lv_iload_n hx hb dX12_dive_0 rfl (lv_at hl 1 rfl) ?_
  obtain ⟨r2, hr1, h⟩ := zb1 h
  refine z_runi (va_runS (As := [.int v1]) (rest := []) ⟨hx, hb, hml, hown, hg⟩ (c_X12_isHall l D cy B hr1) (z_cwS hg zw_1125 zw_1126 zw_13 zw_1127 zh_X12_isHall.2 ⟨(Nat.le_of_ble_eq_true rfl), (Nat.le_of_ble_eq_true rfl)⟩) (zPS hC hM) rfl rfl hl.1 rfl (lv_room (Nat.le_of_ble_eq_true rfl)) dX12_dive_1 ⟨(Nat.le_of_ble_eq_true rfl), (Nat.le_of_ble_eq_true rfl)⟩) hS (fun H locs hM hX3 hS => ?_)
  refine lv_if_eq (tgt := 60) hx hb dX12_dive_4 (by decide) (fun hc5 => ?_) (fun hc5 => ?_)
  · have h := zt h hc5
    refine lv_iconst (v := (-1 : Int32)) hx hb dX12_dive_60 (by decide +kernel) ?_
    exact z_iret hx hb hr hlk hM hX0 hS (zsp h) dX12_dive_61
  · have h := zf h hc5
    refine lv_aload_n hx hb dX12_dive_7 rfl (lv_at hl 0 rfl) ?_
    refine lv_iload_n hx hb dX12_dive_8 rfl (lv_at hl 2 rfl) ?_
    obtain ⟨r7, hr6, h⟩ := zb1 h
    refine z_runi (va_runV (As := [.int v2]) (rest := []) ⟨hx, hb, hml, hown, hg⟩ (c_X12_isDiver l D cy B ha0 hr6) (z_cwV hg zw_1150 zw_1151 zw_1485 zw_13 zw_1152 zh_X12_isDiver ⟨(Nat.le_of_ble_eq_true rfl), (Nat.le_of_ble_eq_true rfl)⟩) (zPV hC hM ha0 (by decide) rfl) rfl rfl hl.1 rfl (lv_room (Nat.le_of_ble_eq_true rfl)) dX12_dive_9 ⟨(Nat.le_of_ble_eq_true rfl), (Nat.le_of_ble_eq_true rfl)⟩) hS (fun H locs hM hX8 hS => ?_)
    refine lv_if_eq (tgt := 60) hx hb dX12_dive_12 (by decide) (fun hc10 => ?_) (fun hc10 => ?_)
    · have h := zt h hc10
      refine lv_iconst (v := (-1 : Int32)) hx hb dX12_dive_60 (by decide +kernel) ?_
      exact z_iret hx hb hr hlk hM hX0 hS (zsp h) dX12_dive_61
    · have h := zf h hc10
      refine lv_iload_n hx hb dX12_dive_15 rfl (lv_at hl 3 rfl) ?_
      refine lv_i2l hx hb dX12_dive_16 rfl ?_
      refine lv_lconst (v := (0 : Int64)) hx hb dX12_dive_17 (by decide +kernel) ?_
      refine lv_ldc2 (v := (63 : Int64)) hx hb hown (hg _ zw_1153) dX12_dive_18 ?_
      obtain ⟨r12, hr11, h⟩ := zlg h
      have hr11 := hr11.symm
      refine z_runi (va_runS (As := [.long (Int32.toInt64 v3), .long (0 : Int64), .long (63 : Int64)]) (rest := []) ⟨hx, hb, hml, hown, hg⟩ (c_X12_isIn l D cy B hr11) (z_cwS hg zw_1111 zw_1112 zw_13 zw_1113 zh_X12_isIn.2 ⟨(Nat.le_of_ble_eq_true rfl), (Nat.le_of_ble_eq_true rfl)⟩) (zPS hC hM) rfl rfl hl.1 rfl (lv_room (Nat.le_of_ble_eq_true rfl)) dX12_dive_21 ⟨(Nat.le_of_ble_eq_true rfl), (Nat.le_of_ble_eq_true rfl)⟩) hS (fun H locs hM hX13 hS => ?_)
      refine lv_if_eq (tgt := 60) hx hb dX12_dive_24 (by decide) (fun hc15 => ?_) (fun hc15 => ?_)
      · have h := zt h hc15
        refine lv_iconst (v := (-1 : Int32)) hx hb dX12_dive_60 (by decide +kernel) ?_
        exact z_iret hx hb hr hlk hM hX0 hS (zsp h) dX12_dive_61
      · have h := zf h hc15
        refine lv_iload hx hb dX12_dive_27 (lv_at hl 4 rfl) ?_
        refine lv_i2l hx hb dX12_dive_29 rfl ?_
        refine lv_ldc2 (v := (1000 : Int64)) hx hb hown (hg _ zw_1154) dX12_dive_30 ?_
        refine lv_ldc2 (v := (4099 : Int64)) hx hb hown (hg _ zw_1155) dX12_dive_33 ?_
        obtain ⟨r17, hr16, h⟩ := zlg h
        have hr16 := hr16.symm
        refine z_runi (va_runS (As := [.long (Int32.toInt64 v4), .long (1000 : Int64), .long (4099 : Int64)]) (rest := []) ⟨hx, hb, hml, hown, hg⟩ (c_X12_isIn l D cy B hr16) (z_cwS hg zw_1111 zw_1112 zw_13 zw_1113 zh_X12_isIn.2 ⟨(Nat.le_of_ble_eq_true rfl), (Nat.le_of_ble_eq_true rfl)⟩) (zPS hC hM) rfl rfl hl.1 rfl (lv_room (Nat.le_of_ble_eq_true rfl)) dX12_dive_36 ⟨(Nat.le_of_ble_eq_true rfl), (Nat.le_of_ble_eq_true rfl)⟩) hS (fun H locs hM hX18 hS => ?_)
        refine lv_if_eq (tgt := 60) hx hb dX12_dive_39 (by decide) (fun hc20 => ?_) (fun hc20 => ?_)
        · have h := zt h hc20
          refine lv_iconst (v := (-1 : Int32)) hx hb dX12_dive_60 (by decide +kernel) ?_
          exact z_iret hx hb hr hlk hM hX0 hS (zsp h) dX12_dive_61
        · have h := zf h hc20
          refine lv_iload hx hb dX12_dive_42 (lv_at hl 4 rfl) ?_
          refine lv_bipush (v := (100 : Int32)) hx hb dX12_dive_44 (by decide +kernel) ?_
          refine lv_idiv hx hb dX12_dive_46 (by decide +kernel) ?_
          refine lv_bipush (v := (40 : Int32)) hx hb dX12_dive_47 (by decide +kernel) ?_
          refine lv_icmp_gt (tgt := 60) hx hb dX12_dive_49 (by decide) (fun hc21 => ?_) (fun hc21 => ?_)
          · have h := zt h hc21
            refine lv_iconst (v := (-1 : Int32)) hx hb dX12_dive_60 (by decide +kernel) ?_
            exact z_iret hx hb hr hlk hM hX0 hS (zsp h) dX12_dive_61
          · have h := zf h hc21
            refine lv_iload hx hb dX12_dive_52 (lv_at hl 4 rfl) ?_
            refine lv_bipush (v := (10 : Int32)) hx hb dX12_dive_54 (by decide +kernel) ?_
            refine lv_irem hx hb dX12_dive_56 (by decide +kernel) ?_
            refine lv_if_eq (tgt := 62) hx hb dX12_dive_57 (by decide) (fun hc22 => ?_) (fun hc22 => ?_)
            · have h := zt h hc22
              refine lv_aload_n hx hb dX12_dive_62 rfl (lv_at hl 0 rfl) ?_
              obtain ⟨hq24, h⟩ := zk h
              refine z_getN hx hb hg zin_12 hown hK hM ha0 0 rfl (by decide) (hg _ zw_1000) (fun _ h9 => h9) hq24 dX12_dive_63 (fun h23 => ?_)
              refine lv_sipush (v := (1003 : Int32)) hx hb dX12_dive_66 (by decide +kernel) ?_
              obtain ⟨hq25, h⟩ := zk h
              refine z_iald hx hb hK hM h23 hq25 dX12_dive_69 ?_
              refine lv_bipush (v := (40 : Int32)) hx hb dX12_dive_70 (by decide +kernel) ?_
              refine lv_icmp_ne (tgt := 78) hx hb dX12_dive_72 (by decide) (fun hc26 => ?_) (fun hc26 => ?_)
              · have h := zf h hc26
                refine lv_bipush (v := (112 : Int32)) hx hb dX12_dive_78 (by decide +kernel) ?_
                refine lv_bipush (v := (19 : Int32)) hx hb dX12_dive_80 (by decide +kernel) ?_
                refine lv_aload_n hx hb dX12_dive_82 rfl (lv_at hl 0 rfl) ?_
                refine z_getN hx hb hg zin_12 hown hK hM ha0 0 rfl (by decide) (hg _ zw_1000) (fun _ h9 => h9) h23.ne dX12_dive_83 (fun h27 => ?_)
                refine lv_sipush (v := (1003 : Int32)) hx hb dX12_dive_86 (by decide +kernel) ?_
                obtain ⟨hq28, h⟩ := zk h
                refine z_iald hx hb hK hM h27 hq28 dX12_dive_89 ?_
                refine lv_imul hx hb dX12_dive_90 ?_
                refine lv_iadd hx hb dX12_dive_91 ?_
                refine lv_istore (i := 5) (lv' := [(5, .int ((112 : Int32) + ((19 : Int32) * (zi S0 (zr S0 a0 0) (Int32.toNatClampNeg (1003 : Int32)))))), (0, .ref (B + a0)), (1, .int v1), (2, .int v2), (3, .int v3), (4, .int v4)]) hx hb dX12_dive_92 hl (by decide) rfl (fun ls hl => ?_)
                refine lv_iconst (v := (0 : Int32)) hx hb dX12_dive_94 (by decide +kernel) ?_
                refine lv_istore (i := 6) (lv' := [(6, .int (0 : Int32)), (5, .int ((112 : Int32) + ((19 : Int32) * (zi S0 (zr S0 a0 0) (Int32.toNatClampNeg (1003 : Int32)))))), (0, .ref (B + a0)), (1, .int v1), (2, .int v2), (3, .int v3), (4, .int v4)]) hx hb dX12_dive_95 hl (by decide) rfl (fun ls hl => ?_)
                obtain ⟨K32, eK32, h⟩ := zlg h
                have hK32 : ∀ (S30 : zM) (H : Heap) (locs : List Loc), zMR D cy B S30 H → zX S0 S30 → va_S (fun q => B < q) s.heap H locs → zA S30 a0 12 → ∀ ls : Array Slot, lv_has ls 7 [(0, .ref (B + a0)), (1, .int v1), (2, .int v2), (3, .int v3), (4, .int v4), (5, .int ((112 : Int32) + ((19 : Int32) * (zi S0 (zr S0 a0 0) (Int32.toNatClampNeg (1003 : Int32))))))] → K32 S30 = some (r, S') → W p l e (headSpec (zws yX12_dive cX12_dive 7 ((some .int))) { frames := 2, cells := 0, slots := 0, locals := 46 }).room s m (([.ref (B + a0), .int v1, .int v2, .int v3, .int v4] : List Value).toArray) below meth c H locs 0 0 (MQ below (zQi D cy B S0 r S') (([.ref (B + a0), .int v1, .int v2, .int v3, .int v4] : List Value).toArray) s 0 0 (fun q => B < q)) (F0 m 121 ls []) := by
                  intro S30 H locs hM hX31 hS h29 ls hl h
                  rw [eK32] at h
                  refine lv_aload_n hx hb dX12_dive_121 rfl (lv_at hl 0 rfl) ?_
                  obtain ⟨hq34, h⟩ := zk h
                  refine z_getN hx hb hg zin_12 hown hK hM h29 0 rfl (by decide) (hg _ zw_1000) (fun _ h9 => h9) hq34 dX12_dive_122 (fun h33 => ?_)
                  refine lv_iload hx hb dX12_dive_125 (lv_at hl 5 rfl) ?_
                  refine lv_iload_n hx hb dX12_dive_127 rfl (lv_at hl 1 rfl) ?_
                  obtain ⟨hq35, h⟩ := zk h
                  refine z_iast hx hb hK hM hS h33 hq35 dX12_dive_128 (fun H locs hM hS => ?_)
                  obtain ⟨S36, e37, h⟩ := zlg h
                  rw [← e37] at hM
                  have hX38 : zX S30 S36 := by rw [e37]; exact zX_pI
                  have h39 := h29.mo hX38
                  have hX40 := hX31.tr hX38
                  refine lv_aload_n hx hb dX12_dive_129 rfl (lv_at hl 0 rfl) ?_
                  obtain ⟨hq42, h⟩ := zk h
                  refine z_getN hx hb hg zin_12 hown hK hM h39 0 rfl (by decide) (hg _ zw_1000) (fun _ h9 => h9) hq42 dX12_dive_130 (fun h41 => ?_)
                  refine lv_iload hx hb dX12_dive_133 (lv_at hl 5 rfl) ?_
                  refine lv_iconst (v := (1 : Int32)) hx hb dX12_dive_135 (by decide +kernel) ?_
                  refine lv_iadd hx hb dX12_dive_136 ?_
                  refine lv_iload_n hx hb dX12_dive_137 rfl (lv_at hl 2 rfl) ?_
                  obtain ⟨hq43, h⟩ := zk h
                  refine z_iast hx hb hK hM hS h41 hq43 dX12_dive_138 (fun H locs hM hS => ?_)
                  obtain ⟨S44, e45, h⟩ := zlg h
                  rw [← e45] at hM
                  have hX46 : zX S36 S44 := by rw [e45]; exact zX_pI
                  have h47 := h39.mo hX46
                  have hX48 := hX40.tr hX46
                  refine lv_aload_n hx hb dX12_dive_139 rfl (lv_at hl 0 rfl) ?_
                  obtain ⟨hq50, h⟩ := zk h
                  refine z_getN hx hb hg zin_12 hown hK hM h47 0 rfl (by decide) (hg _ zw_1000) (fun _ h9 => h9) hq50 dX12_dive_140 (fun h49 => ?_)
                  refine lv_iload hx hb dX12_dive_143 (lv_at hl 5 rfl) ?_
                  refine lv_iconst (v := (2 : Int32)) hx hb dX12_dive_145 (by decide +kernel) ?_
                  refine lv_iadd hx hb dX12_dive_146 ?_
                  refine lv_iload_n hx hb dX12_dive_147 rfl (lv_at hl 3 rfl) ?_
                  obtain ⟨hq51, h⟩ := zk h
                  refine z_iast hx hb hK hM hS h49 hq51 dX12_dive_148 (fun H locs hM hS => ?_)
                  obtain ⟨S52, e53, h⟩ := zlg h
                  rw [← e53] at hM
                  have hX54 : zX S44 S52 := by rw [e53]; exact zX_pI
                  have h55 := h47.mo hX54
                  have hX56 := hX48.tr hX54
                  refine lv_aload_n hx hb dX12_dive_149 rfl (lv_at hl 0 rfl) ?_
                  obtain ⟨hq58, h⟩ := zk h
                  refine z_getN hx hb hg zin_12 hown hK hM h55 0 rfl (by decide) (hg _ zw_1000) (fun _ h9 => h9) hq58 dX12_dive_150 (fun h57 => ?_)
                  refine lv_iload hx hb dX12_dive_153 (lv_at hl 5 rfl) ?_
                  refine lv_iconst (v := (3 : Int32)) hx hb dX12_dive_155 (by decide +kernel) ?_
                  refine lv_iadd hx hb dX12_dive_156 ?_
                  refine lv_iload hx hb dX12_dive_157 (lv_at hl 4 rfl) ?_
                  refine lv_bipush (v := (10 : Int32)) hx hb dX12_dive_159 (by decide +kernel) ?_
                  refine lv_idiv hx hb dX12_dive_161 (by decide +kernel) ?_
                  refine lv_bipush (v := (10 : Int32)) hx hb dX12_dive_162 (by decide +kernel) ?_
                  refine lv_irem hx hb dX12_dive_164 (by decide +kernel) ?_
                  obtain ⟨hq59, h⟩ := zk h
                  refine z_iast hx hb hK hM hS h57 hq59 dX12_dive_165 (fun H locs hM hS => ?_)
                  obtain ⟨S60, e61, h⟩ := zlg h
                  rw [← e61] at hM
                  have hX62 : zX S52 S60 := by rw [e61]; exact zX_pI
                  have h63 := h55.mo hX62
                  have hX64 := hX56.tr hX62
                  refine lv_aload_n hx hb dX12_dive_166 rfl (lv_at hl 0 rfl) ?_
                  obtain ⟨hq66, h⟩ := zk h
                  refine z_getN hx hb hg zin_12 hown hK hM h63 0 rfl (by decide) (hg _ zw_1000) (fun _ h9 => h9) hq66 dX12_dive_167 (fun h65 => ?_)
                  refine lv_iload hx hb dX12_dive_170 (lv_at hl 5 rfl) ?_
                  refine lv_iconst (v := (4 : Int32)) hx hb dX12_dive_172 (by decide +kernel) ?_
                  refine lv_iadd hx hb dX12_dive_173 ?_
                  refine lv_iload hx hb dX12_dive_174 (lv_at hl 4 rfl) ?_
                  refine lv_bipush (v := (100 : Int32)) hx hb dX12_dive_176 (by decide +kernel) ?_
                  refine lv_idiv hx hb dX12_dive_178 (by decide +kernel) ?_
                  obtain ⟨hq67, h⟩ := zk h
                  refine z_iast hx hb hK hM hS h65 hq67 dX12_dive_179 (fun H locs hM hS => ?_)
                  obtain ⟨S68, e69, h⟩ := zlg h
                  rw [← e69] at hM
                  have hX70 : zX S60 S68 := by rw [e69]; exact zX_pI
                  have h71 := h63.mo hX70
                  have hX72 := hX64.tr hX70
                  refine lv_aload_n hx hb dX12_dive_180 rfl (lv_at hl 0 rfl) ?_
                  obtain ⟨hq74, h⟩ := zk h
                  refine z_getN hx hb hg zin_12 hown hK hM h71 0 rfl (by decide) (hg _ zw_1000) (fun _ h9 => h9) hq74 dX12_dive_181 (fun h73 => ?_)
                  refine lv_sipush (v := (1003 : Int32)) hx hb dX12_dive_184 (by decide +kernel) ?_
                  refine lv_dup2_11 hx hb dX12_dive_187 rfl rfl ?_
                  obtain ⟨hq75, h⟩ := zk h
                  refine z_iald hx hb hK hM h73 hq75 dX12_dive_188 ?_
                  refine lv_iconst (v := (1 : Int32)) hx hb dX12_dive_189 (by decide +kernel) ?_
                  refine lv_iadd hx hb dX12_dive_190 ?_
                  obtain ⟨hq76, h⟩ := zk h
                  refine z_iast hx hb hK hM hS h73 hq76 dX12_dive_191 (fun H locs hM hS => ?_)
                  obtain ⟨S77, e78, h⟩ := zlg h
                  rw [← e78] at hM
                  have hX79 : zX S68 S77 := by rw [e78]; exact zX_pI
                  have h80 := h71.mo hX79
                  have hX81 := hX72.tr hX79
                  refine lv_aload_n hx hb dX12_dive_192 rfl (lv_at hl 0 rfl) ?_
                  obtain ⟨hq83, h⟩ := zk h
                  refine z_getN hx hb hg zin_12 hown hK hM h80 0 rfl (by decide) (hg _ zw_1000) (fun _ h9 => h9) hq83 dX12_dive_193 (fun h82 => ?_)
                  refine lv_sipush (v := (1003 : Int32)) hx hb dX12_dive_196 (by decide +kernel) ?_
                  obtain ⟨hq84, h⟩ := zk h
                  refine z_iald hx hb hK hM h82 hq84 dX12_dive_199 ?_
                  refine lv_iconst (v := (1 : Int32)) hx hb dX12_dive_200 (by decide +kernel) ?_
                  refine lv_isub hx hb dX12_dive_201 ?_
                  exact z_iret hx hb hr hlk hM hX81 hS (zsp h) dX12_dive_202
                have hL97 : ∀ (k : Nat) (x86 : Int32) (S87 : zM) (H : Heap) (locs : List Loc), zMR D cy B S87 H → zX S0 S87 → va_S (fun q => B < q) s.heap H locs → zA S87 a0 12 → ∀ ls : Array Slot, lv_has ls 7 [(0, .ref (B + a0)), (1, .int v1), (2, .int v2), (3, .int v3), (4, .int v4), (5, .int ((112 : Int32) + ((19 : Int32) * (zi S0 (zr S0 a0 0) (Int32.toNatClampNeg (1003 : Int32)))))), (6, .int x86)] → f_X12_dive_L97 S0 a0 K32 k x86 S87 = some (r, S') → W p l e (headSpec (zws yX12_dive cX12_dive 7 ((some .int))) { frames := 2, cells := 0, slots := 0, locals := 46 }).room s m (([.ref (B + a0), .int v1, .int v2, .int v3, .int v4] : List Value).toArray) below meth c H locs 0 0 (MQ below (zQi D cy B S0 r S') (([.ref (B + a0), .int v1, .int v2, .int v3, .int v4] : List Value).toArray) s 0 0 (fun q => B < q)) (F0 m 97 ls []) := by
                  intro k
                  induction k with
                  | zero =>
                    intro x86 S87 H locs hM hX88 hS h85 ls hl h
                    exact znone h
                  | succ k ih97 =>
                    intro x86 S87 H locs hM hX88 hS h85 ls hl h
                    replace h : f_X12_dive_L97b S0 a0 K32 (f_X12_dive_L97 S0 a0 K32 k) x86 S87 = some (r, S') := h
                    generalize f_X12_dive_L97 S0 a0 K32 k = rec97 at ih97 h
                    unfold f_X12_dive_L97b at h
                    refine lv_iload hx hb dX12_dive_97 (lv_at hl 6 rfl) ?_
                    refine lv_bipush (v := (19 : Int32)) hx hb dX12_dive_99 (by decide +kernel) ?_
                    refine lv_icmp_ge (tgt := 121) hx hb dX12_dive_101 (by decide) (fun hc89 => ?_) (fun hc89 => ?_)
                    · have h := zt h hc89
                      exact hK32 S87 _ _ hM hX88 hS h85 _ (lv_sub hl [0, 1, 2, 3, 4, 5] rfl) h
                    · have h := zf h hc89
                      refine lv_aload_n hx hb dX12_dive_104 rfl (lv_at hl 0 rfl) ?_
                      obtain ⟨hq91, h⟩ := zk h
                      refine z_getN hx hb hg zin_12 hown hK hM h85 0 rfl (by decide) (hg _ zw_1000) (fun _ h9 => h9) hq91 dX12_dive_105 (fun h90 => ?_)
                      refine lv_iload hx hb dX12_dive_108 (lv_at hl 5 rfl) ?_
                      refine lv_iload hx hb dX12_dive_110 (lv_at hl 6 rfl) ?_
                      refine lv_iadd hx hb dX12_dive_112 ?_
                      refine lv_iconst (v := (0 : Int32)) hx hb dX12_dive_113 (by decide +kernel) ?_
                      obtain ⟨hq92, h⟩ := zk h
                      refine z_iast hx hb hK hM hS h90 hq92 dX12_dive_114 (fun H locs hM hS => ?_)
                      obtain ⟨S93, e94, h⟩ := zlg h
                      rw [← e94] at hM
                      have hX95 : zX S87 S93 := by rw [e94]; exact zX_pI
                      have h96 := h85.mo hX95
                      have hX97 := hX88.tr hX95
                      refine lv_iinc (v := (x86 + (1 : Int32))) (lv' := [(6, .int (x86 + (1 : Int32))), (0, .ref (B + a0)), (1, .int v1), (2, .int v2), (3, .int v3), (4, .int v4), (5, .int ((112 : Int32) + ((19 : Int32) * (zi S0 (zr S0 a0 0) (Int32.toNatClampNeg (1003 : Int32))))))]) hx hb dX12_dive_115 hl (k := 6) rfl rfl (by decide) rfl (fun ls hl => ?_)
                      refine lv_goto (tgt := 97) hx hb dX12_dive_118 (by decide) ?_
                      exact ih97 (x86 + (1 : Int32)) S93 _ _ hM hX97 hS h96 _ (lv_sub hl [1, 2, 3, 4, 5, 6, 0] rfl) h
                exact hL97 n (0 : Int32) S0 _ _ hM hX0 hS ha0 _ (lv_sub hl [2, 3, 4, 5, 6, 1, 0] rfl) h
              · have h := zt h hc26
                refine lv_bipush (v := (-2 : Int32)) hx hb dX12_dive_75 (by decide +kernel) ?_
                exact z_iret hx hb hr hlk hM hX0 hS (zsp h) dX12_dive_77
            · have h := zf h hc22
              refine lv_iconst (v := (-1 : Int32)) hx hb dX12_dive_60 (by decide +kernel) ?_
              exact z_iret hx hb hr hlk hM hX0 hS (zsp h) dX12_dive_61
def f_X12_worth_L5b (S0 : zM) (a0 : Nat) (v1 : Int32) (K3 : Int32 → Option (Int32)) (rec5 : Int32 → Int32 → Option (Int32)) (x6 : Int32) (x7 : Int32) : Option (Int32) :=
  if (6 : Int32) ≤ x7 then K3 x6 else zB1 (f_X12_get S0 a0 v1 (2 : Int32)) (fun r11 => zLet (fun (x15 : Int32) => rec5 (x6 - x15) (x7 + (1 : Int32))) (fun K17 => if ((r11 >>> (x7 &&& 31)) &&& (1 : Int32)) = (1 : Int32) then zChk (¬ (zr S0 a0 0) = 0) (zChk (¬ (((872 : Int32) + x7) < 0 ∨ zln S0 (zr S0 a0 0) ≤ (((872 : Int32) + x7)).toNatClampNeg)) (K17 (zi S0 (zr S0 a0 0) (Int32.toNatClampNeg ((872 : Int32) + x7))))) else K17 (0 : Int32)))
def f_X12_worth_L5 (S0 : zM) (a0 : Nat) (v1 : Int32) (K3 : Int32 → Option (Int32)) : Nat → Int32 → Int32 → Option (Int32)
  | 0 => fun _ _ => none
  | k + 1 => fun x6 x7 => f_X12_worth_L5b S0 a0 v1 K3 (f_X12_worth_L5 S0 a0 v1 K3 k) x6 x7
def f_X12_worth (n : Nat) (S0 : zM) (a0 : Nat) (v1 : Int32) : Option (Int32) :=
  zLet (fun (x1 : Int32) => if 0 ≤ x1 then some x1 else some (0 : Int32)) (fun K3 => f_X12_worth_L5 S0 a0 v1 K3 n (20 : Int32) (0 : Int32))
set_option maxHeartbeats 4000000 in
set_option maxRecDepth 100000 in
theorem c_X12_worth (l : Launch) (D : va_G) (cy : Nat → ClassId) (B : Nat) {n : Nat} {S0 : zM} {a0 : Nat} {v1 : Int32} {r : Int32} (ha0 : zA S0 a0 12) (h : f_X12_worth n S0 a0 v1 = some r) : Met l yX12_worth (zws yX12_worth cX12_worth 4 ((some .int))) { frames := 1, cells := 0, slots := 0, locals := 22 } (zPc D cy B S0 [.ref (B + a0), .int v1]) (zQi D cy B S0 r S0) 0 0 (fun q => B < q) := by
  refine Met.ofW (cc := cX12_worth) (maxL := 4) (ret := ((some .int))) (by decide) rfl ?_
  intro p e s m args below meth c s₁ Bd hml hv
  obtain ⟨rfl, hC, hM⟩ := hv
  obtain ⟨hx, hb, hr, hg, hown, hlk⟩ := z_open Bd
  have hK := hC.1
  have hS : va_S (fun q => B < q) s.heap s.heap [] := va_S.rf
  have hX0 : zX S0 S0 := zX.rf
  refine z_entry (vs := [.ref (B + a0), .int v1]) (Nat.le_of_ble_eq_true rfl) (fun ls hl => ?_)
  have hl : lv_has ls 4 [(0, .ref (B + a0)), (1, .int v1)] := hl
  unfold f_X12_worth at h
  refine lv_bipush (v := (20 : Int32)) hx hb dX12_worth_0 (by decide +kernel) ?_
  refine lv_istore_n (i := 2) (lv' := [(2, .int (20 : Int32)), (0, .ref (B + a0)), (1, .int v1)]) hx hb dX12_worth_2 rfl hl (by decide) rfl (fun ls hl => ?_)
  refine lv_iconst (v := (0 : Int32)) hx hb dX12_worth_3 (by decide +kernel) ?_
  refine lv_istore_n (i := 3) (lv' := [(3, .int (0 : Int32)), (2, .int (20 : Int32)), (0, .ref (B + a0)), (1, .int v1)]) hx hb dX12_worth_4 rfl hl (by decide) rfl (fun ls hl => ?_)
  obtain ⟨K3, eK3, h⟩ := zlg h
  have hK3 : ∀ (x1 : Int32) (H : Heap) (locs : List Loc), zMR D cy B S0 H → zX S0 S0 → va_S (fun q => B < q) s.heap H locs → ∀ ls : Array Slot, lv_has ls 4 [(2, .int x1)] → K3 x1 = some r → W p l e (headSpec (zws yX12_worth cX12_worth 4 ((some .int))) { frames := 1, cells := 0, slots := 0, locals := 22 }).room s m (([.ref (B + a0), .int v1] : List Value).toArray) below meth c H locs 0 0 (MQ below (zQi D cy B S0 r S0) (([.ref (B + a0), .int v1] : List Value).toArray) s 0 0 (fun q => B < q)) (F0 m 48 ls []) := by
    intro x1 H locs hM hX2 hS ls hl h
    rw [eK3] at h
    refine lv_iload_n hx hb dX12_worth_48 rfl (lv_at hl 0 rfl) ?_
    refine lv_if_ge (tgt := 56) hx hb dX12_worth_49 (by decide) (fun hc4 => ?_) (fun hc4 => ?_)
    · have h := zt h hc4
      refine lv_iload_n hx hb dX12_worth_56 rfl (lv_at hl 0 rfl) ?_
      exact z_iret hx hb hr hlk hM hX2 hS ⟨zsm h, rfl⟩ dX12_worth_57
    · have h := zf h hc4
      refine lv_iconst (v := (0 : Int32)) hx hb dX12_worth_52 (by decide +kernel) ?_
      refine lv_goto (tgt := 57) hx hb dX12_worth_53 (by decide) ?_
      exact z_iret hx hb hr hlk hM hX2 hS ⟨zsm h, rfl⟩ dX12_worth_57
  have hL5 : ∀ (k : Nat) (x6 : Int32) (x7 : Int32) (H : Heap) (locs : List Loc), zMR D cy B S0 H → zX S0 S0 → va_S (fun q => B < q) s.heap H locs → zA S0 a0 12 → ∀ ls : Array Slot, lv_has ls 4 [(0, .ref (B + a0)), (1, .int v1), (2, .int x6), (3, .int x7)] → f_X12_worth_L5 S0 a0 v1 K3 k x6 x7 = some r → W p l e (headSpec (zws yX12_worth cX12_worth 4 ((some .int))) { frames := 1, cells := 0, slots := 0, locals := 22 }).room s m (([.ref (B + a0), .int v1] : List Value).toArray) below meth c H locs 0 0 (MQ below (zQi D cy B S0 r S0) (([.ref (B + a0), .int v1] : List Value).toArray) s 0 0 (fun q => B < q)) (F0 m 5 ls []) := by
    intro k
    induction k with
    | zero =>
      intro x6 x7 H locs hM hX8 hS h5 ls hl h
      exact znone h
    | succ k ih5 =>
      intro x6 x7 H locs hM hX8 hS h5 ls hl h
      replace h : f_X12_worth_L5b S0 a0 v1 K3 (f_X12_worth_L5 S0 a0 v1 K3 k) x6 x7 = some r := h
      generalize f_X12_worth_L5 S0 a0 v1 K3 k = rec5 at ih5 h
      unfold f_X12_worth_L5b at h
      refine lv_iload_n hx hb dX12_worth_5 rfl (lv_at hl 3 rfl) ?_
      refine lv_bipush (v := (6 : Int32)) hx hb dX12_worth_6 (by decide +kernel) ?_
      refine lv_icmp_ge (tgt := 48) hx hb dX12_worth_8 (by decide) (fun hc9 => ?_) (fun hc9 => ?_)
      · have h := zt h hc9
        exact hK3 x6 _ _ hM hX8 hS _ (lv_sub hl [2] rfl) h
      · have h := zf h hc9
        refine lv_iload_n hx hb dX12_worth_11 rfl (lv_at hl 2 rfl) ?_
        refine lv_aload_n hx hb dX12_worth_12 rfl (lv_at hl 0 rfl) ?_
        refine lv_iload_n hx hb dX12_worth_13 rfl (lv_at hl 1 rfl) ?_
        refine lv_iconst (v := (2 : Int32)) hx hb dX12_worth_14 (by decide +kernel) ?_
        obtain ⟨r11, hr10, h⟩ := zb1 h
        refine z_runi (va_runV (As := [.int v1, .int (2 : Int32)]) (rest := [.int x6]) ⟨hx, hb, hml, hown, hg⟩ (c_X12_get l D cy B h5 hr10) (z_cwV hg zw_1163 zw_1164 zw_1487 zw_13 zw_1165 zh_X12_get ⟨(Nat.le_of_ble_eq_true rfl), (Nat.le_of_ble_eq_true rfl)⟩) (zPV hC hM h5 (by decide) rfl) rfl rfl hl.1 rfl (lv_room (Nat.le_of_ble_eq_true rfl)) dX12_worth_15 ⟨(Nat.le_of_ble_eq_true rfl), (Nat.le_of_ble_eq_true rfl)⟩) hS (fun H locs hM hX12 hS => ?_)
        refine lv_iload_n hx hb dX12_worth_18 rfl (lv_at hl 3 rfl) ?_
        refine lv_ishr hx hb dX12_worth_19 ?_
        refine lv_iconst (v := (1 : Int32)) hx hb dX12_worth_20 (by decide +kernel) ?_
        refine lv_iand hx hb dX12_worth_21 ?_
        refine lv_iconst (v := (1 : Int32)) hx hb dX12_worth_22 (by decide +kernel) ?_
        obtain ⟨K17, eK17, h⟩ := zlg h
        have hK17 : ∀ (x15 : Int32) (H : Heap) (locs : List Loc), zMR D cy B S0 H → zX S0 S0 → va_S (fun q => B < q) s.heap H locs → zA S0 a0 12 → ∀ ls : Array Slot, lv_has ls 4 [(0, .ref (B + a0)), (1, .int v1), (3, .int x7)] → K17 x15 = some r → W p l e (headSpec (zws yX12_worth cX12_worth 4 ((some .int))) { frames := 1, cells := 0, slots := 0, locals := 22 }).room s m (([.ref (B + a0), .int v1] : List Value).toArray) below meth c H locs 0 0 (MQ below (zQi D cy B S0 r S0) (([.ref (B + a0), .int v1] : List Value).toArray) s 0 0 (fun q => B < q)) (F0 m 40 ls [.int x15, .int x6]) := by
          intro x15 H locs hM hX16 hS h14 ls hl h
          rw [eK17] at h
          refine lv_isub hx hb dX12_worth_40 ?_
          refine lv_istore_n (i := 2) (lv' := [(2, .int (x6 - x15)), (0, .ref (B + a0)), (1, .int v1), (3, .int x7)]) hx hb dX12_worth_41 rfl hl (by decide) rfl (fun ls hl => ?_)
          refine lv_iinc (v := (x7 + (1 : Int32))) (lv' := [(3, .int (x7 + (1 : Int32))), (2, .int (x6 - x15)), (0, .ref (B + a0)), (1, .int v1)]) hx hb dX12_worth_42 hl (k := 3) rfl rfl (by decide) rfl (fun ls hl => ?_)
          refine lv_goto (tgt := 5) hx hb dX12_worth_45 (by decide) ?_
          exact ih5 (x6 - x15) (x7 + (1 : Int32)) _ _ hM hX16 hS h14 _ (lv_sub hl [2, 3, 1, 0] rfl) h
        refine lv_icmp_ne (tgt := 39) hx hb dX12_worth_23 (by decide) (fun hc18 => ?_) (fun hc18 => ?_)
        · have h := zf h hc18
          refine lv_iconst (v := (0 : Int32)) hx hb dX12_worth_39 (by decide +kernel) ?_
          exact hK17 (0 : Int32) _ _ hM hX8 hS h5 _ (lv_sub hl [0, 1, 3] rfl) h
        · have h := zt h hc18
          refine lv_aload_n hx hb dX12_worth_26 rfl (lv_at hl 0 rfl) ?_
          obtain ⟨hq20, h⟩ := zk h
          refine z_getN hx hb hg zin_12 hown hK hM h5 0 rfl (by decide) (hg _ zw_1000) (fun _ h9 => h9) hq20 dX12_worth_27 (fun h19 => ?_)
          refine lv_sipush (v := (872 : Int32)) hx hb dX12_worth_30 (by decide +kernel) ?_
          refine lv_iload_n hx hb dX12_worth_33 rfl (lv_at hl 3 rfl) ?_
          refine lv_iadd hx hb dX12_worth_34 ?_
          obtain ⟨hq21, h⟩ := zk h
          refine z_iald hx hb hK hM h19 hq21 dX12_worth_35 ?_
          refine lv_goto (tgt := 40) hx hb dX12_worth_36 (by decide) ?_
          exact hK17 (zi S0 (zr S0 a0 0) (Int32.toNatClampNeg ((872 : Int32) + x7))) _ _ hM hX8 hS h5 _ (lv_sub hl [0, 1, 3] rfl) h
  exact hL5 n (20 : Int32) (0 : Int32) _ _ hM hX0 hS ha0 _ (lv_sub hl [2, 3, 1, 0] rfl) h
def f_X12_marksOf_L4b (S0 : zM) (a0 : Nat) (v1 : Int32) (K3 : Int32 → Option (Int32)) (rec4 : Int32 → Int32 → Option (Int32)) (x5 : Int32) (x6 : Int32) : Option (Int32) :=
  if (7 : Int32) ≤ x6 then K3 x5 else zB1 (f_X12_get S0 a0 v1 ((5 : Int32) + x6)) (fun r10 => zLet (fun (x14 : Int32) => rec4 (x5 + x14) (x6 + (1 : Int32))) (fun K16 => if r10 ≤ 0 then K16 (0 : Int32) else K16 (1 : Int32)))
def f_X12_marksOf_L4 (S0 : zM) (a0 : Nat) (v1 : Int32) (K3 : Int32 → Option (Int32)) : Nat → Int32 → Int32 → Option (Int32)
  | 0 => fun _ _ => none
  | k + 1 => fun x5 x6 => f_X12_marksOf_L4b S0 a0 v1 K3 (f_X12_marksOf_L4 S0 a0 v1 K3 k) x5 x6
def f_X12_marksOf (n : Nat) (S0 : zM) (a0 : Nat) (v1 : Int32) : Option (Int32) :=
  zLet (fun (x1 : Int32) => some x1) (fun K3 => f_X12_marksOf_L4 S0 a0 v1 K3 n (0 : Int32) (0 : Int32))
set_option maxHeartbeats 4000000 in
set_option maxRecDepth 100000 in
theorem c_X12_marksOf (l : Launch) (D : va_G) (cy : Nat → ClassId) (B : Nat) {n : Nat} {S0 : zM} {a0 : Nat} {v1 : Int32} {r : Int32} (ha0 : zA S0 a0 12) (h : f_X12_marksOf n S0 a0 v1 = some r) : Met l yX12_marksOf (zws yX12_marksOf cX12_marksOf 4 ((some .int))) { frames := 1, cells := 0, slots := 0, locals := 22 } (zPc D cy B S0 [.ref (B + a0), .int v1]) (zQi D cy B S0 r S0) 0 0 (fun q => B < q) := by
  refine Met.ofW (cc := cX12_marksOf) (maxL := 4) (ret := ((some .int))) (by decide) rfl ?_
  intro p e s m args below meth c s₁ Bd hml hv
  obtain ⟨rfl, hC, hM⟩ := hv
  obtain ⟨hx, hb, hr, hg, hown, hlk⟩ := z_open Bd
  have hK := hC.1
  have hS : va_S (fun q => B < q) s.heap s.heap [] := va_S.rf
  have hX0 : zX S0 S0 := zX.rf
  refine z_entry (vs := [.ref (B + a0), .int v1]) (Nat.le_of_ble_eq_true rfl) (fun ls hl => ?_)
  have hl : lv_has ls 4 [(0, .ref (B + a0)), (1, .int v1)] := hl
  unfold f_X12_marksOf at h
  refine lv_iconst (v := (0 : Int32)) hx hb dX12_marksOf_0 (by decide +kernel) ?_
  refine lv_istore_n (i := 2) (lv' := [(2, .int (0 : Int32)), (0, .ref (B + a0)), (1, .int v1)]) hx hb dX12_marksOf_1 rfl hl (by decide) rfl (fun ls hl => ?_)
  refine lv_iconst (v := (0 : Int32)) hx hb dX12_marksOf_2 (by decide +kernel) ?_
  refine lv_istore_n (i := 3) (lv' := [(3, .int (0 : Int32)), (2, .int (0 : Int32)), (0, .ref (B + a0)), (1, .int v1)]) hx hb dX12_marksOf_3 rfl hl (by decide) rfl (fun ls hl => ?_)
  obtain ⟨K3, eK3, h⟩ := zlg h
  have hK3 : ∀ (x1 : Int32) (H : Heap) (locs : List Loc), zMR D cy B S0 H → zX S0 S0 → va_S (fun q => B < q) s.heap H locs → ∀ ls : Array Slot, lv_has ls 4 [(2, .int x1)] → K3 x1 = some r → W p l e (headSpec (zws yX12_marksOf cX12_marksOf 4 ((some .int))) { frames := 1, cells := 0, slots := 0, locals := 22 }).room s m (([.ref (B + a0), .int v1] : List Value).toArray) below meth c H locs 0 0 (MQ below (zQi D cy B S0 r S0) (([.ref (B + a0), .int v1] : List Value).toArray) s 0 0 (fun q => B < q)) (F0 m 35 ls []) := by
    intro x1 H locs hM hX2 hS ls hl h
    rw [eK3] at h
    refine lv_iload_n hx hb dX12_marksOf_35 rfl (lv_at hl 0 rfl) ?_
    exact z_iret hx hb hr hlk hM hX2 hS ⟨zsm h, rfl⟩ dX12_marksOf_36
  have hL4 : ∀ (k : Nat) (x5 : Int32) (x6 : Int32) (H : Heap) (locs : List Loc), zMR D cy B S0 H → zX S0 S0 → va_S (fun q => B < q) s.heap H locs → zA S0 a0 12 → ∀ ls : Array Slot, lv_has ls 4 [(0, .ref (B + a0)), (1, .int v1), (2, .int x5), (3, .int x6)] → f_X12_marksOf_L4 S0 a0 v1 K3 k x5 x6 = some r → W p l e (headSpec (zws yX12_marksOf cX12_marksOf 4 ((some .int))) { frames := 1, cells := 0, slots := 0, locals := 22 }).room s m (([.ref (B + a0), .int v1] : List Value).toArray) below meth c H locs 0 0 (MQ below (zQi D cy B S0 r S0) (([.ref (B + a0), .int v1] : List Value).toArray) s 0 0 (fun q => B < q)) (F0 m 4 ls []) := by
    intro k
    induction k with
    | zero =>
      intro x5 x6 H locs hM hX7 hS h4 ls hl h
      exact znone h
    | succ k ih4 =>
      intro x5 x6 H locs hM hX7 hS h4 ls hl h
      replace h : f_X12_marksOf_L4b S0 a0 v1 K3 (f_X12_marksOf_L4 S0 a0 v1 K3 k) x5 x6 = some r := h
      generalize f_X12_marksOf_L4 S0 a0 v1 K3 k = rec4 at ih4 h
      unfold f_X12_marksOf_L4b at h
      refine lv_iload_n hx hb dX12_marksOf_4 rfl (lv_at hl 3 rfl) ?_
      refine lv_bipush (v := (7 : Int32)) hx hb dX12_marksOf_5 (by decide +kernel) ?_
      refine lv_icmp_ge (tgt := 35) hx hb dX12_marksOf_7 (by decide) (fun hc8 => ?_) (fun hc8 => ?_)
      · have h := zt h hc8
        exact hK3 x5 _ _ hM hX7 hS _ (lv_sub hl [2] rfl) h
      · have h := zf h hc8
        refine lv_iload_n hx hb dX12_marksOf_10 rfl (lv_at hl 2 rfl) ?_
        refine lv_aload_n hx hb dX12_marksOf_11 rfl (lv_at hl 0 rfl) ?_
        refine lv_iload_n hx hb dX12_marksOf_12 rfl (lv_at hl 1 rfl) ?_
        refine lv_iconst (v := (5 : Int32)) hx hb dX12_marksOf_13 (by decide +kernel) ?_
        refine lv_iload_n hx hb dX12_marksOf_14 rfl (lv_at hl 3 rfl) ?_
        refine lv_iadd hx hb dX12_marksOf_15 ?_
        obtain ⟨r10, hr9, h⟩ := zb1 h
        refine z_runi (va_runV (As := [.int v1, .int ((5 : Int32) + x6)]) (rest := [.int x5]) ⟨hx, hb, hml, hown, hg⟩ (c_X12_get l D cy B h4 hr9) (z_cwV hg zw_1163 zw_1164 zw_1487 zw_13 zw_1165 zh_X12_get ⟨(Nat.le_of_ble_eq_true rfl), (Nat.le_of_ble_eq_true rfl)⟩) (zPV hC hM h4 (by decide) rfl) rfl rfl hl.1 rfl (lv_room (Nat.le_of_ble_eq_true rfl)) dX12_marksOf_16 ⟨(Nat.le_of_ble_eq_true rfl), (Nat.le_of_ble_eq_true rfl)⟩) hS (fun H locs hM hX11 hS => ?_)
        obtain ⟨K16, eK16, h⟩ := zlg h
        have hK16 : ∀ (x14 : Int32) (H : Heap) (locs : List Loc), zMR D cy B S0 H → zX S0 S0 → va_S (fun q => B < q) s.heap H locs → zA S0 a0 12 → ∀ ls : Array Slot, lv_has ls 4 [(0, .ref (B + a0)), (1, .int v1), (3, .int x6)] → K16 x14 = some r → W p l e (headSpec (zws yX12_marksOf cX12_marksOf 4 ((some .int))) { frames := 1, cells := 0, slots := 0, locals := 22 }).room s m (([.ref (B + a0), .int v1] : List Value).toArray) below meth c H locs 0 0 (MQ below (zQi D cy B S0 r S0) (([.ref (B + a0), .int v1] : List Value).toArray) s 0 0 (fun q => B < q)) (F0 m 27 ls [.int x14, .int x5]) := by
          intro x14 H locs hM hX15 hS h13 ls hl h
          rw [eK16] at h
          refine lv_iadd hx hb dX12_marksOf_27 ?_
          refine lv_istore_n (i := 2) (lv' := [(2, .int (x5 + x14)), (0, .ref (B + a0)), (1, .int v1), (3, .int x6)]) hx hb dX12_marksOf_28 rfl hl (by decide) rfl (fun ls hl => ?_)
          refine lv_iinc (v := (x6 + (1 : Int32))) (lv' := [(3, .int (x6 + (1 : Int32))), (2, .int (x5 + x14)), (0, .ref (B + a0)), (1, .int v1)]) hx hb dX12_marksOf_29 hl (k := 3) rfl rfl (by decide) rfl (fun ls hl => ?_)
          refine lv_goto (tgt := 4) hx hb dX12_marksOf_32 (by decide) ?_
          exact ih4 (x5 + x14) (x6 + (1 : Int32)) _ _ hM hX15 hS h13 _ (lv_sub hl [2, 3, 1, 0] rfl) h
        refine lv_if_le (tgt := 26) hx hb dX12_marksOf_19 (by decide) (fun hc17 => ?_) (fun hc17 => ?_)
        · have h := zt h hc17
          refine lv_iconst (v := (0 : Int32)) hx hb dX12_marksOf_26 (by decide +kernel) ?_
          exact hK16 (0 : Int32) _ _ hM hX7 hS h4 _ (lv_sub hl [0, 1, 3] rfl) h
        · have h := zf h hc17
          refine lv_iconst (v := (1 : Int32)) hx hb dX12_marksOf_22 (by decide +kernel) ?_
          refine lv_goto (tgt := 27) hx hb dX12_marksOf_23 (by decide) ?_
          exact hK16 (1 : Int32) _ _ hM hX7 hS h4 _ (lv_sub hl [0, 1, 3] rfl) h
  exact hL4 n (0 : Int32) (0 : Int32) _ _ hM hX0 hS ha0 _ (lv_sub hl [2, 3, 1, 0] rfl) h
def f_X12_of (n : Nat) (S0 : zM) (a0 : Nat) (v1 : Int32) (v2 : Int32) : Option (Int32) :=
  zB1 (f_X12_isDive S0 a0 v1) (fun r2 => if r2 = 0 then some (-1 : Int32) else zLet (f_X12_isIn (Int32.toInt64 v2) (0 : Int64) (6 : Int64)) (fun r7 => if r7 = 0 then some (-1 : Int32) else if (5 : Int32) ≤ v2 then if v2 = (5 : Int32) then zB1 (f_X12_worth n S0 a0 v1) (fun r18 => some r18) else zB1 (f_X12_marksOf n S0 a0 v1) (fun r14 => some r14) else zB1 (f_X12_get S0 a0 v1 v2) (fun r22 => some r22)))
set_option maxHeartbeats 4000000 in
set_option maxRecDepth 100000 in
theorem c_X12_of (l : Launch) (D : va_G) (cy : Nat → ClassId) (B : Nat) {n : Nat} {S0 : zM} {a0 : Nat} {v1 : Int32} {v2 : Int32} {r : Int32} (ha0 : zA S0 a0 12) (h : f_X12_of n S0 a0 v1 v2 = some r) : Met l yX12_of (zws yX12_of cX12_of 3 ((some .int))) { frames := 2, cells := 0, slots := 0, locals := 46 } (zPc D cy B S0 [.ref (B + a0), .int v1, .int v2]) (zQi D cy B S0 r S0) 0 0 (fun q => B < q) := by
  refine Met.ofW (cc := cX12_of) (maxL := 3) (ret := ((some .int))) (by decide) rfl ?_
  intro p e s m args below meth c s₁ Bd hml hv
  obtain ⟨rfl, hC, hM⟩ := hv
  obtain ⟨hx, hb, hr, hg, hown, hlk⟩ := z_open Bd
  have hK := hC.1
  have hS : va_S (fun q => B < q) s.heap s.heap [] := va_S.rf
  have hX0 : zX S0 S0 := zX.rf
  refine z_entry (vs := [.ref (B + a0), .int v1, .int v2]) (Nat.le_of_ble_eq_true rfl) (fun ls hl => ?_)
  have hl : lv_has ls 3 [(0, .ref (B + a0)), (1, .int v1), (2, .int v2)] := hl
  unfold f_X12_of at h
  refine lv_aload_n hx hb dX12_of_0 rfl (lv_at hl 0 rfl) ?_
  refine lv_iload_n hx hb dX12_of_1 rfl (lv_at hl 1 rfl) ?_
  obtain ⟨r2, hr1, h⟩ := zb1 h
  refine z_runi (va_runV (As := [.int v1]) (rest := []) ⟨hx, hb, hml, hown, hg⟩ (c_X12_isDive l D cy B ha0 hr1) (z_cwV hg zw_1160 zw_1161 zw_1486 zw_13 zw_1162 zh_X12_isDive ⟨(Nat.le_of_ble_eq_true rfl), (Nat.le_of_ble_eq_true rfl)⟩) (zPV hC hM ha0 (by decide) rfl) rfl rfl hl.1 rfl (lv_room (Nat.le_of_ble_eq_true rfl)) dX12_of_2 ⟨(Nat.le_of_ble_eq_true rfl), (Nat.le_of_ble_eq_true rfl)⟩) hS (fun H locs hM hX3 hS => ?_)
  refine lv_if_eq (tgt := 20) hx hb dX12_of_5 (by decide) (fun hc5 => ?_) (fun hc5 => ?_)
  · have h := zt h hc5
    refine lv_iconst (v := (-1 : Int32)) hx hb dX12_of_20 (by decide +kernel) ?_
    refine lv_goto (tgt := 56) hx hb dX12_of_21 (by decide) ?_
    exact z_iret hx hb hr hlk hM hX0 hS ⟨zsm h, rfl⟩ dX12_of_56
  · have h := zf h hc5
    refine lv_iload_n hx hb dX12_of_8 rfl (lv_at hl 2 rfl) ?_
    refine lv_i2l hx hb dX12_of_9 rfl ?_
    refine lv_lconst (v := (0 : Int64)) hx hb dX12_of_10 (by decide +kernel) ?_
    refine lv_ldc2 (v := (6 : Int64)) hx hb hown (hg _ zw_1139) dX12_of_11 ?_
    obtain ⟨r7, hr6, h⟩ := zlg h
    have hr6 := hr6.symm
    refine z_runi (va_runS (As := [.long (Int32.toInt64 v2), .long (0 : Int64), .long (6 : Int64)]) (rest := []) ⟨hx, hb, hml, hown, hg⟩ (c_X12_isIn l D cy B hr6) (z_cwS hg zw_1111 zw_1112 zw_13 zw_1113 zh_X12_isIn.2 ⟨(Nat.le_of_ble_eq_true rfl), (Nat.le_of_ble_eq_true rfl)⟩) (zPS hC hM) rfl rfl hl.1 rfl (lv_room (Nat.le_of_ble_eq_true rfl)) dX12_of_14 ⟨(Nat.le_of_ble_eq_true rfl), (Nat.le_of_ble_eq_true rfl)⟩) hS (fun H locs hM hX8 hS => ?_)
    refine lv_if_ne (tgt := 24) hx hb dX12_of_17 (by decide) (fun hc10 => ?_) (fun hc10 => ?_)
    · have h := zf h hc10
      refine lv_iload_n hx hb dX12_of_24 rfl (lv_at hl 2 rfl) ?_
      refine lv_iconst (v := (5 : Int32)) hx hb dX12_of_25 (by decide +kernel) ?_
      refine lv_icmp_ge (tgt := 38) hx hb dX12_of_26 (by decide) (fun hc11 => ?_) (fun hc11 => ?_)
      · have h := zt h hc11
        refine lv_iload_n hx hb dX12_of_38 rfl (lv_at hl 2 rfl) ?_
        refine lv_iconst (v := (5 : Int32)) hx hb dX12_of_39 (by decide +kernel) ?_
        refine lv_icmp_ne (tgt := 51) hx hb dX12_of_40 (by decide) (fun hc12 => ?_) (fun hc12 => ?_)
        · have h := zf h hc12
          refine lv_aload_n hx hb dX12_of_51 rfl (lv_at hl 0 rfl) ?_
          refine lv_iload_n hx hb dX12_of_52 rfl (lv_at hl 1 rfl) ?_
          obtain ⟨r14, hr13, h⟩ := zb1 h
          refine z_runi (va_runV (As := [.int v1]) (rest := []) ⟨hx, hb, hml, hown, hg⟩ (c_X12_marksOf l D cy B ha0 hr13) (z_cwV hg zw_1169 zw_1170 zw_1489 zw_13 zw_1171 zh_X12_marksOf ⟨(Nat.le_of_ble_eq_true rfl), (Nat.le_of_ble_eq_true rfl)⟩) (zPV hC hM ha0 (by decide) rfl) rfl rfl hl.1 rfl (lv_room (Nat.le_of_ble_eq_true rfl)) dX12_of_53 ⟨(Nat.le_of_ble_eq_true rfl), (Nat.le_of_ble_eq_true rfl)⟩) hS (fun H locs hM hX15 hS => ?_)
          exact z_iret hx hb hr hlk hM hX0 hS ⟨zsm h, rfl⟩ dX12_of_56
        · have h := zt h hc12
          refine lv_aload_n hx hb dX12_of_43 rfl (lv_at hl 0 rfl) ?_
          refine lv_iload_n hx hb dX12_of_44 rfl (lv_at hl 1 rfl) ?_
          obtain ⟨r18, hr17, h⟩ := zb1 h
          refine z_runi (va_runV (As := [.int v1]) (rest := []) ⟨hx, hb, hml, hown, hg⟩ (c_X12_worth l D cy B ha0 hr17) (z_cwV hg zw_1166 zw_1167 zw_1488 zw_13 zw_1168 zh_X12_worth ⟨(Nat.le_of_ble_eq_true rfl), (Nat.le_of_ble_eq_true rfl)⟩) (zPV hC hM ha0 (by decide) rfl) rfl rfl hl.1 rfl (lv_room (Nat.le_of_ble_eq_true rfl)) dX12_of_45 ⟨(Nat.le_of_ble_eq_true rfl), (Nat.le_of_ble_eq_true rfl)⟩) hS (fun H locs hM hX19 hS => ?_)
          refine lv_goto (tgt := 56) hx hb dX12_of_48 (by decide) ?_
          exact z_iret hx hb hr hlk hM hX0 hS ⟨zsm h, rfl⟩ dX12_of_56
      · have h := zf h hc11
        refine lv_aload_n hx hb dX12_of_29 rfl (lv_at hl 0 rfl) ?_
        refine lv_iload_n hx hb dX12_of_30 rfl (lv_at hl 1 rfl) ?_
        refine lv_iload_n hx hb dX12_of_31 rfl (lv_at hl 2 rfl) ?_
        obtain ⟨r22, hr21, h⟩ := zb1 h
        refine z_runi (va_runV (As := [.int v1, .int v2]) (rest := []) ⟨hx, hb, hml, hown, hg⟩ (c_X12_get l D cy B ha0 hr21) (z_cwV hg zw_1163 zw_1164 zw_1487 zw_13 zw_1165 zh_X12_get ⟨(Nat.le_of_ble_eq_true rfl), (Nat.le_of_ble_eq_true rfl)⟩) (zPV hC hM ha0 (by decide) rfl) rfl rfl hl.1 rfl (lv_room (Nat.le_of_ble_eq_true rfl)) dX12_of_32 ⟨(Nat.le_of_ble_eq_true rfl), (Nat.le_of_ble_eq_true rfl)⟩) hS (fun H locs hM hX23 hS => ?_)
        refine lv_goto (tgt := 56) hx hb dX12_of_35 (by decide) ?_
        exact z_iret hx hb hr hlk hM hX0 hS ⟨zsm h, rfl⟩ dX12_of_56
    · have h := zt h hc10
      refine lv_iconst (v := (-1 : Int32)) hx hb dX12_of_20 (by decide +kernel) ?_
      refine lv_goto (tgt := 56) hx hb dX12_of_21 (by decide) ?_
      exact z_iret hx hb hr hlk hM hX0 hS ⟨zsm h, rfl⟩ dX12_of_56
def f_X12_isSeen (v0 : Int32) (v1 : Int32) (v2 : Int32) : Int32 :=
  if ((v0 + v1) - (v0 + v1) / (3 : Int32) * (3 : Int32)) = 0 then (0 : Int32) else if v0 = (5 : Int32) then if (5 : Int32) ≤ v2 then (0 : Int32) else (1 : Int32) else (1 : Int32)
set_option maxHeartbeats 4000000 in
set_option maxRecDepth 100000 in
theorem c_X12_isSeen (l : Launch) (D : va_G) (cy : Nat → ClassId) (B : Nat) {S0 : zM} {v0 : Int32} {v1 : Int32} {v2 : Int32} {r : Int32}  (h : f_X12_isSeen v0 v1 v2 = r) : Met l yX12_isSeen (zws yX12_isSeen cX12_isSeen 3 ((some .boolean))) { frames := 0, cells := 0, slots := 0, locals := 0 } (zPc D cy B S0 [.int v0, .int v1, .int v2]) (zQi D cy B S0 r S0) 0 0 (fun q => B < q) := by
  refine Met.ofW (cc := cX12_isSeen) (maxL := 3) (ret := ((some .boolean))) (by decide) rfl ?_
  intro p e s m args below meth c s₁ Bd hml hv
  obtain ⟨rfl, hC, hM⟩ := hv
  obtain ⟨hx, hb, hr, hg, hown, hlk⟩ := z_open Bd
  have hK := hC.1
  have hS : va_S (fun q => B < q) s.heap s.heap [] := va_S.rf
  have hX0 : zX S0 S0 := zX.rf
  refine z_entry (vs := [.int v0, .int v1, .int v2]) (Nat.le_of_ble_eq_true rfl) (fun ls hl => ?_)
  have hl : lv_has ls 3 [(0, .int v0), (1, .int v1), (2, .int v2)] := hl
  unfold f_X12_isSeen at h
  refine lv_iload_n hx hb dX12_isSeen_0 rfl (lv_at hl 0 rfl) ?_
  refine lv_iload_n hx hb dX12_isSeen_1 rfl (lv_at hl 1 rfl) ?_
  refine lv_iadd hx hb dX12_isSeen_2 ?_
  refine lv_iconst (v := (3 : Int32)) hx hb dX12_isSeen_3 (by decide +kernel) ?_
  refine lv_irem hx hb dX12_isSeen_4 (by decide +kernel) ?_
  refine lv_if_eq (tgt := 22) hx hb dX12_isSeen_5 (by decide) (fun hc1 => ?_) (fun hc1 => ?_)
  · have h := zt h hc1
    refine lv_iconst (v := (0 : Int32)) hx hb dX12_isSeen_22 (by decide +kernel) ?_
    exact z_zret (by decide +kernel) hx hb hr hlk hM hX0 hS ⟨h, rfl⟩ dX12_isSeen_23
  · have h := zf h hc1
    refine lv_iload_n hx hb dX12_isSeen_8 rfl (lv_at hl 0 rfl) ?_
    refine lv_iconst (v := (5 : Int32)) hx hb dX12_isSeen_9 (by decide +kernel) ?_
    refine lv_icmp_ne (tgt := 18) hx hb dX12_isSeen_10 (by decide) (fun hc2 => ?_) (fun hc2 => ?_)
    · have h := zf h hc2
      refine lv_iconst (v := (1 : Int32)) hx hb dX12_isSeen_18 (by decide +kernel) ?_
      refine lv_goto (tgt := 23) hx hb dX12_isSeen_19 (by decide) ?_
      exact z_zret (by decide +kernel) hx hb hr hlk hM hX0 hS ⟨h, rfl⟩ dX12_isSeen_23
    · have h := zt h hc2
      refine lv_iload_n hx hb dX12_isSeen_13 rfl (lv_at hl 2 rfl) ?_
      refine lv_iconst (v := (5 : Int32)) hx hb dX12_isSeen_14 (by decide +kernel) ?_
      refine lv_icmp_ge (tgt := 22) hx hb dX12_isSeen_15 (by decide) (fun hc3 => ?_) (fun hc3 => ?_)
      · have h := zt h hc3
        refine lv_iconst (v := (0 : Int32)) hx hb dX12_isSeen_22 (by decide +kernel) ?_
        exact z_zret (by decide +kernel) hx hb hr hlk hM hX0 hS ⟨h, rfl⟩ dX12_isSeen_23
      · have h := zf h hc3
        refine lv_iconst (v := (1 : Int32)) hx hb dX12_isSeen_18 (by decide +kernel) ?_
        refine lv_goto (tgt := 23) hx hb dX12_isSeen_19 (by decide) ?_
        exact z_zret (by decide +kernel) hx hb hr hlk hM hX0 hS ⟨h, rfl⟩ dX12_isSeen_23
def f_X12_seen (a0 : Nat) (v1 : Int32) (v2 : Int32) (v3 : Int32) : Option (Int32) :=
  zLet (f_X12_isIn (Int32.toInt64 v1) (0 : Int64) (5 : Int64)) (fun r2 => if r2 = 0 then some (-1 : Int32) else zB1 (f_X12_isChair v2) (fun r7 => if r7 = 0 then some (-1 : Int32) else zLet (f_X12_isIn (Int32.toInt64 v3) (0 : Int64) (9 : Int64)) (fun r12 => if r12 = 0 then some (-1 : Int32) else zLet (f_X12_isSeen v1 v2 v3) (fun r17 => if r17 = 0 then some (0 : Int32) else some (1 : Int32)))))
set_option maxHeartbeats 4000000 in
set_option maxRecDepth 100000 in
theorem c_X12_seen (l : Launch) (D : va_G) (cy : Nat → ClassId) (B : Nat) {S0 : zM} {a0 : Nat} {v1 : Int32} {v2 : Int32} {v3 : Int32} {r : Int32} (ha0 : zA S0 a0 12) (h : f_X12_seen a0 v1 v2 v3 = some r) : Met l yX12_seen (zws yX12_seen cX12_seen 4 ((some .int))) { frames := 2, cells := 0, slots := 0, locals := 45 } (zPc D cy B S0 [.ref (B + a0), .int v1, .int v2, .int v3]) (zQi D cy B S0 r S0) 0 0 (fun q => B < q) := by
  refine Met.ofW (cc := cX12_seen) (maxL := 4) (ret := ((some .int))) (by decide) rfl ?_
  intro p e s m args below meth c s₁ Bd hml hv
  obtain ⟨rfl, hC, hM⟩ := hv
  obtain ⟨hx, hb, hr, hg, hown, hlk⟩ := z_open Bd
  have hK := hC.1
  have hS : va_S (fun q => B < q) s.heap s.heap [] := va_S.rf
  have hX0 : zX S0 S0 := zX.rf
  refine z_entry (vs := [.ref (B + a0), .int v1, .int v2, .int v3]) (Nat.le_of_ble_eq_true rfl) (fun ls hl => ?_)
  have hl : lv_has ls 4 [(0, .ref (B + a0)), (1, .int v1), (2, .int v2), (3, .int v3)] := hl
  unfold f_X12_seen at h
  refine lv_iload_n hx hb dX12_seen_0 rfl (lv_at hl 1 rfl) ?_
  refine lv_i2l hx hb dX12_seen_1 rfl ?_
  refine lv_lconst (v := (0 : Int64)) hx hb dX12_seen_2 (by decide +kernel) ?_
  refine lv_ldc2 (v := (5 : Int64)) hx hb hown (hg _ zw_1110) dX12_seen_3 ?_
  obtain ⟨r2, hr1, h⟩ := zlg h
  have hr1 := hr1.symm
  refine z_runi (va_runS (As := [.long (Int32.toInt64 v1), .long (0 : Int64), .long (5 : Int64)]) (rest := []) ⟨hx, hb, hml, hown, hg⟩ (c_X12_isIn l D cy B hr1) (z_cwS hg zw_1111 zw_1112 zw_13 zw_1113 zh_X12_isIn.2 ⟨(Nat.le_of_ble_eq_true rfl), (Nat.le_of_ble_eq_true rfl)⟩) (zPS hC hM) rfl rfl hl.1 rfl (lv_room (Nat.le_of_ble_eq_true rfl)) dX12_seen_6 ⟨(Nat.le_of_ble_eq_true rfl), (Nat.le_of_ble_eq_true rfl)⟩) hS (fun H locs hM hX3 hS => ?_)
  refine lv_if_eq (tgt := 48) hx hb dX12_seen_9 (by decide) (fun hc5 => ?_) (fun hc5 => ?_)
  · have h := zt h hc5
    refine lv_iconst (v := (-1 : Int32)) hx hb dX12_seen_48 (by decide +kernel) ?_
    exact z_iret hx hb hr hlk hM hX0 hS ⟨zsm h, rfl⟩ dX12_seen_49
  · have h := zf h hc5
    refine lv_iload_n hx hb dX12_seen_12 rfl (lv_at hl 2 rfl) ?_
    obtain ⟨r7, hr6, h⟩ := zb1 h
    refine z_runi (va_runS (As := [.int v2]) (rest := []) ⟨hx, hb, hml, hown, hg⟩ (c_X12_isChair l D cy B hr6) (z_cwS hg zw_1136 zw_1137 zw_13 zw_1138 zh_X12_isChair.2 ⟨(Nat.le_of_ble_eq_true rfl), (Nat.le_of_ble_eq_true rfl)⟩) (zPS hC hM) rfl rfl hl.1 rfl (lv_room (Nat.le_of_ble_eq_true rfl)) dX12_seen_13 ⟨(Nat.le_of_ble_eq_true rfl), (Nat.le_of_ble_eq_true rfl)⟩) hS (fun H locs hM hX8 hS => ?_)
    refine lv_if_eq (tgt := 48) hx hb dX12_seen_16 (by decide) (fun hc10 => ?_) (fun hc10 => ?_)
    · have h := zt h hc10
      refine lv_iconst (v := (-1 : Int32)) hx hb dX12_seen_48 (by decide +kernel) ?_
      exact z_iret hx hb hr hlk hM hX0 hS ⟨zsm h, rfl⟩ dX12_seen_49
    · have h := zf h hc10
      refine lv_iload_n hx hb dX12_seen_19 rfl (lv_at hl 3 rfl) ?_
      refine lv_i2l hx hb dX12_seen_20 rfl ?_
      refine lv_lconst (v := (0 : Int64)) hx hb dX12_seen_21 (by decide +kernel) ?_
      refine lv_ldc2 (v := (9 : Int64)) hx hb hown (hg _ zw_1114) dX12_seen_22 ?_
      obtain ⟨r12, hr11, h⟩ := zlg h
      have hr11 := hr11.symm
      refine z_runi (va_runS (As := [.long (Int32.toInt64 v3), .long (0 : Int64), .long (9 : Int64)]) (rest := []) ⟨hx, hb, hml, hown, hg⟩ (c_X12_isIn l D cy B hr11) (z_cwS hg zw_1111 zw_1112 zw_13 zw_1113 zh_X12_isIn.2 ⟨(Nat.le_of_ble_eq_true rfl), (Nat.le_of_ble_eq_true rfl)⟩) (zPS hC hM) rfl rfl hl.1 rfl (lv_room (Nat.le_of_ble_eq_true rfl)) dX12_seen_25 ⟨(Nat.le_of_ble_eq_true rfl), (Nat.le_of_ble_eq_true rfl)⟩) hS (fun H locs hM hX13 hS => ?_)
      refine lv_if_eq (tgt := 48) hx hb dX12_seen_28 (by decide) (fun hc15 => ?_) (fun hc15 => ?_)
      · have h := zt h hc15
        refine lv_iconst (v := (-1 : Int32)) hx hb dX12_seen_48 (by decide +kernel) ?_
        exact z_iret hx hb hr hlk hM hX0 hS ⟨zsm h, rfl⟩ dX12_seen_49
      · have h := zf h hc15
        refine lv_iload_n hx hb dX12_seen_31 rfl (lv_at hl 1 rfl) ?_
        refine lv_iload_n hx hb dX12_seen_32 rfl (lv_at hl 2 rfl) ?_
        refine lv_iload_n hx hb dX12_seen_33 rfl (lv_at hl 3 rfl) ?_
        obtain ⟨r17, hr16, h⟩ := zlg h
        have hr16 := hr16.symm
        refine z_runi (va_runS (As := [.int v1, .int v2, .int v3]) (rest := []) ⟨hx, hb, hml, hown, hg⟩ (c_X12_isSeen l D cy B hr16) (z_cwS hg zw_1176 zw_1177 zw_13 zw_1178 zh_X12_isSeen.2 ⟨(Nat.le_of_ble_eq_true rfl), (Nat.le_of_ble_eq_true rfl)⟩) (zPS hC hM) rfl rfl hl.1 rfl (lv_room (Nat.le_of_ble_eq_true rfl)) dX12_seen_34 ⟨(Nat.le_of_ble_eq_true rfl), (Nat.le_of_ble_eq_true rfl)⟩) hS (fun H locs hM hX18 hS => ?_)
        refine lv_if_eq (tgt := 44) hx hb dX12_seen_37 (by decide) (fun hc20 => ?_) (fun hc20 => ?_)
        · have h := zt h hc20
          refine lv_iconst (v := (0 : Int32)) hx hb dX12_seen_44 (by decide +kernel) ?_
          refine lv_goto (tgt := 49) hx hb dX12_seen_45 (by decide) ?_
          exact z_iret hx hb hr hlk hM hX0 hS ⟨zsm h, rfl⟩ dX12_seen_49
        · have h := zf h hc20
          refine lv_iconst (v := (1 : Int32)) hx hb dX12_seen_40 (by decide +kernel) ?_
          refine lv_goto (tgt := 49) hx hb dX12_seen_41 (by decide) ?_
          exact z_iret hx hb hr hlk hM hX0 hS ⟨zsm h, rfl⟩ dX12_seen_49
def f_X12_lessOff_L7b (S0 : zM) (a0 : Nat) (v1 : Int32) (v2 : Int32) (v3 : Int32) (K3 : Int32 → Option (Int32)) (rec7 : Int32 → Int32 → Option (Int32)) (x5 : Int32) (x6 : Int32) : Option (Int32) :=
  if (6 : Int32) ≤ x6 then K3 x5 else zB1 (f_X12_get S0 a0 v1 (2 : Int32)) (fun r10 => if ((r10 >>> (x6 &&& 31)) &&& (1 : Int32)) = (1 : Int32) then zLet (zChk (¬ (zr S0 a0 0) = 0) (zChk (¬ (((872 : Int32) + x6) < 0 ∨ zln S0 (zr S0 a0 0) ≤ (((872 : Int32) + x6)).toNatClampNeg)) (rec7 (x5 - (zi S0 (zr S0 a0 0) (Int32.toNatClampNeg ((872 : Int32) + x6)))) (x6 + (1 : Int32))))) (fun K16 => if v3 = 0 then zB1 (f_X12_get S0 a0 v1 (3 : Int32)) (fun r22 => zLet (f_X12_isSeen x6 v2 r22) (fun r26 => if r26 = 0 then rec7 x5 (x6 + (1 : Int32)) else K16)) else if (3 : Int32) ≤ x6 then rec7 x5 (x6 + (1 : Int32)) else K16) else rec7 x5 (x6 + (1 : Int32)))
def f_X12_lessOff_L7 (S0 : zM) (a0 : Nat) (v1 : Int32) (v2 : Int32) (v3 : Int32) (K3 : Int32 → Option (Int32)) : Nat → Int32 → Int32 → Option (Int32)
  | 0 => fun _ _ => none
  | k + 1 => fun x5 x6 => f_X12_lessOff_L7b S0 a0 v1 v2 v3 K3 (f_X12_lessOff_L7 S0 a0 v1 v2 v3 K3 k) x5 x6
def f_X12_lessOff (n : Nat) (S0 : zM) (a0 : Nat) (v1 : Int32) (v2 : Int32) (v3 : Int32) : Option (Int32) :=
  zLet (fun (x1 : Int32) => some x1) (fun K3 => f_X12_lessOff_L7 S0 a0 v1 v2 v3 K3 n (20 : Int32) (0 : Int32))
set_option maxHeartbeats 4000000 in
set_option maxRecDepth 100000 in
theorem c_X12_lessOff (l : Launch) (D : va_G) (cy : Nat → ClassId) (B : Nat) {n : Nat} {S0 : zM} {a0 : Nat} {v1 : Int32} {v2 : Int32} {v3 : Int32} {r : Int32} (ha0 : zA S0 a0 12) (h : f_X12_lessOff n S0 a0 v1 v2 v3 = some r) : Met l yX12_lessOff (zws yX12_lessOff cX12_lessOff 6 ((some .int))) { frames := 1, cells := 0, slots := 0, locals := 22 } (zPc D cy B S0 [.ref (B + a0), .int v1, .int v2, .int v3]) (zQi D cy B S0 r S0) 0 0 (fun q => B < q) := by
  refine Met.ofW (cc := cX12_lessOff) (maxL := 6) (ret := ((some .int))) (by decide) rfl ?_
  intro p e s m args below meth c s₁ Bd hml hv
  obtain ⟨rfl, hC, hM⟩ := hv
  obtain ⟨hx, hb, hr, hg, hown, hlk⟩ := z_open Bd
  have hK := hC.1
  have hS : va_S (fun q => B < q) s.heap s.heap [] := va_S.rf
  have hX0 : zX S0 S0 := zX.rf
  refine z_entry (vs := [.ref (B + a0), .int v1, .int v2, .int v3]) (Nat.le_of_ble_eq_true rfl) (fun ls hl => ?_)
  have hl : lv_has ls 6 [(0, .ref (B + a0)), (1, .int v1), (2, .int v2), (3, .int v3)] := hl
  unfold f_X12_lessOff at h
  refine lv_bipush (v := (20 : Int32)) hx hb dX12_lessOff_0 (by decide +kernel) ?_
  refine lv_istore (i := 4) (lv' := [(4, .int (20 : Int32)), (0, .ref (B + a0)), (1, .int v1), (2, .int v2), (3, .int v3)]) hx hb dX12_lessOff_2 hl (by decide) rfl (fun ls hl => ?_)
  refine lv_iconst (v := (0 : Int32)) hx hb dX12_lessOff_4 (by decide +kernel) ?_
  refine lv_istore (i := 5) (lv' := [(5, .int (0 : Int32)), (4, .int (20 : Int32)), (0, .ref (B + a0)), (1, .int v1), (2, .int v2), (3, .int v3)]) hx hb dX12_lessOff_5 hl (by decide) rfl (fun ls hl => ?_)
  obtain ⟨K3, eK3, h⟩ := zlg h
  have hK3 : ∀ (x1 : Int32) (H : Heap) (locs : List Loc), zMR D cy B S0 H → zX S0 S0 → va_S (fun q => B < q) s.heap H locs → ∀ ls : Array Slot, lv_has ls 6 [(4, .int x1)] → K3 x1 = some r → W p l e (headSpec (zws yX12_lessOff cX12_lessOff 6 ((some .int))) { frames := 1, cells := 0, slots := 0, locals := 22 }).room s m (([.ref (B + a0), .int v1, .int v2, .int v3] : List Value).toArray) below meth c H locs 0 0 (MQ below (zQi D cy B S0 r S0) (([.ref (B + a0), .int v1, .int v2, .int v3] : List Value).toArray) s 0 0 (fun q => B < q)) (F0 m 79 ls []) := by
    intro x1 H locs hM hX2 hS ls hl h
    rw [eK3] at h
    refine lv_iload hx hb dX12_lessOff_79 (lv_at hl 0 rfl) ?_
    exact z_iret hx hb hr hlk hM hX2 hS ⟨zsm h, rfl⟩ dX12_lessOff_81
  have hL7 : ∀ (k : Nat) (x5 : Int32) (x6 : Int32) (H : Heap) (locs : List Loc), zMR D cy B S0 H → zX S0 S0 → va_S (fun q => B < q) s.heap H locs → zA S0 a0 12 → ∀ ls : Array Slot, lv_has ls 6 [(0, .ref (B + a0)), (1, .int v1), (2, .int v2), (3, .int v3), (4, .int x5), (5, .int x6)] → f_X12_lessOff_L7 S0 a0 v1 v2 v3 K3 k x5 x6 = some r → W p l e (headSpec (zws yX12_lessOff cX12_lessOff 6 ((some .int))) { frames := 1, cells := 0, slots := 0, locals := 22 }).room s m (([.ref (B + a0), .int v1, .int v2, .int v3] : List Value).toArray) below meth c H locs 0 0 (MQ below (zQi D cy B S0 r S0) (([.ref (B + a0), .int v1, .int v2, .int v3] : List Value).toArray) s 0 0 (fun q => B < q)) (F0 m 7 ls []) := by
    intro k
    induction k with
    | zero =>
      intro x5 x6 H locs hM hX7 hS h4 ls hl h
      exact znone h
    | succ k ih7 =>
      intro x5 x6 H locs hM hX7 hS h4 ls hl h
      replace h : f_X12_lessOff_L7b S0 a0 v1 v2 v3 K3 (f_X12_lessOff_L7 S0 a0 v1 v2 v3 K3 k) x5 x6 = some r := h
      generalize f_X12_lessOff_L7 S0 a0 v1 v2 v3 K3 k = rec7 at ih7 h
      unfold f_X12_lessOff_L7b at h
      refine lv_iload hx hb dX12_lessOff_7 (lv_at hl 5 rfl) ?_
      refine lv_bipush (v := (6 : Int32)) hx hb dX12_lessOff_9 (by decide +kernel) ?_
      refine lv_icmp_ge (tgt := 79) hx hb dX12_lessOff_11 (by decide) (fun hc8 => ?_) (fun hc8 => ?_)
      · have h := zt h hc8
        exact hK3 x5 _ _ hM hX7 hS _ (lv_sub hl [4] rfl) h
      · have h := zf h hc8
        refine lv_aload_n hx hb dX12_lessOff_14 rfl (lv_at hl 0 rfl) ?_
        refine lv_iload_n hx hb dX12_lessOff_15 rfl (lv_at hl 1 rfl) ?_
        refine lv_iconst (v := (2 : Int32)) hx hb dX12_lessOff_16 (by decide +kernel) ?_
        obtain ⟨r10, hr9, h⟩ := zb1 h
        refine z_runi (va_runV (As := [.int v1, .int (2 : Int32)]) (rest := []) ⟨hx, hb, hml, hown, hg⟩ (c_X12_get l D cy B h4 hr9) (z_cwV hg zw_1163 zw_1164 zw_1487 zw_13 zw_1165 zh_X12_get ⟨(Nat.le_of_ble_eq_true rfl), (Nat.le_of_ble_eq_true rfl)⟩) (zPV hC hM h4 (by decide) rfl) rfl rfl hl.1 rfl (lv_room (Nat.le_of_ble_eq_true rfl)) dX12_lessOff_17 ⟨(Nat.le_of_ble_eq_true rfl), (Nat.le_of_ble_eq_true rfl)⟩) hS (fun H locs hM hX11 hS => ?_)
        refine lv_iload hx hb dX12_lessOff_20 (lv_at hl 5 rfl) ?_
        refine lv_ishr hx hb dX12_lessOff_22 ?_
        refine lv_iconst (v := (1 : Int32)) hx hb dX12_lessOff_23 (by decide +kernel) ?_
        refine lv_iand hx hb dX12_lessOff_24 ?_
        refine lv_iconst (v := (1 : Int32)) hx hb dX12_lessOff_25 (by decide +kernel) ?_
        refine lv_icmp_ne (tgt := 73) hx hb dX12_lessOff_26 (by decide) (fun hc13 => ?_) (fun hc13 => ?_)
        · have h := zf h hc13
          refine lv_iinc (v := (x6 + (1 : Int32))) (lv' := [(5, .int (x6 + (1 : Int32))), (0, .ref (B + a0)), (1, .int v1), (2, .int v2), (3, .int v3), (4, .int x5)]) hx hb dX12_lessOff_73 hl (k := 5) rfl rfl (by decide) rfl (fun ls hl => ?_)
          refine lv_goto (tgt := 7) hx hb dX12_lessOff_76 (by decide) ?_
          exact ih7 x5 (x6 + (1 : Int32)) _ _ hM hX7 hS h4 _ (lv_sub hl [1, 2, 3, 4, 5, 0] rfl) h
        · have h := zt h hc13
          refine lv_iload_n hx hb dX12_lessOff_29 rfl (lv_at hl 3 rfl) ?_
          obtain ⟨K16, eK16, h⟩ := zlg h
          have hK16 : ∀ (H : Heap) (locs : List Loc), zMR D cy B S0 H → zX S0 S0 → va_S (fun q => B < q) s.heap H locs → zA S0 a0 12 → ∀ ls : Array Slot, lv_has ls 6 [(0, .ref (B + a0)), (1, .int v1), (2, .int v2), (3, .int v3), (4, .int x5), (5, .int x6)] → K16 = some r → W p l e (headSpec (zws yX12_lessOff cX12_lessOff 6 ((some .int))) { frames := 1, cells := 0, slots := 0, locals := 22 }).room s m (([.ref (B + a0), .int v1, .int v2, .int v3] : List Value).toArray) below meth c H locs 0 0 (MQ below (zQi D cy B S0 r S0) (([.ref (B + a0), .int v1, .int v2, .int v3] : List Value).toArray) s 0 0 (fun q => B < q)) (F0 m 57 ls []) := by
            intro H locs hM hX15 hS h14 ls hl h
            rw [eK16] at h
            refine lv_iload hx hb dX12_lessOff_57 (lv_at hl 4 rfl) ?_
            refine lv_aload_n hx hb dX12_lessOff_59 rfl (lv_at hl 0 rfl) ?_
            obtain ⟨hq18, h⟩ := zk h
            refine z_getN hx hb hg zin_12 hown hK hM h14 0 rfl (by decide) (hg _ zw_1000) (fun _ h9 => h9) hq18 dX12_lessOff_60 (fun h17 => ?_)
            refine lv_sipush (v := (872 : Int32)) hx hb dX12_lessOff_63 (by decide +kernel) ?_
            refine lv_iload hx hb dX12_lessOff_66 (lv_at hl 5 rfl) ?_
            refine lv_iadd hx hb dX12_lessOff_68 ?_
            obtain ⟨hq19, h⟩ := zk h
            refine z_iald hx hb hK hM h17 hq19 dX12_lessOff_69 ?_
            refine lv_isub hx hb dX12_lessOff_70 ?_
            refine lv_istore (i := 4) (lv' := [(4, .int (x5 - (zi S0 (zr S0 a0 0) (Int32.toNatClampNeg ((872 : Int32) + x6))))), (0, .ref (B + a0)), (1, .int v1), (2, .int v2), (3, .int v3), (5, .int x6)]) hx hb dX12_lessOff_71 hl (by decide) rfl (fun ls hl => ?_)
            refine lv_iinc (v := (x6 + (1 : Int32))) (lv' := [(5, .int (x6 + (1 : Int32))), (4, .int (x5 - (zi S0 (zr S0 a0 0) (Int32.toNatClampNeg ((872 : Int32) + x6))))), (0, .ref (B + a0)), (1, .int v1), (2, .int v2), (3, .int v3)]) hx hb dX12_lessOff_73 hl (k := 5) rfl rfl (by decide) rfl (fun ls hl => ?_)
            refine lv_goto (tgt := 7) hx hb dX12_lessOff_76 (by decide) ?_
            exact ih7 (x5 - (zi S0 (zr S0 a0 0) (Int32.toNatClampNeg ((872 : Int32) + x6)))) (x6 + (1 : Int32)) _ _ hM hX15 hS h14 _ (lv_sub hl [2, 3, 4, 5, 1, 0] rfl) h
          refine lv_if_eq (tgt := 42) hx hb dX12_lessOff_30 (by decide) (fun hc20 => ?_) (fun hc20 => ?_)
          · have h := zt h hc20
            refine lv_iload hx hb dX12_lessOff_42 (lv_at hl 5 rfl) ?_
            refine lv_iload_n hx hb dX12_lessOff_44 rfl (lv_at hl 2 rfl) ?_
            refine lv_aload_n hx hb dX12_lessOff_45 rfl (lv_at hl 0 rfl) ?_
            refine lv_iload_n hx hb dX12_lessOff_46 rfl (lv_at hl 1 rfl) ?_
            refine lv_iconst (v := (3 : Int32)) hx hb dX12_lessOff_47 (by decide +kernel) ?_
            obtain ⟨r22, hr21, h⟩ := zb1 h
            refine z_runi (va_runV (As := [.int v1, .int (3 : Int32)]) (rest := [.int v2, .int x6]) ⟨hx, hb, hml, hown, hg⟩ (c_X12_get l D cy B h4 hr21) (z_cwV hg zw_1163 zw_1164 zw_1487 zw_13 zw_1165 zh_X12_get ⟨(Nat.le_of_ble_eq_true rfl), (Nat.le_of_ble_eq_true rfl)⟩) (zPV hC hM h4 (by decide) rfl) rfl rfl hl.1 rfl (lv_room (Nat.le_of_ble_eq_true rfl)) dX12_lessOff_48 ⟨(Nat.le_of_ble_eq_true rfl), (Nat.le_of_ble_eq_true rfl)⟩) hS (fun H locs hM hX23 hS => ?_)
            obtain ⟨r26, hr25, h⟩ := zlg h
            have hr25 := hr25.symm
            refine z_runi (va_runS (As := [.int x6, .int v2, .int r22]) (rest := []) ⟨hx, hb, hml, hown, hg⟩ (c_X12_isSeen l D cy B hr25) (z_cwS hg zw_1176 zw_1177 zw_13 zw_1178 zh_X12_isSeen.2 ⟨(Nat.le_of_ble_eq_true rfl), (Nat.le_of_ble_eq_true rfl)⟩) (zPS hC hM) rfl rfl hl.1 rfl (lv_room (Nat.le_of_ble_eq_true rfl)) dX12_lessOff_51 ⟨(Nat.le_of_ble_eq_true rfl), (Nat.le_of_ble_eq_true rfl)⟩) hS (fun H locs hM hX27 hS => ?_)
            refine lv_if_eq (tgt := 73) hx hb dX12_lessOff_54 (by decide) (fun hc29 => ?_) (fun hc29 => ?_)
            · have h := zt h hc29
              refine lv_iinc (v := (x6 + (1 : Int32))) (lv' := [(5, .int (x6 + (1 : Int32))), (0, .ref (B + a0)), (1, .int v1), (2, .int v2), (3, .int v3), (4, .int x5)]) hx hb dX12_lessOff_73 hl (k := 5) rfl rfl (by decide) rfl (fun ls hl => ?_)
              refine lv_goto (tgt := 7) hx hb dX12_lessOff_76 (by decide) ?_
              exact ih7 x5 (x6 + (1 : Int32)) _ _ hM hX7 hS h4 _ (lv_sub hl [1, 2, 3, 4, 5, 0] rfl) h
            · have h := zf h hc29
              exact hK16 _ _ hM hX7 hS h4 _ (lv_sub hl [0, 1, 2, 3, 4, 5] rfl) h
          · have h := zf h hc20
            refine lv_iload hx hb dX12_lessOff_33 (lv_at hl 5 rfl) ?_
            refine lv_iconst (v := (3 : Int32)) hx hb dX12_lessOff_35 (by decide +kernel) ?_
            refine lv_icmp_ge (tgt := 73) hx hb dX12_lessOff_36 (by decide) (fun hc30 => ?_) (fun hc30 => ?_)
            · have h := zt h hc30
              refine lv_iinc (v := (x6 + (1 : Int32))) (lv' := [(5, .int (x6 + (1 : Int32))), (0, .ref (B + a0)), (1, .int v1), (2, .int v2), (3, .int v3), (4, .int x5)]) hx hb dX12_lessOff_73 hl (k := 5) rfl rfl (by decide) rfl (fun ls hl => ?_)
              refine lv_goto (tgt := 7) hx hb dX12_lessOff_76 (by decide) ?_
              exact ih7 x5 (x6 + (1 : Int32)) _ _ hM hX7 hS h4 _ (lv_sub hl [1, 2, 3, 4, 5, 0] rfl) h
            · have h := zf h hc30
              refine lv_goto (tgt := 57) hx hb dX12_lessOff_39 (by decide) ?_
              exact hK16 _ _ hM hX7 hS h4 _ (lv_sub hl [0, 1, 2, 3, 4, 5] rfl) h
  exact hL7 n (20 : Int32) (0 : Int32) _ _ hM hX0 hS ha0 _ (lv_sub hl [2, 3, 4, 5, 1, 0] rfl) h
def f_X12_aheadOf_L4b (S0 : zM) (a0 : Nat) (v1 : Int32) (K3 : Int32 → Option (Int32)) (rec4 : Int32 → Option (Int32)) (x5 : Int32) : Option (Int32) :=
  if x5 < 0 then K3 x5 else zB1 (f_X12_get S0 a0 x5 (0 : Int32)) (fun r9 => zB1 (f_X12_get S0 a0 v1 (0 : Int32)) (fun r13 => if r9 = r13 then K3 x5 else rec4 (x5 + (-1 : Int32))))
def f_X12_aheadOf_L4 (S0 : zM) (a0 : Nat) (v1 : Int32) (K3 : Int32 → Option (Int32)) : Nat → Int32 → Option (Int32)
  | 0 => fun _ => none
  | k + 1 => fun x5 => f_X12_aheadOf_L4b S0 a0 v1 K3 (f_X12_aheadOf_L4 S0 a0 v1 K3 k) x5
def f_X12_aheadOf (n : Nat) (S0 : zM) (a0 : Nat) (v1 : Int32) : Option (Int32) :=
  zLet (fun (x1 : Int32) => some x1) (fun K3 => f_X12_aheadOf_L4 S0 a0 v1 K3 n (v1 - (1 : Int32)))
set_option maxHeartbeats 4000000 in
set_option maxRecDepth 100000 in
theorem c_X12_aheadOf (l : Launch) (D : va_G) (cy : Nat → ClassId) (B : Nat) {n : Nat} {S0 : zM} {a0 : Nat} {v1 : Int32} {r : Int32} (ha0 : zA S0 a0 12) (h : f_X12_aheadOf n S0 a0 v1 = some r) : Met l yX12_aheadOf (zws yX12_aheadOf cX12_aheadOf 3 ((some .int))) { frames := 1, cells := 0, slots := 0, locals := 22 } (zPc D cy B S0 [.ref (B + a0), .int v1]) (zQi D cy B S0 r S0) 0 0 (fun q => B < q) := by
  refine Met.ofW (cc := cX12_aheadOf) (maxL := 3) (ret := ((some .int))) (by decide) rfl ?_
  intro p e s m args below meth c s₁ Bd hml hv
  obtain ⟨rfl, hC, hM⟩ := hv
  obtain ⟨hx, hb, hr, hg, hown, hlk⟩ := z_open Bd
  have hK := hC.1
  have hS : va_S (fun q => B < q) s.heap s.heap [] := va_S.rf
  have hX0 : zX S0 S0 := zX.rf
  refine z_entry (vs := [.ref (B + a0), .int v1]) (Nat.le_of_ble_eq_true rfl) (fun ls hl => ?_)
  have hl : lv_has ls 3 [(0, .ref (B + a0)), (1, .int v1)] := hl
  unfold f_X12_aheadOf at h
  refine lv_iload_n hx hb dX12_aheadOf_0 rfl (lv_at hl 1 rfl) ?_
  refine lv_iconst (v := (1 : Int32)) hx hb dX12_aheadOf_1 (by decide +kernel) ?_
  refine lv_isub hx hb dX12_aheadOf_2 ?_
  refine lv_istore_n (i := 2) (lv' := [(2, .int (v1 - (1 : Int32))), (0, .ref (B + a0)), (1, .int v1)]) hx hb dX12_aheadOf_3 rfl hl (by decide) rfl (fun ls hl => ?_)
  obtain ⟨K3, eK3, h⟩ := zlg h
  have hK3 : ∀ (x1 : Int32) (H : Heap) (locs : List Loc), zMR D cy B S0 H → zX S0 S0 → va_S (fun q => B < q) s.heap H locs → ∀ ls : Array Slot, lv_has ls 3 [(2, .int x1)] → K3 x1 = some r → W p l e (headSpec (zws yX12_aheadOf cX12_aheadOf 3 ((some .int))) { frames := 1, cells := 0, slots := 0, locals := 22 }).room s m (([.ref (B + a0), .int v1] : List Value).toArray) below meth c H locs 0 0 (MQ below (zQi D cy B S0 r S0) (([.ref (B + a0), .int v1] : List Value).toArray) s 0 0 (fun q => B < q)) (F0 m 29 ls []) := by
    intro x1 H locs hM hX2 hS ls hl h
    rw [eK3] at h
    refine lv_iload_n hx hb dX12_aheadOf_29 rfl (lv_at hl 0 rfl) ?_
    exact z_iret hx hb hr hlk hM hX2 hS ⟨zsm h, rfl⟩ dX12_aheadOf_30
  have hL4 : ∀ (k : Nat) (x5 : Int32) (H : Heap) (locs : List Loc), zMR D cy B S0 H → zX S0 S0 → va_S (fun q => B < q) s.heap H locs → zA S0 a0 12 → ∀ ls : Array Slot, lv_has ls 3 [(0, .ref (B + a0)), (1, .int v1), (2, .int x5)] → f_X12_aheadOf_L4 S0 a0 v1 K3 k x5 = some r → W p l e (headSpec (zws yX12_aheadOf cX12_aheadOf 3 ((some .int))) { frames := 1, cells := 0, slots := 0, locals := 22 }).room s m (([.ref (B + a0), .int v1] : List Value).toArray) below meth c H locs 0 0 (MQ below (zQi D cy B S0 r S0) (([.ref (B + a0), .int v1] : List Value).toArray) s 0 0 (fun q => B < q)) (F0 m 4 ls []) := by
    intro k
    induction k with
    | zero =>
      intro x5 H locs hM hX6 hS h4 ls hl h
      exact znone h
    | succ k ih4 =>
      intro x5 H locs hM hX6 hS h4 ls hl h
      replace h : f_X12_aheadOf_L4b S0 a0 v1 K3 (f_X12_aheadOf_L4 S0 a0 v1 K3 k) x5 = some r := h
      generalize f_X12_aheadOf_L4 S0 a0 v1 K3 k = rec4 at ih4 h
      unfold f_X12_aheadOf_L4b at h
      refine lv_iload_n hx hb dX12_aheadOf_4 rfl (lv_at hl 2 rfl) ?_
      refine lv_if_lt (tgt := 29) hx hb dX12_aheadOf_5 (by decide) (fun hc7 => ?_) (fun hc7 => ?_)
      · have h := zt h hc7
        exact hK3 x5 _ _ hM hX6 hS _ (lv_sub hl [2] rfl) h
      · have h := zf h hc7
        refine lv_aload_n hx hb dX12_aheadOf_8 rfl (lv_at hl 0 rfl) ?_
        refine lv_iload_n hx hb dX12_aheadOf_9 rfl (lv_at hl 2 rfl) ?_
        refine lv_iconst (v := (0 : Int32)) hx hb dX12_aheadOf_10 (by decide +kernel) ?_
        obtain ⟨r9, hr8, h⟩ := zb1 h
        refine z_runi (va_runV (As := [.int x5, .int (0 : Int32)]) (rest := []) ⟨hx, hb, hml, hown, hg⟩ (c_X12_get l D cy B h4 hr8) (z_cwV hg zw_1163 zw_1164 zw_1487 zw_13 zw_1165 zh_X12_get ⟨(Nat.le_of_ble_eq_true rfl), (Nat.le_of_ble_eq_true rfl)⟩) (zPV hC hM h4 (by decide) rfl) rfl rfl hl.1 rfl (lv_room (Nat.le_of_ble_eq_true rfl)) dX12_aheadOf_11 ⟨(Nat.le_of_ble_eq_true rfl), (Nat.le_of_ble_eq_true rfl)⟩) hS (fun H locs hM hX10 hS => ?_)
        refine lv_aload_n hx hb dX12_aheadOf_14 rfl (lv_at hl 0 rfl) ?_
        refine lv_iload_n hx hb dX12_aheadOf_15 rfl (lv_at hl 1 rfl) ?_
        refine lv_iconst (v := (0 : Int32)) hx hb dX12_aheadOf_16 (by decide +kernel) ?_
        obtain ⟨r13, hr12, h⟩ := zb1 h
        refine z_runi (va_runV (As := [.int v1, .int (0 : Int32)]) (rest := [.int r9]) ⟨hx, hb, hml, hown, hg⟩ (c_X12_get l D cy B h4 hr12) (z_cwV hg zw_1163 zw_1164 zw_1487 zw_13 zw_1165 zh_X12_get ⟨(Nat.le_of_ble_eq_true rfl), (Nat.le_of_ble_eq_true rfl)⟩) (zPV hC hM h4 (by decide) rfl) rfl rfl hl.1 rfl (lv_room (Nat.le_of_ble_eq_true rfl)) dX12_aheadOf_17 ⟨(Nat.le_of_ble_eq_true rfl), (Nat.le_of_ble_eq_true rfl)⟩) hS (fun H locs hM hX14 hS => ?_)
        refine lv_icmp_eq (tgt := 29) hx hb dX12_aheadOf_20 (by decide) (fun hc16 => ?_) (fun hc16 => ?_)
        · have h := zt h hc16
          exact hK3 x5 _ _ hM hX6 hS _ (lv_sub hl [2] rfl) h
        · have h := zf h hc16
          refine lv_iinc (v := (x5 + (-1 : Int32))) (lv' := [(2, .int (x5 + (-1 : Int32))), (0, .ref (B + a0)), (1, .int v1)]) hx hb dX12_aheadOf_23 hl (k := 2) rfl rfl (by decide) rfl (fun ls hl => ?_)
          refine lv_goto (tgt := 4) hx hb dX12_aheadOf_26 (by decide) ?_
          exact ih4 (x5 + (-1 : Int32)) _ _ hM hX6 hS h4 _ (lv_sub hl [1, 2, 0] rfl) h
  exact hL4 n (v1 - (1 : Int32)) _ _ hM hX0 hS ha0 _ (lv_sub hl [1, 2, 0] rfl) h
def f_X12_held (v0 : Int32) : Int32 :=
  if 0 ≤ v0 then if v0 ≤ (20 : Int32) then v0 else (20 : Int32) else (0 : Int32)
set_option maxHeartbeats 4000000 in
set_option maxRecDepth 100000 in
theorem c_X12_held (l : Launch) (D : va_G) (cy : Nat → ClassId) (B : Nat) {S0 : zM} {v0 : Int32} {r : Int32}  (h : f_X12_held v0 = r) : Met l yX12_held (zws yX12_held cX12_held 1 ((some .int))) { frames := 0, cells := 0, slots := 0, locals := 0 } (zPc D cy B S0 [.int v0]) (zQi D cy B S0 r S0) 0 0 (fun q => B < q) := by
  refine Met.ofW (cc := cX12_held) (maxL := 1) (ret := ((some .int))) (by decide) rfl ?_
  intro p e s m args below meth c s₁ Bd hml hv
  obtain ⟨rfl, hC, hM⟩ := hv
  obtain ⟨hx, hb, hr, hg, hown, hlk⟩ := z_open Bd
  have hK := hC.1
  have hS : va_S (fun q => B < q) s.heap s.heap [] := va_S.rf
  have hX0 : zX S0 S0 := zX.rf
  refine z_entry (vs := [.int v0]) (Nat.le_of_ble_eq_true rfl) (fun ls hl => ?_)
  have hl : lv_has ls 1 [(0, .int v0)] := hl
  unfold f_X12_held at h
  refine lv_iload_n hx hb dX12_held_0 rfl (lv_at hl 0 rfl) ?_
  refine lv_if_ge (tgt := 8) hx hb dX12_held_1 (by decide) (fun hc1 => ?_) (fun hc1 => ?_)
  · have h := zt h hc1
    refine lv_iload_n hx hb dX12_held_8 rfl (lv_at hl 0 rfl) ?_
    refine lv_bipush (v := (20 : Int32)) hx hb dX12_held_9 (by decide +kernel) ?_
    refine lv_icmp_le (tgt := 19) hx hb dX12_held_11 (by decide) (fun hc2 => ?_) (fun hc2 => ?_)
    · have h := zt h hc2
      refine lv_iload_n hx hb dX12_held_19 rfl (lv_at hl 0 rfl) ?_
      exact z_iret hx hb hr hlk hM hX0 hS ⟨h, rfl⟩ dX12_held_20
    · have h := zf h hc2
      refine lv_bipush (v := (20 : Int32)) hx hb dX12_held_14 (by decide +kernel) ?_
      refine lv_goto (tgt := 20) hx hb dX12_held_16 (by decide) ?_
      exact z_iret hx hb hr hlk hM hX0 hS ⟨h, rfl⟩ dX12_held_20
  · have h := zf h hc1
    refine lv_iconst (v := (0 : Int32)) hx hb dX12_held_4 (by decide +kernel) ?_
    refine lv_goto (tgt := 20) hx hb dX12_held_5 (by decide) ?_
    exact z_iret hx hb hr hlk hM hX0 hS ⟨h, rfl⟩ dX12_held_20
def f_X12_comes_L5b (a0 : Nat) (v1 : Int32) (K5 : Int32 → zM → Option (zM)) (rec5 : Int32 → zM → Option (zM)) (x19 : Int32) (S20 : zM) : Option (zM) :=
  if x19 ≤ 0 then K5 x19 S20 else zChk (¬ (zr S20 a0 10) = 0) (zChk (¬ ((x19 - (1 : Int32)) < 0 ∨ zln S20 (zr S20 a0 10) ≤ ((x19 - (1 : Int32))).toNatClampNeg)) (if (zi S20 (zr S20 a0 10) (Int32.toNatClampNeg (x19 - (1 : Int32)))) ≤ v1 then K5 x19 S20 else zChk (¬ ((x19 - (1 : Int32)) < 0 ∨ zln S20 (zr S20 a0 10) ≤ ((x19 - (1 : Int32))).toNatClampNeg)) (zChk (¬ (x19 < 0 ∨ zln S20 (zr S20 a0 10) ≤ (x19).toNatClampNeg)) (zLet (zpI S20 (zr S20 a0 10) (Int32.toNatClampNeg x19) (zi S20 (zr S20 a0 10) (Int32.toNatClampNeg (x19 - (1 : Int32))))) (fun S31 => rec5 (x19 + (-1 : Int32)) S31)))))
def f_X12_comes_L5 (a0 : Nat) (v1 : Int32) (K5 : Int32 → zM → Option (zM)) : Nat → Int32 → zM → Option (zM)
  | 0 => fun _ _ => none
  | k + 1 => fun x19 S20 => f_X12_comes_L5b a0 v1 K5 (f_X12_comes_L5 a0 v1 K5 k) x19 S20
def f_X12_comes (n : Nat) (S0 : zM) (a0 : Nat) (v1 : Int32) : Option (zM) :=
  zLet (fun (x2 : Int32) (S3 : zM) => zChk (¬ (zr S3 a0 10) = 0) (zChk (¬ (x2 < 0 ∨ zln S3 (zr S3 a0 10) ≤ (x2).toNatClampNeg)) (zLet (zpI S3 (zr S3 a0 10) (Int32.toNatClampNeg x2) v1) (fun S9 => zLet (zpI S9 a0 11 ((zi S9 a0 11) + (1 : Int32))) (fun S14 => some S14))))) (fun K5 => f_X12_comes_L5 a0 v1 K5 n (zi S0 a0 11) S0)
set_option maxHeartbeats 4000000 in
set_option maxRecDepth 100000 in
theorem c_X12_comes (l : Launch) (D : va_G) (cy : Nat → ClassId) (B : Nat) {n : Nat} {S0 : zM} {a0 : Nat} {v1 : Int32} {S' : zM} (ha0 : zA S0 a0 12) (h : f_X12_comes n S0 a0 v1 = some S') : Met l yX12_comes (zws yX12_comes cX12_comes 3 none) { frames := 0, cells := 0, slots := 0, locals := 0 } (zPc D cy B S0 [.ref (B + a0), .int v1]) (zQv D cy B S0 S') 0 0 (fun q => B < q) := by
  refine Met.ofW (cc := cX12_comes) (maxL := 3) (ret := none) (by decide) rfl ?_
  intro p e s m args below meth c s₁ Bd hml hv
  obtain ⟨rfl, hC, hM⟩ := hv
  obtain ⟨hx, hb, hr, hg, hown, hlk⟩ := z_open Bd
  have hK := hC.1
  have hS : va_S (fun q => B < q) s.heap s.heap [] := va_S.rf
  have hX0 : zX S0 S0 := zX.rf
  refine z_entry (vs := [.ref (B + a0), .int v1]) (Nat.le_of_ble_eq_true rfl) (fun ls hl => ?_)
  have hl : lv_has ls 3 [(0, .ref (B + a0)), (1, .int v1)] := hl
  unfold f_X12_comes at h
  refine lv_aload_n hx hb dX12_comes_0 rfl (lv_at hl 0 rfl) ?_
  refine z_getI hx hb hg zin_12 hown hK hM ha0 11 rfl (by decide) (hg _ zw_1011) (fun _ h9 => h9) dX12_comes_1 ?_
  refine lv_istore_n (i := 2) (lv' := [(2, .int (zi S0 a0 11)), (0, .ref (B + a0)), (1, .int v1)]) hx hb dX12_comes_4 rfl hl (by decide) rfl (fun ls hl => ?_)
  obtain ⟨K5, eK5, h⟩ := zlg h
  have hK5 : ∀ (x2 : Int32) (S3 : zM) (H : Heap) (locs : List Loc), zMR D cy B S3 H → zX S0 S3 → va_S (fun q => B < q) s.heap H locs → zA S3 a0 12 → ∀ ls : Array Slot, lv_has ls 3 [(0, .ref (B + a0)), (1, .int v1), (2, .int x2)] → K5 x2 S3 = some S' → W p l e (headSpec (zws yX12_comes cX12_comes 3 none) { frames := 0, cells := 0, slots := 0, locals := 0 }).room s m (([.ref (B + a0), .int v1] : List Value).toArray) below meth c H locs 0 0 (MQ below (zQv D cy B S0 S') (([.ref (B + a0), .int v1] : List Value).toArray) s 0 0 (fun q => B < q)) (F0 m 41 ls []) := by
    intro x2 S3 H locs hM hX4 hS h1 ls hl h
    rw [eK5] at h
    refine lv_aload_n hx hb dX12_comes_41 rfl (lv_at hl 0 rfl) ?_
    obtain ⟨hq7, h⟩ := zk h
    refine z_getN hx hb hg zin_12 hown hK hM h1 10 rfl (by decide) (hg _ zw_1010) (fun _ h9 => h9) hq7 dX12_comes_42 (fun h6 => ?_)
    refine lv_iload_n hx hb dX12_comes_45 rfl (lv_at hl 2 rfl) ?_
    refine lv_iload_n hx hb dX12_comes_46 rfl (lv_at hl 1 rfl) ?_
    obtain ⟨hq8, h⟩ := zk h
    refine z_iast hx hb hK hM hS h6 hq8 dX12_comes_47 (fun H locs hM hS => ?_)
    obtain ⟨S9, e10, h⟩ := zlg h
    rw [← e10] at hM
    have hX11 : zX S3 S9 := by rw [e10]; exact zX_pI
    have h12 := h1.mo hX11
    have hX13 := hX4.tr hX11
    refine lv_aload_n hx hb dX12_comes_48 rfl (lv_at hl 0 rfl) ?_
    refine lv_dup hx hb dX12_comes_49 rfl ?_
    refine z_getI hx hb hg zin_12 hown hK hM h12 11 rfl (by decide) (hg _ zw_1011) (fun _ h9 => h9) dX12_comes_50 ?_
    refine lv_iconst (v := (1 : Int32)) hx hb dX12_comes_53 (by decide +kernel) ?_
    refine lv_iadd hx hb dX12_comes_54 ?_
    refine z_putI hx hb hg zin_12 tyX12 tyX12_ok nmX12 hown hK hM hS h12 11 rfl (by decide) (hg _ zw_1011) (fun _ h9 => h9) (Or.inl rfl) (tyX12_ok 11 (by decide)) rfl rfl dX12_comes_55 (fun H locs hM hS => ?_)
    obtain ⟨S14, e15, h⟩ := zlg h
    rw [← e15] at hM
    have hX16 : zX S9 S14 := by rw [e15]; exact zX_pI
    have hX17 := hX13.tr hX16
    exact z_vret hx hb hr hlk hM hX17 hS (zsm h) dX12_comes_58
  have hL5 : ∀ (k : Nat) (x19 : Int32) (S20 : zM) (H : Heap) (locs : List Loc), zMR D cy B S20 H → zX S0 S20 → va_S (fun q => B < q) s.heap H locs → zA S20 a0 12 → ∀ ls : Array Slot, lv_has ls 3 [(0, .ref (B + a0)), (1, .int v1), (2, .int x19)] → f_X12_comes_L5 a0 v1 K5 k x19 S20 = some S' → W p l e (headSpec (zws yX12_comes cX12_comes 3 none) { frames := 0, cells := 0, slots := 0, locals := 0 }).room s m (([.ref (B + a0), .int v1] : List Value).toArray) below meth c H locs 0 0 (MQ below (zQv D cy B S0 S') (([.ref (B + a0), .int v1] : List Value).toArray) s 0 0 (fun q => B < q)) (F0 m 5 ls []) := by
    intro k
    induction k with
    | zero =>
      intro x19 S20 H locs hM hX21 hS h18 ls hl h
      exact znone h
    | succ k ih5 =>
      intro x19 S20 H locs hM hX21 hS h18 ls hl h
      replace h : f_X12_comes_L5b a0 v1 K5 (f_X12_comes_L5 a0 v1 K5 k) x19 S20 = some S' := h
      generalize f_X12_comes_L5 a0 v1 K5 k = rec5 at ih5 h
      unfold f_X12_comes_L5b at h
      refine lv_iload_n hx hb dX12_comes_5 rfl (lv_at hl 2 rfl) ?_
      refine lv_if_le (tgt := 41) hx hb dX12_comes_6 (by decide) (fun hc22 => ?_) (fun hc22 => ?_)
      · have h := zt h hc22
        exact hK5 x19 S20 _ _ hM hX21 hS h18 _ (lv_sub hl [0, 1, 2] rfl) h
      · have h := zf h hc22
        refine lv_aload_n hx hb dX12_comes_9 rfl (lv_at hl 0 rfl) ?_
        obtain ⟨hq24, h⟩ := zk h
        refine z_getN hx hb hg zin_12 hown hK hM h18 10 rfl (by decide) (hg _ zw_1010) (fun _ h9 => h9) hq24 dX12_comes_10 (fun h23 => ?_)
        refine lv_iload_n hx hb dX12_comes_13 rfl (lv_at hl 2 rfl) ?_
        refine lv_iconst (v := (1 : Int32)) hx hb dX12_comes_14 (by decide +kernel) ?_
        refine lv_isub hx hb dX12_comes_15 ?_
        obtain ⟨hq25, h⟩ := zk h
        refine z_iald hx hb hK hM h23 hq25 dX12_comes_16 ?_
        refine lv_iload_n hx hb dX12_comes_17 rfl (lv_at hl 1 rfl) ?_
        refine lv_icmp_le (tgt := 41) hx hb dX12_comes_18 (by decide) (fun hc26 => ?_) (fun hc26 => ?_)
        · have h := zt h hc26
          exact hK5 x19 S20 _ _ hM hX21 hS h18 _ (lv_sub hl [0, 1, 2] rfl) h
        · have h := zf h hc26
          refine lv_aload_n hx hb dX12_comes_21 rfl (lv_at hl 0 rfl) ?_
          refine z_getN hx hb hg zin_12 hown hK hM h18 10 rfl (by decide) (hg _ zw_1010) (fun _ h9 => h9) h23.ne dX12_comes_22 (fun h27 => ?_)
          refine lv_iload_n hx hb dX12_comes_25 rfl (lv_at hl 2 rfl) ?_
          refine lv_aload_n hx hb dX12_comes_26 rfl (lv_at hl 0 rfl) ?_
          refine z_getN hx hb hg zin_12 hown hK hM h18 10 rfl (by decide) (hg _ zw_1010) (fun _ h9 => h9) h27.ne dX12_comes_27 (fun h28 => ?_)
          refine lv_iload_n hx hb dX12_comes_30 rfl (lv_at hl 2 rfl) ?_
          refine lv_iconst (v := (1 : Int32)) hx hb dX12_comes_31 (by decide +kernel) ?_
          refine lv_isub hx hb dX12_comes_32 ?_
          obtain ⟨hq29, h⟩ := zk h
          refine z_iald hx hb hK hM h28 hq29 dX12_comes_33 ?_
          obtain ⟨hq30, h⟩ := zk h
          refine z_iast hx hb hK hM hS h28 hq30 dX12_comes_34 (fun H locs hM hS => ?_)
          obtain ⟨S31, e32, h⟩ := zlg h
          rw [← e32] at hM
          have hX33 : zX S20 S31 := by rw [e32]; exact zX_pI
          have h34 := h18.mo hX33
          have hX35 := hX21.tr hX33
          refine lv_iinc (v := (x19 + (-1 : Int32))) (lv' := [(2, .int (x19 + (-1 : Int32))), (0, .ref (B + a0)), (1, .int v1)]) hx hb dX12_comes_35 hl (k := 2) rfl rfl (by decide) rfl (fun ls hl => ?_)
          refine lv_goto (tgt := 5) hx hb dX12_comes_38 (by decide) ?_
          exact ih5 (x19 + (-1 : Int32)) S31 _ _ hM hX35 hS h34 _ (lv_sub hl [1, 2, 0] rfl) h
  exact hL5 n (zi S0 a0 11) S0 _ _ hM hX0 hS ha0 _ (lv_sub hl [1, 2, 0] rfl) h
def f_X12_middleWould_L7b (n : Nat) (rc : zM → Nat → Int32 → Int32 → Option (Int32 × zM)) (a0 : Nat) (v1 : Int32) (rc : zM → Nat → Int32 → Int32 → Option (Int32 × zM)) (K9 : zM → Option (Int32 × zM)) (rec7 : Int32 → zM → Option (Int32 × zM)) (x15 : Int32) (S16 : zM) : Option (Int32 × zM) :=
  if (7 : Int32) ≤ x15 then K9 S16 else zB1 (f_X12_get S16 a0 v1 (0 : Int32)) (fun r20 => zB1 (f_X12_onChair S16 a0 r20 x15) (fun r24 => if r24 < 0 then rec7 (x15 + (1 : Int32)) S16 else zChk (¬ (zr S16 a0 0) = 0) (zChk (¬ (((16 : Int32) + ((4 : Int32) * r24)) < 0 ∨ zln S16 (zr S16 a0 0) ≤ (((16 : Int32) + ((4 : Int32) * r24))).toNatClampNeg)) (if (zi S16 (zr S16 a0 0) (Int32.toNatClampNeg ((16 : Int32) + ((4 : Int32) * r24)))) = (5 : Int32) then rec7 (x15 + (1 : Int32)) S16 else zB2 (rc S16 a0 v1 x15) (fun r33 S34 => zB1 (f_X12_comes n S34 a0 r33) (fun S40 => rec7 (x15 + (1 : Int32)) S40))))))
def f_X12_middleWould_L7 (n : Nat) (rc : zM → Nat → Int32 → Int32 → Option (Int32 × zM)) (a0 : Nat) (v1 : Int32) (rc : zM → Nat → Int32 → Int32 → Option (Int32 × zM)) (K9 : zM → Option (Int32 × zM)) : Nat → Int32 → zM → Option (Int32 × zM)
  | 0 => fun _ _ => none
  | k + 1 => fun x15 S16 => f_X12_middleWould_L7b n rc a0 v1 rc K9 (f_X12_middleWould_L7 n rc a0 v1 rc K9 k) x15 S16
def f_X12_middleWould (n : Nat) (rc : zM → Nat → Int32 → Int32 → Option (Int32 × zM)) (S0 : zM) (a0 : Nat) (v1 : Int32) : Option (Int32 × zM) :=
  zLet (zpI S0 a0 11 (0 : Int32)) (fun S1 => zLet (fun (S7 : zM) => if (zi S7 a0 11) = 0 then some (((-4 : Int32), S7)) else zChk (¬ (zr S7 a0 10) = 0) (zChk (¬ (((zi S7 a0 11) / (2 : Int32)) < 0 ∨ zln S7 (zr S7 a0 10) ≤ (((zi S7 a0 11) / (2 : Int32))).toNatClampNeg)) (some (((zi S7 (zr S7 a0 10) (Int32.toNatClampNeg ((zi S7 a0 11) / (2 : Int32)))), S7))))) (fun K9 => f_X12_middleWould_L7 n rc a0 v1 rc K9 n (0 : Int32) S1))
set_option maxHeartbeats 4000000 in
set_option maxRecDepth 100000 in
theorem c_X12_middleWould (l : Launch) (D : va_G) (cy : Nat → ClassId) (B : Nat) (dd : Nat) {rc : zM → Nat → Int32 → Int32 → Option (Int32 × zM)} (hrc : ∀ {S : zM} {b0 : Nat} {b1 : Int32} {b2 : Int32} {q : Int32} {S1 : zM}, zA S b0 12 →  rc S b0 b1 b2 = some (q, S1) → Met l yX12_wouldOf (zws yX12_wouldOf cX12_wouldOf 8 ((some .int))) { frames := 2 * dd, cells := 0, slots := 0, locals := 50 * dd } (zPc D cy B S [.ref (B + b0), .int b1, .int b2]) (zQi D cy B S q S1) 0 0 (fun q => B < q)) {n : Nat} {S0 : zM} {a0 : Nat} {v1 : Int32} {r : Int32} {S' : zM} (ha0 : zA S0 a0 12) (h : f_X12_middleWould n rc S0 a0 v1 = some (r, S')) : Met l yX12_middleWould (zws yX12_middleWould cX12_middleWould 4 ((some .int))) { frames := 2 * dd + 1, cells := 0, slots := 0, locals := 50 * dd + 27 } (zPc D cy B S0 [.ref (B + a0), .int v1]) (zQi D cy B S0 r S') 0 0 (fun q => B < q) := by
  refine Met.ofW (cc := cX12_middleWould) (maxL := 4) (ret := ((some .int))) (by decide) rfl ?_
  intro p e s m args below meth c s₁ Bd hml hv
  obtain ⟨rfl, hC, hM⟩ := hv
  obtain ⟨hx, hb, hr, hg, hown, hlk⟩ := z_open Bd
  have hK := hC.1
  have hS : va_S (fun q => B < q) s.heap s.heap [] := va_S.rf
  have hX0 : zX S0 S0 := zX.rf
  refine z_entry (vs := [.ref (B + a0), .int v1]) (Nat.le_of_ble_eq_true rfl) (fun ls hl => ?_)
  have hl : lv_has ls 4 [(0, .ref (B + a0)), (1, .int v1)] := hl
  unfold f_X12_middleWould at h
  refine lv_aload_n hx hb dX12_middleWould_0 rfl (lv_at hl 0 rfl) ?_
  refine lv_iconst (v := (0 : Int32)) hx hb dX12_middleWould_1 (by decide +kernel) ?_
  refine z_putI hx hb hg zin_12 tyX12 tyX12_ok nmX12 hown hK hM hS ha0 11 rfl (by decide) (hg _ zw_1011) (fun _ h9 => h9) (Or.inl rfl) (tyX12_ok 11 (by decide)) rfl rfl dX12_middleWould_2 (fun H locs hM hS => ?_)
  obtain ⟨S1, e2, h⟩ := zlg h
  rw [← e2] at hM
  have hX3 : zX S0 S1 := by rw [e2]; exact zX_pI
  have h4 := ha0.mo hX3
  have hX5 := hX0.tr hX3
  refine lv_iconst (v := (0 : Int32)) hx hb dX12_middleWould_5 (by decide +kernel) ?_
  refine lv_istore_n (i := 2) (lv' := [(2, .int (0 : Int32)), (0, .ref (B + a0)), (1, .int v1)]) hx hb dX12_middleWould_6 rfl hl (by decide) rfl (fun ls hl => ?_)
  obtain ⟨K9, eK9, h⟩ := zlg h
  have hK9 : ∀ (S7 : zM) (H : Heap) (locs : List Loc), zMR D cy B S7 H → zX S0 S7 → va_S (fun q => B < q) s.heap H locs → zA S7 a0 12 → ∀ ls : Array Slot, lv_has ls 4 [(0, .ref (B + a0))] → K9 S7 = some (r, S') → W p l e (headSpec (zws yX12_middleWould cX12_middleWould 4 ((some .int))) { frames := 2 * dd + 1, cells := 0, slots := 0, locals := 50 * dd + 27 }).room s m (([.ref (B + a0), .int v1] : List Value).toArray) below meth c H locs 0 0 (MQ below (zQi D cy B S0 r S') (([.ref (B + a0), .int v1] : List Value).toArray) s 0 0 (fun q => B < q)) (F0 m 60 ls []) := by
    intro S7 H locs hM hX8 hS h6 ls hl h
    rw [eK9] at h
    refine lv_aload_n hx hb dX12_middleWould_60 rfl (lv_at hl 0 rfl) ?_
    refine z_getI hx hb hg zin_12 hown hK hM h6 11 rfl (by decide) (hg _ zw_1011) (fun _ h9 => h9) dX12_middleWould_61 ?_
    refine lv_if_ne (tgt := 72) hx hb dX12_middleWould_64 (by decide) (fun hc10 => ?_) (fun hc10 => ?_)
    · have h := zf h hc10
      refine lv_aload_n hx hb dX12_middleWould_72 rfl (lv_at hl 0 rfl) ?_
      obtain ⟨hq12, h⟩ := zk h
      refine z_getN hx hb hg zin_12 hown hK hM h6 10 rfl (by decide) (hg _ zw_1010) (fun _ h9 => h9) hq12 dX12_middleWould_73 (fun h11 => ?_)
      refine lv_aload_n hx hb dX12_middleWould_76 rfl (lv_at hl 0 rfl) ?_
      refine z_getI hx hb hg zin_12 hown hK hM h6 11 rfl (by decide) (hg _ zw_1011) (fun _ h9 => h9) dX12_middleWould_77 ?_
      refine lv_iconst (v := (2 : Int32)) hx hb dX12_middleWould_80 (by decide +kernel) ?_
      refine lv_idiv hx hb dX12_middleWould_81 (by decide +kernel) ?_
      obtain ⟨hq13, h⟩ := zk h
      refine z_iald hx hb hK hM h11 hq13 dX12_middleWould_82 ?_
      exact z_iret hx hb hr hlk hM hX8 hS (zsp h) dX12_middleWould_83
    · have h := zt h hc10
      refine lv_bipush (v := (-4 : Int32)) hx hb dX12_middleWould_67 (by decide +kernel) ?_
      refine lv_goto (tgt := 83) hx hb dX12_middleWould_69 (by decide) ?_
      exact z_iret hx hb hr hlk hM hX8 hS (zsp h) dX12_middleWould_83
  have hL7 : ∀ (k : Nat) (x15 : Int32) (S16 : zM) (H : Heap) (locs : List Loc), zMR D cy B S16 H → zX S0 S16 → va_S (fun q => B < q) s.heap H locs → zA S16 a0 12 → ∀ ls : Array Slot, lv_has ls 4 [(0, .ref (B + a0)), (1, .int v1), (2, .int x15)] → f_X12_middleWould_L7 n rc a0 v1 rc K9 k x15 S16 = some (r, S') → W p l e (headSpec (zws yX12_middleWould cX12_middleWould 4 ((some .int))) { frames := 2 * dd + 1, cells := 0, slots := 0, locals := 50 * dd + 27 }).room s m (([.ref (B + a0), .int v1] : List Value).toArray) below meth c H locs 0 0 (MQ below (zQi D cy B S0 r S') (([.ref (B + a0), .int v1] : List Value).toArray) s 0 0 (fun q => B < q)) (F0 m 7 ls []) := by
    intro k
    induction k with
    | zero =>
      intro x15 S16 H locs hM hX17 hS h14 ls hl h
      exact znone h
    | succ k ih7 =>
      intro x15 S16 H locs hM hX17 hS h14 ls hl h
      replace h : f_X12_middleWould_L7b n rc a0 v1 rc K9 (f_X12_middleWould_L7 n rc a0 v1 rc K9 k) x15 S16 = some (r, S') := h
      generalize f_X12_middleWould_L7 n rc a0 v1 rc K9 k = rec7 at ih7 h
      unfold f_X12_middleWould_L7b at h
      refine lv_iload_n hx hb dX12_middleWould_7 rfl (lv_at hl 2 rfl) ?_
      refine lv_bipush (v := (7 : Int32)) hx hb dX12_middleWould_8 (by decide +kernel) ?_
      refine lv_icmp_ge (tgt := 60) hx hb dX12_middleWould_10 (by decide) (fun hc18 => ?_) (fun hc18 => ?_)
      · have h := zt h hc18
        exact hK9 S16 _ _ hM hX17 hS h14 _ (lv_sub hl [0] rfl) h
      · have h := zf h hc18
        refine lv_aload_n hx hb dX12_middleWould_13 rfl (lv_at hl 0 rfl) ?_
        refine lv_aload_n hx hb dX12_middleWould_14 rfl (lv_at hl 0 rfl) ?_
        refine lv_iload_n hx hb dX12_middleWould_15 rfl (lv_at hl 1 rfl) ?_
        refine lv_iconst (v := (0 : Int32)) hx hb dX12_middleWould_16 (by decide +kernel) ?_
        obtain ⟨r20, hr19, h⟩ := zb1 h
        refine z_runi (va_runV (As := [.int v1, .int (0 : Int32)]) (rest := [.ref (B + a0)]) ⟨hx, hb, hml, hown, hg⟩ (c_X12_get l D cy B h14 hr19) (z_cwV hg zw_1163 zw_1164 zw_1487 zw_13 zw_1165 zh_X12_get ⟨by show 0 + 1 ≤ 2 * dd + 1; omega, by show 8 + (3 + 11) + 0 ≤ 50 * dd + 27; omega⟩) (zPV hC hM h14 (by decide) rfl) rfl rfl hl.1 rfl (lv_room (Nat.le_of_ble_eq_true rfl)) dX12_middleWould_17 ⟨(Nat.le_of_ble_eq_true rfl), (Nat.le_of_ble_eq_true rfl)⟩) hS (fun H locs hM hX21 hS => ?_)
        refine lv_iload_n hx hb dX12_middleWould_20 rfl (lv_at hl 2 rfl) ?_
        obtain ⟨r24, hr23, h⟩ := zb1 h
        refine z_runi (va_runV (As := [.int r20, .int x15]) (rest := []) ⟨hx, hb, hml, hown, hg⟩ (c_X12_onChair l D cy B h14 hr23) (z_cwV hg zw_1143 zw_1144 zw_1484 zw_13 zw_1145 zh_X12_onChair ⟨by show 0 + 1 ≤ 2 * dd + 1; omega, by show 8 + (3 + 11) + 0 ≤ 50 * dd + 27; omega⟩) (zPV hC hM h14 (by decide) rfl) rfl rfl hl.1 rfl (lv_room (Nat.le_of_ble_eq_true rfl)) dX12_middleWould_21 ⟨(Nat.le_of_ble_eq_true rfl), (Nat.le_of_ble_eq_true rfl)⟩) hS (fun H locs hM hX25 hS => ?_)
        refine lv_istore_n (i := 3) (lv' := [(3, .int r24), (0, .ref (B + a0)), (1, .int v1), (2, .int x15)]) hx hb dX12_middleWould_24 rfl hl (by decide) rfl (fun ls hl => ?_)
        refine lv_iload_n hx hb dX12_middleWould_25 rfl (lv_at hl 0 rfl) ?_
        refine lv_if_lt (tgt := 54) hx hb dX12_middleWould_26 (by decide) (fun hc27 => ?_) (fun hc27 => ?_)
        · have h := zt h hc27
          refine lv_iinc (v := (x15 + (1 : Int32))) (lv' := [(2, .int (x15 + (1 : Int32))), (3, .int r24), (0, .ref (B + a0)), (1, .int v1)]) hx hb dX12_middleWould_54 hl (k := 3) rfl rfl (by decide) rfl (fun ls hl => ?_)
          refine lv_goto (tgt := 7) hx hb dX12_middleWould_57 (by decide) ?_
          exact ih7 (x15 + (1 : Int32)) S16 _ _ hM hX17 hS h14 _ (lv_sub hl [2, 3, 0] rfl) h
        · have h := zf h hc27
          refine lv_aload_n hx hb dX12_middleWould_29 rfl (lv_at hl 1 rfl) ?_
          obtain ⟨hq29, h⟩ := zk h
          refine z_getN hx hb hg zin_12 hown hK hM h14 0 rfl (by decide) (hg _ zw_1000) (fun _ h9 => h9) hq29 dX12_middleWould_30 (fun h28 => ?_)
          refine lv_bipush (v := (16 : Int32)) hx hb dX12_middleWould_33 (by decide +kernel) ?_
          refine lv_iconst (v := (4 : Int32)) hx hb dX12_middleWould_35 (by decide +kernel) ?_
          refine lv_iload_n hx hb dX12_middleWould_36 rfl (lv_at hl 0 rfl) ?_
          refine lv_imul hx hb dX12_middleWould_37 ?_
          refine lv_iadd hx hb dX12_middleWould_38 ?_
          obtain ⟨hq30, h⟩ := zk h
          refine z_iald hx hb hK hM h28 hq30 dX12_middleWould_39 ?_
          refine lv_iconst (v := (5 : Int32)) hx hb dX12_middleWould_40 (by decide +kernel) ?_
          refine lv_icmp_eq (tgt := 54) hx hb dX12_middleWould_41 (by decide) (fun hc31 => ?_) (fun hc31 => ?_)
          · have h := zt h hc31
            refine lv_iinc (v := (x15 + (1 : Int32))) (lv' := [(2, .int (x15 + (1 : Int32))), (3, .int r24), (0, .ref (B + a0)), (1, .int v1)]) hx hb dX12_middleWould_54 hl (k := 3) rfl rfl (by decide) rfl (fun ls hl => ?_)
            refine lv_goto (tgt := 7) hx hb dX12_middleWould_57 (by decide) ?_
            exact ih7 (x15 + (1 : Int32)) S16 _ _ hM hX17 hS h14 _ (lv_sub hl [2, 3, 0] rfl) h
          · have h := zf h hc31
            refine lv_aload_n hx hb dX12_middleWould_44 rfl (lv_at hl 1 rfl) ?_
            refine lv_aload_n hx hb dX12_middleWould_45 rfl (lv_at hl 1 rfl) ?_
            refine lv_iload_n hx hb dX12_middleWould_46 rfl (lv_at hl 2 rfl) ?_
            refine lv_iload_n hx hb dX12_middleWould_47 rfl (lv_at hl 3 rfl) ?_
            obtain ⟨r33, S34, hr32, h⟩ := zb2 h
            refine z_runi (va_runV (As := [.int v1, .int x15]) (rest := [.ref (B + a0)]) ⟨hx, hb, hml, hown, hg⟩ (hrc h14 hr32) (z_cwV hg zw_1183 zw_1184 zw_1490 zw_13 zw_1185 zh_X12_wouldOf ⟨by show 2 * dd + 1 ≤ 2 * dd + 1; omega, by show 8 + (8 + 11) + (50 * dd) ≤ 50 * dd + 27; omega⟩) (zPV hC hM h14 (by decide) rfl) rfl rfl hl.1 rfl (lv_room (Nat.le_of_ble_eq_true rfl)) dX12_middleWould_48 ⟨(Nat.le_of_ble_eq_true rfl), (Nat.le_of_ble_eq_true rfl)⟩) hS (fun H locs hM hX35 hS => ?_)
            have h37 := h14.mo hX35
            have hX38 := hX17.tr hX35
            obtain ⟨S40, hr39, h⟩ := zb1 h
            refine z_runv (va_runV (As := [.int r33]) (rest := []) ⟨hx, hb, hml, hown, hg⟩ (c_X12_comes l D cy B h37 hr39) (z_cwV hg zw_1198 zw_1199 zw_1494 zw_13 zw_1200 zh_X12_comes ⟨by show 0 + 1 ≤ 2 * dd + 1; omega, by show 8 + (3 + 11) + 0 ≤ 50 * dd + 27; omega⟩) (zPV hC hM h37 (by decide) rfl) rfl rfl hl.1 rfl (lv_room (Nat.le_of_ble_eq_true rfl)) dX12_middleWould_51 ⟨(Nat.le_of_ble_eq_true rfl), (Nat.le_of_ble_eq_true rfl)⟩) hS (fun H locs hM hX41 hS => ?_)
            have h43 := h37.mo hX41
            have hX44 := hX38.tr hX41
            refine lv_iinc (v := (x15 + (1 : Int32))) (lv' := [(2, .int (x15 + (1 : Int32))), (3, .int r24), (0, .ref (B + a0)), (1, .int v1)]) hx hb dX12_middleWould_54 hl (k := 3) rfl rfl (by decide) rfl (fun ls hl => ?_)
            refine lv_goto (tgt := 7) hx hb dX12_middleWould_57 (by decide) ?_
            exact ih7 (x15 + (1 : Int32)) S40 _ _ hM hX44 hS h43 _ (lv_sub hl [2, 3, 0] rfl) h
  exact hL7 n (0 : Int32) S1 _ _ hM hX5 hS h4 _ (lv_sub hl [1, 2, 0] rfl) h
def f_X12_wouldOfO (n : Nat) (rc : zM → Nat → Int32 → Int32 → Option (Int32 × zM)) (S0 : zM) (a0 : Nat) (v1 : Int32) (v2 : Int32) : Option (Int32 × zM) :=
  zB1 (f_X12_get S0 a0 v1 (0 : Int32)) (fun r2 => zB1 (f_X12_onChair S0 a0 r2 v2) (fun r6 => zChk (¬ (zr S0 a0 0) = 0) (zB1 (f_X12_get S0 a0 v1 (1 : Int32)) (fun r12 => zChk (¬ (((2 : Int32) * r12) < 0 ∨ zln S0 (zr S0 a0 0) ≤ (((2 : Int32) * r12)).toNatClampNeg)) (zChk (¬ (((16 : Int32) + ((4 : Int32) * r6)) < 0 ∨ zln S0 (zr S0 a0 0) ≤ (((16 : Int32) + ((4 : Int32) * r6))).toNatClampNeg)) (zLet (fun (x19 : Int32) => zB1 (f_X12_lessOff n S0 a0 v1 v2 x19) (fun r23 => zChk (¬ (zr S0 a0 0) = 0) (zChk (¬ (((16 : Int32) + ((4 : Int32) * r6)) < 0 ∨ zln S0 (zr S0 a0 0) ≤ (((16 : Int32) + ((4 : Int32) * r6))).toNatClampNeg)) (if (zi S0 (zr S0 a0 0) (Int32.toNatClampNeg ((16 : Int32) + ((4 : Int32) * r6)))) = (1 : Int32) then zLet (fun (x30 : Int32) => zLet (f_X12_held x30) (fun r34 => some ((r34, S0)))) (fun K32 => if (r23 - r23 / (2 : Int32) * (2 : Int32)) = 0 then K32 r23 else K32 (r23 - (1 : Int32))) else if (zi S0 (zr S0 a0 0) (Int32.toNatClampNeg ((16 : Int32) + ((4 : Int32) * r6)))) = (2 : Int32) then zChk (¬ ((((16 : Int32) + ((4 : Int32) * r6)) + (1 : Int32)) < 0 ∨ zln S0 (zr S0 a0 0) ≤ ((((16 : Int32) + ((4 : Int32) * r6)) + (1 : Int32))).toNatClampNeg)) (zLet (fun (x41 : Int32) => zLet (f_X12_held x41) (fun r45 => some ((r45, S0)))) (fun K43 => if (zi S0 (zr S0 a0 0) (Int32.toNatClampNeg ((2 : Int32) * r12))) = (zi S0 (zr S0 a0 0) (Int32.toNatClampNeg (((16 : Int32) + ((4 : Int32) * r6)) + (1 : Int32)))) then zChk (¬ ((((16 : Int32) + ((4 : Int32) * r6)) + (2 : Int32)) < 0 ∨ zln S0 (zr S0 a0 0) ≤ ((((16 : Int32) + ((4 : Int32) * r6)) + (2 : Int32))).toNatClampNeg)) (K43 (r23 + (zi S0 (zr S0 a0 0) (Int32.toNatClampNeg (((16 : Int32) + ((4 : Int32) * r6)) + (2 : Int32)))))) else K43 r23)) else if (zi S0 (zr S0 a0 0) (Int32.toNatClampNeg ((16 : Int32) + ((4 : Int32) * r6)))) = (3 : Int32) then zChk (¬ ((((16 : Int32) + ((4 : Int32) * r6)) + (1 : Int32)) < 0 ∨ zln S0 (zr S0 a0 0) ≤ ((((16 : Int32) + ((4 : Int32) * r6)) + (1 : Int32))).toNatClampNeg)) (zLet (fun (x54 : Int32) => zLet (f_X12_held x54) (fun r58 => some ((r58, S0)))) (fun K56 => zLet (zChk (¬ (zr S0 a0 0) = 0) (zChk (¬ ((((16 : Int32) + ((4 : Int32) * r6)) + (2 : Int32)) < 0 ∨ zln S0 (zr S0 a0 0) ≤ ((((16 : Int32) + ((4 : Int32) * r6)) + (2 : Int32))).toNatClampNeg)) (K56 (r23 + (zi S0 (zr S0 a0 0) (Int32.toNatClampNeg (((16 : Int32) + ((4 : Int32) * r6)) + (2 : Int32)))))))) (fun K63 => if (zi S0 (zr S0 a0 0) (Int32.toNatClampNeg ((2 : Int32) * r12))) = (zi S0 (zr S0 a0 0) (Int32.toNatClampNeg (((16 : Int32) + ((4 : Int32) * r6)) + (1 : Int32)))) then K63 else zChk (¬ ((((16 : Int32) + ((4 : Int32) * r6)) + (3 : Int32)) < 0 ∨ zln S0 (zr S0 a0 0) ≤ ((((16 : Int32) + ((4 : Int32) * r6)) + (3 : Int32))).toNatClampNeg)) (if (zi S0 (zr S0 a0 0) (Int32.toNatClampNeg ((2 : Int32) * r12))) = (zi S0 (zr S0 a0 0) (Int32.toNatClampNeg (((16 : Int32) + ((4 : Int32) * r6)) + (3 : Int32)))) then K63 else K56 r23)))) else if (zi S0 (zr S0 a0 0) (Int32.toNatClampNeg ((16 : Int32) + ((4 : Int32) * r6)))) = (4 : Int32) then zB1 (f_X12_aheadOf n S0 a0 v1) (fun r73 => zB1 (f_X12_get S0 a0 v1 (1 : Int32)) (fun r78 => zChk (¬ ((((2 : Int32) * r78) + (1 : Int32)) < 0 ∨ zln S0 (zr S0 a0 0) ≤ ((((2 : Int32) * r78) + (1 : Int32))).toNatClampNeg)) (zLet (fun (x82 : Int32) => zLet (f_X12_held ((r23 + ((zi S0 (zr S0 a0 0) (Int32.toNatClampNeg (((2 : Int32) * r78) + (1 : Int32)))) / (2 : Int32))) + x82)) (fun r86 => some ((r86, S0)))) (fun K84 => zLet (K84 (0 : Int32)) (fun K90 => if r73 < 0 then K90 else zB1 (f_X12_worth n S0 a0 r73) (fun r93 => if r93 < (15 : Int32) then K90 else K84 (1 : Int32))))))) else if (zi S0 (zr S0 a0 0) (Int32.toNatClampNeg ((16 : Int32) + ((4 : Int32) * r6)))) = (5 : Int32) then zB2 (f_X12_middleWould n rc S0 a0 v1) (fun r99 S100 => if r99 = (-4 : Int32) then zLet (f_X12_held r23) (fun r106 => some ((r106, S100))) else some ((r99, S100))) else zLet (f_X12_held r23) (fun r110 => some ((r110, S0))))))) (fun K21 => if (zi S0 (zr S0 a0 0) (Int32.toNatClampNeg ((16 : Int32) + ((4 : Int32) * r6)))) = (7 : Int32) then K21 (1 : Int32) else K21 (0 : Int32))))))))
def f_X12_wouldOf (n : Nat) : Nat → zM → Nat → Int32 → Int32 → Option (Int32 × zM)
  | 0 => fun _ _ _ _ => none
  | d + 1 => f_X12_wouldOfO n (f_X12_wouldOf n d)
set_option maxHeartbeats 4000000 in
set_option maxRecDepth 100000 in
theorem c_X12_wouldOfO (l : Launch) (D : va_G) (cy : Nat → ClassId) (B : Nat) (dd : Nat) {rc : zM → Nat → Int32 → Int32 → Option (Int32 × zM)} (hrc : ∀ {S : zM} {b0 : Nat} {b1 : Int32} {b2 : Int32} {q : Int32} {S1 : zM}, zA S b0 12 →  rc S b0 b1 b2 = some (q, S1) → Met l yX12_wouldOf (zws yX12_wouldOf cX12_wouldOf 8 ((some .int))) { frames := 2 * dd, cells := 0, slots := 0, locals := 50 * dd } (zPc D cy B S [.ref (B + b0), .int b1, .int b2]) (zQi D cy B S q S1) 0 0 (fun q => B < q)) {n : Nat} {S0 : zM} {a0 : Nat} {v1 : Int32} {v2 : Int32} {r : Int32} {S' : zM} (ha0 : zA S0 a0 12) (h : f_X12_wouldOfO n rc S0 a0 v1 v2 = some (r, S')) : Met l yX12_wouldOf (zws yX12_wouldOf cX12_wouldOf 8 ((some .int))) { frames := 2 * dd + 2, cells := 0, slots := 0, locals := 50 * dd + 50 } (zPc D cy B S0 [.ref (B + a0), .int v1, .int v2]) (zQi D cy B S0 r S') 0 0 (fun q => B < q) := by
  refine Met.ofW (cc := cX12_wouldOf) (maxL := 8) (ret := ((some .int))) (by decide) rfl ?_
  intro p e s m args below meth c s₁ Bd hml hv
  obtain ⟨rfl, hC, hM⟩ := hv
  obtain ⟨hx, hb, hr, hg, hown, hlk⟩ := z_open Bd
  have hK := hC.1
  have hS : va_S (fun q => B < q) s.heap s.heap [] := va_S.rf
  have hX0 : zX S0 S0 := zX.rf
  refine z_entry (vs := [.ref (B + a0), .int v1, .int v2]) (Nat.le_of_ble_eq_true rfl) (fun ls hl => ?_)
  have hl : lv_has ls 8 [(0, .ref (B + a0)), (1, .int v1), (2, .int v2)] := hl
  unfold f_X12_wouldOfO at h
  refine lv_aload_n hx hb dX12_wouldOf_0 rfl (lv_at hl 0 rfl) ?_
  refine lv_aload_n hx hb dX12_wouldOf_1 rfl (lv_at hl 0 rfl) ?_
  refine lv_iload_n hx hb dX12_wouldOf_2 rfl (lv_at hl 1 rfl) ?_
  refine lv_iconst (v := (0 : Int32)) hx hb dX12_wouldOf_3 (by decide +kernel) ?_
  obtain ⟨r2, hr1, h⟩ := zb1 h
  refine z_runi (va_runV (As := [.int v1, .int (0 : Int32)]) (rest := [.ref (B + a0)]) ⟨hx, hb, hml, hown, hg⟩ (c_X12_get l D cy B ha0 hr1) (z_cwV hg zw_1163 zw_1164 zw_1487 zw_13 zw_1165 zh_X12_get ⟨by show 0 + 1 ≤ 2 * dd + 2; omega, by show 8 + (3 + 11) + 0 ≤ 50 * dd + 50; omega⟩) (zPV hC hM ha0 (by decide) rfl) rfl rfl hl.1 rfl (lv_room (Nat.le_of_ble_eq_true rfl)) dX12_wouldOf_4 ⟨(Nat.le_of_ble_eq_true rfl), (Nat.le_of_ble_eq_true rfl)⟩) hS (fun H locs hM hX3 hS => ?_)
  refine lv_iload_n hx hb dX12_wouldOf_7 rfl (lv_at hl 2 rfl) ?_
  obtain ⟨r6, hr5, h⟩ := zb1 h
  refine z_runi (va_runV (As := [.int r2, .int v2]) (rest := []) ⟨hx, hb, hml, hown, hg⟩ (c_X12_onChair l D cy B ha0 hr5) (z_cwV hg zw_1143 zw_1144 zw_1484 zw_13 zw_1145 zh_X12_onChair ⟨by show 0 + 1 ≤ 2 * dd + 2; omega, by show 8 + (3 + 11) + 0 ≤ 50 * dd + 50; omega⟩) (zPV hC hM ha0 (by decide) rfl) rfl rfl hl.1 rfl (lv_room (Nat.le_of_ble_eq_true rfl)) dX12_wouldOf_8 ⟨(Nat.le_of_ble_eq_true rfl), (Nat.le_of_ble_eq_true rfl)⟩) hS (fun H locs hM hX7 hS => ?_)
  refine lv_istore_n (i := 3) (lv' := [(3, .int r6), (0, .ref (B + a0)), (1, .int v1), (2, .int v2)]) hx hb dX12_wouldOf_11 rfl hl (by decide) rfl (fun ls hl => ?_)
  refine lv_bipush (v := (16 : Int32)) hx hb dX12_wouldOf_12 (by decide +kernel) ?_
  refine lv_iconst (v := (4 : Int32)) hx hb dX12_wouldOf_14 (by decide +kernel) ?_
  refine lv_iload_n hx hb dX12_wouldOf_15 rfl (lv_at hl 0 rfl) ?_
  refine lv_imul hx hb dX12_wouldOf_16 ?_
  refine lv_iadd hx hb dX12_wouldOf_17 ?_
  refine lv_istore (i := 4) (lv' := [(4, .int ((16 : Int32) + ((4 : Int32) * r6))), (3, .int r6), (0, .ref (B + a0)), (1, .int v1), (2, .int v2)]) hx hb dX12_wouldOf_18 hl (by decide) rfl (fun ls hl => ?_)
  refine lv_aload_n hx hb dX12_wouldOf_20 rfl (lv_at hl 2 rfl) ?_
  obtain ⟨hq10, h⟩ := zk h
  refine z_getN hx hb hg zin_12 hown hK hM ha0 0 rfl (by decide) (hg _ zw_1000) (fun _ h9 => h9) hq10 dX12_wouldOf_21 (fun h9 => ?_)
  refine lv_iconst (v := (2 : Int32)) hx hb dX12_wouldOf_24 (by decide +kernel) ?_
  refine lv_aload_n hx hb dX12_wouldOf_25 rfl (lv_at hl 2 rfl) ?_
  refine lv_iload_n hx hb dX12_wouldOf_26 rfl (lv_at hl 3 rfl) ?_
  refine lv_iconst (v := (1 : Int32)) hx hb dX12_wouldOf_27 (by decide +kernel) ?_
  obtain ⟨r12, hr11, h⟩ := zb1 h
  refine z_runi (va_runV (As := [.int v1, .int (1 : Int32)]) (rest := [.int (2 : Int32), .ref (B + (zr S0 a0 0))]) ⟨hx, hb, hml, hown, hg⟩ (c_X12_get l D cy B ha0 hr11) (z_cwV hg zw_1163 zw_1164 zw_1487 zw_13 zw_1165 zh_X12_get ⟨by show 0 + 1 ≤ 2 * dd + 2; omega, by show 8 + (3 + 11) + 0 ≤ 50 * dd + 50; omega⟩) (zPV hC hM ha0 (by decide) rfl) rfl rfl hl.1 rfl (lv_room (Nat.le_of_ble_eq_true rfl)) dX12_wouldOf_28 ⟨(Nat.le_of_ble_eq_true rfl), (Nat.le_of_ble_eq_true rfl)⟩) hS (fun H locs hM hX13 hS => ?_)
  refine lv_imul hx hb dX12_wouldOf_31 ?_
  obtain ⟨hq15, h⟩ := zk h
  refine z_iald hx hb hK hM h9 hq15 dX12_wouldOf_32 ?_
  refine lv_istore (i := 5) (lv' := [(5, .int (zi S0 (zr S0 a0 0) (Int32.toNatClampNeg ((2 : Int32) * r12)))), (4, .int ((16 : Int32) + ((4 : Int32) * r6))), (3, .int r6), (0, .ref (B + a0)), (1, .int v1), (2, .int v2)]) hx hb dX12_wouldOf_33 hl (by decide) rfl (fun ls hl => ?_)
  refine lv_aload_n hx hb dX12_wouldOf_35 rfl (lv_at hl 3 rfl) ?_
  refine lv_iload_n hx hb dX12_wouldOf_36 rfl (lv_at hl 4 rfl) ?_
  refine lv_iload_n hx hb dX12_wouldOf_37 rfl (lv_at hl 5 rfl) ?_
  refine lv_aload_n hx hb dX12_wouldOf_38 rfl (lv_at hl 3 rfl) ?_
  refine z_getN hx hb hg zin_12 hown hK hM ha0 0 rfl (by decide) (hg _ zw_1000) (fun _ h9 => h9) h9.ne dX12_wouldOf_39 (fun h16 => ?_)
  refine lv_iload hx hb dX12_wouldOf_42 (lv_at hl 1 rfl) ?_
  obtain ⟨hq17, h⟩ := zk h
  refine z_iald hx hb hK hM h16 hq17 dX12_wouldOf_44 ?_
  refine lv_bipush (v := (7 : Int32)) hx hb dX12_wouldOf_45 (by decide +kernel) ?_
  obtain ⟨K21, eK21, h⟩ := zlg h
  have hK21 : ∀ (x19 : Int32) (H : Heap) (locs : List Loc), zMR D cy B S0 H → zX S0 S0 → va_S (fun q => B < q) s.heap H locs → zA S0 a0 12 → ∀ ls : Array Slot, lv_has ls 8 [(0, .ref (B + a0)), (1, .int v1), (4, .int ((16 : Int32) + ((4 : Int32) * r6))), (5, .int (zi S0 (zr S0 a0 0) (Int32.toNatClampNeg ((2 : Int32) * r12))))] → K21 x19 = some (r, S') → W p l e (headSpec (zws yX12_wouldOf cX12_wouldOf 8 ((some .int))) { frames := 2 * dd + 2, cells := 0, slots := 0, locals := 50 * dd + 50 }).room s m (([.ref (B + a0), .int v1, .int v2] : List Value).toArray) below meth c H locs 0 0 (MQ below (zQi D cy B S0 r S') (([.ref (B + a0), .int v1, .int v2] : List Value).toArray) s 0 0 (fun q => B < q)) (F0 m 55 ls [.int x19, .int v2, .int v1, .ref (B + a0)]) := by
    intro x19 H locs hM hX20 hS h18 ls hl h
    rw [eK21] at h
    obtain ⟨r23, hr22, h⟩ := zb1 h
    refine z_runi (va_runV (As := [.int v1, .int v2, .int x19]) (rest := []) ⟨hx, hb, hml, hown, hg⟩ (c_X12_lessOff l D cy B h18 hr22) (z_cwV hg zw_1186 zw_1187 zw_1491 zw_13 zw_1188 zh_X12_lessOff ⟨by show 1 + 1 ≤ 2 * dd + 2; omega, by show 8 + (6 + 11) + 22 ≤ 50 * dd + 50; omega⟩) (zPV hC hM h18 (by decide) rfl) rfl rfl hl.1 rfl (lv_room (Nat.le_of_ble_eq_true rfl)) dX12_wouldOf_55 ⟨(Nat.le_of_ble_eq_true rfl), (Nat.le_of_ble_eq_true rfl)⟩) hS (fun H locs hM hX24 hS => ?_)
    refine lv_istore (i := 6) (lv' := [(6, .int r23), (0, .ref (B + a0)), (1, .int v1), (4, .int ((16 : Int32) + ((4 : Int32) * r6))), (5, .int (zi S0 (zr S0 a0 0) (Int32.toNatClampNeg ((2 : Int32) * r12))))]) hx hb dX12_wouldOf_58 hl (by decide) rfl (fun ls hl => ?_)
    refine lv_aload_n hx hb dX12_wouldOf_60 rfl (lv_at hl 1 rfl) ?_
    obtain ⟨hq27, h⟩ := zk h
    refine z_getN hx hb hg zin_12 hown hK hM h18 0 rfl (by decide) (hg _ zw_1000) (fun _ h9 => h9) hq27 dX12_wouldOf_61 (fun h26 => ?_)
    refine lv_iload hx hb dX12_wouldOf_64 (lv_at hl 3 rfl) ?_
    obtain ⟨hq28, h⟩ := zk h
    refine z_iald hx hb hK hM h26 hq28 dX12_wouldOf_66 ?_
    by_cases hc29 : (zi S0 (zr S0 a0 0) (Int32.toNatClampNeg ((16 : Int32) + ((4 : Int32) * r6)))) = (1 : Int32)
    · refine z_tin (off := 33) hx hb hc29 dX12_wouldOf_67 (by decide +kernel) (tgt := 100) (by decide) ?_
      have h := zt h hc29
      refine lv_iload hx hb dX12_wouldOf_100 (lv_at hl 0 rfl) ?_
      refine lv_iconst (v := (2 : Int32)) hx hb dX12_wouldOf_102 (by decide +kernel) ?_
      refine lv_irem hx hb dX12_wouldOf_103 (by decide +kernel) ?_
      obtain ⟨K32, eK32, h⟩ := zlg h
      have hK32 : ∀ (x30 : Int32) (H : Heap) (locs : List Loc), zMR D cy B S0 H → zX S0 S0 → va_S (fun q => B < q) s.heap H locs → ∀ ls : Array Slot, lv_has ls 8 [] → K32 x30 = some (r, S') → W p l e (headSpec (zws yX12_wouldOf cX12_wouldOf 8 ((some .int))) { frames := 2 * dd + 2, cells := 0, slots := 0, locals := 50 * dd + 50 }).room s m (([.ref (B + a0), .int v1, .int v2] : List Value).toArray) below meth c H locs 0 0 (MQ below (zQi D cy B S0 r S') (([.ref (B + a0), .int v1, .int v2] : List Value).toArray) s 0 0 (fun q => B < q)) (F0 m 116 ls [.int x30]) := by
        intro x30 H locs hM hX31 hS ls hl h
        rw [eK32] at h
        obtain ⟨r34, hr33, h⟩ := zlg h
        have hr33 := hr33.symm
        refine z_runi (va_runS (As := [.int x30]) (rest := []) ⟨hx, hb, hml, hown, hg⟩ (c_X12_held l D cy B hr33) (z_cwS hg zw_1189 zw_1190 zw_13 zw_1191 zh_X12_held.2 ⟨by show 0 + 1 ≤ 2 * dd + 2; omega, by show 8 + (1 + 11) + 0 ≤ 50 * dd + 50; omega⟩) (zPS hC hM) rfl rfl hl.1 rfl (lv_room (Nat.le_of_ble_eq_true rfl)) dX12_wouldOf_116 ⟨(Nat.le_of_ble_eq_true rfl), (Nat.le_of_ble_eq_true rfl)⟩) hS (fun H locs hM hX35 hS => ?_)
        exact z_iret hx hb hr hlk hM hX31 hS (zsp h) dX12_wouldOf_119
      refine lv_if_ne (tgt := 112) hx hb dX12_wouldOf_104 (by decide) (fun hc37 => ?_) (fun hc37 => ?_)
      · have h := zf h hc37
        refine lv_iload hx hb dX12_wouldOf_112 (lv_at hl 0 rfl) ?_
        refine lv_iconst (v := (1 : Int32)) hx hb dX12_wouldOf_114 (by decide +kernel) ?_
        refine lv_isub hx hb dX12_wouldOf_115 ?_
        exact hK32 (r23 - (1 : Int32)) _ _ hM hX20 hS _ (lv_sub hl [] rfl) h
      · have h := zt h hc37
        refine lv_iload hx hb dX12_wouldOf_107 (lv_at hl 0 rfl) ?_
        refine lv_goto (tgt := 116) hx hb dX12_wouldOf_109 (by decide) ?_
        exact hK32 r23 _ _ hM hX20 hS _ (lv_sub hl [] rfl) h
    · have h := zf h hc29
      by_cases hc38 : (zi S0 (zr S0 a0 0) (Int32.toNatClampNeg ((16 : Int32) + ((4 : Int32) * r6)))) = (2 : Int32)
      · refine z_tin (off := 53) hx hb hc38 dX12_wouldOf_67 (by decide +kernel) (tgt := 120) (by decide) ?_
        have h := zt h hc38
        refine lv_iload hx hb dX12_wouldOf_120 (lv_at hl 4 rfl) ?_
        refine lv_aload_n hx hb dX12_wouldOf_122 rfl (lv_at hl 1 rfl) ?_
        refine z_getN hx hb hg zin_12 hown hK hM h18 0 rfl (by decide) (hg _ zw_1000) (fun _ h9 => h9) h26.ne dX12_wouldOf_123 (fun h39 => ?_)
        refine lv_iload hx hb dX12_wouldOf_126 (lv_at hl 3 rfl) ?_
        refine lv_iconst (v := (1 : Int32)) hx hb dX12_wouldOf_128 (by decide +kernel) ?_
        refine lv_iadd hx hb dX12_wouldOf_129 ?_
        obtain ⟨hq40, h⟩ := zk h
        refine z_iald hx hb hK hM h39 hq40 dX12_wouldOf_130 ?_
        obtain ⟨K43, eK43, h⟩ := zlg h
        have hK43 : ∀ (x41 : Int32) (H : Heap) (locs : List Loc), zMR D cy B S0 H → zX S0 S0 → va_S (fun q => B < q) s.heap H locs → ∀ ls : Array Slot, lv_has ls 8 [] → K43 x41 = some (r, S') → W p l e (headSpec (zws yX12_wouldOf cX12_wouldOf 8 ((some .int))) { frames := 2 * dd + 2, cells := 0, slots := 0, locals := 50 * dd + 50 }).room s m (([.ref (B + a0), .int v1, .int v2] : List Value).toArray) below meth c H locs 0 0 (MQ below (zQi D cy B S0 r S') (([.ref (B + a0), .int v1, .int v2] : List Value).toArray) s 0 0 (fun q => B < q)) (F0 m 151 ls [.int x41]) := by
          intro x41 H locs hM hX42 hS ls hl h
          rw [eK43] at h
          obtain ⟨r45, hr44, h⟩ := zlg h
          have hr44 := hr44.symm
          refine z_runi (va_runS (As := [.int x41]) (rest := []) ⟨hx, hb, hml, hown, hg⟩ (c_X12_held l D cy B hr44) (z_cwS hg zw_1189 zw_1190 zw_13 zw_1191 zh_X12_held.2 ⟨by show 0 + 1 ≤ 2 * dd + 2; omega, by show 8 + (1 + 11) + 0 ≤ 50 * dd + 50; omega⟩) (zPS hC hM) rfl rfl hl.1 rfl (lv_room (Nat.le_of_ble_eq_true rfl)) dX12_wouldOf_151 ⟨(Nat.le_of_ble_eq_true rfl), (Nat.le_of_ble_eq_true rfl)⟩) hS (fun H locs hM hX46 hS => ?_)
          exact z_iret hx hb hr hlk hM hX42 hS (zsp h) dX12_wouldOf_154
        refine lv_icmp_ne (tgt := 149) hx hb dX12_wouldOf_131 (by decide) (fun hc48 => ?_) (fun hc48 => ?_)
        · have h := zf h hc48
          refine lv_iload hx hb dX12_wouldOf_149 (lv_at hl 0 rfl) ?_
          exact hK43 r23 _ _ hM hX20 hS _ (lv_sub hl [] rfl) h
        · have h := zt h hc48
          refine lv_iload hx hb dX12_wouldOf_134 (lv_at hl 0 rfl) ?_
          refine lv_aload_n hx hb dX12_wouldOf_136 rfl (lv_at hl 1 rfl) ?_
          refine z_getN hx hb hg zin_12 hown hK hM h18 0 rfl (by decide) (hg _ zw_1000) (fun _ h9 => h9) h39.ne dX12_wouldOf_137 (fun h49 => ?_)
          refine lv_iload hx hb dX12_wouldOf_140 (lv_at hl 3 rfl) ?_
          refine lv_iconst (v := (2 : Int32)) hx hb dX12_wouldOf_142 (by decide +kernel) ?_
          refine lv_iadd hx hb dX12_wouldOf_143 ?_
          obtain ⟨hq50, h⟩ := zk h
          refine z_iald hx hb hK hM h49 hq50 dX12_wouldOf_144 ?_
          refine lv_iadd hx hb dX12_wouldOf_145 ?_
          refine lv_goto (tgt := 151) hx hb dX12_wouldOf_146 (by decide) ?_
          exact hK43 (r23 + (zi S0 (zr S0 a0 0) (Int32.toNatClampNeg (((16 : Int32) + ((4 : Int32) * r6)) + (2 : Int32))))) _ _ hM hX20 hS _ (lv_sub hl [] rfl) h
      · have h := zf h hc38
        by_cases hc51 : (zi S0 (zr S0 a0 0) (Int32.toNatClampNeg ((16 : Int32) + ((4 : Int32) * r6)))) = (3 : Int32)
        · refine z_tin (off := 88) hx hb hc51 dX12_wouldOf_67 (by decide +kernel) (tgt := 155) (by decide) ?_
          have h := zt h hc51
          refine lv_iload hx hb dX12_wouldOf_155 (lv_at hl 4 rfl) ?_
          refine lv_aload_n hx hb dX12_wouldOf_157 rfl (lv_at hl 1 rfl) ?_
          refine z_getN hx hb hg zin_12 hown hK hM h18 0 rfl (by decide) (hg _ zw_1000) (fun _ h9 => h9) h26.ne dX12_wouldOf_158 (fun h52 => ?_)
          refine lv_iload hx hb dX12_wouldOf_161 (lv_at hl 3 rfl) ?_
          refine lv_iconst (v := (1 : Int32)) hx hb dX12_wouldOf_163 (by decide +kernel) ?_
          refine lv_iadd hx hb dX12_wouldOf_164 ?_
          obtain ⟨hq53, h⟩ := zk h
          refine z_iald hx hb hK hM h52 hq53 dX12_wouldOf_165 ?_
          obtain ⟨K56, eK56, h⟩ := zlg h
          have hK56 : ∀ (x54 : Int32) (H : Heap) (locs : List Loc), zMR D cy B S0 H → zX S0 S0 → va_S (fun q => B < q) s.heap H locs → ∀ ls : Array Slot, lv_has ls 8 [] → K56 x54 = some (r, S') → W p l e (headSpec (zws yX12_wouldOf cX12_wouldOf 8 ((some .int))) { frames := 2 * dd + 2, cells := 0, slots := 0, locals := 50 * dd + 50 }).room s m (([.ref (B + a0), .int v1, .int v2] : List Value).toArray) below meth c H locs 0 0 (MQ below (zQi D cy B S0 r S') (([.ref (B + a0), .int v1, .int v2] : List Value).toArray) s 0 0 (fun q => B < q)) (F0 m 200 ls [.int x54]) := by
            intro x54 H locs hM hX55 hS ls hl h
            rw [eK56] at h
            obtain ⟨r58, hr57, h⟩ := zlg h
            have hr57 := hr57.symm
            refine z_runi (va_runS (As := [.int x54]) (rest := []) ⟨hx, hb, hml, hown, hg⟩ (c_X12_held l D cy B hr57) (z_cwS hg zw_1189 zw_1190 zw_13 zw_1191 zh_X12_held.2 ⟨by show 0 + 1 ≤ 2 * dd + 2; omega, by show 8 + (1 + 11) + 0 ≤ 50 * dd + 50; omega⟩) (zPS hC hM) rfl rfl hl.1 rfl (lv_room (Nat.le_of_ble_eq_true rfl)) dX12_wouldOf_200 ⟨(Nat.le_of_ble_eq_true rfl), (Nat.le_of_ble_eq_true rfl)⟩) hS (fun H locs hM hX59 hS => ?_)
            exact z_iret hx hb hr hlk hM hX55 hS (zsp h) dX12_wouldOf_203
          obtain ⟨K63, eK63, h⟩ := zlg h
          have hK63 : ∀ (H : Heap) (locs : List Loc), zMR D cy B S0 H → zX S0 S0 → va_S (fun q => B < q) s.heap H locs → zA S0 a0 12 → ∀ ls : Array Slot, lv_has ls 8 [(0, .ref (B + a0)), (4, .int ((16 : Int32) + ((4 : Int32) * r6))), (6, .int r23)] → K63 = some (r, S') → W p l e (headSpec (zws yX12_wouldOf cX12_wouldOf 8 ((some .int))) { frames := 2 * dd + 2, cells := 0, slots := 0, locals := 50 * dd + 50 }).room s m (([.ref (B + a0), .int v1, .int v2] : List Value).toArray) below meth c H locs 0 0 (MQ below (zQi D cy B S0 r S') (([.ref (B + a0), .int v1, .int v2] : List Value).toArray) s 0 0 (fun q => B < q)) (F0 m 183 ls []) := by
            intro H locs hM hX62 hS h61 ls hl h
            rw [eK63] at h
            refine lv_iload hx hb dX12_wouldOf_183 (lv_at hl 2 rfl) ?_
            refine lv_aload_n hx hb dX12_wouldOf_185 rfl (lv_at hl 0 rfl) ?_
            obtain ⟨hq65, h⟩ := zk h
            refine z_getN hx hb hg zin_12 hown hK hM h61 0 rfl (by decide) (hg _ zw_1000) (fun _ h9 => h9) hq65 dX12_wouldOf_186 (fun h64 => ?_)
            refine lv_iload hx hb dX12_wouldOf_189 (lv_at hl 1 rfl) ?_
            refine lv_iconst (v := (2 : Int32)) hx hb dX12_wouldOf_191 (by decide +kernel) ?_
            refine lv_iadd hx hb dX12_wouldOf_192 ?_
            obtain ⟨hq66, h⟩ := zk h
            refine z_iald hx hb hK hM h64 hq66 dX12_wouldOf_193 ?_
            refine lv_iadd hx hb dX12_wouldOf_194 ?_
            refine lv_goto (tgt := 200) hx hb dX12_wouldOf_195 (by decide) ?_
            exact hK56 (r23 + (zi S0 (zr S0 a0 0) (Int32.toNatClampNeg (((16 : Int32) + ((4 : Int32) * r6)) + (2 : Int32))))) _ _ hM hX62 hS _ (lv_sub hl [] rfl) h
          refine lv_icmp_eq (tgt := 183) hx hb dX12_wouldOf_166 (by decide) (fun hc67 => ?_) (fun hc67 => ?_)
          · have h := zt h hc67
            exact hK63 _ _ hM hX20 hS h18 _ (lv_sub hl [1, 3, 0] rfl) h
          · have h := zf h hc67
            refine lv_iload hx hb dX12_wouldOf_169 (lv_at hl 4 rfl) ?_
            refine lv_aload_n hx hb dX12_wouldOf_171 rfl (lv_at hl 1 rfl) ?_
            refine z_getN hx hb hg zin_12 hown hK hM h18 0 rfl (by decide) (hg _ zw_1000) (fun _ h9 => h9) h52.ne dX12_wouldOf_172 (fun h68 => ?_)
            refine lv_iload hx hb dX12_wouldOf_175 (lv_at hl 3 rfl) ?_
            refine lv_iconst (v := (3 : Int32)) hx hb dX12_wouldOf_177 (by decide +kernel) ?_
            refine lv_iadd hx hb dX12_wouldOf_178 ?_
            obtain ⟨hq69, h⟩ := zk h
            refine z_iald hx hb hK hM h68 hq69 dX12_wouldOf_179 ?_
            refine lv_icmp_ne (tgt := 198) hx hb dX12_wouldOf_180 (by decide) (fun hc70 => ?_) (fun hc70 => ?_)
            · have h := zf h hc70
              refine lv_iload hx hb dX12_wouldOf_198 (lv_at hl 0 rfl) ?_
              exact hK56 r23 _ _ hM hX20 hS _ (lv_sub hl [] rfl) h
            · have h := zt h hc70
              exact hK63 _ _ hM hX20 hS h18 _ (lv_sub hl [1, 3, 0] rfl) h
        · have h := zf h hc51
          by_cases hc71 : (zi S0 (zr S0 a0 0) (Int32.toNatClampNeg ((16 : Int32) + ((4 : Int32) * r6)))) = (4 : Int32)
          · refine z_tin (off := 137) hx hb hc71 dX12_wouldOf_67 (by decide +kernel) (tgt := 204) (by decide) ?_
            have h := zt h hc71
            refine lv_aload_n hx hb dX12_wouldOf_204 rfl (lv_at hl 1 rfl) ?_
            refine lv_iload_n hx hb dX12_wouldOf_205 rfl (lv_at hl 2 rfl) ?_
            obtain ⟨r73, hr72, h⟩ := zb1 h
            refine z_runi (va_runV (As := [.int v1]) (rest := []) ⟨hx, hb, hml, hown, hg⟩ (c_X12_aheadOf l D cy B h18 hr72) (z_cwV hg zw_1192 zw_1193 zw_1492 zw_13 zw_1194 zh_X12_aheadOf ⟨by show 1 + 1 ≤ 2 * dd + 2; omega, by show 8 + (3 + 11) + 22 ≤ 50 * dd + 50; omega⟩) (zPV hC hM h18 (by decide) rfl) rfl rfl hl.1 rfl (lv_room (Nat.le_of_ble_eq_true rfl)) dX12_wouldOf_206 ⟨(Nat.le_of_ble_eq_true rfl), (Nat.le_of_ble_eq_true rfl)⟩) hS (fun H locs hM hX74 hS => ?_)
            refine lv_istore (i := 7) (lv' := [(7, .int r73), (6, .int r23), (0, .ref (B + a0)), (1, .int v1), (4, .int ((16 : Int32) + ((4 : Int32) * r6))), (5, .int (zi S0 (zr S0 a0 0) (Int32.toNatClampNeg ((2 : Int32) * r12))))]) hx hb dX12_wouldOf_209 hl (by decide) rfl (fun ls hl => ?_)
            refine lv_iload hx hb dX12_wouldOf_211 (lv_at hl 1 rfl) ?_
            refine lv_aload_n hx hb dX12_wouldOf_213 rfl (lv_at hl 2 rfl) ?_
            refine z_getN hx hb hg zin_12 hown hK hM h18 0 rfl (by decide) (hg _ zw_1000) (fun _ h9 => h9) h26.ne dX12_wouldOf_214 (fun h76 => ?_)
            refine lv_iconst (v := (2 : Int32)) hx hb dX12_wouldOf_217 (by decide +kernel) ?_
            refine lv_aload_n hx hb dX12_wouldOf_218 rfl (lv_at hl 2 rfl) ?_
            refine lv_iload_n hx hb dX12_wouldOf_219 rfl (lv_at hl 3 rfl) ?_
            refine lv_iconst (v := (1 : Int32)) hx hb dX12_wouldOf_220 (by decide +kernel) ?_
            obtain ⟨r78, hr77, h⟩ := zb1 h
            refine z_runi (va_runV (As := [.int v1, .int (1 : Int32)]) (rest := [.int (2 : Int32), .ref (B + (zr S0 a0 0)), .int r23]) ⟨hx, hb, hml, hown, hg⟩ (c_X12_get l D cy B h18 hr77) (z_cwV hg zw_1163 zw_1164 zw_1487 zw_13 zw_1165 zh_X12_get ⟨by show 0 + 1 ≤ 2 * dd + 2; omega, by show 8 + (3 + 11) + 0 ≤ 50 * dd + 50; omega⟩) (zPV hC hM h18 (by decide) rfl) rfl rfl hl.1 rfl (lv_room (Nat.le_of_ble_eq_true rfl)) dX12_wouldOf_221 ⟨(Nat.le_of_ble_eq_true rfl), (Nat.le_of_ble_eq_true rfl)⟩) hS (fun H locs hM hX79 hS => ?_)
            refine lv_imul hx hb dX12_wouldOf_224 ?_
            refine lv_iconst (v := (1 : Int32)) hx hb dX12_wouldOf_225 (by decide +kernel) ?_
            refine lv_iadd hx hb dX12_wouldOf_226 ?_
            obtain ⟨hq81, h⟩ := zk h
            refine z_iald hx hb hK hM h76 hq81 dX12_wouldOf_227 ?_
            refine lv_iconst (v := (2 : Int32)) hx hb dX12_wouldOf_228 (by decide +kernel) ?_
            refine lv_idiv hx hb dX12_wouldOf_229 (by decide +kernel) ?_
            refine lv_iadd hx hb dX12_wouldOf_230 ?_
            refine lv_iload hx hb dX12_wouldOf_231 (lv_at hl 0 rfl) ?_
            obtain ⟨K84, eK84, h⟩ := zlg h
            have hK84 : ∀ (x82 : Int32) (H : Heap) (locs : List Loc), zMR D cy B S0 H → zX S0 S0 → va_S (fun q => B < q) s.heap H locs → ∀ ls : Array Slot, lv_has ls 8 [] → K84 x82 = some (r, S') → W p l e (headSpec (zws yX12_wouldOf cX12_wouldOf 8 ((some .int))) { frames := 2 * dd + 2, cells := 0, slots := 0, locals := 50 * dd + 50 }).room s m (([.ref (B + a0), .int v1, .int v2] : List Value).toArray) below meth c H locs 0 0 (MQ below (zQi D cy B S0 r S') (([.ref (B + a0), .int v1, .int v2] : List Value).toArray) s 0 0 (fun q => B < q)) (F0 m 252 ls [.int x82, .int (r23 + ((zi S0 (zr S0 a0 0) (Int32.toNatClampNeg (((2 : Int32) * r78) + (1 : Int32)))) / (2 : Int32)))]) := by
              intro x82 H locs hM hX83 hS ls hl h
              rw [eK84] at h
              refine lv_iadd hx hb dX12_wouldOf_252 ?_
              obtain ⟨r86, hr85, h⟩ := zlg h
              have hr85 := hr85.symm
              refine z_runi (va_runS (As := [.int ((r23 + ((zi S0 (zr S0 a0 0) (Int32.toNatClampNeg (((2 : Int32) * r78) + (1 : Int32)))) / (2 : Int32))) + x82)]) (rest := []) ⟨hx, hb, hml, hown, hg⟩ (c_X12_held l D cy B hr85) (z_cwS hg zw_1189 zw_1190 zw_13 zw_1191 zh_X12_held.2 ⟨by show 0 + 1 ≤ 2 * dd + 2; omega, by show 8 + (1 + 11) + 0 ≤ 50 * dd + 50; omega⟩) (zPS hC hM) rfl rfl hl.1 rfl (lv_room (Nat.le_of_ble_eq_true rfl)) dX12_wouldOf_253 ⟨(Nat.le_of_ble_eq_true rfl), (Nat.le_of_ble_eq_true rfl)⟩) hS (fun H locs hM hX87 hS => ?_)
              exact z_iret hx hb hr hlk hM hX83 hS (zsp h) dX12_wouldOf_256
            obtain ⟨K90, eK90, h⟩ := zlg h
            have hK90 : ∀ (H : Heap) (locs : List Loc), zMR D cy B S0 H → zX S0 S0 → va_S (fun q => B < q) s.heap H locs → ∀ ls : Array Slot, lv_has ls 8 [] → K90 = some (r, S') → W p l e (headSpec (zws yX12_wouldOf cX12_wouldOf 8 ((some .int))) { frames := 2 * dd + 2, cells := 0, slots := 0, locals := 50 * dd + 50 }).room s m (([.ref (B + a0), .int v1, .int v2] : List Value).toArray) below meth c H locs 0 0 (MQ below (zQi D cy B S0 r S') (([.ref (B + a0), .int v1, .int v2] : List Value).toArray) s 0 0 (fun q => B < q)) (F0 m 251 ls [.int (r23 + ((zi S0 (zr S0 a0 0) (Int32.toNatClampNeg (((2 : Int32) * r78) + (1 : Int32)))) / (2 : Int32)))]) := by
              intro H locs hM hX89 hS ls hl h
              rw [eK90] at h
              refine lv_iconst (v := (0 : Int32)) hx hb dX12_wouldOf_251 (by decide +kernel) ?_
              exact hK84 (0 : Int32) _ _ hM hX89 hS _ (lv_sub hl [] rfl) h
            refine lv_if_lt (tgt := 251) hx hb dX12_wouldOf_233 (by decide) (fun hc91 => ?_) (fun hc91 => ?_)
            · have h := zt h hc91
              exact hK90 _ _ hM hX20 hS _ (lv_sub hl [] rfl) h
            · have h := zf h hc91
              refine lv_aload_n hx hb dX12_wouldOf_236 rfl (lv_at hl 2 rfl) ?_
              refine lv_iload hx hb dX12_wouldOf_237 (lv_at hl 0 rfl) ?_
              obtain ⟨r93, hr92, h⟩ := zb1 h
              refine z_runi (va_runV (As := [.int r73]) (rest := [.int (r23 + ((zi S0 (zr S0 a0 0) (Int32.toNatClampNeg (((2 : Int32) * r78) + (1 : Int32)))) / (2 : Int32)))]) ⟨hx, hb, hml, hown, hg⟩ (c_X12_worth l D cy B h18 hr92) (z_cwV hg zw_1166 zw_1167 zw_1488 zw_13 zw_1168 zh_X12_worth ⟨by show 1 + 1 ≤ 2 * dd + 2; omega, by show 8 + (4 + 11) + 22 ≤ 50 * dd + 50; omega⟩) (zPV hC hM h18 (by decide) rfl) rfl rfl hl.1 rfl (lv_room (Nat.le_of_ble_eq_true rfl)) dX12_wouldOf_239 ⟨(Nat.le_of_ble_eq_true rfl), (Nat.le_of_ble_eq_true rfl)⟩) hS (fun H locs hM hX94 hS => ?_)
              refine lv_bipush (v := (15 : Int32)) hx hb dX12_wouldOf_242 (by decide +kernel) ?_
              refine lv_icmp_lt (tgt := 251) hx hb dX12_wouldOf_244 (by decide) (fun hc96 => ?_) (fun hc96 => ?_)
              · have h := zt h hc96
                exact hK90 _ _ hM hX20 hS _ (lv_sub hl [] rfl) h
              · have h := zf h hc96
                refine lv_iconst (v := (1 : Int32)) hx hb dX12_wouldOf_247 (by decide +kernel) ?_
                refine lv_goto (tgt := 252) hx hb dX12_wouldOf_248 (by decide) ?_
                exact hK84 (1 : Int32) _ _ hM hX20 hS _ (lv_sub hl [] rfl) h
          · have h := zf h hc71
            by_cases hc97 : (zi S0 (zr S0 a0 0) (Int32.toNatClampNeg ((16 : Int32) + ((4 : Int32) * r6)))) = (5 : Int32)
            · refine z_tin (off := 190) hx hb hc97 dX12_wouldOf_67 (by decide +kernel) (tgt := 257) (by decide) ?_
              have h := zt h hc97
              refine lv_aload_n hx hb dX12_wouldOf_257 rfl (lv_at hl 1 rfl) ?_
              refine lv_iload_n hx hb dX12_wouldOf_258 rfl (lv_at hl 2 rfl) ?_
              obtain ⟨r99, S100, hr98, h⟩ := zb2 h
              refine z_runi (va_runV (As := [.int v1]) (rest := []) ⟨hx, hb, hml, hown, hg⟩ (c_X12_middleWould l D cy B dd hrc h18 hr98) (z_cwV hg zw_1195 zw_1196 zw_1493 zw_13 zw_1197 zh_X12_middleWould ⟨by show 2 * dd + 1 + 1 ≤ 2 * dd + 2; omega, by show 8 + (4 + 11) + (50 * dd + 27) ≤ 50 * dd + 50; omega⟩) (zPV hC hM h18 (by decide) rfl) rfl rfl hl.1 rfl (lv_room (Nat.le_of_ble_eq_true rfl)) dX12_wouldOf_259 ⟨(Nat.le_of_ble_eq_true rfl), (Nat.le_of_ble_eq_true rfl)⟩) hS (fun H locs hM hX101 hS => ?_)
              have hX103 := hX20.tr hX101
              refine lv_istore (i := 7) (lv' := [(7, .int r99), (6, .int r23), (0, .ref (B + a0)), (1, .int v1), (4, .int ((16 : Int32) + ((4 : Int32) * r6))), (5, .int (zi S0 (zr S0 a0 0) (Int32.toNatClampNeg ((2 : Int32) * r12))))]) hx hb dX12_wouldOf_262 hl (by decide) rfl (fun ls hl => ?_)
              refine lv_iload hx hb dX12_wouldOf_264 (lv_at hl 0 rfl) ?_
              refine lv_bipush (v := (-4 : Int32)) hx hb dX12_wouldOf_266 (by decide +kernel) ?_
              refine lv_icmp_ne (tgt := 279) hx hb dX12_wouldOf_268 (by decide) (fun hc104 => ?_) (fun hc104 => ?_)
              · have h := zf h hc104
                refine lv_iload hx hb dX12_wouldOf_279 (lv_at hl 0 rfl) ?_
                exact z_iret hx hb hr hlk hM hX103 hS (zsp h) dX12_wouldOf_281
              · have h := zt h hc104
                refine lv_iload hx hb dX12_wouldOf_271 (lv_at hl 1 rfl) ?_
                obtain ⟨r106, hr105, h⟩ := zlg h
                have hr105 := hr105.symm
                refine z_runi (va_runS (As := [.int r23]) (rest := []) ⟨hx, hb, hml, hown, hg⟩ (c_X12_held l D cy B hr105) (z_cwS hg zw_1189 zw_1190 zw_13 zw_1191 zh_X12_held.2 ⟨by show 0 + 1 ≤ 2 * dd + 2; omega, by show 8 + (1 + 11) + 0 ≤ 50 * dd + 50; omega⟩) (zPS hC hM) rfl rfl hl.1 rfl (lv_room (Nat.le_of_ble_eq_true rfl)) dX12_wouldOf_273 ⟨(Nat.le_of_ble_eq_true rfl), (Nat.le_of_ble_eq_true rfl)⟩) hS (fun H locs hM hX107 hS => ?_)
                refine lv_goto (tgt := 281) hx hb dX12_wouldOf_276 (by decide) ?_
                exact z_iret hx hb hr hlk hM hX103 hS (zsp h) dX12_wouldOf_281
            · have h := zf h hc97
              refine lv_tableOut hx hb dX12_wouldOf_67 (by have := lv_neT hc29 (a := 1) (by decide +kernel); have := lv_neT hc38 (a := 2) (by decide +kernel); have := lv_neT hc51 (a := 3) (by decide +kernel); have := lv_neT hc71 (a := 4) (by decide +kernel); have := lv_neT hc97 (a := 5) (by decide +kernel); omega) (tgt := 282) (by decide) ?_
              refine lv_iload hx hb dX12_wouldOf_282 (lv_at hl 0 rfl) ?_
              obtain ⟨r110, hr109, h⟩ := zlg h
              have hr109 := hr109.symm
              refine z_runi (va_runS (As := [.int r23]) (rest := []) ⟨hx, hb, hml, hown, hg⟩ (c_X12_held l D cy B hr109) (z_cwS hg zw_1189 zw_1190 zw_13 zw_1191 zh_X12_held.2 ⟨by show 0 + 1 ≤ 2 * dd + 2; omega, by show 8 + (1 + 11) + 0 ≤ 50 * dd + 50; omega⟩) (zPS hC hM) rfl rfl hl.1 rfl (lv_room (Nat.le_of_ble_eq_true rfl)) dX12_wouldOf_284 ⟨(Nat.le_of_ble_eq_true rfl), (Nat.le_of_ble_eq_true rfl)⟩) hS (fun H locs hM hX111 hS => ?_)
              exact z_iret hx hb hr hlk hM hX20 hS (zsp h) dX12_wouldOf_287
  refine lv_icmp_ne (tgt := 54) hx hb dX12_wouldOf_47 (by decide) (fun hc113 => ?_) (fun hc113 => ?_)
  · have h := zf h hc113
    refine lv_iconst (v := (0 : Int32)) hx hb dX12_wouldOf_54 (by decide +kernel) ?_
    exact hK21 (0 : Int32) _ _ hM hX0 hS ha0 _ (lv_sub hl [3, 4, 1, 0] rfl) h
  · have h := zt h hc113
    refine lv_iconst (v := (1 : Int32)) hx hb dX12_wouldOf_50 (by decide +kernel) ?_
    refine lv_goto (tgt := 55) hx hb dX12_wouldOf_51 (by decide) ?_
    exact hK21 (1 : Int32) _ _ hM hX0 hS ha0 _ (lv_sub hl [3, 4, 1, 0] rfl) h
theorem k_X12_wouldOf (l : Launch) (D : va_G) (cy : Nat → ClassId) (B n : Nat) : ∀ (dd : Nat) {S : zM} {b0 : Nat} {b1 : Int32} {b2 : Int32} {q : Int32} {S1 : zM}, zA S b0 12 →  f_X12_wouldOf n dd S b0 b1 b2 = some (q, S1) → Met l yX12_wouldOf (zws yX12_wouldOf cX12_wouldOf 8 ((some .int))) { frames := 2 * dd, cells := 0, slots := 0, locals := 50 * dd } (zPc D cy B S [.ref (B + b0), .int b1, .int b2]) (zQi D cy B S q S1) 0 0 (fun q => B < q) := by
  intro dd
  induction dd with
  | zero =>
    intro S _ _ _ _ _ g0 h
    exact znone h
  | succ dd ih =>
    intro S _ _ _ _ _ g0 h
    exact c_X12_wouldOfO l D cy B dd @ih g0 h
theorem c_X12_wouldOf (l : Launch) (D : va_G) (cy : Nat → ClassId) (B : Nat) {n : Nat} : ∀ {S : zM} {b0 : Nat} {b1 : Int32} {b2 : Int32} {q : Int32} {S1 : zM}, zA S b0 12 →  f_X12_wouldOf n 3 S b0 b1 b2 = some (q, S1) → Met l yX12_wouldOf (zws yX12_wouldOf cX12_wouldOf 8 ((some .int))) { frames := 6, cells := 0, slots := 0, locals := 150 } (zPc D cy B S [.ref (B + b0), .int b1, .int b2]) (zQi D cy B S q S1) 0 0 (fun q => B < q) := by
  intro S _ _ _ _ _ g0 h
  exact k_X12_wouldOf l D cy B n 3 g0 h
def f_X12_would (n : Nat) (S0 : zM) (a0 : Nat) (v1 : Int32) (v2 : Int32) : Option (Int32 × zM) :=
  zB1 (f_X12_isDive S0 a0 v1) (fun r2 => if r2 = 0 then some (((-1 : Int32), S0)) else zB1 (f_X12_isChair v2) (fun r7 => if r7 = 0 then some (((-1 : Int32), S0)) else zB1 (f_X12_get S0 a0 v1 (0 : Int32)) (fun r12 => zB1 (f_X12_onChair S0 a0 r12 v2) (fun r16 => if 0 ≤ r16 then zB2 (f_X12_wouldOf n 3 S0 a0 v1 v2) (fun r21 S22 => some ((r21, S22))) else some (((-4 : Int32), S0))))))
set_option maxHeartbeats 4000000 in
set_option maxRecDepth 100000 in
theorem c_X12_would (l : Launch) (D : va_G) (cy : Nat → ClassId) (B : Nat) {n : Nat} {S0 : zM} {a0 : Nat} {v1 : Int32} {v2 : Int32} {r : Int32} {S' : zM} (ha0 : zA S0 a0 12) (h : f_X12_would n S0 a0 v1 v2 = some (r, S')) : Met l yX12_would (zws yX12_would cX12_would 3 ((some .int))) { frames := 7, cells := 0, slots := 0, locals := 177 } (zPc D cy B S0 [.ref (B + a0), .int v1, .int v2]) (zQi D cy B S0 r S') 0 0 (fun q => B < q) := by
  refine Met.ofW (cc := cX12_would) (maxL := 3) (ret := ((some .int))) (by decide) rfl ?_
  intro p e s m args below meth c s₁ Bd hml hv
  obtain ⟨rfl, hC, hM⟩ := hv
  obtain ⟨hx, hb, hr, hg, hown, hlk⟩ := z_open Bd
  have hK := hC.1
  have hS : va_S (fun q => B < q) s.heap s.heap [] := va_S.rf
  have hX0 : zX S0 S0 := zX.rf
  refine z_entry (vs := [.ref (B + a0), .int v1, .int v2]) (Nat.le_of_ble_eq_true rfl) (fun ls hl => ?_)
  have hl : lv_has ls 3 [(0, .ref (B + a0)), (1, .int v1), (2, .int v2)] := hl
  unfold f_X12_would at h
  refine lv_aload_n hx hb dX12_would_0 rfl (lv_at hl 0 rfl) ?_
  refine lv_iload_n hx hb dX12_would_1 rfl (lv_at hl 1 rfl) ?_
  obtain ⟨r2, hr1, h⟩ := zb1 h
  refine z_runi (va_runV (As := [.int v1]) (rest := []) ⟨hx, hb, hml, hown, hg⟩ (c_X12_isDive l D cy B ha0 hr1) (z_cwV hg zw_1160 zw_1161 zw_1486 zw_13 zw_1162 zh_X12_isDive ⟨(Nat.le_of_ble_eq_true rfl), (Nat.le_of_ble_eq_true rfl)⟩) (zPV hC hM ha0 (by decide) rfl) rfl rfl hl.1 rfl (lv_room (Nat.le_of_ble_eq_true rfl)) dX12_would_2 ⟨(Nat.le_of_ble_eq_true rfl), (Nat.le_of_ble_eq_true rfl)⟩) hS (fun H locs hM hX3 hS => ?_)
  refine lv_if_eq (tgt := 15) hx hb dX12_would_5 (by decide) (fun hc5 => ?_) (fun hc5 => ?_)
  · have h := zt h hc5
    refine lv_iconst (v := (-1 : Int32)) hx hb dX12_would_15 (by decide +kernel) ?_
    refine lv_goto (tgt := 44) hx hb dX12_would_16 (by decide) ?_
    exact z_iret hx hb hr hlk hM hX0 hS (zsp h) dX12_would_44
  · have h := zf h hc5
    refine lv_iload_n hx hb dX12_would_8 rfl (lv_at hl 2 rfl) ?_
    obtain ⟨r7, hr6, h⟩ := zb1 h
    refine z_runi (va_runS (As := [.int v2]) (rest := []) ⟨hx, hb, hml, hown, hg⟩ (c_X12_isChair l D cy B hr6) (z_cwS hg zw_1136 zw_1137 zw_13 zw_1138 zh_X12_isChair.2 ⟨(Nat.le_of_ble_eq_true rfl), (Nat.le_of_ble_eq_true rfl)⟩) (zPS hC hM) rfl rfl hl.1 rfl (lv_room (Nat.le_of_ble_eq_true rfl)) dX12_would_9 ⟨(Nat.le_of_ble_eq_true rfl), (Nat.le_of_ble_eq_true rfl)⟩) hS (fun H locs hM hX8 hS => ?_)
    refine lv_if_ne (tgt := 19) hx hb dX12_would_12 (by decide) (fun hc10 => ?_) (fun hc10 => ?_)
    · have h := zf h hc10
      refine lv_aload_n hx hb dX12_would_19 rfl (lv_at hl 0 rfl) ?_
      refine lv_aload_n hx hb dX12_would_20 rfl (lv_at hl 0 rfl) ?_
      refine lv_iload_n hx hb dX12_would_21 rfl (lv_at hl 1 rfl) ?_
      refine lv_iconst (v := (0 : Int32)) hx hb dX12_would_22 (by decide +kernel) ?_
      obtain ⟨r12, hr11, h⟩ := zb1 h
      refine z_runi (va_runV (As := [.int v1, .int (0 : Int32)]) (rest := [.ref (B + a0)]) ⟨hx, hb, hml, hown, hg⟩ (c_X12_get l D cy B ha0 hr11) (z_cwV hg zw_1163 zw_1164 zw_1487 zw_13 zw_1165 zh_X12_get ⟨(Nat.le_of_ble_eq_true rfl), (Nat.le_of_ble_eq_true rfl)⟩) (zPV hC hM ha0 (by decide) rfl) rfl rfl hl.1 rfl (lv_room (Nat.le_of_ble_eq_true rfl)) dX12_would_23 ⟨(Nat.le_of_ble_eq_true rfl), (Nat.le_of_ble_eq_true rfl)⟩) hS (fun H locs hM hX13 hS => ?_)
      refine lv_iload_n hx hb dX12_would_26 rfl (lv_at hl 2 rfl) ?_
      obtain ⟨r16, hr15, h⟩ := zb1 h
      refine z_runi (va_runV (As := [.int r12, .int v2]) (rest := []) ⟨hx, hb, hml, hown, hg⟩ (c_X12_onChair l D cy B ha0 hr15) (z_cwV hg zw_1143 zw_1144 zw_1484 zw_13 zw_1145 zh_X12_onChair ⟨(Nat.le_of_ble_eq_true rfl), (Nat.le_of_ble_eq_true rfl)⟩) (zPV hC hM ha0 (by decide) rfl) rfl rfl hl.1 rfl (lv_room (Nat.le_of_ble_eq_true rfl)) dX12_would_27 ⟨(Nat.le_of_ble_eq_true rfl), (Nat.le_of_ble_eq_true rfl)⟩) hS (fun H locs hM hX17 hS => ?_)
      refine lv_if_ge (tgt := 38) hx hb dX12_would_30 (by decide) (fun hc19 => ?_) (fun hc19 => ?_)
      · have h := zt h hc19
        refine lv_aload_n hx hb dX12_would_38 rfl (lv_at hl 0 rfl) ?_
        refine lv_iload_n hx hb dX12_would_39 rfl (lv_at hl 1 rfl) ?_
        refine lv_iload_n hx hb dX12_would_40 rfl (lv_at hl 2 rfl) ?_
        obtain ⟨r21, S22, hr20, h⟩ := zb2 h
        refine z_runi (va_runV (As := [.int v1, .int v2]) (rest := []) ⟨hx, hb, hml, hown, hg⟩ (c_X12_wouldOf l D cy B ha0 hr20) (z_cwV hg zw_1183 zw_1184 zw_1490 zw_13 zw_1185 zh_X12_wouldOf ⟨(Nat.le_of_ble_eq_true rfl), (Nat.le_of_ble_eq_true rfl)⟩) (zPV hC hM ha0 (by decide) rfl) rfl rfl hl.1 rfl (lv_room (Nat.le_of_ble_eq_true rfl)) dX12_would_41 ⟨(Nat.le_of_ble_eq_true rfl), (Nat.le_of_ble_eq_true rfl)⟩) hS (fun H locs hM hX23 hS => ?_)
        have hX25 := hX0.tr hX23
        exact z_iret hx hb hr hlk hM hX25 hS (zsp h) dX12_would_44
      · have h := zf h hc19
        refine lv_bipush (v := (-4 : Int32)) hx hb dX12_would_33 (by decide +kernel) ?_
        refine lv_goto (tgt := 44) hx hb dX12_would_35 (by decide) ?_
        exact z_iret hx hb hr hlk hM hX0 hS (zsp h) dX12_would_44
    · have h := zt h hc10
      refine lv_iconst (v := (-1 : Int32)) hx hb dX12_would_15 (by decide +kernel) ?_
      refine lv_goto (tgt := 44) hx hb dX12_would_16 (by decide) ?_
      exact z_iret hx hb hr hlk hM hX0 hS (zsp h) dX12_would_44
def f_X12_marksAs_L2b (n : Nat) (a0 : Nat) (v1 : Int32) (K3 : zM → Option (zM)) (rec2 : Int32 → zM → Option (zM)) (x5 : Int32) (S6 : zM) : Option (zM) :=
  if (7 : Int32) ≤ x5 then K3 S6 else zB1 (f_X12_get S6 a0 v1 (0 : Int32)) (fun r10 => zB1 (f_X12_onChair S6 a0 r10 x5) (fun r14 => zChk (¬ (zr S6 a0 0) = 0) (zLet (fun (x21 : Int32) (S22 : zM) => zChk (¬ (((((112 : Int32) + ((19 : Int32) * v1)) + (5 : Int32)) + x5) < 0 ∨ zln S22 (zr S6 a0 0) ≤ (((((112 : Int32) + ((19 : Int32) * v1)) + (5 : Int32)) + x5)).toNatClampNeg)) (zLet (zpI S22 (zr S6 a0 0) (Int32.toNatClampNeg ((((112 : Int32) + ((19 : Int32) * v1)) + (5 : Int32)) + x5)) x21) (fun S26 => zChk (¬ (zr S26 a0 0) = 0) (zChk (¬ (((((112 : Int32) + ((19 : Int32) * v1)) + (12 : Int32)) + x5) < 0 ∨ zln S26 (zr S26 a0 0) ≤ (((((112 : Int32) + ((19 : Int32) * v1)) + (12 : Int32)) + x5)).toNatClampNeg)) (zLet (zpI S26 (zr S26 a0 0) (Int32.toNatClampNeg ((((112 : Int32) + ((19 : Int32) * v1)) + (12 : Int32)) + x5)) (r14 + (1 : Int32))) (fun S34 => rec2 (x5 + (1 : Int32)) S34)))))) (fun K24 => if 0 ≤ r14 then zB2 (f_X12_wouldOf n 3 S6 a0 v1 x5) (fun r41 S42 => K24 (r41 + (1 : Int32)) S42) else K24 (0 : Int32) S6))))
def f_X12_marksAs_L2 (n : Nat) (a0 : Nat) (v1 : Int32) (K3 : zM → Option (zM)) : Nat → Int32 → zM → Option (zM)
  | 0 => fun _ _ => none
  | k + 1 => fun x5 S6 => f_X12_marksAs_L2b n a0 v1 K3 (f_X12_marksAs_L2 n a0 v1 K3 k) x5 S6
def f_X12_marksAs (n : Nat) (S0 : zM) (a0 : Nat) (v1 : Int32) : Option (zM) :=
  zLet (fun (S1 : zM) => some S1) (fun K3 => f_X12_marksAs_L2 n a0 v1 K3 n (0 : Int32) S0)
set_option maxHeartbeats 4000000 in
set_option maxRecDepth 100000 in
theorem c_X12_marksAs (l : Launch) (D : va_G) (cy : Nat → ClassId) (B : Nat) {n : Nat} {S0 : zM} {a0 : Nat} {v1 : Int32} {S' : zM} (ha0 : zA S0 a0 12) (h : f_X12_marksAs n S0 a0 v1 = some S') : Met l yX12_marksAs (zws yX12_marksAs cX12_marksAs 4 none) { frames := 7, cells := 0, slots := 0, locals := 177 } (zPc D cy B S0 [.ref (B + a0), .int v1]) (zQv D cy B S0 S') 0 0 (fun q => B < q) := by
  refine Met.ofW (cc := cX12_marksAs) (maxL := 4) (ret := none) (by decide) rfl ?_
  intro p e s m args below meth c s₁ Bd hml hv
  obtain ⟨rfl, hC, hM⟩ := hv
  obtain ⟨hx, hb, hr, hg, hown, hlk⟩ := z_open Bd
  have hK := hC.1
  have hS : va_S (fun q => B < q) s.heap s.heap [] := va_S.rf
  have hX0 : zX S0 S0 := zX.rf
  refine z_entry (vs := [.ref (B + a0), .int v1]) (Nat.le_of_ble_eq_true rfl) (fun ls hl => ?_)
  have hl : lv_has ls 4 [(0, .ref (B + a0)), (1, .int v1)] := hl
  unfold f_X12_marksAs at h
  refine lv_iconst (v := (0 : Int32)) hx hb dX12_marksAs_0 (by decide +kernel) ?_
  refine lv_istore_n (i := 2) (lv' := [(2, .int (0 : Int32)), (0, .ref (B + a0)), (1, .int v1)]) hx hb dX12_marksAs_1 rfl hl (by decide) rfl (fun ls hl => ?_)
  obtain ⟨K3, eK3, h⟩ := zlg h
  have hK3 : ∀ (S1 : zM) (H : Heap) (locs : List Loc), zMR D cy B S1 H → zX S0 S1 → va_S (fun q => B < q) s.heap H locs → ∀ ls : Array Slot, lv_has ls 4 [] → K3 S1 = some S' → W p l e (headSpec (zws yX12_marksAs cX12_marksAs 4 none) { frames := 7, cells := 0, slots := 0, locals := 177 }).room s m (([.ref (B + a0), .int v1] : List Value).toArray) below meth c H locs 0 0 (MQ below (zQv D cy B S0 S') (([.ref (B + a0), .int v1] : List Value).toArray) s 0 0 (fun q => B < q)) (F0 m 78 ls []) := by
    intro S1 H locs hM hX2 hS ls hl h
    rw [eK3] at h
    exact z_vret hx hb hr hlk hM hX2 hS (zsm h) dX12_marksAs_78
  have hL2 : ∀ (k : Nat) (x5 : Int32) (S6 : zM) (H : Heap) (locs : List Loc), zMR D cy B S6 H → zX S0 S6 → va_S (fun q => B < q) s.heap H locs → zA S6 a0 12 → ∀ ls : Array Slot, lv_has ls 4 [(0, .ref (B + a0)), (1, .int v1), (2, .int x5)] → f_X12_marksAs_L2 n a0 v1 K3 k x5 S6 = some S' → W p l e (headSpec (zws yX12_marksAs cX12_marksAs 4 none) { frames := 7, cells := 0, slots := 0, locals := 177 }).room s m (([.ref (B + a0), .int v1] : List Value).toArray) below meth c H locs 0 0 (MQ below (zQv D cy B S0 S') (([.ref (B + a0), .int v1] : List Value).toArray) s 0 0 (fun q => B < q)) (F0 m 2 ls []) := by
    intro k
    induction k with
    | zero =>
      intro x5 S6 H locs hM hX7 hS h4 ls hl h
      exact znone h
    | succ k ih2 =>
      intro x5 S6 H locs hM hX7 hS h4 ls hl h
      replace h : f_X12_marksAs_L2b n a0 v1 K3 (f_X12_marksAs_L2 n a0 v1 K3 k) x5 S6 = some S' := h
      generalize f_X12_marksAs_L2 n a0 v1 K3 k = rec2 at ih2 h
      unfold f_X12_marksAs_L2b at h
      refine lv_iload_n hx hb dX12_marksAs_2 rfl (lv_at hl 2 rfl) ?_
      refine lv_bipush (v := (7 : Int32)) hx hb dX12_marksAs_3 (by decide +kernel) ?_
      refine lv_icmp_ge (tgt := 78) hx hb dX12_marksAs_5 (by decide) (fun hc8 => ?_) (fun hc8 => ?_)
      · have h := zt h hc8
        exact hK3 S6 _ _ hM hX7 hS _ (lv_sub hl [] rfl) h
      · have h := zf h hc8
        refine lv_aload_n hx hb dX12_marksAs_8 rfl (lv_at hl 0 rfl) ?_
        refine lv_aload_n hx hb dX12_marksAs_9 rfl (lv_at hl 0 rfl) ?_
        refine lv_iload_n hx hb dX12_marksAs_10 rfl (lv_at hl 1 rfl) ?_
        refine lv_iconst (v := (0 : Int32)) hx hb dX12_marksAs_11 (by decide +kernel) ?_
        obtain ⟨r10, hr9, h⟩ := zb1 h
        refine z_runi (va_runV (As := [.int v1, .int (0 : Int32)]) (rest := [.ref (B + a0)]) ⟨hx, hb, hml, hown, hg⟩ (c_X12_get l D cy B h4 hr9) (z_cwV hg zw_1163 zw_1164 zw_1487 zw_13 zw_1165 zh_X12_get ⟨(Nat.le_of_ble_eq_true rfl), (Nat.le_of_ble_eq_true rfl)⟩) (zPV hC hM h4 (by decide) rfl) rfl rfl hl.1 rfl (lv_room (Nat.le_of_ble_eq_true rfl)) dX12_marksAs_12 ⟨(Nat.le_of_ble_eq_true rfl), (Nat.le_of_ble_eq_true rfl)⟩) hS (fun H locs hM hX11 hS => ?_)
        refine lv_iload_n hx hb dX12_marksAs_15 rfl (lv_at hl 2 rfl) ?_
        obtain ⟨r14, hr13, h⟩ := zb1 h
        refine z_runi (va_runV (As := [.int r10, .int x5]) (rest := []) ⟨hx, hb, hml, hown, hg⟩ (c_X12_onChair l D cy B h4 hr13) (z_cwV hg zw_1143 zw_1144 zw_1484 zw_13 zw_1145 zh_X12_onChair ⟨(Nat.le_of_ble_eq_true rfl), (Nat.le_of_ble_eq_true rfl)⟩) (zPV hC hM h4 (by decide) rfl) rfl rfl hl.1 rfl (lv_room (Nat.le_of_ble_eq_true rfl)) dX12_marksAs_16 ⟨(Nat.le_of_ble_eq_true rfl), (Nat.le_of_ble_eq_true rfl)⟩) hS (fun H locs hM hX15 hS => ?_)
        refine lv_istore_n (i := 3) (lv' := [(3, .int r14), (0, .ref (B + a0)), (1, .int v1), (2, .int x5)]) hx hb dX12_marksAs_19 rfl hl (by decide) rfl (fun ls hl => ?_)
        refine lv_aload_n hx hb dX12_marksAs_20 rfl (lv_at hl 1 rfl) ?_
        obtain ⟨hq18, h⟩ := zk h
        refine z_getN hx hb hg zin_12 hown hK hM h4 0 rfl (by decide) (hg _ zw_1000) (fun _ h9 => h9) hq18 dX12_marksAs_21 (fun h17 => ?_)
        refine lv_bipush (v := (112 : Int32)) hx hb dX12_marksAs_24 (by decide +kernel) ?_
        refine lv_bipush (v := (19 : Int32)) hx hb dX12_marksAs_26 (by decide +kernel) ?_
        refine lv_iload_n hx hb dX12_marksAs_28 rfl (lv_at hl 2 rfl) ?_
        refine lv_imul hx hb dX12_marksAs_29 ?_
        refine lv_iadd hx hb dX12_marksAs_30 ?_
        refine lv_iconst (v := (5 : Int32)) hx hb dX12_marksAs_31 (by decide +kernel) ?_
        refine lv_iadd hx hb dX12_marksAs_32 ?_
        refine lv_iload_n hx hb dX12_marksAs_33 rfl (lv_at hl 3 rfl) ?_
        refine lv_iadd hx hb dX12_marksAs_34 ?_
        refine lv_iload_n hx hb dX12_marksAs_35 rfl (lv_at hl 0 rfl) ?_
        obtain ⟨K24, eK24, h⟩ := zlg h
        have hK24 : ∀ (x21 : Int32) (S22 : zM) (H : Heap) (locs : List Loc), zMR D cy B S22 H → zX S0 S22 → va_S (fun q => B < q) s.heap H locs → zA S22 a0 12 → zA S22 (zr S6 a0 0) 20 → ∀ ls : Array Slot, lv_has ls 4 [(0, .ref (B + a0)), (1, .int v1), (2, .int x5), (3, .int r14)] → K24 x21 S22 = some S' → W p l e (headSpec (zws yX12_marksAs cX12_marksAs 4 none) { frames := 7, cells := 0, slots := 0, locals := 177 }).room s m (([.ref (B + a0), .int v1] : List Value).toArray) below meth c H locs 0 0 (MQ below (zQv D cy B S0 S') (([.ref (B + a0), .int v1] : List Value).toArray) s 0 0 (fun q => B < q)) (F0 m 51 ls [.int x21, .int ((((112 : Int32) + ((19 : Int32) * v1)) + (5 : Int32)) + x5), .ref (B + (zr S6 a0 0))]) := by
          intro x21 S22 H locs hM hX23 hS h19 h20 ls hl h
          rw [eK24] at h
          obtain ⟨hq25, h⟩ := zk h
          refine z_iast hx hb hK hM hS h20 hq25 dX12_marksAs_51 (fun H locs hM hS => ?_)
          obtain ⟨S26, e27, h⟩ := zlg h
          rw [← e27] at hM
          have hX28 : zX S22 S26 := by rw [e27]; exact zX_pI
          have h29 := h19.mo hX28
          have hX30 := hX23.tr hX28
          refine lv_aload_n hx hb dX12_marksAs_52 rfl (lv_at hl 0 rfl) ?_
          obtain ⟨hq32, h⟩ := zk h
          refine z_getN hx hb hg zin_12 hown hK hM h29 0 rfl (by decide) (hg _ zw_1000) (fun _ h9 => h9) hq32 dX12_marksAs_53 (fun h31 => ?_)
          refine lv_bipush (v := (112 : Int32)) hx hb dX12_marksAs_56 (by decide +kernel) ?_
          refine lv_bipush (v := (19 : Int32)) hx hb dX12_marksAs_58 (by decide +kernel) ?_
          refine lv_iload_n hx hb dX12_marksAs_60 rfl (lv_at hl 1 rfl) ?_
          refine lv_imul hx hb dX12_marksAs_61 ?_
          refine lv_iadd hx hb dX12_marksAs_62 ?_
          refine lv_bipush (v := (12 : Int32)) hx hb dX12_marksAs_63 (by decide +kernel) ?_
          refine lv_iadd hx hb dX12_marksAs_65 ?_
          refine lv_iload_n hx hb dX12_marksAs_66 rfl (lv_at hl 2 rfl) ?_
          refine lv_iadd hx hb dX12_marksAs_67 ?_
          refine lv_iload_n hx hb dX12_marksAs_68 rfl (lv_at hl 3 rfl) ?_
          refine lv_iconst (v := (1 : Int32)) hx hb dX12_marksAs_69 (by decide +kernel) ?_
          refine lv_iadd hx hb dX12_marksAs_70 ?_
          obtain ⟨hq33, h⟩ := zk h
          refine z_iast hx hb hK hM hS h31 hq33 dX12_marksAs_71 (fun H locs hM hS => ?_)
          obtain ⟨S34, e35, h⟩ := zlg h
          rw [← e35] at hM
          have hX36 : zX S26 S34 := by rw [e35]; exact zX_pI
          have h37 := h29.mo hX36
          have hX38 := hX30.tr hX36
          refine lv_iinc (v := (x5 + (1 : Int32))) (lv' := [(2, .int (x5 + (1 : Int32))), (0, .ref (B + a0)), (1, .int v1), (3, .int r14)]) hx hb dX12_marksAs_72 hl (k := 2) rfl rfl (by decide) rfl (fun ls hl => ?_)
          refine lv_goto (tgt := 2) hx hb dX12_marksAs_75 (by decide) ?_
          exact ih2 (x5 + (1 : Int32)) S34 _ _ hM hX38 hS h37 _ (lv_sub hl [1, 2, 0] rfl) h
        refine lv_if_ge (tgt := 43) hx hb dX12_marksAs_36 (by decide) (fun hc39 => ?_) (fun hc39 => ?_)
        · have h := zt h hc39
          refine lv_aload_n hx hb dX12_marksAs_43 rfl (lv_at hl 1 rfl) ?_
          refine lv_iload_n hx hb dX12_marksAs_44 rfl (lv_at hl 2 rfl) ?_
          refine lv_iload_n hx hb dX12_marksAs_45 rfl (lv_at hl 3 rfl) ?_
          obtain ⟨r41, S42, hr40, h⟩ := zb2 h
          refine z_runi (va_runV (As := [.int v1, .int x5]) (rest := [.int ((((112 : Int32) + ((19 : Int32) * v1)) + (5 : Int32)) + x5), .ref (B + (zr S6 a0 0))]) ⟨hx, hb, hml, hown, hg⟩ (c_X12_wouldOf l D cy B h4 hr40) (z_cwV hg zw_1183 zw_1184 zw_1490 zw_13 zw_1185 zh_X12_wouldOf ⟨(Nat.le_of_ble_eq_true rfl), (Nat.le_of_ble_eq_true rfl)⟩) (zPV hC hM h4 (by decide) rfl) rfl rfl hl.1 rfl (lv_room (Nat.le_of_ble_eq_true rfl)) dX12_marksAs_46 ⟨(Nat.le_of_ble_eq_true rfl), (Nat.le_of_ble_eq_true rfl)⟩) hS (fun H locs hM hX43 hS => ?_)
          have h45 := h4.mo hX43
          have h46 := h17.mo hX43
          have hX47 := hX7.tr hX43
          refine lv_iconst (v := (1 : Int32)) hx hb dX12_marksAs_49 (by decide +kernel) ?_
          refine lv_iadd hx hb dX12_marksAs_50 ?_
          exact hK24 (r41 + (1 : Int32)) S42 _ _ hM hX47 hS h45 h46 _ (lv_sub hl [1, 2, 3, 0] rfl) h
        · have h := zf h hc39
          refine lv_iconst (v := (0 : Int32)) hx hb dX12_marksAs_39 (by decide +kernel) ?_
          refine lv_goto (tgt := 51) hx hb dX12_marksAs_40 (by decide) ?_
          exact hK24 (0 : Int32) S6 _ _ hM hX7 hS h4 h17 _ (lv_sub hl [1, 2, 3, 0] rfl) h
  exact hL2 n (0 : Int32) S0 _ _ hM hX0 hS ha0 _ (lv_sub hl [1, 2, 0] rfl) h
def f_X12_markAll_L19b (n : Nat) (a0 : Nat) (v1 : Int32) (K7 : Int32 → zM → Option (Int32 × zM)) (rec19 : Int32 → Int32 → zM → Option (Int32 × zM)) (x9 : Int32) (x10 : Int32) (S11 : zM) : Option (Int32 × zM) :=
  zChk (¬ (zr S11 a0 0) = 0) (zChk (¬ ((1003 : Int32) < 0 ∨ zln S11 (zr S11 a0 0) ≤ ((1003 : Int32)).toNatClampNeg)) (if (zi S11 (zr S11 a0 0) (Int32.toNatClampNeg (1003 : Int32))) ≤ x10 then K7 x9 S11 else zLet (zB1 (f_X12_marksAs n S11 a0 x10) (fun S21 => zB1 (f_X12_marksOf n S21 a0 x10) (fun r27 => rec19 (x9 + r27) (x10 + (1 : Int32)) S21))) (fun K19 => if v1 < 0 then K19 else if x10 = v1 then K19 else rec19 x9 (x10 + (1 : Int32)) S11)))
def f_X12_markAll_L19 (n : Nat) (a0 : Nat) (v1 : Int32) (K7 : Int32 → zM → Option (Int32 × zM)) : Nat → Int32 → Int32 → zM → Option (Int32 × zM)
  | 0 => fun _ _ _ => none
  | k + 1 => fun x9 x10 S11 => f_X12_markAll_L19b n a0 v1 K7 (f_X12_markAll_L19 n a0 v1 K7 k) x9 x10 S11
def f_X12_markAll (n : Nat) (S0 : zM) (a0 : Nat) (v1 : Int32) : Option (Int32 × zM) :=
  zLet (zLet (fun (x4 : Int32) (S5 : zM) => some ((x4, S5))) (fun K7 => f_X12_markAll_L19 n a0 v1 K7 n (0 : Int32) (0 : Int32) S0)) (fun K3 => if v1 = (-1 : Int32) then K3 else zB1 (f_X12_isDive S0 a0 v1) (fun r34 => if r34 = 0 then some (((-1 : Int32), S0)) else K3))
set_option maxHeartbeats 4000000 in
set_option maxRecDepth 100000 in
theorem c_X12_markAll (l : Launch) (D : va_G) (cy : Nat → ClassId) (B : Nat) {n : Nat} {S0 : zM} {a0 : Nat} {v1 : Int32} {r : Int32} {S' : zM} (ha0 : zA S0 a0 12) (h : f_X12_markAll n S0 a0 v1 = some (r, S')) : Met l yX12_markAll (zws yX12_markAll cX12_markAll 4 ((some .int))) { frames := 8, cells := 0, slots := 0, locals := 200 } (zPc D cy B S0 [.ref (B + a0), .int v1]) (zQi D cy B S0 r S') 0 0 (fun q => B < q) := by
  refine Met.ofW (cc := cX12_markAll) (maxL := 4) (ret := ((some .int))) (by decide) rfl ?_
  intro p e s m args below meth c s₁ Bd hml hv
  obtain ⟨rfl, hC, hM⟩ := hv
  obtain ⟨hx, hb, hr, hg, hown, hlk⟩ := z_open Bd
  have hK := hC.1
  have hS : va_S (fun q => B < q) s.heap s.heap [] := va_S.rf
  have hX0 : zX S0 S0 := zX.rf
  refine z_entry (vs := [.ref (B + a0), .int v1]) (Nat.le_of_ble_eq_true rfl) (fun ls hl => ?_)
  have hl : lv_has ls 4 [(0, .ref (B + a0)), (1, .int v1)] := hl
  unfold f_X12_markAll at h
  refine lv_iload_n hx hb dX12_markAll_0 rfl (lv_at hl 1 rfl) ?_
  refine lv_iconst (v := (-1 : Int32)) hx hb dX12_markAll_1 (by decide +kernel) ?_
  obtain ⟨K3, eK3, h⟩ := zlg h
  have hK3 : ∀ (H : Heap) (locs : List Loc), zMR D cy B S0 H → zX S0 S0 → va_S (fun q => B < q) s.heap H locs → zA S0 a0 12 → ∀ ls : Array Slot, lv_has ls 4 [(0, .ref (B + a0)), (1, .int v1)] → K3 = some (r, S') → W p l e (headSpec (zws yX12_markAll cX12_markAll 4 ((some .int))) { frames := 8, cells := 0, slots := 0, locals := 200 }).room s m (([.ref (B + a0), .int v1] : List Value).toArray) below meth c H locs 0 0 (MQ below (zQi D cy B S0 r S') (([.ref (B + a0), .int v1] : List Value).toArray) s 0 0 (fun q => B < q)) (F0 m 15 ls []) := by
    intro H locs hM hX2 hS h1 ls hl h
    rw [eK3] at h
    refine lv_iconst (v := (0 : Int32)) hx hb dX12_markAll_15 (by decide +kernel) ?_
    refine lv_istore_n (i := 2) (lv' := [(2, .int (0 : Int32)), (0, .ref (B + a0)), (1, .int v1)]) hx hb dX12_markAll_16 rfl hl (by decide) rfl (fun ls hl => ?_)
    refine lv_iconst (v := (0 : Int32)) hx hb dX12_markAll_17 (by decide +kernel) ?_
    refine lv_istore_n (i := 3) (lv' := [(3, .int (0 : Int32)), (2, .int (0 : Int32)), (0, .ref (B + a0)), (1, .int v1)]) hx hb dX12_markAll_18 rfl hl (by decide) rfl (fun ls hl => ?_)
    obtain ⟨K7, eK7, h⟩ := zlg h
    have hK7 : ∀ (x4 : Int32) (S5 : zM) (H : Heap) (locs : List Loc), zMR D cy B S5 H → zX S0 S5 → va_S (fun q => B < q) s.heap H locs → ∀ ls : Array Slot, lv_has ls 4 [(2, .int x4)] → K7 x4 S5 = some (r, S') → W p l e (headSpec (zws yX12_markAll cX12_markAll 4 ((some .int))) { frames := 8, cells := 0, slots := 0, locals := 200 }).room s m (([.ref (B + a0), .int v1] : List Value).toArray) below meth c H locs 0 0 (MQ below (zQi D cy B S0 r S') (([.ref (B + a0), .int v1] : List Value).toArray) s 0 0 (fun q => B < q)) (F0 m 62 ls []) := by
      intro x4 S5 H locs hM hX6 hS ls hl h
      rw [eK7] at h
      refine lv_iload_n hx hb dX12_markAll_62 rfl (lv_at hl 0 rfl) ?_
      exact z_iret hx hb hr hlk hM hX6 hS (zsp h) dX12_markAll_63
    have hL19 : ∀ (k : Nat) (x9 : Int32) (x10 : Int32) (S11 : zM) (H : Heap) (locs : List Loc), zMR D cy B S11 H → zX S0 S11 → va_S (fun q => B < q) s.heap H locs → zA S11 a0 12 → ∀ ls : Array Slot, lv_has ls 4 [(0, .ref (B + a0)), (1, .int v1), (2, .int x9), (3, .int x10)] → f_X12_markAll_L19 n a0 v1 K7 k x9 x10 S11 = some (r, S') → W p l e (headSpec (zws yX12_markAll cX12_markAll 4 ((some .int))) { frames := 8, cells := 0, slots := 0, locals := 200 }).room s m (([.ref (B + a0), .int v1] : List Value).toArray) below meth c H locs 0 0 (MQ below (zQi D cy B S0 r S') (([.ref (B + a0), .int v1] : List Value).toArray) s 0 0 (fun q => B < q)) (F0 m 19 ls []) := by
      intro k
      induction k with
      | zero =>
        intro x9 x10 S11 H locs hM hX12 hS h8 ls hl h
        exact znone h
      | succ k ih19 =>
        intro x9 x10 S11 H locs hM hX12 hS h8 ls hl h
        replace h : f_X12_markAll_L19b n a0 v1 K7 (f_X12_markAll_L19 n a0 v1 K7 k) x9 x10 S11 = some (r, S') := h
        generalize f_X12_markAll_L19 n a0 v1 K7 k = rec19 at ih19 h
        unfold f_X12_markAll_L19b at h
        refine lv_iload_n hx hb dX12_markAll_19 rfl (lv_at hl 3 rfl) ?_
        refine lv_aload_n hx hb dX12_markAll_20 rfl (lv_at hl 0 rfl) ?_
        obtain ⟨hq14, h⟩ := zk h
        refine z_getN hx hb hg zin_12 hown hK hM h8 0 rfl (by decide) (hg _ zw_1000) (fun _ h9 => h9) hq14 dX12_markAll_21 (fun h13 => ?_)
        refine lv_sipush (v := (1003 : Int32)) hx hb dX12_markAll_24 (by decide +kernel) ?_
        obtain ⟨hq15, h⟩ := zk h
        refine z_iald hx hb hK hM h13 hq15 dX12_markAll_27 ?_
        refine lv_icmp_ge (tgt := 62) hx hb dX12_markAll_28 (by decide) (fun hc16 => ?_) (fun hc16 => ?_)
        · have h := zt h hc16
          exact hK7 x9 S11 _ _ hM hX12 hS _ (lv_sub hl [2] rfl) h
        · have h := zf h hc16
          refine lv_iload_n hx hb dX12_markAll_31 rfl (lv_at hl 1 rfl) ?_
          obtain ⟨K19, eK19, h⟩ := zlg h
          have hK19 : ∀ (H : Heap) (locs : List Loc), zMR D cy B S11 H → zX S0 S11 → va_S (fun q => B < q) s.heap H locs → zA S11 a0 12 → ∀ ls : Array Slot, lv_has ls 4 [(0, .ref (B + a0)), (1, .int v1), (2, .int x9), (3, .int x10)] → K19 = some (r, S') → W p l e (headSpec (zws yX12_markAll cX12_markAll 4 ((some .int))) { frames := 8, cells := 0, slots := 0, locals := 200 }).room s m (([.ref (B + a0), .int v1] : List Value).toArray) below meth c H locs 0 0 (MQ below (zQi D cy B S0 r S') (([.ref (B + a0), .int v1] : List Value).toArray) s 0 0 (fun q => B < q)) (F0 m 43 ls []) := by
            intro H locs hM hX18 hS h17 ls hl h
            rw [eK19] at h
            refine lv_aload_n hx hb dX12_markAll_43 rfl (lv_at hl 0 rfl) ?_
            refine lv_iload_n hx hb dX12_markAll_44 rfl (lv_at hl 3 rfl) ?_
            obtain ⟨S21, hr20, h⟩ := zb1 h
            refine z_runv (va_runV (As := [.int x10]) (rest := []) ⟨hx, hb, hml, hown, hg⟩ (c_X12_marksAs l D cy B h17 hr20) (z_cwV hg zw_1205 zw_1206 zw_1495 zw_13 zw_1207 zh_X12_marksAs ⟨(Nat.le_of_ble_eq_true rfl), (Nat.le_of_ble_eq_true rfl)⟩) (zPV hC hM h17 (by decide) rfl) rfl rfl hl.1 rfl (lv_room (Nat.le_of_ble_eq_true rfl)) dX12_markAll_45 ⟨(Nat.le_of_ble_eq_true rfl), (Nat.le_of_ble_eq_true rfl)⟩) hS (fun H locs hM hX22 hS => ?_)
            have h24 := h17.mo hX22
            have hX25 := hX18.tr hX22
            refine lv_iload_n hx hb dX12_markAll_48 rfl (lv_at hl 2 rfl) ?_
            refine lv_aload_n hx hb dX12_markAll_49 rfl (lv_at hl 0 rfl) ?_
            refine lv_iload_n hx hb dX12_markAll_50 rfl (lv_at hl 3 rfl) ?_
            obtain ⟨r27, hr26, h⟩ := zb1 h
            refine z_runi (va_runV (As := [.int x10]) (rest := [.int x9]) ⟨hx, hb, hml, hown, hg⟩ (c_X12_marksOf l D cy B h24 hr26) (z_cwV hg zw_1169 zw_1170 zw_1489 zw_13 zw_1171 zh_X12_marksOf ⟨(Nat.le_of_ble_eq_true rfl), (Nat.le_of_ble_eq_true rfl)⟩) (zPV hC hM h24 (by decide) rfl) rfl rfl hl.1 rfl (lv_room (Nat.le_of_ble_eq_true rfl)) dX12_markAll_51 ⟨(Nat.le_of_ble_eq_true rfl), (Nat.le_of_ble_eq_true rfl)⟩) hS (fun H locs hM hX28 hS => ?_)
            refine lv_iadd hx hb dX12_markAll_54 ?_
            refine lv_istore_n (i := 2) (lv' := [(2, .int (x9 + r27)), (0, .ref (B + a0)), (1, .int v1), (3, .int x10)]) hx hb dX12_markAll_55 rfl hl (by decide) rfl (fun ls hl => ?_)
            refine lv_iinc (v := (x10 + (1 : Int32))) (lv' := [(3, .int (x10 + (1 : Int32))), (2, .int (x9 + r27)), (0, .ref (B + a0)), (1, .int v1)]) hx hb dX12_markAll_56 hl (k := 3) rfl rfl (by decide) rfl (fun ls hl => ?_)
            refine lv_goto (tgt := 19) hx hb dX12_markAll_59 (by decide) ?_
            exact ih19 (x9 + r27) (x10 + (1 : Int32)) S21 _ _ hM hX25 hS h24 _ (lv_sub hl [2, 3, 1, 0] rfl) h
          refine lv_if_lt (tgt := 43) hx hb dX12_markAll_32 (by decide) (fun hc30 => ?_) (fun hc30 => ?_)
          · have h := zt h hc30
            exact hK19 _ _ hM hX12 hS h8 _ (lv_sub hl [0, 1, 2, 3] rfl) h
          · have h := zf h hc30
            refine lv_iload_n hx hb dX12_markAll_35 rfl (lv_at hl 3 rfl) ?_
            refine lv_iload_n hx hb dX12_markAll_36 rfl (lv_at hl 1 rfl) ?_
            refine lv_icmp_eq (tgt := 43) hx hb dX12_markAll_37 (by decide) (fun hc31 => ?_) (fun hc31 => ?_)
            · have h := zt h hc31
              exact hK19 _ _ hM hX12 hS h8 _ (lv_sub hl [0, 1, 2, 3] rfl) h
            · have h := zf h hc31
              refine lv_goto (tgt := 56) hx hb dX12_markAll_40 (by decide) ?_
              refine lv_iinc (v := (x10 + (1 : Int32))) (lv' := [(3, .int (x10 + (1 : Int32))), (0, .ref (B + a0)), (1, .int v1), (2, .int x9)]) hx hb dX12_markAll_56 hl (k := 3) rfl rfl (by decide) rfl (fun ls hl => ?_)
              refine lv_goto (tgt := 19) hx hb dX12_markAll_59 (by decide) ?_
              exact ih19 x9 (x10 + (1 : Int32)) S11 _ _ hM hX12 hS h8 _ (lv_sub hl [1, 2, 3, 0] rfl) h
    exact hL19 n (0 : Int32) (0 : Int32) S0 _ _ hM hX2 hS h1 _ (lv_sub hl [2, 3, 1, 0] rfl) h
  refine lv_icmp_eq (tgt := 15) hx hb dX12_markAll_2 (by decide) (fun hc32 => ?_) (fun hc32 => ?_)
  · have h := zt h hc32
    exact hK3 _ _ hM hX0 hS ha0 _ (lv_sub hl [0, 1] rfl) h
  · have h := zf h hc32
    refine lv_aload_n hx hb dX12_markAll_5 rfl (lv_at hl 0 rfl) ?_
    refine lv_iload_n hx hb dX12_markAll_6 rfl (lv_at hl 1 rfl) ?_
    obtain ⟨r34, hr33, h⟩ := zb1 h
    refine z_runi (va_runV (As := [.int v1]) (rest := []) ⟨hx, hb, hml, hown, hg⟩ (c_X12_isDive l D cy B ha0 hr33) (z_cwV hg zw_1160 zw_1161 zw_1486 zw_13 zw_1162 zh_X12_isDive ⟨(Nat.le_of_ble_eq_true rfl), (Nat.le_of_ble_eq_true rfl)⟩) (zPV hC hM ha0 (by decide) rfl) rfl rfl hl.1 rfl (lv_room (Nat.le_of_ble_eq_true rfl)) dX12_markAll_7 ⟨(Nat.le_of_ble_eq_true rfl), (Nat.le_of_ble_eq_true rfl)⟩) hS (fun H locs hM hX35 hS => ?_)
    refine lv_if_ne (tgt := 15) hx hb dX12_markAll_10 (by decide) (fun hc37 => ?_) (fun hc37 => ?_)
    · have h := zf h hc37
      exact hK3 _ _ hM hX0 hS ha0 _ (lv_sub hl [0, 1] rfl) h
    · have h := zt h hc37
      refine lv_iconst (v := (-1 : Int32)) hx hb dX12_markAll_13 (by decide +kernel) ?_
      exact z_iret hx hb hr hlk hM hX0 hS (zsp h) dX12_markAll_14
def f_X12_wrongRow (S0 : zM) (a0 : Nat) (v1 : Int32) (v2 : Int32) : Option (Int32) :=
  zB1 (f_X12_isShelf v1) (fun r2 => if r2 = 0 then some (-1 : Int32) else zChk (¬ (zr S0 a0 2) = 0) (zChk (¬ (v1 < 0 ∨ zln S0 (zr S0 a0 2) ≤ (v1).toNatClampNeg)) (if (zi S0 (zr S0 a0 2) (Int32.toNatClampNeg v1)) = 0 then some (-11 : Int32) else zChk (¬ (v1 < 0 ∨ zln S0 (zr S0 a0 2) ≤ (v1).toNatClampNeg)) (if (zi S0 (zr S0 a0 2) (Int32.toNatClampNeg v1)) = (2 : Int32) then if v2 < 0 then some (0 : Int32) else zChk (¬ (zr S0 a0 3) = 0) (zChk (¬ (v1 < 0 ∨ zln S0 (zr S0 a0 3) ≤ (v1).toNatClampNeg)) (if (zi S0 (zr S0 a0 3) (Int32.toNatClampNeg v1)) = v2 then some (0 : Int32) else some (-12 : Int32))) else some (-12 : Int32)))))
set_option maxHeartbeats 4000000 in
set_option maxRecDepth 100000 in
theorem c_X12_wrongRow (l : Launch) (D : va_G) (cy : Nat → ClassId) (B : Nat) {S0 : zM} {a0 : Nat} {v1 : Int32} {v2 : Int32} {r : Int32} (ha0 : zA S0 a0 12) (h : f_X12_wrongRow S0 a0 v1 v2 = some r) : Met l yX12_wrongRow (zws yX12_wrongRow cX12_wrongRow 3 ((some .int))) { frames := 2, cells := 0, slots := 0, locals := 45 } (zPc D cy B S0 [.ref (B + a0), .int v1, .int v2]) (zQi D cy B S0 r S0) 0 0 (fun q => B < q) := by
  refine Met.ofW (cc := cX12_wrongRow) (maxL := 3) (ret := ((some .int))) (by decide) rfl ?_
  intro p e s m args below meth c s₁ Bd hml hv
  obtain ⟨rfl, hC, hM⟩ := hv
  obtain ⟨hx, hb, hr, hg, hown, hlk⟩ := z_open Bd
  have hK := hC.1
  have hS : va_S (fun q => B < q) s.heap s.heap [] := va_S.rf
  have hX0 : zX S0 S0 := zX.rf
  refine z_entry (vs := [.ref (B + a0), .int v1, .int v2]) (Nat.le_of_ble_eq_true rfl) (fun ls hl => ?_)
  have hl : lv_has ls 3 [(0, .ref (B + a0)), (1, .int v1), (2, .int v2)] := hl
  unfold f_X12_wrongRow at h
  refine lv_iload_n hx hb dX12_wrongRow_0 rfl (lv_at hl 1 rfl) ?_
  obtain ⟨r2, hr1, h⟩ := zb1 h
  refine z_runi (va_runS (As := [.int v1]) (rest := []) ⟨hx, hb, hml, hown, hg⟩ (c_X12_isShelf l D cy B hr1) (z_cwS hg zw_1215 zw_1216 zw_13 zw_1217 zh_X12_isShelf.2 ⟨(Nat.le_of_ble_eq_true rfl), (Nat.le_of_ble_eq_true rfl)⟩) (zPS hC hM) rfl rfl hl.1 rfl (lv_room (Nat.le_of_ble_eq_true rfl)) dX12_wrongRow_1 ⟨(Nat.le_of_ble_eq_true rfl), (Nat.le_of_ble_eq_true rfl)⟩) hS (fun H locs hM hX3 hS => ?_)
  refine lv_if_ne (tgt := 11) hx hb dX12_wrongRow_4 (by decide) (fun hc5 => ?_) (fun hc5 => ?_)
  · have h := zf h hc5
    refine lv_aload_n hx hb dX12_wrongRow_11 rfl (lv_at hl 0 rfl) ?_
    obtain ⟨hq7, h⟩ := zk h
    refine z_getN hx hb hg zin_12 hown hK hM ha0 2 rfl (by decide) (hg _ zw_1002) (fun _ h9 => h9) hq7 dX12_wrongRow_12 (fun h6 => ?_)
    refine lv_iload_n hx hb dX12_wrongRow_15 rfl (lv_at hl 1 rfl) ?_
    obtain ⟨hq8, h⟩ := zk h
    refine z_iald hx hb hK hM h6 hq8 dX12_wrongRow_16 ?_
    refine lv_if_ne (tgt := 25) hx hb dX12_wrongRow_17 (by decide) (fun hc9 => ?_) (fun hc9 => ?_)
    · have h := zf h hc9
      refine lv_aload_n hx hb dX12_wrongRow_25 rfl (lv_at hl 0 rfl) ?_
      refine z_getN hx hb hg zin_12 hown hK hM ha0 2 rfl (by decide) (hg _ zw_1002) (fun _ h9 => h9) h6.ne dX12_wrongRow_26 (fun h10 => ?_)
      refine lv_iload_n hx hb dX12_wrongRow_29 rfl (lv_at hl 1 rfl) ?_
      obtain ⟨hq11, h⟩ := zk h
      refine z_iald hx hb hK hM h10 hq11 dX12_wrongRow_30 ?_
      refine lv_iconst (v := (2 : Int32)) hx hb dX12_wrongRow_31 (by decide +kernel) ?_
      refine lv_icmp_ne (tgt := 49) hx hb dX12_wrongRow_32 (by decide) (fun hc12 => ?_) (fun hc12 => ?_)
      · have h := zf h hc12
        refine lv_bipush (v := (-12 : Int32)) hx hb dX12_wrongRow_49 (by decide +kernel) ?_
        refine lv_goto (tgt := 55) hx hb dX12_wrongRow_51 (by decide) ?_
        exact z_iret hx hb hr hlk hM hX0 hS ⟨zsm h, rfl⟩ dX12_wrongRow_55
      · have h := zt h hc12
        refine lv_iload_n hx hb dX12_wrongRow_35 rfl (lv_at hl 2 rfl) ?_
        refine lv_if_lt (tgt := 54) hx hb dX12_wrongRow_36 (by decide) (fun hc13 => ?_) (fun hc13 => ?_)
        · have h := zt h hc13
          refine lv_iconst (v := (0 : Int32)) hx hb dX12_wrongRow_54 (by decide +kernel) ?_
          exact z_iret hx hb hr hlk hM hX0 hS ⟨zsm h, rfl⟩ dX12_wrongRow_55
        · have h := zf h hc13
          refine lv_aload_n hx hb dX12_wrongRow_39 rfl (lv_at hl 0 rfl) ?_
          obtain ⟨hq15, h⟩ := zk h
          refine z_getN hx hb hg zin_12 hown hK hM ha0 3 rfl (by decide) (hg _ zw_1003) (fun _ h9 => h9) hq15 dX12_wrongRow_40 (fun h14 => ?_)
          refine lv_iload_n hx hb dX12_wrongRow_43 rfl (lv_at hl 1 rfl) ?_
          obtain ⟨hq16, h⟩ := zk h
          refine z_iald hx hb hK hM h14 hq16 dX12_wrongRow_44 ?_
          refine lv_iload_n hx hb dX12_wrongRow_45 rfl (lv_at hl 2 rfl) ?_
          refine lv_icmp_eq (tgt := 54) hx hb dX12_wrongRow_46 (by decide) (fun hc17 => ?_) (fun hc17 => ?_)
          · have h := zt h hc17
            refine lv_iconst (v := (0 : Int32)) hx hb dX12_wrongRow_54 (by decide +kernel) ?_
            exact z_iret hx hb hr hlk hM hX0 hS ⟨zsm h, rfl⟩ dX12_wrongRow_55
          · have h := zf h hc17
            refine lv_bipush (v := (-12 : Int32)) hx hb dX12_wrongRow_49 (by decide +kernel) ?_
            refine lv_goto (tgt := 55) hx hb dX12_wrongRow_51 (by decide) ?_
            exact z_iret hx hb hr hlk hM hX0 hS ⟨zsm h, rfl⟩ dX12_wrongRow_55
    · have h := zt h hc9
      refine lv_bipush (v := (-11 : Int32)) hx hb dX12_wrongRow_20 (by decide +kernel) ?_
      refine lv_goto (tgt := 55) hx hb dX12_wrongRow_22 (by decide) ?_
      exact z_iret hx hb hr hlk hM hX0 hS ⟨zsm h, rfl⟩ dX12_wrongRow_55
  · have h := zt h hc5
    refine lv_iconst (v := (-1 : Int32)) hx hb dX12_wrongRow_7 (by decide +kernel) ?_
    refine lv_goto (tgt := 55) hx hb dX12_wrongRow_8 (by decide) ?_
    exact z_iret hx hb hr hlk hM hX0 hS ⟨zsm h, rfl⟩ dX12_wrongRow_55
def f_X12_marks_L103b (a0 : Nat) (v1 : Int32) (v2 : Int32) (K21 : zM → Option (Int32 × zM)) (rec103 : Int32 → zM → Option (Int32 × zM)) (x27 : Int32) (S28 : zM) : Option (Int32 × zM) :=
  if (7 : Int32) ≤ x27 then K21 S28 else zChk (¬ (zr S28 a0 4) = 0) (zChk (¬ (v2 < 0 ∨ zln S28 (zr S28 a0 4) ≤ (v2).toNatClampNeg)) (zLet (fun (x35 : Int32) => zChk (¬ (zr S28 a0 0) = 0) (zLet (fun (x42 : Int32) => zChk (¬ (((((112 : Int32) + ((19 : Int32) * v1)) + (5 : Int32)) + x27) < 0 ∨ zln S28 (zr S28 a0 0) ≤ (((((112 : Int32) + ((19 : Int32) * v1)) + (5 : Int32)) + x27)).toNatClampNeg)) (zLet (zpI S28 (zr S28 a0 0) (Int32.toNatClampNeg ((((112 : Int32) + ((19 : Int32) * v1)) + (5 : Int32)) + x27)) x42) (fun S46 => zChk (¬ (zr S46 a0 0) = 0) (if 0 ≤ x35 then zB1 (f_X12_get S46 a0 v1 (0 : Int32)) (fun r55 => zB1 (f_X12_onChair S46 a0 r55 x27) (fun r59 => zChk (¬ (((((112 : Int32) + ((19 : Int32) * v1)) + (12 : Int32)) + x27) < 0 ∨ zln S46 (zr S46 a0 0) ≤ (((((112 : Int32) + ((19 : Int32) * v1)) + (12 : Int32)) + x27)).toNatClampNeg)) (zLet (zpI S46 (zr S46 a0 0) (Int32.toNatClampNeg ((((112 : Int32) + ((19 : Int32) * v1)) + (12 : Int32)) + x27)) (r59 + (1 : Int32))) (fun S63 => rec103 (x27 + (1 : Int32)) S63)))) else zChk (¬ (((((112 : Int32) + ((19 : Int32) * v1)) + (12 : Int32)) + x27) < 0 ∨ zln S46 (zr S46 a0 0) ≤ (((((112 : Int32) + ((19 : Int32) * v1)) + (12 : Int32)) + x27)).toNatClampNeg)) (zLet (zpI S46 (zr S46 a0 0) (Int32.toNatClampNeg ((((112 : Int32) + ((19 : Int32) * v1)) + (12 : Int32)) + x27)) (0 : Int32)) (fun S69 => rec103 (x27 + (1 : Int32)) S69)))))) (fun K44 => if 0 ≤ x35 then K44 (x35 + (1 : Int32)) else K44 (0 : Int32)))) (fun K37 => if (zi S28 (zr S28 a0 4) (Int32.toNatClampNeg v2)) ≤ x27 then K37 (-128 : Int32) else zChk (¬ (zr S28 a0 5) = 0) (zChk (¬ ((((120 : Int32) * v2) + x27) < 0 ∨ zln S28 (zr S28 a0 5) ≤ ((((120 : Int32) * v2) + x27)).toNatClampNeg)) (K37 (zi S28 (zr S28 a0 5) (Int32.toNatClampNeg (((120 : Int32) * v2) + x27))))))))
def f_X12_marks_L103 (a0 : Nat) (v1 : Int32) (v2 : Int32) (K21 : zM → Option (Int32 × zM)) : Nat → Int32 → zM → Option (Int32 × zM)
  | 0 => fun _ _ => none
  | k + 1 => fun x27 S28 => f_X12_marks_L103b a0 v1 v2 K21 (f_X12_marks_L103 a0 v1 v2 K21 k) x27 S28
def f_X12_marks_L40b (S0 : zM) (a0 : Nat) (v2 : Int32) (K17 : Option (Int32 × zM)) (rec40 : Int32 → Option (Int32 × zM)) (x80 : Int32) : Option (Int32 × zM) :=
  zChk (¬ (zr S0 a0 4) = 0) (zChk (¬ (v2 < 0 ∨ zln S0 (zr S0 a0 4) ≤ (v2).toNatClampNeg)) (if (zi S0 (zr S0 a0 4) (Int32.toNatClampNeg v2)) ≤ x80 then K17 else zChk (¬ (zr S0 a0 5) = 0) (zChk (¬ ((((120 : Int32) * v2) + x80) < 0 ∨ zln S0 (zr S0 a0 5) ≤ ((((120 : Int32) * v2) + x80)).toNatClampNeg)) (if (zi S0 (zr S0 a0 5) (Int32.toNatClampNeg (((120 : Int32) * v2) + x80))) = (-128 : Int32) then rec40 (x80 + (1 : Int32)) else zChk (¬ ((((120 : Int32) * v2) + x80) < 0 ∨ zln S0 (zr S0 a0 5) ≤ ((((120 : Int32) * v2) + x80)).toNatClampNeg)) (zLet (f_X12_isIn (Int32.toInt64 (zi S0 (zr S0 a0 5) (Int32.toNatClampNeg (((120 : Int32) * v2) + x80)))) (0 : Int64) (20 : Int64)) (fun r93 => if r93 = 0 then some (((-13 : Int32), S0)) else rec40 (x80 + (1 : Int32))))))))
def f_X12_marks_L40 (S0 : zM) (a0 : Nat) (v2 : Int32) (K17 : Option (Int32 × zM)) : Nat → Int32 → Option (Int32 × zM)
  | 0 => fun _ => none
  | k + 1 => fun x80 => f_X12_marks_L40b S0 a0 v2 K17 (f_X12_marks_L40 S0 a0 v2 K17 k) x80
def f_X12_marks (n : Nat) (S0 : zM) (a0 : Nat) (v1 : Int32) (v2 : Int32) : Option (Int32 × zM) :=
  zB1 (f_X12_isDive S0 a0 v1) (fun r2 => if r2 = 0 then some (((-1 : Int32), S0)) else zB1 (f_X12_wrongRow S0 a0 v2 (0 : Int32)) (fun r7 => if r7 = 0 then zChk (¬ (zr S0 a0 4) = 0) (zChk (¬ (v2 < 0 ∨ zln S0 (zr S0 a0 4) ≤ (v2).toNatClampNeg)) (if (zi S0 (zr S0 a0 4) (Int32.toNatClampNeg v2)) ≤ (7 : Int32) then zLet (zLet (fun (S19 : zM) => zB1 (f_X12_marksOf n S19 a0 v1) (fun r23 => some ((r23, S19)))) (fun K21 => f_X12_marks_L103 a0 v1 v2 K21 n (0 : Int32) S0)) (fun K17 => f_X12_marks_L40 S0 a0 v2 K17 n (0 : Int32)) else some (((-13 : Int32), S0)))) else some ((r7, S0))))
set_option maxHeartbeats 4000000 in
set_option maxRecDepth 100000 in
theorem c_X12_marks (l : Launch) (D : va_G) (cy : Nat → ClassId) (B : Nat) {n : Nat} {S0 : zM} {a0 : Nat} {v1 : Int32} {v2 : Int32} {r : Int32} {S' : zM} (ha0 : zA S0 a0 12) (h : f_X12_marks n S0 a0 v1 v2 = some (r, S')) : Met l yX12_marks (zws yX12_marks cX12_marks 6 ((some .int))) { frames := 3, cells := 0, slots := 0, locals := 67 } (zPc D cy B S0 [.ref (B + a0), .int v1, .int v2]) (zQi D cy B S0 r S') 0 0 (fun q => B < q) := by
  refine Met.ofW (cc := cX12_marks) (maxL := 6) (ret := ((some .int))) (by decide) rfl ?_
  intro p e s m args below meth c s₁ Bd hml hv
  obtain ⟨rfl, hC, hM⟩ := hv
  obtain ⟨hx, hb, hr, hg, hown, hlk⟩ := z_open Bd
  have hK := hC.1
  have hS : va_S (fun q => B < q) s.heap s.heap [] := va_S.rf
  have hX0 : zX S0 S0 := zX.rf
  refine z_entry (vs := [.ref (B + a0), .int v1, .int v2]) (Nat.le_of_ble_eq_true rfl) (fun ls hl => ?_)
  have hl : lv_has ls 6 [(0, .ref (B + a0)), (1, .int v1), (2, .int v2)] := hl
  unfold f_X12_marks at h
  refine lv_aload_n hx hb dX12_marks_0 rfl (lv_at hl 0 rfl) ?_
  refine lv_iload_n hx hb dX12_marks_1 rfl (lv_at hl 1 rfl) ?_
  obtain ⟨r2, hr1, h⟩ := zb1 h
  refine z_runi (va_runV (As := [.int v1]) (rest := []) ⟨hx, hb, hml, hown, hg⟩ (c_X12_isDive l D cy B ha0 hr1) (z_cwV hg zw_1160 zw_1161 zw_1486 zw_13 zw_1162 zh_X12_isDive ⟨(Nat.le_of_ble_eq_true rfl), (Nat.le_of_ble_eq_true rfl)⟩) (zPV hC hM ha0 (by decide) rfl) rfl rfl hl.1 rfl (lv_room (Nat.le_of_ble_eq_true rfl)) dX12_marks_2 ⟨(Nat.le_of_ble_eq_true rfl), (Nat.le_of_ble_eq_true rfl)⟩) hS (fun H locs hM hX3 hS => ?_)
  refine lv_if_ne (tgt := 10) hx hb dX12_marks_5 (by decide) (fun hc5 => ?_) (fun hc5 => ?_)
  · have h := zf h hc5
    refine lv_aload_n hx hb dX12_marks_10 rfl (lv_at hl 0 rfl) ?_
    refine lv_iload_n hx hb dX12_marks_11 rfl (lv_at hl 2 rfl) ?_
    refine lv_iconst (v := (0 : Int32)) hx hb dX12_marks_12 (by decide +kernel) ?_
    obtain ⟨r7, hr6, h⟩ := zb1 h
    refine z_runi (va_runV (As := [.int v2, .int (0 : Int32)]) (rest := []) ⟨hx, hb, hml, hown, hg⟩ (c_X12_wrongRow l D cy B ha0 hr6) (z_cwV hg zw_1212 zw_1213 zw_1496 zw_13 zw_1214 zh_X12_wrongRow ⟨(Nat.le_of_ble_eq_true rfl), (Nat.le_of_ble_eq_true rfl)⟩) (zPV hC hM ha0 (by decide) rfl) rfl rfl hl.1 rfl (lv_room (Nat.le_of_ble_eq_true rfl)) dX12_marks_13 ⟨(Nat.le_of_ble_eq_true rfl), (Nat.le_of_ble_eq_true rfl)⟩) hS (fun H locs hM hX8 hS => ?_)
    refine lv_istore_n (i := 3) (lv' := [(3, .int r7), (0, .ref (B + a0)), (1, .int v1), (2, .int v2)]) hx hb dX12_marks_16 rfl hl (by decide) rfl (fun ls hl => ?_)
    refine lv_iload_n hx hb dX12_marks_17 rfl (lv_at hl 0 rfl) ?_
    refine lv_if_eq (tgt := 23) hx hb dX12_marks_18 (by decide) (fun hc10 => ?_) (fun hc10 => ?_)
    · have h := zt h hc10
      refine lv_aload_n hx hb dX12_marks_23 rfl (lv_at hl 1 rfl) ?_
      obtain ⟨hq12, h⟩ := zk h
      refine z_getN hx hb hg zin_12 hown hK hM ha0 4 rfl (by decide) (hg _ zw_1004) (fun _ h9 => h9) hq12 dX12_marks_24 (fun h11 => ?_)
      refine lv_iload_n hx hb dX12_marks_27 rfl (lv_at hl 3 rfl) ?_
      obtain ⟨hq13, h⟩ := zk h
      refine z_iald hx hb hK hM h11 hq13 dX12_marks_28 ?_
      refine lv_bipush (v := (7 : Int32)) hx hb dX12_marks_29 (by decide +kernel) ?_
      refine lv_icmp_le (tgt := 37) hx hb dX12_marks_31 (by decide) (fun hc14 => ?_) (fun hc14 => ?_)
      · have h := zt h hc14
        refine lv_iconst (v := (0 : Int32)) hx hb dX12_marks_37 (by decide +kernel) ?_
        refine lv_istore (i := 4) (lv' := [(4, .int (0 : Int32)), (3, .int r7), (0, .ref (B + a0)), (1, .int v1), (2, .int v2)]) hx hb dX12_marks_38 hl (by decide) rfl (fun ls hl => ?_)
        obtain ⟨K17, eK17, h⟩ := zlg h
        have hK17 : ∀ (H : Heap) (locs : List Loc), zMR D cy B S0 H → zX S0 S0 → va_S (fun q => B < q) s.heap H locs → zA S0 a0 12 → ∀ ls : Array Slot, lv_has ls 6 [(0, .ref (B + a0)), (1, .int v1), (2, .int v2)] → K17 = some (r, S') → W p l e (headSpec (zws yX12_marks cX12_marks 6 ((some .int))) { frames := 3, cells := 0, slots := 0, locals := 67 }).room s m (([.ref (B + a0), .int v1, .int v2] : List Value).toArray) below meth c H locs 0 0 (MQ below (zQi D cy B S0 r S') (([.ref (B + a0), .int v1, .int v2] : List Value).toArray) s 0 0 (fun q => B < q)) (F0 m 100 ls []) := by
          intro H locs hM hX16 hS h15 ls hl h
          rw [eK17] at h
          refine lv_iconst (v := (0 : Int32)) hx hb dX12_marks_100 (by decide +kernel) ?_
          refine lv_istore (i := 4) (lv' := [(4, .int (0 : Int32)), (0, .ref (B + a0)), (1, .int v1), (2, .int v2)]) hx hb dX12_marks_101 hl (by decide) rfl (fun ls hl => ?_)
          obtain ⟨K21, eK21, h⟩ := zlg h
          have hK21 : ∀ (S19 : zM) (H : Heap) (locs : List Loc), zMR D cy B S19 H → zX S0 S19 → va_S (fun q => B < q) s.heap H locs → zA S19 a0 12 → ∀ ls : Array Slot, lv_has ls 6 [(0, .ref (B + a0)), (1, .int v1)] → K21 S19 = some (r, S') → W p l e (headSpec (zws yX12_marks cX12_marks 6 ((some .int))) { frames := 3, cells := 0, slots := 0, locals := 67 }).room s m (([.ref (B + a0), .int v1, .int v2] : List Value).toArray) below meth c H locs 0 0 (MQ below (zQi D cy B S0 r S') (([.ref (B + a0), .int v1, .int v2] : List Value).toArray) s 0 0 (fun q => B < q)) (F0 m 217 ls []) := by
            intro S19 H locs hM hX20 hS h18 ls hl h
            rw [eK21] at h
            refine lv_aload_n hx hb dX12_marks_217 rfl (lv_at hl 0 rfl) ?_
            refine lv_iload_n hx hb dX12_marks_218 rfl (lv_at hl 1 rfl) ?_
            obtain ⟨r23, hr22, h⟩ := zb1 h
            refine z_runi (va_runV (As := [.int v1]) (rest := []) ⟨hx, hb, hml, hown, hg⟩ (c_X12_marksOf l D cy B h18 hr22) (z_cwV hg zw_1169 zw_1170 zw_1489 zw_13 zw_1171 zh_X12_marksOf ⟨(Nat.le_of_ble_eq_true rfl), (Nat.le_of_ble_eq_true rfl)⟩) (zPV hC hM h18 (by decide) rfl) rfl rfl hl.1 rfl (lv_room (Nat.le_of_ble_eq_true rfl)) dX12_marks_219 ⟨(Nat.le_of_ble_eq_true rfl), (Nat.le_of_ble_eq_true rfl)⟩) hS (fun H locs hM hX24 hS => ?_)
            exact z_iret hx hb hr hlk hM hX20 hS (zsp h) dX12_marks_222
          have hL103 : ∀ (k : Nat) (x27 : Int32) (S28 : zM) (H : Heap) (locs : List Loc), zMR D cy B S28 H → zX S0 S28 → va_S (fun q => B < q) s.heap H locs → zA S28 a0 12 → ∀ ls : Array Slot, lv_has ls 6 [(0, .ref (B + a0)), (1, .int v1), (2, .int v2), (4, .int x27)] → f_X12_marks_L103 a0 v1 v2 K21 k x27 S28 = some (r, S') → W p l e (headSpec (zws yX12_marks cX12_marks 6 ((some .int))) { frames := 3, cells := 0, slots := 0, locals := 67 }).room s m (([.ref (B + a0), .int v1, .int v2] : List Value).toArray) below meth c H locs 0 0 (MQ below (zQi D cy B S0 r S') (([.ref (B + a0), .int v1, .int v2] : List Value).toArray) s 0 0 (fun q => B < q)) (F0 m 103 ls []) := by
            intro k
            induction k with
            | zero =>
              intro x27 S28 H locs hM hX29 hS h26 ls hl h
              exact znone h
            | succ k ih103 =>
              intro x27 S28 H locs hM hX29 hS h26 ls hl h
              replace h : f_X12_marks_L103b a0 v1 v2 K21 (f_X12_marks_L103 a0 v1 v2 K21 k) x27 S28 = some (r, S') := h
              generalize f_X12_marks_L103 a0 v1 v2 K21 k = rec103 at ih103 h
              unfold f_X12_marks_L103b at h
              refine lv_iload hx hb dX12_marks_103 (lv_at hl 3 rfl) ?_
              refine lv_bipush (v := (7 : Int32)) hx hb dX12_marks_105 (by decide +kernel) ?_
              refine lv_icmp_ge (tgt := 217) hx hb dX12_marks_107 (by decide) (fun hc30 => ?_) (fun hc30 => ?_)
              · have h := zt h hc30
                exact hK21 S28 _ _ hM hX29 hS h26 _ (lv_sub hl [0, 1] rfl) h
              · have h := zf h hc30
                refine lv_iload hx hb dX12_marks_110 (lv_at hl 3 rfl) ?_
                refine lv_aload_n hx hb dX12_marks_112 rfl (lv_at hl 0 rfl) ?_
                obtain ⟨hq32, h⟩ := zk h
                refine z_getN hx hb hg zin_12 hown hK hM h26 4 rfl (by decide) (hg _ zw_1004) (fun _ h9 => h9) hq32 dX12_marks_113 (fun h31 => ?_)
                refine lv_iload_n hx hb dX12_marks_116 rfl (lv_at hl 2 rfl) ?_
                obtain ⟨hq33, h⟩ := zk h
                refine z_iald hx hb hK hM h31 hq33 dX12_marks_117 ?_
                obtain ⟨K37, eK37, h⟩ := zlg h
                have hK37 : ∀ (x35 : Int32) (H : Heap) (locs : List Loc), zMR D cy B S28 H → zX S0 S28 → va_S (fun q => B < q) s.heap H locs → zA S28 a0 12 → ∀ ls : Array Slot, lv_has ls 6 [(0, .ref (B + a0)), (1, .int v1), (2, .int v2), (4, .int x27)] → K37 x35 = some (r, S') → W p l e (headSpec (zws yX12_marks cX12_marks 6 ((some .int))) { frames := 3, cells := 0, slots := 0, locals := 67 }).room s m (([.ref (B + a0), .int v1, .int v2] : List Value).toArray) below meth c H locs 0 0 (MQ below (zQi D cy B S0 r S') (([.ref (B + a0), .int v1, .int v2] : List Value).toArray) s 0 0 (fun q => B < q)) (F0 m 138 ls [.int x35]) := by
                  intro x35 H locs hM hX36 hS h34 ls hl h
                  rw [eK37] at h
                  refine lv_istore (i := 5) (lv' := [(5, .int x35), (0, .ref (B + a0)), (1, .int v1), (2, .int v2), (4, .int x27)]) hx hb dX12_marks_138 hl (by decide) rfl (fun ls hl => ?_)
                  refine lv_aload_n hx hb dX12_marks_140 rfl (lv_at hl 1 rfl) ?_
                  obtain ⟨hq39, h⟩ := zk h
                  refine z_getN hx hb hg zin_12 hown hK hM h34 0 rfl (by decide) (hg _ zw_1000) (fun _ h9 => h9) hq39 dX12_marks_141 (fun h38 => ?_)
                  refine lv_bipush (v := (112 : Int32)) hx hb dX12_marks_144 (by decide +kernel) ?_
                  refine lv_bipush (v := (19 : Int32)) hx hb dX12_marks_146 (by decide +kernel) ?_
                  refine lv_iload_n hx hb dX12_marks_148 rfl (lv_at hl 2 rfl) ?_
                  refine lv_imul hx hb dX12_marks_149 ?_
                  refine lv_iadd hx hb dX12_marks_150 ?_
                  refine lv_iconst (v := (5 : Int32)) hx hb dX12_marks_151 (by decide +kernel) ?_
                  refine lv_iadd hx hb dX12_marks_152 ?_
                  refine lv_iload hx hb dX12_marks_153 (lv_at hl 4 rfl) ?_
                  refine lv_iadd hx hb dX12_marks_155 ?_
                  refine lv_iload hx hb dX12_marks_156 (lv_at hl 0 rfl) ?_
                  obtain ⟨K44, eK44, h⟩ := zlg h
                  have hK44 : ∀ (x42 : Int32) (H : Heap) (locs : List Loc), zMR D cy B S28 H → zX S0 S28 → va_S (fun q => B < q) s.heap H locs → zA S28 a0 12 → zA S28 (zr S28 a0 0) 20 → ∀ ls : Array Slot, lv_has ls 6 [(0, .ref (B + a0)), (1, .int v1), (2, .int v2), (4, .int x27), (5, .int x35)] → K44 x42 = some (r, S') → W p l e (headSpec (zws yX12_marks cX12_marks 6 ((some .int))) { frames := 3, cells := 0, slots := 0, locals := 67 }).room s m (([.ref (B + a0), .int v1, .int v2] : List Value).toArray) below meth c H locs 0 0 (MQ below (zQi D cy B S0 r S') (([.ref (B + a0), .int v1, .int v2] : List Value).toArray) s 0 0 (fun q => B < q)) (F0 m 169 ls [.int x42, .int ((((112 : Int32) + ((19 : Int32) * v1)) + (5 : Int32)) + x27), .ref (B + (zr S28 a0 0))]) := by
                    intro x42 H locs hM hX43 hS h40 h41 ls hl h
                    rw [eK44] at h
                    obtain ⟨hq45, h⟩ := zk h
                    refine z_iast hx hb hK hM hS h41 hq45 dX12_marks_169 (fun H locs hM hS => ?_)
                    obtain ⟨S46, e47, h⟩ := zlg h
                    rw [← e47] at hM
                    have hX48 : zX S28 S46 := by rw [e47]; exact zX_pI
                    have h49 := h40.mo hX48
                    have hX50 := hX43.tr hX48
                    refine lv_aload_n hx hb dX12_marks_170 rfl (lv_at hl 0 rfl) ?_
                    obtain ⟨hq52, h⟩ := zk h
                    refine z_getN hx hb hg zin_12 hown hK hM h49 0 rfl (by decide) (hg _ zw_1000) (fun _ h9 => h9) hq52 dX12_marks_171 (fun h51 => ?_)
                    refine lv_bipush (v := (112 : Int32)) hx hb dX12_marks_174 (by decide +kernel) ?_
                    refine lv_bipush (v := (19 : Int32)) hx hb dX12_marks_176 (by decide +kernel) ?_
                    refine lv_iload_n hx hb dX12_marks_178 rfl (lv_at hl 1 rfl) ?_
                    refine lv_imul hx hb dX12_marks_179 ?_
                    refine lv_iadd hx hb dX12_marks_180 ?_
                    refine lv_bipush (v := (12 : Int32)) hx hb dX12_marks_181 (by decide +kernel) ?_
                    refine lv_iadd hx hb dX12_marks_183 ?_
                    refine lv_iload hx hb dX12_marks_184 (lv_at hl 3 rfl) ?_
                    refine lv_iadd hx hb dX12_marks_186 ?_
                    refine lv_iload hx hb dX12_marks_187 (lv_at hl 4 rfl) ?_
                    refine lv_if_ge (tgt := 196) hx hb dX12_marks_189 (by decide) (fun hc53 => ?_) (fun hc53 => ?_)
                    · have h := zt h hc53
                      refine lv_aload_n hx hb dX12_marks_196 rfl (lv_at hl 0 rfl) ?_
                      refine lv_aload_n hx hb dX12_marks_197 rfl (lv_at hl 0 rfl) ?_
                      refine lv_iload_n hx hb dX12_marks_198 rfl (lv_at hl 1 rfl) ?_
                      refine lv_iconst (v := (0 : Int32)) hx hb dX12_marks_199 (by decide +kernel) ?_
                      obtain ⟨r55, hr54, h⟩ := zb1 h
                      refine z_runi (va_runV (As := [.int v1, .int (0 : Int32)]) (rest := [.ref (B + a0), .int ((((112 : Int32) + ((19 : Int32) * v1)) + (12 : Int32)) + x27), .ref (B + (zr S46 a0 0))]) ⟨hx, hb, hml, hown, hg⟩ (c_X12_get l D cy B h49 hr54) (z_cwV hg zw_1163 zw_1164 zw_1487 zw_13 zw_1165 zh_X12_get ⟨(Nat.le_of_ble_eq_true rfl), (Nat.le_of_ble_eq_true rfl)⟩) (zPV hC hM h49 (by decide) rfl) rfl rfl hl.1 rfl (lv_room (Nat.le_of_ble_eq_true rfl)) dX12_marks_200 ⟨(Nat.le_of_ble_eq_true rfl), (Nat.le_of_ble_eq_true rfl)⟩) hS (fun H locs hM hX56 hS => ?_)
                      refine lv_iload hx hb dX12_marks_203 (lv_at hl 3 rfl) ?_
                      obtain ⟨r59, hr58, h⟩ := zb1 h
                      refine z_runi (va_runV (As := [.int r55, .int x27]) (rest := [.int ((((112 : Int32) + ((19 : Int32) * v1)) + (12 : Int32)) + x27), .ref (B + (zr S46 a0 0))]) ⟨hx, hb, hml, hown, hg⟩ (c_X12_onChair l D cy B h49 hr58) (z_cwV hg zw_1143 zw_1144 zw_1484 zw_13 zw_1145 zh_X12_onChair ⟨(Nat.le_of_ble_eq_true rfl), (Nat.le_of_ble_eq_true rfl)⟩) (zPV hC hM h49 (by decide) rfl) rfl rfl hl.1 rfl (lv_room (Nat.le_of_ble_eq_true rfl)) dX12_marks_205 ⟨(Nat.le_of_ble_eq_true rfl), (Nat.le_of_ble_eq_true rfl)⟩) hS (fun H locs hM hX60 hS => ?_)
                      refine lv_iconst (v := (1 : Int32)) hx hb dX12_marks_208 (by decide +kernel) ?_
                      refine lv_iadd hx hb dX12_marks_209 ?_
                      obtain ⟨hq62, h⟩ := zk h
                      refine z_iast hx hb hK hM hS h51 hq62 dX12_marks_210 (fun H locs hM hS => ?_)
                      obtain ⟨S63, e64, h⟩ := zlg h
                      rw [← e64] at hM
                      have hX65 : zX S46 S63 := by rw [e64]; exact zX_pI
                      have h66 := h49.mo hX65
                      have hX67 := hX50.tr hX65
                      refine lv_iinc (v := (x27 + (1 : Int32))) (lv' := [(4, .int (x27 + (1 : Int32))), (0, .ref (B + a0)), (1, .int v1), (2, .int v2), (5, .int x35)]) hx hb dX12_marks_211 hl (k := 3) rfl rfl (by decide) rfl (fun ls hl => ?_)
                      refine lv_goto (tgt := 103) hx hb dX12_marks_214 (by decide) ?_
                      exact ih103 (x27 + (1 : Int32)) S63 _ _ hM hX67 hS h66 _ (lv_sub hl [1, 2, 3, 0] rfl) h
                    · have h := zf h hc53
                      refine lv_iconst (v := (0 : Int32)) hx hb dX12_marks_192 (by decide +kernel) ?_
                      refine lv_goto (tgt := 210) hx hb dX12_marks_193 (by decide) ?_
                      obtain ⟨hq68, h⟩ := zk h
                      refine z_iast hx hb hK hM hS h51 hq68 dX12_marks_210 (fun H locs hM hS => ?_)
                      obtain ⟨S69, e70, h⟩ := zlg h
                      rw [← e70] at hM
                      have hX71 : zX S46 S69 := by rw [e70]; exact zX_pI
                      have h72 := h49.mo hX71
                      have hX73 := hX50.tr hX71
                      refine lv_iinc (v := (x27 + (1 : Int32))) (lv' := [(4, .int (x27 + (1 : Int32))), (0, .ref (B + a0)), (1, .int v1), (2, .int v2), (5, .int x35)]) hx hb dX12_marks_211 hl (k := 3) rfl rfl (by decide) rfl (fun ls hl => ?_)
                      refine lv_goto (tgt := 103) hx hb dX12_marks_214 (by decide) ?_
                      exact ih103 (x27 + (1 : Int32)) S69 _ _ hM hX73 hS h72 _ (lv_sub hl [1, 2, 3, 0] rfl) h
                  refine lv_if_ge (tgt := 165) hx hb dX12_marks_158 (by decide) (fun hc74 => ?_) (fun hc74 => ?_)
                  · have h := zt h hc74
                    refine lv_iload hx hb dX12_marks_165 (lv_at hl 0 rfl) ?_
                    refine lv_iconst (v := (1 : Int32)) hx hb dX12_marks_167 (by decide +kernel) ?_
                    refine lv_iadd hx hb dX12_marks_168 ?_
                    exact hK44 (x35 + (1 : Int32)) _ _ hM hX36 hS h34 h38 _ (lv_sub hl [1, 2, 3, 4, 0] rfl) h
                  · have h := zf h hc74
                    refine lv_iconst (v := (0 : Int32)) hx hb dX12_marks_161 (by decide +kernel) ?_
                    refine lv_goto (tgt := 169) hx hb dX12_marks_162 (by decide) ?_
                    exact hK44 (0 : Int32) _ _ hM hX36 hS h34 h38 _ (lv_sub hl [1, 2, 3, 4, 0] rfl) h
                refine lv_icmp_ge (tgt := 136) hx hb dX12_marks_118 (by decide) (fun hc75 => ?_) (fun hc75 => ?_)
                · have h := zt h hc75
                  refine lv_bipush (v := (-128 : Int32)) hx hb dX12_marks_136 (by decide +kernel) ?_
                  exact hK37 (-128 : Int32) _ _ hM hX29 hS h26 _ (lv_sub hl [0, 1, 2, 3] rfl) h
                · have h := zf h hc75
                  refine lv_aload_n hx hb dX12_marks_121 rfl (lv_at hl 0 rfl) ?_
                  obtain ⟨hq77, h⟩ := zk h
                  refine z_getN hx hb hg zin_12 hown hK hM h26 5 rfl (by decide) (hg _ zw_1005) (fun _ h9 => h9) hq77 dX12_marks_122 (fun h76 => ?_)
                  refine lv_bipush (v := (120 : Int32)) hx hb dX12_marks_125 (by decide +kernel) ?_
                  refine lv_iload_n hx hb dX12_marks_127 rfl (lv_at hl 2 rfl) ?_
                  refine lv_imul hx hb dX12_marks_128 ?_
                  refine lv_iload hx hb dX12_marks_129 (lv_at hl 3 rfl) ?_
                  refine lv_iadd hx hb dX12_marks_131 ?_
                  obtain ⟨hq78, h⟩ := zk h
                  refine z_iald hx hb hK hM h76 hq78 dX12_marks_132 ?_
                  refine lv_goto (tgt := 138) hx hb dX12_marks_133 (by decide) ?_
                  exact hK37 (zi S28 (zr S28 a0 5) (Int32.toNatClampNeg (((120 : Int32) * v2) + x27))) _ _ hM hX29 hS h26 _ (lv_sub hl [0, 1, 2, 3] rfl) h
          exact hL103 n (0 : Int32) S0 _ _ hM hX16 hS h15 _ (lv_sub hl [1, 2, 3, 0] rfl) h
        have hL40 : ∀ (k : Nat) (x80 : Int32) (H : Heap) (locs : List Loc), zMR D cy B S0 H → zX S0 S0 → va_S (fun q => B < q) s.heap H locs → zA S0 a0 12 → ∀ ls : Array Slot, lv_has ls 6 [(0, .ref (B + a0)), (1, .int v1), (2, .int v2), (4, .int x80)] → f_X12_marks_L40 S0 a0 v2 K17 k x80 = some (r, S') → W p l e (headSpec (zws yX12_marks cX12_marks 6 ((some .int))) { frames := 3, cells := 0, slots := 0, locals := 67 }).room s m (([.ref (B + a0), .int v1, .int v2] : List Value).toArray) below meth c H locs 0 0 (MQ below (zQi D cy B S0 r S') (([.ref (B + a0), .int v1, .int v2] : List Value).toArray) s 0 0 (fun q => B < q)) (F0 m 40 ls []) := by
          intro k
          induction k with
          | zero =>
            intro x80 H locs hM hX81 hS h79 ls hl h
            exact znone h
          | succ k ih40 =>
            intro x80 H locs hM hX81 hS h79 ls hl h
            replace h : f_X12_marks_L40b S0 a0 v2 K17 (f_X12_marks_L40 S0 a0 v2 K17 k) x80 = some (r, S') := h
            generalize f_X12_marks_L40 S0 a0 v2 K17 k = rec40 at ih40 h
            unfold f_X12_marks_L40b at h
            refine lv_iload hx hb dX12_marks_40 (lv_at hl 3 rfl) ?_
            refine lv_aload_n hx hb dX12_marks_42 rfl (lv_at hl 0 rfl) ?_
            obtain ⟨hq83, h⟩ := zk h
            refine z_getN hx hb hg zin_12 hown hK hM h79 4 rfl (by decide) (hg _ zw_1004) (fun _ h9 => h9) hq83 dX12_marks_43 (fun h82 => ?_)
            refine lv_iload_n hx hb dX12_marks_46 rfl (lv_at hl 2 rfl) ?_
            obtain ⟨hq84, h⟩ := zk h
            refine z_iald hx hb hK hM h82 hq84 dX12_marks_47 ?_
            refine lv_icmp_ge (tgt := 100) hx hb dX12_marks_48 (by decide) (fun hc85 => ?_) (fun hc85 => ?_)
            · have h := zt h hc85
              exact hK17 _ _ hM hX81 hS h79 _ (lv_sub hl [0, 1, 2] rfl) h
            · have h := zf h hc85
              refine lv_aload_n hx hb dX12_marks_51 rfl (lv_at hl 0 rfl) ?_
              obtain ⟨hq87, h⟩ := zk h
              refine z_getN hx hb hg zin_12 hown hK hM h79 5 rfl (by decide) (hg _ zw_1005) (fun _ h9 => h9) hq87 dX12_marks_52 (fun h86 => ?_)
              refine lv_bipush (v := (120 : Int32)) hx hb dX12_marks_55 (by decide +kernel) ?_
              refine lv_iload_n hx hb dX12_marks_57 rfl (lv_at hl 2 rfl) ?_
              refine lv_imul hx hb dX12_marks_58 ?_
              refine lv_iload hx hb dX12_marks_59 (lv_at hl 3 rfl) ?_
              refine lv_iadd hx hb dX12_marks_61 ?_
              obtain ⟨hq88, h⟩ := zk h
              refine z_iald hx hb hK hM h86 hq88 dX12_marks_62 ?_
              refine lv_bipush (v := (-128 : Int32)) hx hb dX12_marks_63 (by decide +kernel) ?_
              refine lv_icmp_eq (tgt := 94) hx hb dX12_marks_65 (by decide) (fun hc89 => ?_) (fun hc89 => ?_)
              · have h := zt h hc89
                refine lv_iinc (v := (x80 + (1 : Int32))) (lv' := [(4, .int (x80 + (1 : Int32))), (0, .ref (B + a0)), (1, .int v1), (2, .int v2)]) hx hb dX12_marks_94 hl (k := 3) rfl rfl (by decide) rfl (fun ls hl => ?_)
                refine lv_goto (tgt := 40) hx hb dX12_marks_97 (by decide) ?_
                exact ih40 (x80 + (1 : Int32)) _ _ hM hX81 hS h79 _ (lv_sub hl [1, 2, 3, 0] rfl) h
              · have h := zf h hc89
                refine lv_aload_n hx hb dX12_marks_68 rfl (lv_at hl 0 rfl) ?_
                refine z_getN hx hb hg zin_12 hown hK hM h79 5 rfl (by decide) (hg _ zw_1005) (fun _ h9 => h9) h86.ne dX12_marks_69 (fun h90 => ?_)
                refine lv_bipush (v := (120 : Int32)) hx hb dX12_marks_72 (by decide +kernel) ?_
                refine lv_iload_n hx hb dX12_marks_74 rfl (lv_at hl 2 rfl) ?_
                refine lv_imul hx hb dX12_marks_75 ?_
                refine lv_iload hx hb dX12_marks_76 (lv_at hl 3 rfl) ?_
                refine lv_iadd hx hb dX12_marks_78 ?_
                obtain ⟨hq91, h⟩ := zk h
                refine z_iald hx hb hK hM h90 hq91 dX12_marks_79 ?_
                refine lv_i2l hx hb dX12_marks_80 rfl ?_
                refine lv_lconst (v := (0 : Int64)) hx hb dX12_marks_81 (by decide +kernel) ?_
                refine lv_ldc2 (v := (20 : Int64)) hx hb hown (hg _ zw_1218) dX12_marks_82 ?_
                obtain ⟨r93, hr92, h⟩ := zlg h
                have hr92 := hr92.symm
                refine z_runi (va_runS (As := [.long (Int32.toInt64 (zi S0 (zr S0 a0 5) (Int32.toNatClampNeg (((120 : Int32) * v2) + x80)))), .long (0 : Int64), .long (20 : Int64)]) (rest := []) ⟨hx, hb, hml, hown, hg⟩ (c_X12_isIn l D cy B hr92) (z_cwS hg zw_1111 zw_1112 zw_13 zw_1113 zh_X12_isIn.2 ⟨(Nat.le_of_ble_eq_true rfl), (Nat.le_of_ble_eq_true rfl)⟩) (zPS hC hM) rfl rfl hl.1 rfl (lv_room (Nat.le_of_ble_eq_true rfl)) dX12_marks_85 ⟨(Nat.le_of_ble_eq_true rfl), (Nat.le_of_ble_eq_true rfl)⟩) hS (fun H locs hM hX94 hS => ?_)
                refine lv_if_ne (tgt := 94) hx hb dX12_marks_88 (by decide) (fun hc96 => ?_) (fun hc96 => ?_)
                · have h := zf h hc96
                  refine lv_iinc (v := (x80 + (1 : Int32))) (lv' := [(4, .int (x80 + (1 : Int32))), (0, .ref (B + a0)), (1, .int v1), (2, .int v2)]) hx hb dX12_marks_94 hl (k := 3) rfl rfl (by decide) rfl (fun ls hl => ?_)
                  refine lv_goto (tgt := 40) hx hb dX12_marks_97 (by decide) ?_
                  exact ih40 (x80 + (1 : Int32)) _ _ hM hX81 hS h79 _ (lv_sub hl [1, 2, 3, 0] rfl) h
                · have h := zt h hc96
                  refine lv_bipush (v := (-13 : Int32)) hx hb dX12_marks_91 (by decide +kernel) ?_
                  exact z_iret hx hb hr hlk hM hX81 hS (zsp h) dX12_marks_93
        exact hL40 n (0 : Int32) _ _ hM hX0 hS ha0 _ (lv_sub hl [2, 3, 4, 0] rfl) h
      · have h := zf h hc14
        refine lv_bipush (v := (-13 : Int32)) hx hb dX12_marks_34 (by decide +kernel) ?_
        exact z_iret hx hb hr hlk hM hX0 hS (zsp h) dX12_marks_36
    · have h := zf h hc10
      refine lv_iload_n hx hb dX12_marks_21 rfl (lv_at hl 0 rfl) ?_
      exact z_iret hx hb hr hlk hM hX0 hS (zsp h) dX12_marks_22
  · have h := zt h hc5
    refine lv_iconst (v := (-1 : Int32)) hx hb dX12_marks_8 (by decide +kernel) ?_
    exact z_iret hx hb hr hlk hM hX0 hS (zsp h) dX12_marks_9
def f_X12_markOf (S0 : zM) (a0 : Nat) (v1 : Int32) (v2 : Int32) : Option (Int32) :=
  zB1 (f_X12_get S0 a0 v1 ((5 : Int32) + v2)) (fun r2 => some (r2 - (1 : Int32)))
set_option maxHeartbeats 4000000 in
set_option maxRecDepth 100000 in
theorem c_X12_markOf (l : Launch) (D : va_G) (cy : Nat → ClassId) (B : Nat) {S0 : zM} {a0 : Nat} {v1 : Int32} {v2 : Int32} {r : Int32} (ha0 : zA S0 a0 12) (h : f_X12_markOf S0 a0 v1 v2 = some r) : Met l yX12_markOf (zws yX12_markOf cX12_markOf 3 ((some .int))) { frames := 1, cells := 0, slots := 0, locals := 22 } (zPc D cy B S0 [.ref (B + a0), .int v1, .int v2]) (zQi D cy B S0 r S0) 0 0 (fun q => B < q) := by
  refine Met.ofW (cc := cX12_markOf) (maxL := 3) (ret := ((some .int))) (by decide) rfl ?_
  intro p e s m args below meth c s₁ Bd hml hv
  obtain ⟨rfl, hC, hM⟩ := hv
  obtain ⟨hx, hb, hr, hg, hown, hlk⟩ := z_open Bd
  have hK := hC.1
  have hS : va_S (fun q => B < q) s.heap s.heap [] := va_S.rf
  have hX0 : zX S0 S0 := zX.rf
  refine z_entry (vs := [.ref (B + a0), .int v1, .int v2]) (Nat.le_of_ble_eq_true rfl) (fun ls hl => ?_)
  have hl : lv_has ls 3 [(0, .ref (B + a0)), (1, .int v1), (2, .int v2)] := hl
  unfold f_X12_markOf at h
  refine lv_aload_n hx hb dX12_markOf_0 rfl (lv_at hl 0 rfl) ?_
  refine lv_iload_n hx hb dX12_markOf_1 rfl (lv_at hl 1 rfl) ?_
  refine lv_iconst (v := (5 : Int32)) hx hb dX12_markOf_2 (by decide +kernel) ?_
  refine lv_iload_n hx hb dX12_markOf_3 rfl (lv_at hl 2 rfl) ?_
  refine lv_iadd hx hb dX12_markOf_4 ?_
  obtain ⟨r2, hr1, h⟩ := zb1 h
  refine z_runi (va_runV (As := [.int v1, .int ((5 : Int32) + v2)]) (rest := []) ⟨hx, hb, hml, hown, hg⟩ (c_X12_get l D cy B ha0 hr1) (z_cwV hg zw_1163 zw_1164 zw_1487 zw_13 zw_1165 zh_X12_get ⟨(Nat.le_of_ble_eq_true rfl), (Nat.le_of_ble_eq_true rfl)⟩) (zPV hC hM ha0 (by decide) rfl) rfl rfl hl.1 rfl (lv_room (Nat.le_of_ble_eq_true rfl)) dX12_markOf_5 ⟨(Nat.le_of_ble_eq_true rfl), (Nat.le_of_ble_eq_true rfl)⟩) hS (fun H locs hM hX3 hS => ?_)
  refine lv_iconst (v := (1 : Int32)) hx hb dX12_markOf_8 (by decide +kernel) ?_
  refine lv_isub hx hb dX12_markOf_9 ?_
  exact z_iret hx hb hr hlk hM hX0 hS ⟨zsm h, rfl⟩ dX12_markOf_10
def f_X12_mark (S0 : zM) (a0 : Nat) (v1 : Int32) (v2 : Int32) : Option (Int32) :=
  zB1 (f_X12_isDive S0 a0 v1) (fun r2 => if r2 = 0 then some (-1 : Int32) else zB1 (f_X12_isChair v2) (fun r7 => if r7 = 0 then some (-1 : Int32) else zB1 (f_X12_markOf S0 a0 v1 v2) (fun r12 => if 0 ≤ r12 then zB1 (f_X12_markOf S0 a0 v1 v2) (fun r17 => some r17) else some (-4 : Int32))))
set_option maxHeartbeats 4000000 in
set_option maxRecDepth 100000 in
theorem c_X12_mark (l : Launch) (D : va_G) (cy : Nat → ClassId) (B : Nat) {S0 : zM} {a0 : Nat} {v1 : Int32} {v2 : Int32} {r : Int32} (ha0 : zA S0 a0 12) (h : f_X12_mark S0 a0 v1 v2 = some r) : Met l yX12_mark (zws yX12_mark cX12_mark 3 ((some .int))) { frames := 2, cells := 0, slots := 0, locals := 46 } (zPc D cy B S0 [.ref (B + a0), .int v1, .int v2]) (zQi D cy B S0 r S0) 0 0 (fun q => B < q) := by
  refine Met.ofW (cc := cX12_mark) (maxL := 3) (ret := ((some .int))) (by decide) rfl ?_
  intro p e s m args below meth c s₁ Bd hml hv
  obtain ⟨rfl, hC, hM⟩ := hv
  obtain ⟨hx, hb, hr, hg, hown, hlk⟩ := z_open Bd
  have hK := hC.1
  have hS : va_S (fun q => B < q) s.heap s.heap [] := va_S.rf
  have hX0 : zX S0 S0 := zX.rf
  refine z_entry (vs := [.ref (B + a0), .int v1, .int v2]) (Nat.le_of_ble_eq_true rfl) (fun ls hl => ?_)
  have hl : lv_has ls 3 [(0, .ref (B + a0)), (1, .int v1), (2, .int v2)] := hl
  unfold f_X12_mark at h
  refine lv_aload_n hx hb dX12_mark_0 rfl (lv_at hl 0 rfl) ?_
  refine lv_iload_n hx hb dX12_mark_1 rfl (lv_at hl 1 rfl) ?_
  obtain ⟨r2, hr1, h⟩ := zb1 h
  refine z_runi (va_runV (As := [.int v1]) (rest := []) ⟨hx, hb, hml, hown, hg⟩ (c_X12_isDive l D cy B ha0 hr1) (z_cwV hg zw_1160 zw_1161 zw_1486 zw_13 zw_1162 zh_X12_isDive ⟨(Nat.le_of_ble_eq_true rfl), (Nat.le_of_ble_eq_true rfl)⟩) (zPV hC hM ha0 (by decide) rfl) rfl rfl hl.1 rfl (lv_room (Nat.le_of_ble_eq_true rfl)) dX12_mark_2 ⟨(Nat.le_of_ble_eq_true rfl), (Nat.le_of_ble_eq_true rfl)⟩) hS (fun H locs hM hX3 hS => ?_)
  refine lv_if_eq (tgt := 15) hx hb dX12_mark_5 (by decide) (fun hc5 => ?_) (fun hc5 => ?_)
  · have h := zt h hc5
    refine lv_iconst (v := (-1 : Int32)) hx hb dX12_mark_15 (by decide +kernel) ?_
    refine lv_goto (tgt := 39) hx hb dX12_mark_16 (by decide) ?_
    exact z_iret hx hb hr hlk hM hX0 hS ⟨zsm h, rfl⟩ dX12_mark_39
  · have h := zf h hc5
    refine lv_iload_n hx hb dX12_mark_8 rfl (lv_at hl 2 rfl) ?_
    obtain ⟨r7, hr6, h⟩ := zb1 h
    refine z_runi (va_runS (As := [.int v2]) (rest := []) ⟨hx, hb, hml, hown, hg⟩ (c_X12_isChair l D cy B hr6) (z_cwS hg zw_1136 zw_1137 zw_13 zw_1138 zh_X12_isChair.2 ⟨(Nat.le_of_ble_eq_true rfl), (Nat.le_of_ble_eq_true rfl)⟩) (zPS hC hM) rfl rfl hl.1 rfl (lv_room (Nat.le_of_ble_eq_true rfl)) dX12_mark_9 ⟨(Nat.le_of_ble_eq_true rfl), (Nat.le_of_ble_eq_true rfl)⟩) hS (fun H locs hM hX8 hS => ?_)
    refine lv_if_ne (tgt := 19) hx hb dX12_mark_12 (by decide) (fun hc10 => ?_) (fun hc10 => ?_)
    · have h := zf h hc10
      refine lv_aload_n hx hb dX12_mark_19 rfl (lv_at hl 0 rfl) ?_
      refine lv_iload_n hx hb dX12_mark_20 rfl (lv_at hl 1 rfl) ?_
      refine lv_iload_n hx hb dX12_mark_21 rfl (lv_at hl 2 rfl) ?_
      obtain ⟨r12, hr11, h⟩ := zb1 h
      refine z_runi (va_runV (As := [.int v1, .int v2]) (rest := []) ⟨hx, hb, hml, hown, hg⟩ (c_X12_markOf l D cy B ha0 hr11) (z_cwV hg zw_1223 zw_1224 zw_1497 zw_13 zw_1225 zh_X12_markOf ⟨(Nat.le_of_ble_eq_true rfl), (Nat.le_of_ble_eq_true rfl)⟩) (zPV hC hM ha0 (by decide) rfl) rfl rfl hl.1 rfl (lv_room (Nat.le_of_ble_eq_true rfl)) dX12_mark_22 ⟨(Nat.le_of_ble_eq_true rfl), (Nat.le_of_ble_eq_true rfl)⟩) hS (fun H locs hM hX13 hS => ?_)
      refine lv_if_ge (tgt := 33) hx hb dX12_mark_25 (by decide) (fun hc15 => ?_) (fun hc15 => ?_)
      · have h := zt h hc15
        refine lv_aload_n hx hb dX12_mark_33 rfl (lv_at hl 0 rfl) ?_
        refine lv_iload_n hx hb dX12_mark_34 rfl (lv_at hl 1 rfl) ?_
        refine lv_iload_n hx hb dX12_mark_35 rfl (lv_at hl 2 rfl) ?_
        obtain ⟨r17, hr16, h⟩ := zb1 h
        refine z_runi (va_runV (As := [.int v1, .int v2]) (rest := []) ⟨hx, hb, hml, hown, hg⟩ (c_X12_markOf l D cy B ha0 hr16) (z_cwV hg zw_1223 zw_1224 zw_1497 zw_13 zw_1225 zh_X12_markOf ⟨(Nat.le_of_ble_eq_true rfl), (Nat.le_of_ble_eq_true rfl)⟩) (zPV hC hM ha0 (by decide) rfl) rfl rfl hl.1 rfl (lv_room (Nat.le_of_ble_eq_true rfl)) dX12_mark_36 ⟨(Nat.le_of_ble_eq_true rfl), (Nat.le_of_ble_eq_true rfl)⟩) hS (fun H locs hM hX18 hS => ?_)
        exact z_iret hx hb hr hlk hM hX0 hS ⟨zsm h, rfl⟩ dX12_mark_39
      · have h := zf h hc15
        refine lv_bipush (v := (-4 : Int32)) hx hb dX12_mark_28 (by decide +kernel) ?_
        refine lv_goto (tgt := 39) hx hb dX12_mark_30 (by decide) ?_
        exact z_iret hx hb hr hlk hM hX0 hS ⟨zsm h, rfl⟩ dX12_mark_39
    · have h := zt h hc10
      refine lv_iconst (v := (-1 : Int32)) hx hb dX12_mark_15 (by decide +kernel) ?_
      refine lv_goto (tgt := 39) hx hb dX12_mark_16 (by decide) ?_
      exact z_iret hx hb hr hlk hM hX0 hS ⟨zsm h, rfl⟩ dX12_mark_39
def f_X12_sign (S0 : zM) (a0 : Nat) : Option (Int32) :=
  if (zi S0 a0 14) ≤ (zi S0 a0 12) then some (-1000 : Int32) else zChk (¬ (zr S0 a0 17) = 0) (zChk (¬ (((zi S0 a0 13) + (zi S0 a0 12)) < 0 ∨ zln S0 (zr S0 a0 17) ≤ (((zi S0 a0 13) + (zi S0 a0 12))).toNatClampNeg)) (some (zi S0 (zr S0 a0 17) (Int32.toNatClampNeg ((zi S0 a0 13) + (zi S0 a0 12))))))
set_option maxHeartbeats 4000000 in
set_option maxRecDepth 100000 in
theorem c_X12_sign (l : Launch) (D : va_G) (cy : Nat → ClassId) (B : Nat) {S0 : zM} {a0 : Nat} {r : Int32} (ha0 : zA S0 a0 12) (h : f_X12_sign S0 a0 = some r) : Met l yX12_sign (zws yX12_sign cX12_sign 1 ((some .int))) { frames := 0, cells := 0, slots := 0, locals := 0 } (zPc D cy B S0 [.ref (B + a0)]) (zQi D cy B S0 r S0) 0 0 (fun q => B < q) := by
  refine Met.ofW (cc := cX12_sign) (maxL := 1) (ret := ((some .int))) (by decide) rfl ?_
  intro p e s m args below meth c s₁ Bd hml hv
  obtain ⟨rfl, hC, hM⟩ := hv
  obtain ⟨hx, hb, hr, hg, hown, hlk⟩ := z_open Bd
  have hK := hC.1
  have hS : va_S (fun q => B < q) s.heap s.heap [] := va_S.rf
  have hX0 : zX S0 S0 := zX.rf
  refine z_entry (vs := [.ref (B + a0)]) (Nat.le_of_ble_eq_true rfl) (fun ls hl => ?_)
  have hl : lv_has ls 1 [(0, .ref (B + a0))] := hl
  unfold f_X12_sign at h
  refine lv_aload_n hx hb dX12_sign_0 rfl (lv_at hl 0 rfl) ?_
  refine z_getI hx hb hg zin_12 hown hK hM ha0 12 rfl (by decide) (hg _ zw_1012) (fun _ h9 => h9) dX12_sign_1 ?_
  refine lv_aload_n hx hb dX12_sign_4 rfl (lv_at hl 0 rfl) ?_
  refine z_getI hx hb hg zin_12 hown hK hM ha0 14 rfl (by decide) (hg _ zw_1014) (fun _ h9 => h9) dX12_sign_5 ?_
  refine lv_icmp_ge (tgt := 28) hx hb dX12_sign_8 (by decide) (fun hc1 => ?_) (fun hc1 => ?_)
  · have h := zt h hc1
    refine lv_sipush (v := (-1000 : Int32)) hx hb dX12_sign_28 (by decide +kernel) ?_
    exact z_iret hx hb hr hlk hM hX0 hS ⟨zsm h, rfl⟩ dX12_sign_31
  · have h := zf h hc1
    refine lv_aload_n hx hb dX12_sign_11 rfl (lv_at hl 0 rfl) ?_
    obtain ⟨hq3, h⟩ := zk h
    refine z_getN hx hb hg zin_12 hown hK hM ha0 17 rfl (by decide) (hg _ zw_1017) (fun _ h9 => h9) hq3 dX12_sign_12 (fun h2 => ?_)
    refine lv_aload_n hx hb dX12_sign_15 rfl (lv_at hl 0 rfl) ?_
    refine z_getI hx hb hg zin_12 hown hK hM ha0 13 rfl (by decide) (hg _ zw_1013) (fun _ h9 => h9) dX12_sign_16 ?_
    refine lv_aload_n hx hb dX12_sign_19 rfl (lv_at hl 0 rfl) ?_
    refine z_getI hx hb hg zin_12 hown hK hM ha0 12 rfl (by decide) (hg _ zw_1012) (fun _ h9 => h9) dX12_sign_20 ?_
    refine lv_iadd hx hb dX12_sign_23 ?_
    obtain ⟨hq4, h⟩ := zk h
    refine z_iald hx hb hK hM h2 hq4 dX12_sign_24 ?_
    refine lv_goto (tgt := 31) hx hb dX12_sign_25 (by decide) ?_
    exact z_iret hx hb hr hlk hM hX0 hS ⟨zsm h, rfl⟩ dX12_sign_31
def f_X12_takes (S0 : zM) (a0 : Nat) (v1 : Int32) : Option (Int32 × zM) :=
  zB1 (f_X12_sign S0 a0) (fun r2 => if r2 = v1 then zLet (zpI S0 a0 12 ((zi S0 a0 12) + (1 : Int32))) (fun S6 => some (((1 : Int32), S6))) else some (((0 : Int32), S0)))
set_option maxHeartbeats 4000000 in
set_option maxRecDepth 100000 in
theorem c_X12_takes (l : Launch) (D : va_G) (cy : Nat → ClassId) (B : Nat) {S0 : zM} {a0 : Nat} {v1 : Int32} {r : Int32} {S' : zM} (ha0 : zA S0 a0 12) (h : f_X12_takes S0 a0 v1 = some (r, S')) : Met l yX12_takes (zws yX12_takes cX12_takes 2 ((some .boolean))) { frames := 1, cells := 0, slots := 0, locals := 20 } (zPc D cy B S0 [.ref (B + a0), .int v1]) (zQi D cy B S0 r S') 0 0 (fun q => B < q) := by
  refine Met.ofW (cc := cX12_takes) (maxL := 2) (ret := ((some .boolean))) (by decide) rfl ?_
  intro p e s m args below meth c s₁ Bd hml hv
  obtain ⟨rfl, hC, hM⟩ := hv
  obtain ⟨hx, hb, hr, hg, hown, hlk⟩ := z_open Bd
  have hK := hC.1
  have hS : va_S (fun q => B < q) s.heap s.heap [] := va_S.rf
  have hX0 : zX S0 S0 := zX.rf
  refine z_entry (vs := [.ref (B + a0), .int v1]) (Nat.le_of_ble_eq_true rfl) (fun ls hl => ?_)
  have hl : lv_has ls 2 [(0, .ref (B + a0)), (1, .int v1)] := hl
  unfold f_X12_takes at h
  refine lv_aload_n hx hb dX12_takes_0 rfl (lv_at hl 0 rfl) ?_
  obtain ⟨r2, hr1, h⟩ := zb1 h
  refine z_runi (va_runV (As := []) (rest := []) ⟨hx, hb, hml, hown, hg⟩ (c_X12_sign l D cy B ha0 hr1) (z_cwV hg zw_1236 zw_1237 zw_1500 zw_13 zw_1238 zh_X12_sign ⟨(Nat.le_of_ble_eq_true rfl), (Nat.le_of_ble_eq_true rfl)⟩) (zPV hC hM ha0 (by decide) rfl) rfl rfl hl.1 rfl (lv_room (Nat.le_of_ble_eq_true rfl)) dX12_takes_1 ⟨(Nat.le_of_ble_eq_true rfl), (Nat.le_of_ble_eq_true rfl)⟩) hS (fun H locs hM hX3 hS => ?_)
  refine lv_iload_n hx hb dX12_takes_4 rfl (lv_at hl 1 rfl) ?_
  refine lv_icmp_eq (tgt := 10) hx hb dX12_takes_5 (by decide) (fun hc5 => ?_) (fun hc5 => ?_)
  · have h := zt h hc5
    refine lv_aload_n hx hb dX12_takes_10 rfl (lv_at hl 0 rfl) ?_
    refine lv_dup hx hb dX12_takes_11 rfl ?_
    refine z_getI hx hb hg zin_12 hown hK hM ha0 12 rfl (by decide) (hg _ zw_1012) (fun _ h9 => h9) dX12_takes_12 ?_
    refine lv_iconst (v := (1 : Int32)) hx hb dX12_takes_15 (by decide +kernel) ?_
    refine lv_iadd hx hb dX12_takes_16 ?_
    refine z_putI hx hb hg zin_12 tyX12 tyX12_ok nmX12 hown hK hM hS ha0 12 rfl (by decide) (hg _ zw_1012) (fun _ h9 => h9) (Or.inl rfl) (tyX12_ok 12 (by decide)) rfl rfl dX12_takes_17 (fun H locs hM hS => ?_)
    obtain ⟨S6, e7, h⟩ := zlg h
    rw [← e7] at hM
    have hX8 : zX S0 S6 := by rw [e7]; exact zX_pI
    have hX9 := hX0.tr hX8
    refine lv_iconst (v := (1 : Int32)) hx hb dX12_takes_20 (by decide +kernel) ?_
    exact z_zret (by decide +kernel) hx hb hr hlk hM hX9 hS (zsp h) dX12_takes_21
  · have h := zf h hc5
    refine lv_iconst (v := (0 : Int32)) hx hb dX12_takes_8 (by decide +kernel) ?_
    exact z_zret (by decide +kernel) hx hb hr hlk hM hX0 hS (zsp h) dX12_takes_9
def f_X12_readsNumber_L42b (a0 : Nat) (K26 : zM → Option (Int32 × zM)) (rec42 : Int32 → zM → Option (Int32 × zM)) (x28 : Int32) (S29 : zM) : Option (Int32 × zM) :=
  if (3 : Int32) ≤ x28 then K26 S29 else if (zi S29 a0 16) ≤ 0 then K26 S29 else zB1 (f_X12_sign S29 a0) (fun r34 => zLet (f_X12_isIn (Int32.toInt64 r34) (48 : Int64) (57 : Int64)) (fun r38 => if r38 = 0 then K26 S29 else zB1 (f_X12_sign S29 a0) (fun r43 => zLet (zpI S29 a0 16 ((((10 : Int32) * (zi S29 a0 16)) + r43) - (48 : Int32))) (fun S46 => zLet (zpI S46 a0 12 ((zi S46 a0 12) + (1 : Int32))) (fun S51 => rec42 (x28 + (1 : Int32)) S51)))))
def f_X12_readsNumber_L42 (a0 : Nat) (K26 : zM → Option (Int32 × zM)) : Nat → Int32 → zM → Option (Int32 × zM)
  | 0 => fun _ _ => none
  | k + 1 => fun x28 S29 => f_X12_readsNumber_L42b a0 K26 (f_X12_readsNumber_L42 a0 K26 k) x28 S29
def f_X12_readsNumber (n : Nat) (S0 : zM) (a0 : Nat) : Option (Int32 × zM) :=
  zB1 (f_X12_sign S0 a0) (fun r2 => zLet (f_X12_isIn (Int32.toInt64 r2) (48 : Int64) (57 : Int64)) (fun r6 => if r6 = 0 then some (((0 : Int32), S0)) else zB1 (f_X12_sign S0 a0) (fun r11 => zLet (zpI S0 a0 16 (r11 - (48 : Int32))) (fun S14 => zLet (zpI S14 a0 12 ((zi S14 a0 12) + (1 : Int32))) (fun S19 => zLet (fun (S24 : zM) => some (((1 : Int32), S24))) (fun K26 => f_X12_readsNumber_L42 a0 K26 n (1 : Int32) S19))))))
set_option maxHeartbeats 4000000 in
set_option maxRecDepth 100000 in
theorem c_X12_readsNumber (l : Launch) (D : va_G) (cy : Nat → ClassId) (B : Nat) {n : Nat} {S0 : zM} {a0 : Nat} {r : Int32} {S' : zM} (ha0 : zA S0 a0 12) (h : f_X12_readsNumber n S0 a0 = some (r, S')) : Met l yX12_readsNumber (zws yX12_readsNumber cX12_readsNumber 2 ((some .boolean))) { frames := 1, cells := 0, slots := 0, locals := 25 } (zPc D cy B S0 [.ref (B + a0)]) (zQi D cy B S0 r S') 0 0 (fun q => B < q) := by
  refine Met.ofW (cc := cX12_readsNumber) (maxL := 2) (ret := ((some .boolean))) (by decide) rfl ?_
  intro p e s m args below meth c s₁ Bd hml hv
  obtain ⟨rfl, hC, hM⟩ := hv
  obtain ⟨hx, hb, hr, hg, hown, hlk⟩ := z_open Bd
  have hK := hC.1
  have hS : va_S (fun q => B < q) s.heap s.heap [] := va_S.rf
  have hX0 : zX S0 S0 := zX.rf
  refine z_entry (vs := [.ref (B + a0)]) (Nat.le_of_ble_eq_true rfl) (fun ls hl => ?_)
  have hl : lv_has ls 2 [(0, .ref (B + a0))] := hl
  unfold f_X12_readsNumber at h
  refine lv_aload_n hx hb dX12_readsNumber_0 rfl (lv_at hl 0 rfl) ?_
  obtain ⟨r2, hr1, h⟩ := zb1 h
  refine z_runi (va_runV (As := []) (rest := []) ⟨hx, hb, hml, hown, hg⟩ (c_X12_sign l D cy B ha0 hr1) (z_cwV hg zw_1236 zw_1237 zw_1500 zw_13 zw_1238 zh_X12_sign ⟨(Nat.le_of_ble_eq_true rfl), (Nat.le_of_ble_eq_true rfl)⟩) (zPV hC hM ha0 (by decide) rfl) rfl rfl hl.1 rfl (lv_room (Nat.le_of_ble_eq_true rfl)) dX12_readsNumber_1 ⟨(Nat.le_of_ble_eq_true rfl), (Nat.le_of_ble_eq_true rfl)⟩) hS (fun H locs hM hX3 hS => ?_)
  refine lv_i2l hx hb dX12_readsNumber_4 rfl ?_
  refine lv_ldc2 (v := (48 : Int64)) hx hb hown (hg _ zw_1257) dX12_readsNumber_5 ?_
  refine lv_ldc2 (v := (57 : Int64)) hx hb hown (hg _ zw_1258) dX12_readsNumber_8 ?_
  obtain ⟨r6, hr5, h⟩ := zlg h
  have hr5 := hr5.symm
  refine z_runi (va_runS (As := [.long (Int32.toInt64 r2), .long (48 : Int64), .long (57 : Int64)]) (rest := []) ⟨hx, hb, hml, hown, hg⟩ (c_X12_isIn l D cy B hr5) (z_cwS hg zw_1111 zw_1112 zw_13 zw_1113 zh_X12_isIn.2 ⟨(Nat.le_of_ble_eq_true rfl), (Nat.le_of_ble_eq_true rfl)⟩) (zPS hC hM) rfl rfl hl.1 rfl (lv_room (Nat.le_of_ble_eq_true rfl)) dX12_readsNumber_11 ⟨(Nat.le_of_ble_eq_true rfl), (Nat.le_of_ble_eq_true rfl)⟩) hS (fun H locs hM hX7 hS => ?_)
  refine lv_if_ne (tgt := 19) hx hb dX12_readsNumber_14 (by decide) (fun hc9 => ?_) (fun hc9 => ?_)
  · have h := zf h hc9
    refine lv_aload_n hx hb dX12_readsNumber_19 rfl (lv_at hl 0 rfl) ?_
    refine lv_aload_n hx hb dX12_readsNumber_20 rfl (lv_at hl 0 rfl) ?_
    obtain ⟨r11, hr10, h⟩ := zb1 h
    refine z_runi (va_runV (As := []) (rest := [.ref (B + a0)]) ⟨hx, hb, hml, hown, hg⟩ (c_X12_sign l D cy B ha0 hr10) (z_cwV hg zw_1236 zw_1237 zw_1500 zw_13 zw_1238 zh_X12_sign ⟨(Nat.le_of_ble_eq_true rfl), (Nat.le_of_ble_eq_true rfl)⟩) (zPV hC hM ha0 (by decide) rfl) rfl rfl hl.1 rfl (lv_room (Nat.le_of_ble_eq_true rfl)) dX12_readsNumber_21 ⟨(Nat.le_of_ble_eq_true rfl), (Nat.le_of_ble_eq_true rfl)⟩) hS (fun H locs hM hX12 hS => ?_)
    refine lv_bipush (v := (48 : Int32)) hx hb dX12_readsNumber_24 (by decide +kernel) ?_
    refine lv_isub hx hb dX12_readsNumber_26 ?_
    refine z_putI hx hb hg zin_12 tyX12 tyX12_ok nmX12 hown hK hM hS ha0 16 rfl (by decide) (hg _ zw_1016) (fun _ h9 => h9) (Or.inl rfl) (tyX12_ok 16 (by decide)) rfl rfl dX12_readsNumber_27 (fun H locs hM hS => ?_)
    obtain ⟨S14, e15, h⟩ := zlg h
    rw [← e15] at hM
    have hX16 : zX S0 S14 := by rw [e15]; exact zX_pI
    have h17 := ha0.mo hX16
    have hX18 := hX0.tr hX16
    refine lv_aload_n hx hb dX12_readsNumber_30 rfl (lv_at hl 0 rfl) ?_
    refine lv_dup hx hb dX12_readsNumber_31 rfl ?_
    refine z_getI hx hb hg zin_12 hown hK hM h17 12 rfl (by decide) (hg _ zw_1012) (fun _ h9 => h9) dX12_readsNumber_32 ?_
    refine lv_iconst (v := (1 : Int32)) hx hb dX12_readsNumber_35 (by decide +kernel) ?_
    refine lv_iadd hx hb dX12_readsNumber_36 ?_
    refine z_putI hx hb hg zin_12 tyX12 tyX12_ok nmX12 hown hK hM hS h17 12 rfl (by decide) (hg _ zw_1012) (fun _ h9 => h9) (Or.inl rfl) (tyX12_ok 12 (by decide)) rfl rfl dX12_readsNumber_37 (fun H locs hM hS => ?_)
    obtain ⟨S19, e20, h⟩ := zlg h
    rw [← e20] at hM
    have hX21 : zX S14 S19 := by rw [e20]; exact zX_pI
    have h22 := h17.mo hX21
    have hX23 := hX18.tr hX21
    refine lv_iconst (v := (1 : Int32)) hx hb dX12_readsNumber_40 (by decide +kernel) ?_
    refine lv_istore_n (i := 1) (lv' := [(1, .int (1 : Int32)), (0, .ref (B + a0))]) hx hb dX12_readsNumber_41 rfl hl (by decide) rfl (fun ls hl => ?_)
    obtain ⟨K26, eK26, h⟩ := zlg h
    have hK26 : ∀ (S24 : zM) (H : Heap) (locs : List Loc), zMR D cy B S24 H → zX S0 S24 → va_S (fun q => B < q) s.heap H locs → ∀ ls : Array Slot, lv_has ls 2 [] → K26 S24 = some (r, S') → W p l e (headSpec (zws yX12_readsNumber cX12_readsNumber 2 ((some .boolean))) { frames := 1, cells := 0, slots := 0, locals := 25 }).room s m (([.ref (B + a0)] : List Value).toArray) below meth c H locs 0 0 (MQ below (zQi D cy B S0 r S') (([.ref (B + a0)] : List Value).toArray) s 0 0 (fun q => B < q)) (F0 m 106 ls []) := by
      intro S24 H locs hM hX25 hS ls hl h
      rw [eK26] at h
      refine lv_iconst (v := (1 : Int32)) hx hb dX12_readsNumber_106 (by decide +kernel) ?_
      exact z_zret (by decide +kernel) hx hb hr hlk hM hX25 hS (zsp h) dX12_readsNumber_107
    have hL42 : ∀ (k : Nat) (x28 : Int32) (S29 : zM) (H : Heap) (locs : List Loc), zMR D cy B S29 H → zX S0 S29 → va_S (fun q => B < q) s.heap H locs → zA S29 a0 12 → ∀ ls : Array Slot, lv_has ls 2 [(0, .ref (B + a0)), (1, .int x28)] → f_X12_readsNumber_L42 a0 K26 k x28 S29 = some (r, S') → W p l e (headSpec (zws yX12_readsNumber cX12_readsNumber 2 ((some .boolean))) { frames := 1, cells := 0, slots := 0, locals := 25 }).room s m (([.ref (B + a0)] : List Value).toArray) below meth c H locs 0 0 (MQ below (zQi D cy B S0 r S') (([.ref (B + a0)] : List Value).toArray) s 0 0 (fun q => B < q)) (F0 m 42 ls []) := by
      intro k
      induction k with
      | zero =>
        intro x28 S29 H locs hM hX30 hS h27 ls hl h
        exact znone h
      | succ k ih42 =>
        intro x28 S29 H locs hM hX30 hS h27 ls hl h
        replace h : f_X12_readsNumber_L42b a0 K26 (f_X12_readsNumber_L42 a0 K26 k) x28 S29 = some (r, S') := h
        generalize f_X12_readsNumber_L42 a0 K26 k = rec42 at ih42 h
        unfold f_X12_readsNumber_L42b at h
        refine lv_iload_n hx hb dX12_readsNumber_42 rfl (lv_at hl 1 rfl) ?_
        refine lv_iconst (v := (3 : Int32)) hx hb dX12_readsNumber_43 (by decide +kernel) ?_
        refine lv_icmp_ge (tgt := 106) hx hb dX12_readsNumber_44 (by decide) (fun hc31 => ?_) (fun hc31 => ?_)
        · have h := zt h hc31
          exact hK26 S29 _ _ hM hX30 hS _ (lv_sub hl [] rfl) h
        · have h := zf h hc31
          refine lv_aload_n hx hb dX12_readsNumber_47 rfl (lv_at hl 0 rfl) ?_
          refine z_getI hx hb hg zin_12 hown hK hM h27 16 rfl (by decide) (hg _ zw_1016) (fun _ h9 => h9) dX12_readsNumber_48 ?_
          refine lv_if_le (tgt := 106) hx hb dX12_readsNumber_51 (by decide) (fun hc32 => ?_) (fun hc32 => ?_)
          · have h := zt h hc32
            exact hK26 S29 _ _ hM hX30 hS _ (lv_sub hl [] rfl) h
          · have h := zf h hc32
            refine lv_aload_n hx hb dX12_readsNumber_54 rfl (lv_at hl 0 rfl) ?_
            obtain ⟨r34, hr33, h⟩ := zb1 h
            refine z_runi (va_runV (As := []) (rest := []) ⟨hx, hb, hml, hown, hg⟩ (c_X12_sign l D cy B h27 hr33) (z_cwV hg zw_1236 zw_1237 zw_1500 zw_13 zw_1238 zh_X12_sign ⟨(Nat.le_of_ble_eq_true rfl), (Nat.le_of_ble_eq_true rfl)⟩) (zPV hC hM h27 (by decide) rfl) rfl rfl hl.1 rfl (lv_room (Nat.le_of_ble_eq_true rfl)) dX12_readsNumber_55 ⟨(Nat.le_of_ble_eq_true rfl), (Nat.le_of_ble_eq_true rfl)⟩) hS (fun H locs hM hX35 hS => ?_)
            refine lv_i2l hx hb dX12_readsNumber_58 rfl ?_
            refine lv_ldc2 (v := (48 : Int64)) hx hb hown (hg _ zw_1257) dX12_readsNumber_59 ?_
            refine lv_ldc2 (v := (57 : Int64)) hx hb hown (hg _ zw_1258) dX12_readsNumber_62 ?_
            obtain ⟨r38, hr37, h⟩ := zlg h
            have hr37 := hr37.symm
            refine z_runi (va_runS (As := [.long (Int32.toInt64 r34), .long (48 : Int64), .long (57 : Int64)]) (rest := []) ⟨hx, hb, hml, hown, hg⟩ (c_X12_isIn l D cy B hr37) (z_cwS hg zw_1111 zw_1112 zw_13 zw_1113 zh_X12_isIn.2 ⟨(Nat.le_of_ble_eq_true rfl), (Nat.le_of_ble_eq_true rfl)⟩) (zPS hC hM) rfl rfl hl.1 rfl (lv_room (Nat.le_of_ble_eq_true rfl)) dX12_readsNumber_65 ⟨(Nat.le_of_ble_eq_true rfl), (Nat.le_of_ble_eq_true rfl)⟩) hS (fun H locs hM hX39 hS => ?_)
            refine lv_if_eq (tgt := 106) hx hb dX12_readsNumber_68 (by decide) (fun hc41 => ?_) (fun hc41 => ?_)
            · have h := zt h hc41
              exact hK26 S29 _ _ hM hX30 hS _ (lv_sub hl [] rfl) h
            · have h := zf h hc41
              refine lv_aload_n hx hb dX12_readsNumber_71 rfl (lv_at hl 0 rfl) ?_
              refine lv_bipush (v := (10 : Int32)) hx hb dX12_readsNumber_72 (by decide +kernel) ?_
              refine lv_aload_n hx hb dX12_readsNumber_74 rfl (lv_at hl 0 rfl) ?_
              refine z_getI hx hb hg zin_12 hown hK hM h27 16 rfl (by decide) (hg _ zw_1016) (fun _ h9 => h9) dX12_readsNumber_75 ?_
              refine lv_imul hx hb dX12_readsNumber_78 ?_
              refine lv_aload_n hx hb dX12_readsNumber_79 rfl (lv_at hl 0 rfl) ?_
              obtain ⟨r43, hr42, h⟩ := zb1 h
              refine z_runi (va_runV (As := []) (rest := [.int ((10 : Int32) * (zi S29 a0 16)), .ref (B + a0)]) ⟨hx, hb, hml, hown, hg⟩ (c_X12_sign l D cy B h27 hr42) (z_cwV hg zw_1236 zw_1237 zw_1500 zw_13 zw_1238 zh_X12_sign ⟨(Nat.le_of_ble_eq_true rfl), (Nat.le_of_ble_eq_true rfl)⟩) (zPV hC hM h27 (by decide) rfl) rfl rfl hl.1 rfl (lv_room (Nat.le_of_ble_eq_true rfl)) dX12_readsNumber_80 ⟨(Nat.le_of_ble_eq_true rfl), (Nat.le_of_ble_eq_true rfl)⟩) hS (fun H locs hM hX44 hS => ?_)
              refine lv_iadd hx hb dX12_readsNumber_83 ?_
              refine lv_bipush (v := (48 : Int32)) hx hb dX12_readsNumber_84 (by decide +kernel) ?_
              refine lv_isub hx hb dX12_readsNumber_86 ?_
              refine z_putI hx hb hg zin_12 tyX12 tyX12_ok nmX12 hown hK hM hS h27 16 rfl (by decide) (hg _ zw_1016) (fun _ h9 => h9) (Or.inl rfl) (tyX12_ok 16 (by decide)) rfl rfl dX12_readsNumber_87 (fun H locs hM hS => ?_)
              obtain ⟨S46, e47, h⟩ := zlg h
              rw [← e47] at hM
              have hX48 : zX S29 S46 := by rw [e47]; exact zX_pI
              have h49 := h27.mo hX48
              have hX50 := hX30.tr hX48
              refine lv_aload_n hx hb dX12_readsNumber_90 rfl (lv_at hl 0 rfl) ?_
              refine lv_dup hx hb dX12_readsNumber_91 rfl ?_
              refine z_getI hx hb hg zin_12 hown hK hM h49 12 rfl (by decide) (hg _ zw_1012) (fun _ h9 => h9) dX12_readsNumber_92 ?_
              refine lv_iconst (v := (1 : Int32)) hx hb dX12_readsNumber_95 (by decide +kernel) ?_
              refine lv_iadd hx hb dX12_readsNumber_96 ?_
              refine z_putI hx hb hg zin_12 tyX12 tyX12_ok nmX12 hown hK hM hS h49 12 rfl (by decide) (hg _ zw_1012) (fun _ h9 => h9) (Or.inl rfl) (tyX12_ok 12 (by decide)) rfl rfl dX12_readsNumber_97 (fun H locs hM hS => ?_)
              obtain ⟨S51, e52, h⟩ := zlg h
              rw [← e52] at hM
              have hX53 : zX S46 S51 := by rw [e52]; exact zX_pI
              have h54 := h49.mo hX53
              have hX55 := hX50.tr hX53
              refine lv_iinc (v := (x28 + (1 : Int32))) (lv' := [(1, .int (x28 + (1 : Int32))), (0, .ref (B + a0))]) hx hb dX12_readsNumber_100 hl (k := 1) rfl rfl (by decide) rfl (fun ls hl => ?_)
              refine lv_goto (tgt := 42) hx hb dX12_readsNumber_103 (by decide) ?_
              exact ih42 (x28 + (1 : Int32)) S51 _ _ hM hX55 hS h54 _ (lv_sub hl [1, 0] rfl) h
    exact hL42 n (1 : Int32) S19 _ _ hM hX23 hS h22 _ (lv_sub hl [1, 0] rfl) h
  · have h := zt h hc9
    refine lv_iconst (v := (0 : Int32)) hx hb dX12_readsNumber_17 (by decide +kernel) ?_
    exact z_zret (by decide +kernel) hx hb hr hlk hM hX0 hS (zsp h) dX12_readsNumber_18
def f_X12_isField (v0 : Int32) : Int32 :=
  if v0 = (115 : Int32) then (1 : Int32) else if v0 = (110 : Int32) then (1 : Int32) else if v0 = (104 : Int32) then (1 : Int32) else if v0 = (109 : Int32) then (1 : Int32) else if v0 = (97 : Int32) then (1 : Int32) else if v0 = (122 : Int32) then (1 : Int32) else if v0 = (112 : Int32) then (1 : Int32) else (0 : Int32)
set_option maxHeartbeats 4000000 in
set_option maxRecDepth 100000 in
theorem c_X12_isField (l : Launch) (D : va_G) (cy : Nat → ClassId) (B : Nat) {S0 : zM} {v0 : Int32} {r : Int32}  (h : f_X12_isField v0 = r) : Met l yX12_isField (zws yX12_isField cX12_isField 1 ((some .boolean))) { frames := 0, cells := 0, slots := 0, locals := 0 } (zPc D cy B S0 [.int v0]) (zQi D cy B S0 r S0) 0 0 (fun q => B < q) := by
  refine Met.ofW (cc := cX12_isField) (maxL := 1) (ret := ((some .boolean))) (by decide) rfl ?_
  intro p e s m args below meth c s₁ Bd hml hv
  obtain ⟨rfl, hC, hM⟩ := hv
  obtain ⟨hx, hb, hr, hg, hown, hlk⟩ := z_open Bd
  have hK := hC.1
  have hS : va_S (fun q => B < q) s.heap s.heap [] := va_S.rf
  have hX0 : zX S0 S0 := zX.rf
  refine z_entry (vs := [.int v0]) (Nat.le_of_ble_eq_true rfl) (fun ls hl => ?_)
  have hl : lv_has ls 1 [(0, .int v0)] := hl
  unfold f_X12_isField at h
  refine lv_iload_n hx hb dX12_isField_0 rfl (lv_at hl 0 rfl) ?_
  refine lv_bipush (v := (115 : Int32)) hx hb dX12_isField_1 (by decide +kernel) ?_
  refine lv_icmp_eq (tgt := 42) hx hb dX12_isField_3 (by decide) (fun hc1 => ?_) (fun hc1 => ?_)
  · have h := zt h hc1
    refine lv_iconst (v := (1 : Int32)) hx hb dX12_isField_42 (by decide +kernel) ?_
    refine lv_goto (tgt := 47) hx hb dX12_isField_43 (by decide) ?_
    exact z_zret (by decide +kernel) hx hb hr hlk hM hX0 hS ⟨h, rfl⟩ dX12_isField_47
  · have h := zf h hc1
    refine lv_iload_n hx hb dX12_isField_6 rfl (lv_at hl 0 rfl) ?_
    refine lv_bipush (v := (110 : Int32)) hx hb dX12_isField_7 (by decide +kernel) ?_
    refine lv_icmp_eq (tgt := 42) hx hb dX12_isField_9 (by decide) (fun hc2 => ?_) (fun hc2 => ?_)
    · have h := zt h hc2
      refine lv_iconst (v := (1 : Int32)) hx hb dX12_isField_42 (by decide +kernel) ?_
      refine lv_goto (tgt := 47) hx hb dX12_isField_43 (by decide) ?_
      exact z_zret (by decide +kernel) hx hb hr hlk hM hX0 hS ⟨h, rfl⟩ dX12_isField_47
    · have h := zf h hc2
      refine lv_iload_n hx hb dX12_isField_12 rfl (lv_at hl 0 rfl) ?_
      refine lv_bipush (v := (104 : Int32)) hx hb dX12_isField_13 (by decide +kernel) ?_
      refine lv_icmp_eq (tgt := 42) hx hb dX12_isField_15 (by decide) (fun hc3 => ?_) (fun hc3 => ?_)
      · have h := zt h hc3
        refine lv_iconst (v := (1 : Int32)) hx hb dX12_isField_42 (by decide +kernel) ?_
        refine lv_goto (tgt := 47) hx hb dX12_isField_43 (by decide) ?_
        exact z_zret (by decide +kernel) hx hb hr hlk hM hX0 hS ⟨h, rfl⟩ dX12_isField_47
      · have h := zf h hc3
        refine lv_iload_n hx hb dX12_isField_18 rfl (lv_at hl 0 rfl) ?_
        refine lv_bipush (v := (109 : Int32)) hx hb dX12_isField_19 (by decide +kernel) ?_
        refine lv_icmp_eq (tgt := 42) hx hb dX12_isField_21 (by decide) (fun hc4 => ?_) (fun hc4 => ?_)
        · have h := zt h hc4
          refine lv_iconst (v := (1 : Int32)) hx hb dX12_isField_42 (by decide +kernel) ?_
          refine lv_goto (tgt := 47) hx hb dX12_isField_43 (by decide) ?_
          exact z_zret (by decide +kernel) hx hb hr hlk hM hX0 hS ⟨h, rfl⟩ dX12_isField_47
        · have h := zf h hc4
          refine lv_iload_n hx hb dX12_isField_24 rfl (lv_at hl 0 rfl) ?_
          refine lv_bipush (v := (97 : Int32)) hx hb dX12_isField_25 (by decide +kernel) ?_
          refine lv_icmp_eq (tgt := 42) hx hb dX12_isField_27 (by decide) (fun hc5 => ?_) (fun hc5 => ?_)
          · have h := zt h hc5
            refine lv_iconst (v := (1 : Int32)) hx hb dX12_isField_42 (by decide +kernel) ?_
            refine lv_goto (tgt := 47) hx hb dX12_isField_43 (by decide) ?_
            exact z_zret (by decide +kernel) hx hb hr hlk hM hX0 hS ⟨h, rfl⟩ dX12_isField_47
          · have h := zf h hc5
            refine lv_iload_n hx hb dX12_isField_30 rfl (lv_at hl 0 rfl) ?_
            refine lv_bipush (v := (122 : Int32)) hx hb dX12_isField_31 (by decide +kernel) ?_
            refine lv_icmp_eq (tgt := 42) hx hb dX12_isField_33 (by decide) (fun hc6 => ?_) (fun hc6 => ?_)
            · have h := zt h hc6
              refine lv_iconst (v := (1 : Int32)) hx hb dX12_isField_42 (by decide +kernel) ?_
              refine lv_goto (tgt := 47) hx hb dX12_isField_43 (by decide) ?_
              exact z_zret (by decide +kernel) hx hb hr hlk hM hX0 hS ⟨h, rfl⟩ dX12_isField_47
            · have h := zf h hc6
              refine lv_iload_n hx hb dX12_isField_36 rfl (lv_at hl 0 rfl) ?_
              refine lv_bipush (v := (112 : Int32)) hx hb dX12_isField_37 (by decide +kernel) ?_
              refine lv_icmp_ne (tgt := 46) hx hb dX12_isField_39 (by decide) (fun hc7 => ?_) (fun hc7 => ?_)
              · have h := zf h hc7
                refine lv_iconst (v := (0 : Int32)) hx hb dX12_isField_46 (by decide +kernel) ?_
                exact z_zret (by decide +kernel) hx hb hr hlk hM hX0 hS ⟨h, rfl⟩ dX12_isField_47
              · have h := zt h hc7
                refine lv_iconst (v := (1 : Int32)) hx hb dX12_isField_42 (by decide +kernel) ?_
                refine lv_goto (tgt := 47) hx hb dX12_isField_43 (by decide) ?_
                exact z_zret (by decide +kernel) hx hb hr hlk hM hX0 hS ⟨h, rfl⟩ dX12_isField_47
def f_X12_readsAtom (n : Nat) (rc : zM → Nat → Option (Int32 × zM)) (S0 : zM) (a0 : Nat) : Option (Int32 × zM) :=
  zB1 (f_X12_sign S0 a0) (fun r2 => zLet (if (zi S0 a0 15) = (6 : Int32) then some (((0 : Int32), S0)) else zLet (zpI S0 a0 12 ((zi S0 a0 12) + (1 : Int32))) (fun S9 => zLet (zpI S9 a0 15 ((zi S9 a0 15) + (1 : Int32))) (fun S14 => zB2 (rc S14 a0) (fun r20 S21 => if r20 = 0 then some (((0 : Int32), S21)) else zLet (fun (S28 : zM) => zLet (fun (x32 : Int32) => zB2 (f_X12_takes S28 a0 x32) (fun r36 S37 => if r36 = 0 then some (((0 : Int32), S37)) else zLet (zpI S37 a0 15 ((zi S37 a0 15) - (1 : Int32))) (fun S43 => some (((1 : Int32), S43))))) (fun K34 => if r2 = (91 : Int32) then K34 (93 : Int32) else if r2 = (123 : Int32) then K34 (125 : Int32) else K34 (41 : Int32))) (fun K30 => if r2 = (40 : Int32) then K30 S21 else zB2 (f_X12_takes S21 a0 (44 : Int32)) (fun r51 S52 => if r51 = 0 then some (((0 : Int32), S52)) else zB2 (rc S52 a0) (fun r59 S60 => if r59 = 0 then some (((0 : Int32), S60)) else K30 S60))))))) (fun K7 => if r2 = (91 : Int32) then K7 else if r2 = (123 : Int32) then K7 else if r2 = (40 : Int32) then K7 else zLet (f_X12_isField r2) (fun r70 => if r70 = 0 then zB2 (f_X12_readsNumber n S0 a0) (fun r75 S76 => zChk (r75 = 0 ∨ r75 = 1) (some ((r75, S76)))) else zLet (zpI S0 a0 12 ((zi S0 a0 12) + (1 : Int32))) (fun S81 => some (((1 : Int32), S81))))))
set_option maxHeartbeats 4000000 in
set_option maxRecDepth 100000 in
theorem c_X12_readsAtom (l : Launch) (D : va_G) (cy : Nat → ClassId) (B : Nat) (dd : Nat) {rc : zM → Nat → Option (Int32 × zM)} (hrc : ∀ {S : zM} {b0 : Nat} {q : Int32} {S1 : zM}, zA S b0 12 →  rc S b0 = some (q, S1) → Met l yX12_readsSum (zws yX12_readsSum cX12_readsSum 1 ((some .boolean))) { frames := 4 * dd, cells := 0, slots := 0, locals := 87 * dd } (zPc D cy B S [.ref (B + b0)]) (zQi D cy B S q S1) 0 0 (fun q => B < q)) {n : Nat} {S0 : zM} {a0 : Nat} {r : Int32} {S' : zM} (ha0 : zA S0 a0 12) (h : f_X12_readsAtom n rc S0 a0 = some (r, S')) : Met l yX12_readsAtom (zws yX12_readsAtom cX12_readsAtom 2 ((some .boolean))) { frames := 4 * dd + 2, cells := 0, slots := 0, locals := 87 * dd + 46 } (zPc D cy B S0 [.ref (B + a0)]) (zQi D cy B S0 r S') 0 0 (fun q => B < q) := by
  refine Met.ofW (cc := cX12_readsAtom) (maxL := 2) (ret := ((some .boolean))) (by decide) rfl ?_
  intro p e s m args below meth c s₁ Bd hml hv
  obtain ⟨rfl, hC, hM⟩ := hv
  obtain ⟨hx, hb, hr, hg, hown, hlk⟩ := z_open Bd
  have hK := hC.1
  have hS : va_S (fun q => B < q) s.heap s.heap [] := va_S.rf
  have hX0 : zX S0 S0 := zX.rf
  refine z_entry (vs := [.ref (B + a0)]) (Nat.le_of_ble_eq_true rfl) (fun ls hl => ?_)
  have hl : lv_has ls 2 [(0, .ref (B + a0))] := hl
  unfold f_X12_readsAtom at h
  refine lv_aload_n hx hb dX12_readsAtom_0 rfl (lv_at hl 0 rfl) ?_
  obtain ⟨r2, hr1, h⟩ := zb1 h
  refine z_runi (va_runV (As := []) (rest := []) ⟨hx, hb, hml, hown, hg⟩ (c_X12_sign l D cy B ha0 hr1) (z_cwV hg zw_1236 zw_1237 zw_1500 zw_13 zw_1238 zh_X12_sign ⟨by show 0 + 1 ≤ 4 * dd + 2; omega, by show 8 + (1 + 11) + 0 ≤ 87 * dd + 46; omega⟩) (zPV hC hM ha0 (by decide) rfl) rfl rfl hl.1 rfl (lv_room (Nat.le_of_ble_eq_true rfl)) dX12_readsAtom_1 ⟨(Nat.le_of_ble_eq_true rfl), (Nat.le_of_ble_eq_true rfl)⟩) hS (fun H locs hM hX3 hS => ?_)
  refine lv_istore_n (i := 1) (lv' := [(1, .int r2), (0, .ref (B + a0))]) hx hb dX12_readsAtom_4 rfl hl (by decide) rfl (fun ls hl => ?_)
  refine lv_iload_n hx hb dX12_readsAtom_5 rfl (lv_at hl 0 rfl) ?_
  refine lv_bipush (v := (91 : Int32)) hx hb dX12_readsAtom_6 (by decide +kernel) ?_
  obtain ⟨K7, eK7, h⟩ := zlg h
  have hK7 : ∀ (H : Heap) (locs : List Loc), zMR D cy B S0 H → zX S0 S0 → va_S (fun q => B < q) s.heap H locs → zA S0 a0 12 → ∀ ls : Array Slot, lv_has ls 2 [(0, .ref (B + a0)), (1, .int r2)] → K7 = some (r, S') → W p l e (headSpec (zws yX12_readsAtom cX12_readsAtom 2 ((some .boolean))) { frames := 4 * dd + 2, cells := 0, slots := 0, locals := 87 * dd + 46 }).room s m (([.ref (B + a0)] : List Value).toArray) below meth c H locs 0 0 (MQ below (zQi D cy B S0 r S') (([.ref (B + a0)] : List Value).toArray) s 0 0 (fun q => B < q)) (F0 m 23 ls []) := by
    intro H locs hM hX6 hS h5 ls hl h
    rw [eK7] at h
    refine lv_aload_n hx hb dX12_readsAtom_23 rfl (lv_at hl 0 rfl) ?_
    refine z_getI hx hb hg zin_12 hown hK hM h5 15 rfl (by decide) (hg _ zw_1015) (fun _ h9 => h9) dX12_readsAtom_24 ?_
    refine lv_bipush (v := (6 : Int32)) hx hb dX12_readsAtom_27 (by decide +kernel) ?_
    refine lv_icmp_ne (tgt := 34) hx hb dX12_readsAtom_29 (by decide) (fun hc8 => ?_) (fun hc8 => ?_)
    · have h := zf h hc8
      refine lv_aload_n hx hb dX12_readsAtom_34 rfl (lv_at hl 0 rfl) ?_
      refine lv_dup hx hb dX12_readsAtom_35 rfl ?_
      refine z_getI hx hb hg zin_12 hown hK hM h5 12 rfl (by decide) (hg _ zw_1012) (fun _ h9 => h9) dX12_readsAtom_36 ?_
      refine lv_iconst (v := (1 : Int32)) hx hb dX12_readsAtom_39 (by decide +kernel) ?_
      refine lv_iadd hx hb dX12_readsAtom_40 ?_
      refine z_putI hx hb hg zin_12 tyX12 tyX12_ok nmX12 hown hK hM hS h5 12 rfl (by decide) (hg _ zw_1012) (fun _ h9 => h9) (Or.inl rfl) (tyX12_ok 12 (by decide)) rfl rfl dX12_readsAtom_41 (fun H locs hM hS => ?_)
      obtain ⟨S9, e10, h⟩ := zlg h
      rw [← e10] at hM
      have hX11 : zX S0 S9 := by rw [e10]; exact zX_pI
      have h12 := h5.mo hX11
      have hX13 := hX6.tr hX11
      refine lv_aload_n hx hb dX12_readsAtom_44 rfl (lv_at hl 0 rfl) ?_
      refine lv_dup hx hb dX12_readsAtom_45 rfl ?_
      refine z_getI hx hb hg zin_12 hown hK hM h12 15 rfl (by decide) (hg _ zw_1015) (fun _ h9 => h9) dX12_readsAtom_46 ?_
      refine lv_iconst (v := (1 : Int32)) hx hb dX12_readsAtom_49 (by decide +kernel) ?_
      refine lv_iadd hx hb dX12_readsAtom_50 ?_
      refine z_putI hx hb hg zin_12 tyX12 tyX12_ok nmX12 hown hK hM hS h12 15 rfl (by decide) (hg _ zw_1015) (fun _ h9 => h9) (Or.inl rfl) (tyX12_ok 15 (by decide)) rfl rfl dX12_readsAtom_51 (fun H locs hM hS => ?_)
      obtain ⟨S14, e15, h⟩ := zlg h
      rw [← e15] at hM
      have hX16 : zX S9 S14 := by rw [e15]; exact zX_pI
      have h17 := h12.mo hX16
      have hX18 := hX13.tr hX16
      refine lv_aload_n hx hb dX12_readsAtom_54 rfl (lv_at hl 0 rfl) ?_
      obtain ⟨r20, S21, hr19, h⟩ := zb2 h
      refine z_runi (va_runV (As := []) (rest := []) ⟨hx, hb, hml, hown, hg⟩ (hrc h17 hr19) (z_cwV hg zw_1239 zw_1240 zw_1501 zw_13 zw_1241 zh_X12_readsSum ⟨by show 4 * dd + 1 ≤ 4 * dd + 2; omega, by show 8 + (1 + 11) + (87 * dd) ≤ 87 * dd + 46; omega⟩) (zPV hC hM h17 (by decide) rfl) rfl rfl hl.1 rfl (lv_room (Nat.le_of_ble_eq_true rfl)) dX12_readsAtom_55 ⟨(Nat.le_of_ble_eq_true rfl), (Nat.le_of_ble_eq_true rfl)⟩) hS (fun H locs hM hX22 hS => ?_)
      have h24 := h17.mo hX22
      have hX25 := hX18.tr hX22
      refine lv_if_eq (tgt := 114) hx hb dX12_readsAtom_58 (by decide) (fun hc26 => ?_) (fun hc26 => ?_)
      · have h := zt h hc26
        refine lv_iconst (v := (0 : Int32)) hx hb dX12_readsAtom_114 (by decide +kernel) ?_
        exact z_zret (by decide +kernel) hx hb hr hlk hM hX25 hS (zsp h) dX12_readsAtom_115
      · have h := zf h hc26
        refine lv_iload_n hx hb dX12_readsAtom_61 rfl (lv_at hl 1 rfl) ?_
        refine lv_bipush (v := (40 : Int32)) hx hb dX12_readsAtom_62 (by decide +kernel) ?_
        obtain ⟨K30, eK30, h⟩ := zlg h
        have hK30 : ∀ (S28 : zM) (H : Heap) (locs : List Loc), zMR D cy B S28 H → zX S0 S28 → va_S (fun q => B < q) s.heap H locs → zA S28 a0 12 → ∀ ls : Array Slot, lv_has ls 2 [(0, .ref (B + a0)), (1, .int r2)] → K30 S28 = some (r, S') → W p l e (headSpec (zws yX12_readsAtom cX12_readsAtom 2 ((some .boolean))) { frames := 4 * dd + 2, cells := 0, slots := 0, locals := 87 * dd + 46 }).room s m (([.ref (B + a0)] : List Value).toArray) below meth c H locs 0 0 (MQ below (zQi D cy B S0 r S') (([.ref (B + a0)] : List Value).toArray) s 0 0 (fun q => B < q)) (F0 m 83 ls []) := by
          intro S28 H locs hM hX29 hS h27 ls hl h
          rw [eK30] at h
          refine lv_aload_n hx hb dX12_readsAtom_83 rfl (lv_at hl 0 rfl) ?_
          refine lv_iload_n hx hb dX12_readsAtom_84 rfl (lv_at hl 1 rfl) ?_
          refine lv_bipush (v := (91 : Int32)) hx hb dX12_readsAtom_85 (by decide +kernel) ?_
          obtain ⟨K34, eK34, h⟩ := zlg h
          have hK34 : ∀ (x32 : Int32) (H : Heap) (locs : List Loc), zMR D cy B S28 H → zX S0 S28 → va_S (fun q => B < q) s.heap H locs → zA S28 a0 12 → ∀ ls : Array Slot, lv_has ls 2 [(0, .ref (B + a0))] → K34 x32 = some (r, S') → W p l e (headSpec (zws yX12_readsAtom cX12_readsAtom 2 ((some .boolean))) { frames := 4 * dd + 2, cells := 0, slots := 0, locals := 87 * dd + 46 }).room s m (([.ref (B + a0)] : List Value).toArray) below meth c H locs 0 0 (MQ below (zQi D cy B S0 r S') (([.ref (B + a0)] : List Value).toArray) s 0 0 (fun q => B < q)) (F0 m 108 ls [.int x32, .ref (B + a0)]) := by
            intro x32 H locs hM hX33 hS h31 ls hl h
            rw [eK34] at h
            obtain ⟨r36, S37, hr35, h⟩ := zb2 h
            refine z_runi (va_runV (As := [.int x32]) (rest := []) ⟨hx, hb, hml, hown, hg⟩ (c_X12_takes l D cy B h31 hr35) (z_cwV hg zw_1248 zw_1249 zw_1504 zw_13 zw_1250 zh_X12_takes ⟨by show 1 + 1 ≤ 4 * dd + 2; omega, by show 8 + (2 + 11) + 20 ≤ 87 * dd + 46; omega⟩) (zPV hC hM h31 (by decide) rfl) rfl rfl hl.1 rfl (lv_room (Nat.le_of_ble_eq_true rfl)) dX12_readsAtom_108 ⟨(Nat.le_of_ble_eq_true rfl), (Nat.le_of_ble_eq_true rfl)⟩) hS (fun H locs hM hX38 hS => ?_)
            have h40 := h31.mo hX38
            have hX41 := hX33.tr hX38
            refine lv_if_ne (tgt := 116) hx hb dX12_readsAtom_111 (by decide) (fun hc42 => ?_) (fun hc42 => ?_)
            · have h := zf h hc42
              refine lv_aload_n hx hb dX12_readsAtom_116 rfl (lv_at hl 0 rfl) ?_
              refine lv_dup hx hb dX12_readsAtom_117 rfl ?_
              refine z_getI hx hb hg zin_12 hown hK hM h40 15 rfl (by decide) (hg _ zw_1015) (fun _ h9 => h9) dX12_readsAtom_118 ?_
              refine lv_iconst (v := (1 : Int32)) hx hb dX12_readsAtom_121 (by decide +kernel) ?_
              refine lv_isub hx hb dX12_readsAtom_122 ?_
              refine z_putI hx hb hg zin_12 tyX12 tyX12_ok nmX12 hown hK hM hS h40 15 rfl (by decide) (hg _ zw_1015) (fun _ h9 => h9) (Or.inl rfl) (tyX12_ok 15 (by decide)) rfl rfl dX12_readsAtom_123 (fun H locs hM hS => ?_)
              obtain ⟨S43, e44, h⟩ := zlg h
              rw [← e44] at hM
              have hX45 : zX S37 S43 := by rw [e44]; exact zX_pI
              have hX46 := hX41.tr hX45
              refine lv_iconst (v := (1 : Int32)) hx hb dX12_readsAtom_126 (by decide +kernel) ?_
              exact z_zret (by decide +kernel) hx hb hr hlk hM hX46 hS (zsp h) dX12_readsAtom_127
            · have h := zt h hc42
              refine lv_iconst (v := (0 : Int32)) hx hb dX12_readsAtom_114 (by decide +kernel) ?_
              exact z_zret (by decide +kernel) hx hb hr hlk hM hX41 hS (zsp h) dX12_readsAtom_115
          refine lv_icmp_ne (tgt := 95) hx hb dX12_readsAtom_87 (by decide) (fun hc47 => ?_) (fun hc47 => ?_)
          · have h := zf h hc47
            refine lv_iload_n hx hb dX12_readsAtom_95 rfl (lv_at hl 1 rfl) ?_
            refine lv_bipush (v := (123 : Int32)) hx hb dX12_readsAtom_96 (by decide +kernel) ?_
            refine lv_icmp_ne (tgt := 106) hx hb dX12_readsAtom_98 (by decide) (fun hc48 => ?_) (fun hc48 => ?_)
            · have h := zf h hc48
              refine lv_bipush (v := (41 : Int32)) hx hb dX12_readsAtom_106 (by decide +kernel) ?_
              exact hK34 (41 : Int32) _ _ hM hX29 hS h27 _ (lv_sub hl [0] rfl) h
            · have h := zt h hc48
              refine lv_bipush (v := (125 : Int32)) hx hb dX12_readsAtom_101 (by decide +kernel) ?_
              refine lv_goto (tgt := 108) hx hb dX12_readsAtom_103 (by decide) ?_
              exact hK34 (125 : Int32) _ _ hM hX29 hS h27 _ (lv_sub hl [0] rfl) h
          · have h := zt h hc47
            refine lv_bipush (v := (93 : Int32)) hx hb dX12_readsAtom_90 (by decide +kernel) ?_
            refine lv_goto (tgt := 108) hx hb dX12_readsAtom_92 (by decide) ?_
            exact hK34 (93 : Int32) _ _ hM hX29 hS h27 _ (lv_sub hl [0] rfl) h
        refine lv_icmp_eq (tgt := 83) hx hb dX12_readsAtom_64 (by decide) (fun hc49 => ?_) (fun hc49 => ?_)
        · have h := zt h hc49
          exact hK30 S21 _ _ hM hX25 hS h24 _ (lv_sub hl [0, 1] rfl) h
        · have h := zf h hc49
          refine lv_aload_n hx hb dX12_readsAtom_67 rfl (lv_at hl 0 rfl) ?_
          refine lv_bipush (v := (44 : Int32)) hx hb dX12_readsAtom_68 (by decide +kernel) ?_
          obtain ⟨r51, S52, hr50, h⟩ := zb2 h
          refine z_runi (va_runV (As := [.int (44 : Int32)]) (rest := []) ⟨hx, hb, hml, hown, hg⟩ (c_X12_takes l D cy B h24 hr50) (z_cwV hg zw_1248 zw_1249 zw_1504 zw_13 zw_1250 zh_X12_takes ⟨by show 1 + 1 ≤ 4 * dd + 2; omega, by show 8 + (2 + 11) + 20 ≤ 87 * dd + 46; omega⟩) (zPV hC hM h24 (by decide) rfl) rfl rfl hl.1 rfl (lv_room (Nat.le_of_ble_eq_true rfl)) dX12_readsAtom_70 ⟨(Nat.le_of_ble_eq_true rfl), (Nat.le_of_ble_eq_true rfl)⟩) hS (fun H locs hM hX53 hS => ?_)
          have h55 := h24.mo hX53
          have hX56 := hX25.tr hX53
          refine lv_if_eq (tgt := 114) hx hb dX12_readsAtom_73 (by decide) (fun hc57 => ?_) (fun hc57 => ?_)
          · have h := zt h hc57
            refine lv_iconst (v := (0 : Int32)) hx hb dX12_readsAtom_114 (by decide +kernel) ?_
            exact z_zret (by decide +kernel) hx hb hr hlk hM hX56 hS (zsp h) dX12_readsAtom_115
          · have h := zf h hc57
            refine lv_aload_n hx hb dX12_readsAtom_76 rfl (lv_at hl 0 rfl) ?_
            obtain ⟨r59, S60, hr58, h⟩ := zb2 h
            refine z_runi (va_runV (As := []) (rest := []) ⟨hx, hb, hml, hown, hg⟩ (hrc h55 hr58) (z_cwV hg zw_1239 zw_1240 zw_1501 zw_13 zw_1241 zh_X12_readsSum ⟨by show 4 * dd + 1 ≤ 4 * dd + 2; omega, by show 8 + (1 + 11) + (87 * dd) ≤ 87 * dd + 46; omega⟩) (zPV hC hM h55 (by decide) rfl) rfl rfl hl.1 rfl (lv_room (Nat.le_of_ble_eq_true rfl)) dX12_readsAtom_77 ⟨(Nat.le_of_ble_eq_true rfl), (Nat.le_of_ble_eq_true rfl)⟩) hS (fun H locs hM hX61 hS => ?_)
            have h63 := h55.mo hX61
            have hX64 := hX56.tr hX61
            refine lv_if_eq (tgt := 114) hx hb dX12_readsAtom_80 (by decide) (fun hc65 => ?_) (fun hc65 => ?_)
            · have h := zt h hc65
              refine lv_iconst (v := (0 : Int32)) hx hb dX12_readsAtom_114 (by decide +kernel) ?_
              exact z_zret (by decide +kernel) hx hb hr hlk hM hX64 hS (zsp h) dX12_readsAtom_115
            · have h := zf h hc65
              exact hK30 S60 _ _ hM hX64 hS h63 _ (lv_sub hl [0, 1] rfl) h
    · have h := zt h hc8
      refine lv_iconst (v := (0 : Int32)) hx hb dX12_readsAtom_32 (by decide +kernel) ?_
      exact z_zret (by decide +kernel) hx hb hr hlk hM hX6 hS (zsp h) dX12_readsAtom_33
  refine lv_icmp_eq (tgt := 23) hx hb dX12_readsAtom_8 (by decide) (fun hc66 => ?_) (fun hc66 => ?_)
  · have h := zt h hc66
    exact hK7 _ _ hM hX0 hS ha0 _ (lv_sub hl [1, 0] rfl) h
  · have h := zf h hc66
    refine lv_iload_n hx hb dX12_readsAtom_11 rfl (lv_at hl 0 rfl) ?_
    refine lv_bipush (v := (123 : Int32)) hx hb dX12_readsAtom_12 (by decide +kernel) ?_
    refine lv_icmp_eq (tgt := 23) hx hb dX12_readsAtom_14 (by decide) (fun hc67 => ?_) (fun hc67 => ?_)
    · have h := zt h hc67
      exact hK7 _ _ hM hX0 hS ha0 _ (lv_sub hl [1, 0] rfl) h
    · have h := zf h hc67
      refine lv_iload_n hx hb dX12_readsAtom_17 rfl (lv_at hl 0 rfl) ?_
      refine lv_bipush (v := (40 : Int32)) hx hb dX12_readsAtom_18 (by decide +kernel) ?_
      refine lv_icmp_ne (tgt := 128) hx hb dX12_readsAtom_20 (by decide) (fun hc68 => ?_) (fun hc68 => ?_)
      · have h := zf h hc68
        refine lv_iload_n hx hb dX12_readsAtom_128 rfl (lv_at hl 0 rfl) ?_
        obtain ⟨r70, hr69, h⟩ := zlg h
        have hr69 := hr69.symm
        refine z_runi (va_runS (As := [.int r2]) (rest := []) ⟨hx, hb, hml, hown, hg⟩ (c_X12_isField l D cy B hr69) (z_cwS hg zw_1251 zw_1252 zw_13 zw_1253 zh_X12_isField.2 ⟨by show 0 + 1 ≤ 4 * dd + 2; omega, by show 8 + (1 + 11) + 0 ≤ 87 * dd + 46; omega⟩) (zPS hC hM) rfl rfl hl.1 rfl (lv_room (Nat.le_of_ble_eq_true rfl)) dX12_readsAtom_129 ⟨(Nat.le_of_ble_eq_true rfl), (Nat.le_of_ble_eq_true rfl)⟩) hS (fun H locs hM hX71 hS => ?_)
        refine lv_if_eq (tgt := 147) hx hb dX12_readsAtom_132 (by decide) (fun hc73 => ?_) (fun hc73 => ?_)
        · have h := zt h hc73
          refine lv_aload_n hx hb dX12_readsAtom_147 rfl (lv_at hl 1 rfl) ?_
          obtain ⟨r75, S76, hr74, h⟩ := zb2 h
          refine z_runi (va_runV (As := []) (rest := []) ⟨hx, hb, hml, hown, hg⟩ (c_X12_readsNumber l D cy B ha0 hr74) (z_cwV hg zw_1254 zw_1255 zw_1505 zw_13 zw_1256 zh_X12_readsNumber ⟨by show 1 + 1 ≤ 4 * dd + 2; omega, by show 8 + (2 + 11) + 25 ≤ 87 * dd + 46; omega⟩) (zPV hC hM ha0 (by decide) rfl) rfl rfl hl.1 rfl (lv_room (Nat.le_of_ble_eq_true rfl)) dX12_readsAtom_148 ⟨(Nat.le_of_ble_eq_true rfl), (Nat.le_of_ble_eq_true rfl)⟩) hS (fun H locs hM hX77 hS => ?_)
          have hX79 := hX0.tr hX77
          obtain ⟨hb80, h⟩ := zk h
          exact z_zret (z_bit hb80).1 hx hb hr hlk hM hX79 hS (zsp h) dX12_readsAtom_151
        · have h := zf h hc73
          refine lv_aload_n hx hb dX12_readsAtom_135 rfl (lv_at hl 1 rfl) ?_
          refine lv_dup hx hb dX12_readsAtom_136 rfl ?_
          refine z_getI hx hb hg zin_12 hown hK hM ha0 12 rfl (by decide) (hg _ zw_1012) (fun _ h9 => h9) dX12_readsAtom_137 ?_
          refine lv_iconst (v := (1 : Int32)) hx hb dX12_readsAtom_140 (by decide +kernel) ?_
          refine lv_iadd hx hb dX12_readsAtom_141 ?_
          refine z_putI hx hb hg zin_12 tyX12 tyX12_ok nmX12 hown hK hM hS ha0 12 rfl (by decide) (hg _ zw_1012) (fun _ h9 => h9) (Or.inl rfl) (tyX12_ok 12 (by decide)) rfl rfl dX12_readsAtom_142 (fun H locs hM hS => ?_)
          obtain ⟨S81, e82, h⟩ := zlg h
          rw [← e82] at hM
          have hX83 : zX S0 S81 := by rw [e82]; exact zX_pI
          have hX84 := hX0.tr hX83
          refine lv_iconst (v := (1 : Int32)) hx hb dX12_readsAtom_145 (by decide +kernel) ?_
          exact z_zret (by decide +kernel) hx hb hr hlk hM hX84 hS (zsp h) dX12_readsAtom_146
      · have h := zt h hc68
        exact hK7 _ _ hM hX0 hS ha0 _ (lv_sub hl [1, 0] rfl) h
def f_X12_readsProduct_L0b (n : Nat) (rc : zM → Nat → Option (Int32 × zM)) (a0 : Nat) (rc : zM → Nat → Option (Int32 × zM)) (rec0 : zM → Option (Int32 × zM)) (S2 : zM) : Option (Int32 × zM) :=
  zB2 (f_X12_readsAtom n rc S2 a0) (fun r5 S6 => if r5 = 0 then some (((0 : Int32), S6)) else zB2 (f_X12_takes S6 a0 (42 : Int32)) (fun r13 S14 => if r13 = 0 then zB2 (f_X12_takes S14 a0 (47 : Int32)) (fun r21 S22 => if r21 = 0 then some (((1 : Int32), S22)) else rec0 S22) else rec0 S14))
def f_X12_readsProduct_L0 (n : Nat) (rc : zM → Nat → Option (Int32 × zM)) (a0 : Nat) (rc : zM → Nat → Option (Int32 × zM)) : Nat → zM → Option (Int32 × zM)
  | 0 => fun _ => none
  | k + 1 => fun S2 => f_X12_readsProduct_L0b n rc a0 rc (f_X12_readsProduct_L0 n rc a0 rc k) S2
def f_X12_readsProduct (n : Nat) (rc : zM → Nat → Option (Int32 × zM)) (S0 : zM) (a0 : Nat) : Option (Int32 × zM) :=
  f_X12_readsProduct_L0 n rc a0 rc n S0
set_option maxHeartbeats 4000000 in
set_option maxRecDepth 100000 in
theorem c_X12_readsProduct (l : Launch) (D : va_G) (cy : Nat → ClassId) (B : Nat) (dd : Nat) {rc : zM → Nat → Option (Int32 × zM)} (hrc : ∀ {S : zM} {b0 : Nat} {q : Int32} {S1 : zM}, zA S b0 12 →  rc S b0 = some (q, S1) → Met l yX12_readsSum (zws yX12_readsSum cX12_readsSum 1 ((some .boolean))) { frames := 4 * dd, cells := 0, slots := 0, locals := 87 * dd } (zPc D cy B S [.ref (B + b0)]) (zQi D cy B S q S1) 0 0 (fun q => B < q)) {n : Nat} {S0 : zM} {a0 : Nat} {r : Int32} {S' : zM} (ha0 : zA S0 a0 12) (h : f_X12_readsProduct n rc S0 a0 = some (r, S')) : Met l yX12_readsProduct (zws yX12_readsProduct cX12_readsProduct 1 ((some .boolean))) { frames := 4 * dd + 3, cells := 0, slots := 0, locals := 87 * dd + 67 } (zPc D cy B S0 [.ref (B + a0)]) (zQi D cy B S0 r S') 0 0 (fun q => B < q) := by
  refine Met.ofW (cc := cX12_readsProduct) (maxL := 1) (ret := ((some .boolean))) (by decide) rfl ?_
  intro p e s m args below meth c s₁ Bd hml hv
  obtain ⟨rfl, hC, hM⟩ := hv
  obtain ⟨hx, hb, hr, hg, hown, hlk⟩ := z_open Bd
  have hK := hC.1
  have hS : va_S (fun q => B < q) s.heap s.heap [] := va_S.rf
  have hX0 : zX S0 S0 := zX.rf
  refine z_entry (vs := [.ref (B + a0)]) (Nat.le_of_ble_eq_true rfl) (fun ls hl => ?_)
  have hl : lv_has ls 1 [(0, .ref (B + a0))] := hl
  unfold f_X12_readsProduct at h
  have hL0 : ∀ (k : Nat) (S2 : zM) (H : Heap) (locs : List Loc), zMR D cy B S2 H → zX S0 S2 → va_S (fun q => B < q) s.heap H locs → zA S2 a0 12 → ∀ ls : Array Slot, lv_has ls 1 [(0, .ref (B + a0))] → f_X12_readsProduct_L0 n rc a0 rc k S2 = some (r, S') → W p l e (headSpec (zws yX12_readsProduct cX12_readsProduct 1 ((some .boolean))) { frames := 4 * dd + 3, cells := 0, slots := 0, locals := 87 * dd + 67 }).room s m (([.ref (B + a0)] : List Value).toArray) below meth c H locs 0 0 (MQ below (zQi D cy B S0 r S') (([.ref (B + a0)] : List Value).toArray) s 0 0 (fun q => B < q)) (F0 m 0 ls []) := by
    intro k
    induction k with
    | zero =>
      intro S2 H locs hM hX3 hS h1 ls hl h
      exact znone h
    | succ k ih0 =>
      intro S2 H locs hM hX3 hS h1 ls hl h
      replace h : f_X12_readsProduct_L0b n rc a0 rc (f_X12_readsProduct_L0 n rc a0 rc k) S2 = some (r, S') := h
      generalize f_X12_readsProduct_L0 n rc a0 rc k = rec0 at ih0 h
      unfold f_X12_readsProduct_L0b at h
      refine lv_aload_n hx hb dX12_readsProduct_0 rfl (lv_at hl 0 rfl) ?_
      obtain ⟨r5, S6, hr4, h⟩ := zb2 h
      refine z_runi (va_runV (As := []) (rest := []) ⟨hx, hb, hml, hown, hg⟩ (c_X12_readsAtom l D cy B dd hrc h1 hr4) (z_cwV hg zw_1245 zw_1246 zw_1503 zw_13 zw_1247 zh_X12_readsAtom ⟨by show 4 * dd + 2 + 1 ≤ 4 * dd + 3; omega, by show 8 + (2 + 11) + (87 * dd + 46) ≤ 87 * dd + 67; omega⟩) (zPV hC hM h1 (by decide) rfl) rfl rfl hl.1 rfl (lv_room (Nat.le_of_ble_eq_true rfl)) dX12_readsProduct_1 ⟨(Nat.le_of_ble_eq_true rfl), (Nat.le_of_ble_eq_true rfl)⟩) hS (fun H locs hM hX7 hS => ?_)
      have h9 := h1.mo hX7
      have hX10 := hX3.tr hX7
      refine lv_if_ne (tgt := 9) hx hb dX12_readsProduct_4 (by decide) (fun hc11 => ?_) (fun hc11 => ?_)
      · have h := zf h hc11
        refine lv_aload_n hx hb dX12_readsProduct_9 rfl (lv_at hl 0 rfl) ?_
        refine lv_bipush (v := (42 : Int32)) hx hb dX12_readsProduct_10 (by decide +kernel) ?_
        obtain ⟨r13, S14, hr12, h⟩ := zb2 h
        refine z_runi (va_runV (As := [.int (42 : Int32)]) (rest := []) ⟨hx, hb, hml, hown, hg⟩ (c_X12_takes l D cy B h9 hr12) (z_cwV hg zw_1248 zw_1249 zw_1504 zw_13 zw_1250 zh_X12_takes ⟨by show 1 + 1 ≤ 4 * dd + 3; omega, by show 8 + (2 + 11) + 20 ≤ 87 * dd + 67; omega⟩) (zPV hC hM h9 (by decide) rfl) rfl rfl hl.1 rfl (lv_room (Nat.le_of_ble_eq_true rfl)) dX12_readsProduct_12 ⟨(Nat.le_of_ble_eq_true rfl), (Nat.le_of_ble_eq_true rfl)⟩) hS (fun H locs hM hX15 hS => ?_)
        have h17 := h9.mo hX15
        have hX18 := hX10.tr hX15
        refine lv_if_ne (tgt := 0) hx hb dX12_readsProduct_15 (by decide) (fun hc19 => ?_) (fun hc19 => ?_)
        · have h := zf h hc19
          exact ih0 S14 _ _ hM hX18 hS h17 _ (lv_sub hl [0] rfl) h
        · have h := zt h hc19
          refine lv_aload_n hx hb dX12_readsProduct_18 rfl (lv_at hl 0 rfl) ?_
          refine lv_bipush (v := (47 : Int32)) hx hb dX12_readsProduct_19 (by decide +kernel) ?_
          obtain ⟨r21, S22, hr20, h⟩ := zb2 h
          refine z_runi (va_runV (As := [.int (47 : Int32)]) (rest := []) ⟨hx, hb, hml, hown, hg⟩ (c_X12_takes l D cy B h17 hr20) (z_cwV hg zw_1248 zw_1249 zw_1504 zw_13 zw_1250 zh_X12_takes ⟨by show 1 + 1 ≤ 4 * dd + 3; omega, by show 8 + (2 + 11) + 20 ≤ 87 * dd + 67; omega⟩) (zPV hC hM h17 (by decide) rfl) rfl rfl hl.1 rfl (lv_room (Nat.le_of_ble_eq_true rfl)) dX12_readsProduct_21 ⟨(Nat.le_of_ble_eq_true rfl), (Nat.le_of_ble_eq_true rfl)⟩) hS (fun H locs hM hX23 hS => ?_)
          have h25 := h17.mo hX23
          have hX26 := hX18.tr hX23
          refine lv_if_ne (tgt := 0) hx hb dX12_readsProduct_24 (by decide) (fun hc27 => ?_) (fun hc27 => ?_)
          · have h := zf h hc27
            exact ih0 S22 _ _ hM hX26 hS h25 _ (lv_sub hl [0] rfl) h
          · have h := zt h hc27
            refine lv_iconst (v := (1 : Int32)) hx hb dX12_readsProduct_27 (by decide +kernel) ?_
            exact z_zret (by decide +kernel) hx hb hr hlk hM hX26 hS (zsp h) dX12_readsProduct_28
      · have h := zt h hc11
        refine lv_iconst (v := (0 : Int32)) hx hb dX12_readsProduct_7 (by decide +kernel) ?_
        exact z_zret (by decide +kernel) hx hb hr hlk hM hX10 hS (zsp h) dX12_readsProduct_8
  exact hL0 n S0 _ _ hM hX0 hS ha0 _ (lv_sub hl [0] rfl) h
def f_X12_readsSum_L0b (n : Nat) (rc : zM → Nat → Option (Int32 × zM)) (a0 : Nat) (rc : zM → Nat → Option (Int32 × zM)) (rec0 : zM → Option (Int32 × zM)) (S2 : zM) : Option (Int32 × zM) :=
  zB2 (f_X12_readsProduct n rc S2 a0) (fun r5 S6 => if r5 = 0 then some (((0 : Int32), S6)) else zB2 (f_X12_takes S6 a0 (43 : Int32)) (fun r13 S14 => if r13 = 0 then zB2 (f_X12_takes S14 a0 (45 : Int32)) (fun r21 S22 => if r21 = 0 then some (((1 : Int32), S22)) else rec0 S22) else rec0 S14))
def f_X12_readsSum_L0 (n : Nat) (rc : zM → Nat → Option (Int32 × zM)) (a0 : Nat) (rc : zM → Nat → Option (Int32 × zM)) : Nat → zM → Option (Int32 × zM)
  | 0 => fun _ => none
  | k + 1 => fun S2 => f_X12_readsSum_L0b n rc a0 rc (f_X12_readsSum_L0 n rc a0 rc k) S2
def f_X12_readsSumO (n : Nat) (rc : zM → Nat → Option (Int32 × zM)) (S0 : zM) (a0 : Nat) : Option (Int32 × zM) :=
  f_X12_readsSum_L0 n rc a0 rc n S0
def f_X12_readsSum (n : Nat) : Nat → zM → Nat → Option (Int32 × zM)
  | 0 => fun _ _ => none
  | d + 1 => f_X12_readsSumO n (f_X12_readsSum n d)
set_option maxHeartbeats 4000000 in
set_option maxRecDepth 100000 in
theorem c_X12_readsSumO (l : Launch) (D : va_G) (cy : Nat → ClassId) (B : Nat) (dd : Nat) {rc : zM → Nat → Option (Int32 × zM)} (hrc : ∀ {S : zM} {b0 : Nat} {q : Int32} {S1 : zM}, zA S b0 12 →  rc S b0 = some (q, S1) → Met l yX12_readsSum (zws yX12_readsSum cX12_readsSum 1 ((some .boolean))) { frames := 4 * dd, cells := 0, slots := 0, locals := 87 * dd } (zPc D cy B S [.ref (B + b0)]) (zQi D cy B S q S1) 0 0 (fun q => B < q)) {n : Nat} {S0 : zM} {a0 : Nat} {r : Int32} {S' : zM} (ha0 : zA S0 a0 12) (h : f_X12_readsSumO n rc S0 a0 = some (r, S')) : Met l yX12_readsSum (zws yX12_readsSum cX12_readsSum 1 ((some .boolean))) { frames := 4 * dd + 4, cells := 0, slots := 0, locals := 87 * dd + 87 } (zPc D cy B S0 [.ref (B + a0)]) (zQi D cy B S0 r S') 0 0 (fun q => B < q) := by
  refine Met.ofW (cc := cX12_readsSum) (maxL := 1) (ret := ((some .boolean))) (by decide) rfl ?_
  intro p e s m args below meth c s₁ Bd hml hv
  obtain ⟨rfl, hC, hM⟩ := hv
  obtain ⟨hx, hb, hr, hg, hown, hlk⟩ := z_open Bd
  have hK := hC.1
  have hS : va_S (fun q => B < q) s.heap s.heap [] := va_S.rf
  have hX0 : zX S0 S0 := zX.rf
  refine z_entry (vs := [.ref (B + a0)]) (Nat.le_of_ble_eq_true rfl) (fun ls hl => ?_)
  have hl : lv_has ls 1 [(0, .ref (B + a0))] := hl
  unfold f_X12_readsSumO at h
  have hL0 : ∀ (k : Nat) (S2 : zM) (H : Heap) (locs : List Loc), zMR D cy B S2 H → zX S0 S2 → va_S (fun q => B < q) s.heap H locs → zA S2 a0 12 → ∀ ls : Array Slot, lv_has ls 1 [(0, .ref (B + a0))] → f_X12_readsSum_L0 n rc a0 rc k S2 = some (r, S') → W p l e (headSpec (zws yX12_readsSum cX12_readsSum 1 ((some .boolean))) { frames := 4 * dd + 4, cells := 0, slots := 0, locals := 87 * dd + 87 }).room s m (([.ref (B + a0)] : List Value).toArray) below meth c H locs 0 0 (MQ below (zQi D cy B S0 r S') (([.ref (B + a0)] : List Value).toArray) s 0 0 (fun q => B < q)) (F0 m 0 ls []) := by
    intro k
    induction k with
    | zero =>
      intro S2 H locs hM hX3 hS h1 ls hl h
      exact znone h
    | succ k ih0 =>
      intro S2 H locs hM hX3 hS h1 ls hl h
      replace h : f_X12_readsSum_L0b n rc a0 rc (f_X12_readsSum_L0 n rc a0 rc k) S2 = some (r, S') := h
      generalize f_X12_readsSum_L0 n rc a0 rc k = rec0 at ih0 h
      unfold f_X12_readsSum_L0b at h
      refine lv_aload_n hx hb dX12_readsSum_0 rfl (lv_at hl 0 rfl) ?_
      obtain ⟨r5, S6, hr4, h⟩ := zb2 h
      refine z_runi (va_runV (As := []) (rest := []) ⟨hx, hb, hml, hown, hg⟩ (c_X12_readsProduct l D cy B dd hrc h1 hr4) (z_cwV hg zw_1242 zw_1243 zw_1502 zw_13 zw_1244 zh_X12_readsProduct ⟨by show 4 * dd + 3 + 1 ≤ 4 * dd + 4; omega, by show 8 + (1 + 11) + (87 * dd + 67) ≤ 87 * dd + 87; omega⟩) (zPV hC hM h1 (by decide) rfl) rfl rfl hl.1 rfl (lv_room (Nat.le_of_ble_eq_true rfl)) dX12_readsSum_1 ⟨(Nat.le_of_ble_eq_true rfl), (Nat.le_of_ble_eq_true rfl)⟩) hS (fun H locs hM hX7 hS => ?_)
      have h9 := h1.mo hX7
      have hX10 := hX3.tr hX7
      refine lv_if_ne (tgt := 9) hx hb dX12_readsSum_4 (by decide) (fun hc11 => ?_) (fun hc11 => ?_)
      · have h := zf h hc11
        refine lv_aload_n hx hb dX12_readsSum_9 rfl (lv_at hl 0 rfl) ?_
        refine lv_bipush (v := (43 : Int32)) hx hb dX12_readsSum_10 (by decide +kernel) ?_
        obtain ⟨r13, S14, hr12, h⟩ := zb2 h
        refine z_runi (va_runV (As := [.int (43 : Int32)]) (rest := []) ⟨hx, hb, hml, hown, hg⟩ (c_X12_takes l D cy B h9 hr12) (z_cwV hg zw_1248 zw_1249 zw_1504 zw_13 zw_1250 zh_X12_takes ⟨by show 1 + 1 ≤ 4 * dd + 4; omega, by show 8 + (2 + 11) + 20 ≤ 87 * dd + 87; omega⟩) (zPV hC hM h9 (by decide) rfl) rfl rfl hl.1 rfl (lv_room (Nat.le_of_ble_eq_true rfl)) dX12_readsSum_12 ⟨(Nat.le_of_ble_eq_true rfl), (Nat.le_of_ble_eq_true rfl)⟩) hS (fun H locs hM hX15 hS => ?_)
        have h17 := h9.mo hX15
        have hX18 := hX10.tr hX15
        refine lv_if_ne (tgt := 0) hx hb dX12_readsSum_15 (by decide) (fun hc19 => ?_) (fun hc19 => ?_)
        · have h := zf h hc19
          exact ih0 S14 _ _ hM hX18 hS h17 _ (lv_sub hl [0] rfl) h
        · have h := zt h hc19
          refine lv_aload_n hx hb dX12_readsSum_18 rfl (lv_at hl 0 rfl) ?_
          refine lv_bipush (v := (45 : Int32)) hx hb dX12_readsSum_19 (by decide +kernel) ?_
          obtain ⟨r21, S22, hr20, h⟩ := zb2 h
          refine z_runi (va_runV (As := [.int (45 : Int32)]) (rest := []) ⟨hx, hb, hml, hown, hg⟩ (c_X12_takes l D cy B h17 hr20) (z_cwV hg zw_1248 zw_1249 zw_1504 zw_13 zw_1250 zh_X12_takes ⟨by show 1 + 1 ≤ 4 * dd + 4; omega, by show 8 + (2 + 11) + 20 ≤ 87 * dd + 87; omega⟩) (zPV hC hM h17 (by decide) rfl) rfl rfl hl.1 rfl (lv_room (Nat.le_of_ble_eq_true rfl)) dX12_readsSum_21 ⟨(Nat.le_of_ble_eq_true rfl), (Nat.le_of_ble_eq_true rfl)⟩) hS (fun H locs hM hX23 hS => ?_)
          have h25 := h17.mo hX23
          have hX26 := hX18.tr hX23
          refine lv_if_ne (tgt := 0) hx hb dX12_readsSum_24 (by decide) (fun hc27 => ?_) (fun hc27 => ?_)
          · have h := zf h hc27
            exact ih0 S22 _ _ hM hX26 hS h25 _ (lv_sub hl [0] rfl) h
          · have h := zt h hc27
            refine lv_iconst (v := (1 : Int32)) hx hb dX12_readsSum_27 (by decide +kernel) ?_
            exact z_zret (by decide +kernel) hx hb hr hlk hM hX26 hS (zsp h) dX12_readsSum_28
      · have h := zt h hc11
        refine lv_iconst (v := (0 : Int32)) hx hb dX12_readsSum_7 (by decide +kernel) ?_
        exact z_zret (by decide +kernel) hx hb hr hlk hM hX10 hS (zsp h) dX12_readsSum_8
  exact hL0 n S0 _ _ hM hX0 hS ha0 _ (lv_sub hl [0] rfl) h
theorem k_X12_readsSum (l : Launch) (D : va_G) (cy : Nat → ClassId) (B n : Nat) : ∀ (dd : Nat) {S : zM} {b0 : Nat} {q : Int32} {S1 : zM}, zA S b0 12 →  f_X12_readsSum n dd S b0 = some (q, S1) → Met l yX12_readsSum (zws yX12_readsSum cX12_readsSum 1 ((some .boolean))) { frames := 4 * dd, cells := 0, slots := 0, locals := 87 * dd } (zPc D cy B S [.ref (B + b0)]) (zQi D cy B S q S1) 0 0 (fun q => B < q) := by
  intro dd
  induction dd with
  | zero =>
    intro S _ _ _ g0 h
    exact znone h
  | succ dd ih =>
    intro S _ _ _ g0 h
    exact c_X12_readsSumO l D cy B dd @ih g0 h
theorem c_X12_readsSum (l : Launch) (D : va_G) (cy : Nat → ClassId) (B : Nat) {n : Nat} : ∀ {S : zM} {b0 : Nat} {q : Int32} {S1 : zM}, zA S b0 12 →  f_X12_readsSum n 8 S b0 = some (q, S1) → Met l yX12_readsSum (zws yX12_readsSum cX12_readsSum 1 ((some .boolean))) { frames := 32, cells := 0, slots := 0, locals := 696 } (zPc D cy B S [.ref (B + b0)]) (zQi D cy B S q S1) 0 0 (fun q => B < q) := by
  intro S _ _ _ g0 h
  exact k_X12_readsSum l D cy B n 8 g0 h
def f_X12_readsStatement (n : Nat) (S0 : zM) (a0 : Nat) : Option (Int32 × zM) :=
  zB1 (f_X12_sign S0 a0) (fun r2 => zLet (zLet (zpI S0 a0 12 ((zi S0 a0 12) + (1 : Int32))) (fun S8 => zLet (zpI S8 a0 15 (0 : Int32)) (fun S13 => zLet (zpI S13 a0 20 (zi S13 a0 12)) (fun S18 => if r2 = (102 : Int32) then zB2 (f_X12_readsSum n 8 S18 a0) (fun r66 S67 => if r66 = 0 then some (((0 : Int32), S67)) else zLet (zpI S67 a0 21 (zi S67 a0 12)) (fun S73 => zB2 (f_X12_takes S73 a0 (59 : Int32)) (fun r79 S80 => zChk (r79 = 0 ∨ r79 = 1) (some ((r79, S80)))))) else zB2 (f_X12_readsNumber n S18 a0) (fun r25 S26 => if r25 = 0 then some (((0 : Int32), S26)) else zLet (zpI S26 a0 18 (zi S26 a0 16)) (fun S32 => zB2 (f_X12_takes S32 a0 (32 : Int32)) (fun r38 S39 => if r38 = 0 then some (((0 : Int32), S39)) else zB2 (f_X12_readsNumber n S39 a0) (fun r46 S47 => if r46 = 0 then some (((0 : Int32), S47)) else zLet (zpI S47 a0 19 (zi S47 a0 16)) (fun S53 => zB2 (f_X12_takes S53 a0 (59 : Int32)) (fun r59 S60 => zChk (r59 = 0 ∨ r59 = 1) (some ((r59, S60))))))))))))) (fun K7 => if r2 = (111 : Int32) then K7 else if r2 = (100 : Int32) then K7 else if r2 = (102 : Int32) then K7 else some (((0 : Int32), S0))))
set_option maxHeartbeats 4000000 in
set_option maxRecDepth 100000 in
theorem c_X12_readsStatement (l : Launch) (D : va_G) (cy : Nat → ClassId) (B : Nat) {n : Nat} {S0 : zM} {a0 : Nat} {r : Int32} {S' : zM} (ha0 : zA S0 a0 12) (h : f_X12_readsStatement n S0 a0 = some (r, S')) : Met l yX12_readsStatement (zws yX12_readsStatement cX12_readsStatement 2 ((some .boolean))) { frames := 33, cells := 0, slots := 0, locals := 716 } (zPc D cy B S0 [.ref (B + a0)]) (zQi D cy B S0 r S') 0 0 (fun q => B < q) := by
  refine Met.ofW (cc := cX12_readsStatement) (maxL := 2) (ret := ((some .boolean))) (by decide) rfl ?_
  intro p e s m args below meth c s₁ Bd hml hv
  obtain ⟨rfl, hC, hM⟩ := hv
  obtain ⟨hx, hb, hr, hg, hown, hlk⟩ := z_open Bd
  have hK := hC.1
  have hS : va_S (fun q => B < q) s.heap s.heap [] := va_S.rf
  have hX0 : zX S0 S0 := zX.rf
  refine z_entry (vs := [.ref (B + a0)]) (Nat.le_of_ble_eq_true rfl) (fun ls hl => ?_)
  have hl : lv_has ls 2 [(0, .ref (B + a0))] := hl
  unfold f_X12_readsStatement at h
  refine lv_aload_n hx hb dX12_readsStatement_0 rfl (lv_at hl 0 rfl) ?_
  obtain ⟨r2, hr1, h⟩ := zb1 h
  refine z_runi (va_runV (As := []) (rest := []) ⟨hx, hb, hml, hown, hg⟩ (c_X12_sign l D cy B ha0 hr1) (z_cwV hg zw_1236 zw_1237 zw_1500 zw_13 zw_1238 zh_X12_sign ⟨(Nat.le_of_ble_eq_true rfl), (Nat.le_of_ble_eq_true rfl)⟩) (zPV hC hM ha0 (by decide) rfl) rfl rfl hl.1 rfl (lv_room (Nat.le_of_ble_eq_true rfl)) dX12_readsStatement_1 ⟨(Nat.le_of_ble_eq_true rfl), (Nat.le_of_ble_eq_true rfl)⟩) hS (fun H locs hM hX3 hS => ?_)
  refine lv_istore_n (i := 1) (lv' := [(1, .int r2), (0, .ref (B + a0))]) hx hb dX12_readsStatement_4 rfl hl (by decide) rfl (fun ls hl => ?_)
  refine lv_iload_n hx hb dX12_readsStatement_5 rfl (lv_at hl 0 rfl) ?_
  refine lv_bipush (v := (111 : Int32)) hx hb dX12_readsStatement_6 (by decide +kernel) ?_
  obtain ⟨K7, eK7, h⟩ := zlg h
  have hK7 : ∀ (H : Heap) (locs : List Loc), zMR D cy B S0 H → zX S0 S0 → va_S (fun q => B < q) s.heap H locs → zA S0 a0 12 → ∀ ls : Array Slot, lv_has ls 2 [(0, .ref (B + a0)), (1, .int r2)] → K7 = some (r, S') → W p l e (headSpec (zws yX12_readsStatement cX12_readsStatement 2 ((some .boolean))) { frames := 33, cells := 0, slots := 0, locals := 716 }).room s m (([.ref (B + a0)] : List Value).toArray) below meth c H locs 0 0 (MQ below (zQi D cy B S0 r S') (([.ref (B + a0)] : List Value).toArray) s 0 0 (fun q => B < q)) (F0 m 25 ls []) := by
    intro H locs hM hX6 hS h5 ls hl h
    rw [eK7] at h
    refine lv_aload_n hx hb dX12_readsStatement_25 rfl (lv_at hl 0 rfl) ?_
    refine lv_dup hx hb dX12_readsStatement_26 rfl ?_
    refine z_getI hx hb hg zin_12 hown hK hM h5 12 rfl (by decide) (hg _ zw_1012) (fun _ h9 => h9) dX12_readsStatement_27 ?_
    refine lv_iconst (v := (1 : Int32)) hx hb dX12_readsStatement_30 (by decide +kernel) ?_
    refine lv_iadd hx hb dX12_readsStatement_31 ?_
    refine z_putI hx hb hg zin_12 tyX12 tyX12_ok nmX12 hown hK hM hS h5 12 rfl (by decide) (hg _ zw_1012) (fun _ h9 => h9) (Or.inl rfl) (tyX12_ok 12 (by decide)) rfl rfl dX12_readsStatement_32 (fun H locs hM hS => ?_)
    obtain ⟨S8, e9, h⟩ := zlg h
    rw [← e9] at hM
    have hX10 : zX S0 S8 := by rw [e9]; exact zX_pI
    have h11 := h5.mo hX10
    have hX12 := hX6.tr hX10
    refine lv_aload_n hx hb dX12_readsStatement_35 rfl (lv_at hl 0 rfl) ?_
    refine lv_iconst (v := (0 : Int32)) hx hb dX12_readsStatement_36 (by decide +kernel) ?_
    refine z_putI hx hb hg zin_12 tyX12 tyX12_ok nmX12 hown hK hM hS h11 15 rfl (by decide) (hg _ zw_1015) (fun _ h9 => h9) (Or.inl rfl) (tyX12_ok 15 (by decide)) rfl rfl dX12_readsStatement_37 (fun H locs hM hS => ?_)
    obtain ⟨S13, e14, h⟩ := zlg h
    rw [← e14] at hM
    have hX15 : zX S8 S13 := by rw [e14]; exact zX_pI
    have h16 := h11.mo hX15
    have hX17 := hX12.tr hX15
    refine lv_aload_n hx hb dX12_readsStatement_40 rfl (lv_at hl 0 rfl) ?_
    refine lv_aload_n hx hb dX12_readsStatement_41 rfl (lv_at hl 0 rfl) ?_
    refine z_getI hx hb hg zin_12 hown hK hM h16 12 rfl (by decide) (hg _ zw_1012) (fun _ h9 => h9) dX12_readsStatement_42 ?_
    refine z_putI hx hb hg zin_12 tyX12 tyX12_ok nmX12 hown hK hM hS h16 20 rfl (by decide) (hg _ zw_1020) (fun _ h9 => h9) (Or.inl rfl) (tyX12_ok 20 (by decide)) rfl rfl dX12_readsStatement_45 (fun H locs hM hS => ?_)
    obtain ⟨S18, e19, h⟩ := zlg h
    rw [← e19] at hM
    have hX20 : zX S13 S18 := by rw [e19]; exact zX_pI
    have h21 := h16.mo hX20
    have hX22 := hX17.tr hX20
    refine lv_iload_n hx hb dX12_readsStatement_48 rfl (lv_at hl 1 rfl) ?_
    refine lv_bipush (v := (102 : Int32)) hx hb dX12_readsStatement_49 (by decide +kernel) ?_
    refine lv_icmp_ne (tgt := 78) hx hb dX12_readsStatement_51 (by decide) (fun hc23 => ?_) (fun hc23 => ?_)
    · have h := zf h hc23
      refine lv_aload_n hx hb dX12_readsStatement_78 rfl (lv_at hl 0 rfl) ?_
      obtain ⟨r25, S26, hr24, h⟩ := zb2 h
      refine z_runi (va_runV (As := []) (rest := []) ⟨hx, hb, hml, hown, hg⟩ (c_X12_readsNumber l D cy B h21 hr24) (z_cwV hg zw_1254 zw_1255 zw_1505 zw_13 zw_1256 zh_X12_readsNumber ⟨(Nat.le_of_ble_eq_true rfl), (Nat.le_of_ble_eq_true rfl)⟩) (zPV hC hM h21 (by decide) rfl) rfl rfl hl.1 rfl (lv_room (Nat.le_of_ble_eq_true rfl)) dX12_readsStatement_79 ⟨(Nat.le_of_ble_eq_true rfl), (Nat.le_of_ble_eq_true rfl)⟩) hS (fun H locs hM hX27 hS => ?_)
      have h29 := h21.mo hX27
      have hX30 := hX22.tr hX27
      refine lv_if_ne (tgt := 87) hx hb dX12_readsStatement_82 (by decide) (fun hc31 => ?_) (fun hc31 => ?_)
      · have h := zf h hc31
        refine lv_aload_n hx hb dX12_readsStatement_87 rfl (lv_at hl 0 rfl) ?_
        refine lv_aload_n hx hb dX12_readsStatement_88 rfl (lv_at hl 0 rfl) ?_
        refine z_getI hx hb hg zin_12 hown hK hM h29 16 rfl (by decide) (hg _ zw_1016) (fun _ h9 => h9) dX12_readsStatement_89 ?_
        refine z_putI hx hb hg zin_12 tyX12 tyX12_ok nmX12 hown hK hM hS h29 18 rfl (by decide) (hg _ zw_1018) (fun _ h9 => h9) (Or.inl rfl) (tyX12_ok 18 (by decide)) rfl rfl dX12_readsStatement_92 (fun H locs hM hS => ?_)
        obtain ⟨S32, e33, h⟩ := zlg h
        rw [← e33] at hM
        have hX34 : zX S26 S32 := by rw [e33]; exact zX_pI
        have h35 := h29.mo hX34
        have hX36 := hX30.tr hX34
        refine lv_aload_n hx hb dX12_readsStatement_95 rfl (lv_at hl 0 rfl) ?_
        refine lv_bipush (v := (32 : Int32)) hx hb dX12_readsStatement_96 (by decide +kernel) ?_
        obtain ⟨r38, S39, hr37, h⟩ := zb2 h
        refine z_runi (va_runV (As := [.int (32 : Int32)]) (rest := []) ⟨hx, hb, hml, hown, hg⟩ (c_X12_takes l D cy B h35 hr37) (z_cwV hg zw_1248 zw_1249 zw_1504 zw_13 zw_1250 zh_X12_takes ⟨(Nat.le_of_ble_eq_true rfl), (Nat.le_of_ble_eq_true rfl)⟩) (zPV hC hM h35 (by decide) rfl) rfl rfl hl.1 rfl (lv_room (Nat.le_of_ble_eq_true rfl)) dX12_readsStatement_98 ⟨(Nat.le_of_ble_eq_true rfl), (Nat.le_of_ble_eq_true rfl)⟩) hS (fun H locs hM hX40 hS => ?_)
        have h42 := h35.mo hX40
        have hX43 := hX36.tr hX40
        refine lv_if_eq (tgt := 111) hx hb dX12_readsStatement_101 (by decide) (fun hc44 => ?_) (fun hc44 => ?_)
        · have h := zt h hc44
          refine lv_iconst (v := (0 : Int32)) hx hb dX12_readsStatement_111 (by decide +kernel) ?_
          exact z_zret (by decide +kernel) hx hb hr hlk hM hX43 hS (zsp h) dX12_readsStatement_112
        · have h := zf h hc44
          refine lv_aload_n hx hb dX12_readsStatement_104 rfl (lv_at hl 0 rfl) ?_
          obtain ⟨r46, S47, hr45, h⟩ := zb2 h
          refine z_runi (va_runV (As := []) (rest := []) ⟨hx, hb, hml, hown, hg⟩ (c_X12_readsNumber l D cy B h42 hr45) (z_cwV hg zw_1254 zw_1255 zw_1505 zw_13 zw_1256 zh_X12_readsNumber ⟨(Nat.le_of_ble_eq_true rfl), (Nat.le_of_ble_eq_true rfl)⟩) (zPV hC hM h42 (by decide) rfl) rfl rfl hl.1 rfl (lv_room (Nat.le_of_ble_eq_true rfl)) dX12_readsStatement_105 ⟨(Nat.le_of_ble_eq_true rfl), (Nat.le_of_ble_eq_true rfl)⟩) hS (fun H locs hM hX48 hS => ?_)
          have h50 := h42.mo hX48
          have hX51 := hX43.tr hX48
          refine lv_if_ne (tgt := 113) hx hb dX12_readsStatement_108 (by decide) (fun hc52 => ?_) (fun hc52 => ?_)
          · have h := zf h hc52
            refine lv_aload_n hx hb dX12_readsStatement_113 rfl (lv_at hl 0 rfl) ?_
            refine lv_aload_n hx hb dX12_readsStatement_114 rfl (lv_at hl 0 rfl) ?_
            refine z_getI hx hb hg zin_12 hown hK hM h50 16 rfl (by decide) (hg _ zw_1016) (fun _ h9 => h9) dX12_readsStatement_115 ?_
            refine z_putI hx hb hg zin_12 tyX12 tyX12_ok nmX12 hown hK hM hS h50 19 rfl (by decide) (hg _ zw_1019) (fun _ h9 => h9) (Or.inl rfl) (tyX12_ok 19 (by decide)) rfl rfl dX12_readsStatement_118 (fun H locs hM hS => ?_)
            obtain ⟨S53, e54, h⟩ := zlg h
            rw [← e54] at hM
            have hX55 : zX S47 S53 := by rw [e54]; exact zX_pI
            have h56 := h50.mo hX55
            have hX57 := hX51.tr hX55
            refine lv_aload_n hx hb dX12_readsStatement_121 rfl (lv_at hl 0 rfl) ?_
            refine lv_bipush (v := (59 : Int32)) hx hb dX12_readsStatement_122 (by decide +kernel) ?_
            obtain ⟨r59, S60, hr58, h⟩ := zb2 h
            refine z_runi (va_runV (As := [.int (59 : Int32)]) (rest := []) ⟨hx, hb, hml, hown, hg⟩ (c_X12_takes l D cy B h56 hr58) (z_cwV hg zw_1248 zw_1249 zw_1504 zw_13 zw_1250 zh_X12_takes ⟨(Nat.le_of_ble_eq_true rfl), (Nat.le_of_ble_eq_true rfl)⟩) (zPV hC hM h56 (by decide) rfl) rfl rfl hl.1 rfl (lv_room (Nat.le_of_ble_eq_true rfl)) dX12_readsStatement_124 ⟨(Nat.le_of_ble_eq_true rfl), (Nat.le_of_ble_eq_true rfl)⟩) hS (fun H locs hM hX61 hS => ?_)
            have hX63 := hX57.tr hX61
            obtain ⟨hb64, h⟩ := zk h
            exact z_zret (z_bit hb64).1 hx hb hr hlk hM hX63 hS (zsp h) dX12_readsStatement_127
          · have h := zt h hc52
            refine lv_iconst (v := (0 : Int32)) hx hb dX12_readsStatement_111 (by decide +kernel) ?_
            exact z_zret (by decide +kernel) hx hb hr hlk hM hX51 hS (zsp h) dX12_readsStatement_112
      · have h := zt h hc31
        refine lv_iconst (v := (0 : Int32)) hx hb dX12_readsStatement_85 (by decide +kernel) ?_
        exact z_zret (by decide +kernel) hx hb hr hlk hM hX30 hS (zsp h) dX12_readsStatement_86
    · have h := zt h hc23
      refine lv_aload_n hx hb dX12_readsStatement_54 rfl (lv_at hl 0 rfl) ?_
      obtain ⟨r66, S67, hr65, h⟩ := zb2 h
      refine z_runi (va_runV (As := []) (rest := []) ⟨hx, hb, hml, hown, hg⟩ (c_X12_readsSum l D cy B h21 hr65) (z_cwV hg zw_1239 zw_1240 zw_1501 zw_13 zw_1241 zh_X12_readsSum ⟨(Nat.le_of_ble_eq_true rfl), (Nat.le_of_ble_eq_true rfl)⟩) (zPV hC hM h21 (by decide) rfl) rfl rfl hl.1 rfl (lv_room (Nat.le_of_ble_eq_true rfl)) dX12_readsStatement_55 ⟨(Nat.le_of_ble_eq_true rfl), (Nat.le_of_ble_eq_true rfl)⟩) hS (fun H locs hM hX68 hS => ?_)
      have h70 := h21.mo hX68
      have hX71 := hX22.tr hX68
      refine lv_if_ne (tgt := 63) hx hb dX12_readsStatement_58 (by decide) (fun hc72 => ?_) (fun hc72 => ?_)
      · have h := zf h hc72
        refine lv_aload_n hx hb dX12_readsStatement_63 rfl (lv_at hl 0 rfl) ?_
        refine lv_aload_n hx hb dX12_readsStatement_64 rfl (lv_at hl 0 rfl) ?_
        refine z_getI hx hb hg zin_12 hown hK hM h70 12 rfl (by decide) (hg _ zw_1012) (fun _ h9 => h9) dX12_readsStatement_65 ?_
        refine z_putI hx hb hg zin_12 tyX12 tyX12_ok nmX12 hown hK hM hS h70 21 rfl (by decide) (hg _ zw_1021) (fun _ h9 => h9) (Or.inl rfl) (tyX12_ok 21 (by decide)) rfl rfl dX12_readsStatement_68 (fun H locs hM hS => ?_)
        obtain ⟨S73, e74, h⟩ := zlg h
        rw [← e74] at hM
        have hX75 : zX S67 S73 := by rw [e74]; exact zX_pI
        have h76 := h70.mo hX75
        have hX77 := hX71.tr hX75
        refine lv_aload_n hx hb dX12_readsStatement_71 rfl (lv_at hl 0 rfl) ?_
        refine lv_bipush (v := (59 : Int32)) hx hb dX12_readsStatement_72 (by decide +kernel) ?_
        obtain ⟨r79, S80, hr78, h⟩ := zb2 h
        refine z_runi (va_runV (As := [.int (59 : Int32)]) (rest := []) ⟨hx, hb, hml, hown, hg⟩ (c_X12_takes l D cy B h76 hr78) (z_cwV hg zw_1248 zw_1249 zw_1504 zw_13 zw_1250 zh_X12_takes ⟨(Nat.le_of_ble_eq_true rfl), (Nat.le_of_ble_eq_true rfl)⟩) (zPV hC hM h76 (by decide) rfl) rfl rfl hl.1 rfl (lv_room (Nat.le_of_ble_eq_true rfl)) dX12_readsStatement_74 ⟨(Nat.le_of_ble_eq_true rfl), (Nat.le_of_ble_eq_true rfl)⟩) hS (fun H locs hM hX81 hS => ?_)
        have hX83 := hX77.tr hX81
        obtain ⟨hb84, h⟩ := zk h
        exact z_zret (z_bit hb84).1 hx hb hr hlk hM hX83 hS (zsp h) dX12_readsStatement_77
      · have h := zt h hc72
        refine lv_iconst (v := (0 : Int32)) hx hb dX12_readsStatement_61 (by decide +kernel) ?_
        exact z_zret (by decide +kernel) hx hb hr hlk hM hX71 hS (zsp h) dX12_readsStatement_62
  refine lv_icmp_eq (tgt := 25) hx hb dX12_readsStatement_8 (by decide) (fun hc85 => ?_) (fun hc85 => ?_)
  · have h := zt h hc85
    exact hK7 _ _ hM hX0 hS ha0 _ (lv_sub hl [1, 0] rfl) h
  · have h := zf h hc85
    refine lv_iload_n hx hb dX12_readsStatement_11 rfl (lv_at hl 0 rfl) ?_
    refine lv_bipush (v := (100 : Int32)) hx hb dX12_readsStatement_12 (by decide +kernel) ?_
    refine lv_icmp_eq (tgt := 25) hx hb dX12_readsStatement_14 (by decide) (fun hc86 => ?_) (fun hc86 => ?_)
    · have h := zt h hc86
      exact hK7 _ _ hM hX0 hS ha0 _ (lv_sub hl [1, 0] rfl) h
    · have h := zf h hc86
      refine lv_iload_n hx hb dX12_readsStatement_17 rfl (lv_at hl 0 rfl) ?_
      refine lv_bipush (v := (102 : Int32)) hx hb dX12_readsStatement_18 (by decide +kernel) ?_
      refine lv_icmp_eq (tgt := 25) hx hb dX12_readsStatement_20 (by decide) (fun hc87 => ?_) (fun hc87 => ?_)
      · have h := zt h hc87
        exact hK7 _ _ hM hX0 hS ha0 _ (lv_sub hl [1, 0] rfl) h
      · have h := zf h hc87
        refine lv_iconst (v := (0 : Int32)) hx hb dX12_readsStatement_23 (by decide +kernel) ?_
        exact z_zret (by decide +kernel) hx hb hr hlk hM hX0 hS (zsp h) dX12_readsStatement_24
