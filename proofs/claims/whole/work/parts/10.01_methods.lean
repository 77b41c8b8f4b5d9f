def f_X2_heft (S0 : zM) (a0 : Nat) : Int32 :=
  if (zi S0 a0 1) = (1 : Int32) then (((zi S0 a0 2) + (10 : Int32)) + (2 : Int32)) else if (zi S0 a0 1) = (2 : Int32) then (((zi S0 a0 2) + (10 : Int32)) + (zi S0 a0 3)) else if (zi S0 a0 1) = (3 : Int32) then ((((zi S0 a0 2) + (10 : Int32)) + (zi S0 a0 3)) + (zi S0 a0 4)) else if (zi S0 a0 1) = (4 : Int32) then ((2 : Int32) * ((zi S0 a0 2) + (10 : Int32))) else if (zi S0 a0 1) = (5 : Int32) then (((zi S0 a0 2) + (10 : Int32)) - (5 : Int32)) else if (zi S0 a0 1) = (6 : Int32) then (((zi S0 a0 2) + (10 : Int32)) - (zi S0 a0 2)) else if (zi S0 a0 1) = (7 : Int32) then ((((zi S0 a0 2) + (10 : Int32)) - (zi S0 a0 2)) + (7 : Int32)) else ((zi S0 a0 2) + (10 : Int32))
set_option maxHeartbeats 4000000 in
set_option maxRecDepth 100000 in
theorem c_X2_heft (l : Launch) (D : va_G) (cy : Nat → ClassId) (B : Nat) {S0 : zM} {a0 : Nat} {r : Int32} (ha0 : zA S0 a0 2) (h : f_X2_heft S0 a0 = r) : Met l yX2_heft (zws yX2_heft cX2_heft 2 ((some .int))) { frames := 0, cells := 0, slots := 0, locals := 0 } (zPc D cy B S0 [.ref (B + a0)]) (zQi D cy B S0 r S0) 0 0 (fun q => B < q) := by
  refine Met.ofW (cc := cX2_heft) (maxL := 2) (ret := ((some .int))) (by decide) rfl ?_
  intro p e s m args below meth c s₁ Bd hml hv
  obtain ⟨rfl, hC, hM⟩ := hv
  obtain ⟨hx, hb, hr, hg, hown, hlk⟩ := z_open Bd
  have hK := hC.1
  have hS : va_S (fun q => B < q) s.heap s.heap [] := va_S.rf
  have hX0 : zX S0 S0 := zX.rf
  refine z_entry (vs := [.ref (B + a0)]) (Nat.le_of_ble_eq_true rfl) (fun ls hl => ?_)
  have hl : lv_has ls 2 [(0, .ref (B + a0))] := hl
  unfold f_X2_heft at h
  refine lv_aload_n hx hb dX2_heft_0 rfl (lv_at hl 0 rfl) ?_
  refine z_getI hx hb hg zin_2 hown hK hM ha0 2 rfl (by decide) (hg _ zw_314) (fun _ h9 => h9) dX2_heft_1 ?_
  refine lv_bipush (v := (10 : Int32)) hx hb dX2_heft_4 (by decide +kernel) ?_
  refine lv_iadd hx hb dX2_heft_6 ?_
  refine lv_istore_n (i := 1) (lv' := [(1, .int ((zi S0 a0 2) + (10 : Int32))), (0, .ref (B + a0))]) hx hb dX2_heft_7 rfl hl (by decide) rfl (fun ls hl => ?_)
  refine lv_aload_n hx hb dX2_heft_8 rfl (lv_at hl 1 rfl) ?_
  refine z_getI hx hb hg zin_2 hown hK hM ha0 1 rfl (by decide) (hg _ zw_312) (fun _ h9 => h9) dX2_heft_9 ?_
  by_cases hc1 : (zi S0 a0 1) = (1 : Int32)
  · refine z_tin (off := 44) hx hb hc1 dX2_heft_12 (by decide +kernel) (tgt := 56) (by decide) ?_
    have h := zt h hc1
    refine lv_iload_n hx hb dX2_heft_56 rfl (lv_at hl 0 rfl) ?_
    refine lv_iconst (v := (2 : Int32)) hx hb dX2_heft_57 (by decide +kernel) ?_
    refine lv_iadd hx hb dX2_heft_58 ?_
    exact z_iret hx hb hr hlk hM hX0 hS ⟨h, rfl⟩ dX2_heft_59
  · have h := zf h hc1
    by_cases hc2 : (zi S0 a0 1) = (2 : Int32)
    · refine z_tin (off := 48) hx hb hc2 dX2_heft_12 (by decide +kernel) (tgt := 60) (by decide) ?_
      have h := zt h hc2
      refine lv_iload_n hx hb dX2_heft_60 rfl (lv_at hl 0 rfl) ?_
      refine lv_aload_n hx hb dX2_heft_61 rfl (lv_at hl 1 rfl) ?_
      refine z_getI hx hb hg zin_2 hown hK hM ha0 3 rfl (by decide) (hg _ zw_316) (fun _ h9 => h9) dX2_heft_62 ?_
      refine lv_iadd hx hb dX2_heft_65 ?_
      exact z_iret hx hb hr hlk hM hX0 hS ⟨h, rfl⟩ dX2_heft_66
    · have h := zf h hc2
      by_cases hc3 : (zi S0 a0 1) = (3 : Int32)
      · refine z_tin (off := 55) hx hb hc3 dX2_heft_12 (by decide +kernel) (tgt := 67) (by decide) ?_
        have h := zt h hc3
        refine lv_iload_n hx hb dX2_heft_67 rfl (lv_at hl 0 rfl) ?_
        refine lv_aload_n hx hb dX2_heft_68 rfl (lv_at hl 1 rfl) ?_
        refine z_getI hx hb hg zin_2 hown hK hM ha0 3 rfl (by decide) (hg _ zw_316) (fun _ h9 => h9) dX2_heft_69 ?_
        refine lv_iadd hx hb dX2_heft_72 ?_
        refine lv_aload_n hx hb dX2_heft_73 rfl (lv_at hl 1 rfl) ?_
        refine z_getI hx hb hg zin_2 hown hK hM ha0 4 rfl (by decide) (hg _ zw_317) (fun _ h9 => h9) dX2_heft_74 ?_
        refine lv_iadd hx hb dX2_heft_77 ?_
        exact z_iret hx hb hr hlk hM hX0 hS ⟨h, rfl⟩ dX2_heft_78
      · have h := zf h hc3
        by_cases hc4 : (zi S0 a0 1) = (4 : Int32)
        · refine z_tin (off := 67) hx hb hc4 dX2_heft_12 (by decide +kernel) (tgt := 79) (by decide) ?_
          have h := zt h hc4
          refine lv_iconst (v := (2 : Int32)) hx hb dX2_heft_79 (by decide +kernel) ?_
          refine lv_iload_n hx hb dX2_heft_80 rfl (lv_at hl 0 rfl) ?_
          refine lv_imul hx hb dX2_heft_81 ?_
          exact z_iret hx hb hr hlk hM hX0 hS ⟨h, rfl⟩ dX2_heft_82
        · have h := zf h hc4
          by_cases hc5 : (zi S0 a0 1) = (5 : Int32)
          · refine z_tin (off := 71) hx hb hc5 dX2_heft_12 (by decide +kernel) (tgt := 83) (by decide) ?_
            have h := zt h hc5
            refine lv_iload_n hx hb dX2_heft_83 rfl (lv_at hl 0 rfl) ?_
            refine lv_iconst (v := (5 : Int32)) hx hb dX2_heft_84 (by decide +kernel) ?_
            refine lv_isub hx hb dX2_heft_85 ?_
            exact z_iret hx hb hr hlk hM hX0 hS ⟨h, rfl⟩ dX2_heft_86
          · have h := zf h hc5
            by_cases hc6 : (zi S0 a0 1) = (6 : Int32)
            · refine z_tin (off := 75) hx hb hc6 dX2_heft_12 (by decide +kernel) (tgt := 87) (by decide) ?_
              have h := zt h hc6
              refine lv_iload_n hx hb dX2_heft_87 rfl (lv_at hl 0 rfl) ?_
              refine lv_aload_n hx hb dX2_heft_88 rfl (lv_at hl 1 rfl) ?_
              refine z_getI hx hb hg zin_2 hown hK hM ha0 2 rfl (by decide) (hg _ zw_314) (fun _ h9 => h9) dX2_heft_89 ?_
              refine lv_isub hx hb dX2_heft_92 ?_
              exact z_iret hx hb hr hlk hM hX0 hS ⟨h, rfl⟩ dX2_heft_93
            · have h := zf h hc6
              by_cases hc7 : (zi S0 a0 1) = (7 : Int32)
              · refine z_tin (off := 82) hx hb hc7 dX2_heft_12 (by decide +kernel) (tgt := 94) (by decide) ?_
                have h := zt h hc7
                refine lv_iload_n hx hb dX2_heft_94 rfl (lv_at hl 0 rfl) ?_
                refine lv_aload_n hx hb dX2_heft_95 rfl (lv_at hl 1 rfl) ?_
                refine z_getI hx hb hg zin_2 hown hK hM ha0 2 rfl (by decide) (hg _ zw_314) (fun _ h9 => h9) dX2_heft_96 ?_
                refine lv_isub hx hb dX2_heft_99 ?_
                refine lv_bipush (v := (7 : Int32)) hx hb dX2_heft_100 (by decide +kernel) ?_
                refine lv_iadd hx hb dX2_heft_102 ?_
                exact z_iret hx hb hr hlk hM hX0 hS ⟨h, rfl⟩ dX2_heft_103
              · have h := zf h hc7
                refine lv_tableOut hx hb dX2_heft_12 (by have := lv_neT hc1 (a := 1) (by decide +kernel); have := lv_neT hc2 (a := 2) (by decide +kernel); have := lv_neT hc3 (a := 3) (by decide +kernel); have := lv_neT hc4 (a := 4) (by decide +kernel); have := lv_neT hc5 (a := 5) (by decide +kernel); have := lv_neT hc6 (a := 6) (by decide +kernel); have := lv_neT hc7 (a := 7) (by decide +kernel); omega) (tgt := 104) (by decide) ?_
                refine lv_iload_n hx hb dX2_heft_104 rfl (lv_at hl 0 rfl) ?_
                exact z_iret hx hb hr hlk hM hX0 hS ⟨h, rfl⟩ dX2_heft_105
def f_X2_failureNumber (S0 : zM) (a0 : Nat) : Int32 :=
  if (zi S0 a0 1) = (3 : Int32) then (((zi S0 a0 0) + (100 : Int32)) + (zi S0 a0 4)) else if (zi S0 a0 1) = (7 : Int32) then ((zi S0 a0 0) + (200 : Int32)) else (zi S0 a0 0)
set_option maxHeartbeats 4000000 in
set_option maxRecDepth 100000 in
theorem c_X2_failureNumber (l : Launch) (D : va_G) (cy : Nat → ClassId) (B : Nat) {S0 : zM} {a0 : Nat} {r : Int32} (ha0 : zA S0 a0 2) (h : f_X2_failureNumber S0 a0 = r) : Met l yX2_failureNumber (zws yX2_failureNumber cX2_failureNumber 1 ((some .int))) { frames := 0, cells := 0, slots := 0, locals := 0 } (zPc D cy B S0 [.ref (B + a0)]) (zQi D cy B S0 r S0) 0 0 (fun q => B < q) := by
  refine Met.ofW (cc := cX2_failureNumber) (maxL := 1) (ret := ((some .int))) (by decide) rfl ?_
  intro p e s m args below meth c s₁ Bd hml hv
  obtain ⟨rfl, hC, hM⟩ := hv
  obtain ⟨hx, hb, hr, hg, hown, hlk⟩ := z_open Bd
  have hK := hC.1
  have hS : va_S (fun q => B < q) s.heap s.heap [] := va_S.rf
  have hX0 : zX S0 S0 := zX.rf
  refine z_entry (vs := [.ref (B + a0)]) (Nat.le_of_ble_eq_true rfl) (fun ls hl => ?_)
  have hl : lv_has ls 1 [(0, .ref (B + a0))] := hl
  unfold f_X2_failureNumber at h
  refine lv_aload_n hx hb dX2_failureNumber_0 rfl (lv_at hl 0 rfl) ?_
  refine z_getI hx hb hg zin_2 hown hK hM ha0 1 rfl (by decide) (hg _ zw_312) (fun _ h9 => h9) dX2_failureNumber_1 ?_
  refine lv_iconst (v := (3 : Int32)) hx hb dX2_failureNumber_4 (by decide +kernel) ?_
  refine lv_icmp_ne (tgt := 21) hx hb dX2_failureNumber_5 (by decide) (fun hc1 => ?_) (fun hc1 => ?_)
  · have h := zf h hc1
    refine lv_aload_n hx hb dX2_failureNumber_21 rfl (lv_at hl 0 rfl) ?_
    refine z_getI hx hb hg zin_2 hown hK hM ha0 1 rfl (by decide) (hg _ zw_312) (fun _ h9 => h9) dX2_failureNumber_22 ?_
    refine lv_bipush (v := (7 : Int32)) hx hb dX2_failureNumber_25 (by decide +kernel) ?_
    refine lv_icmp_ne (tgt := 41) hx hb dX2_failureNumber_27 (by decide) (fun hc2 => ?_) (fun hc2 => ?_)
    · have h := zf h hc2
      refine lv_aload_n hx hb dX2_failureNumber_41 rfl (lv_at hl 0 rfl) ?_
      refine z_getI hx hb hg zin_2 hown hK hM ha0 0 rfl (by decide) (hg _ zw_311) (fun _ h9 => h9) dX2_failureNumber_42 ?_
      exact z_iret hx hb hr hlk hM hX0 hS ⟨h, rfl⟩ dX2_failureNumber_45
    · have h := zt h hc2
      refine lv_aload_n hx hb dX2_failureNumber_30 rfl (lv_at hl 0 rfl) ?_
      refine z_getI hx hb hg zin_2 hown hK hM ha0 0 rfl (by decide) (hg _ zw_311) (fun _ h9 => h9) dX2_failureNumber_31 ?_
      refine lv_sipush (v := (200 : Int32)) hx hb dX2_failureNumber_34 (by decide +kernel) ?_
      refine lv_iadd hx hb dX2_failureNumber_37 ?_
      refine lv_goto (tgt := 45) hx hb dX2_failureNumber_38 (by decide) ?_
      exact z_iret hx hb hr hlk hM hX0 hS ⟨h, rfl⟩ dX2_failureNumber_45
  · have h := zt h hc1
    refine lv_aload_n hx hb dX2_failureNumber_8 rfl (lv_at hl 0 rfl) ?_
    refine z_getI hx hb hg zin_2 hown hK hM ha0 0 rfl (by decide) (hg _ zw_311) (fun _ h9 => h9) dX2_failureNumber_9 ?_
    refine lv_bipush (v := (100 : Int32)) hx hb dX2_failureNumber_12 (by decide +kernel) ?_
    refine lv_iadd hx hb dX2_failureNumber_14 ?_
    refine lv_aload_n hx hb dX2_failureNumber_15 rfl (lv_at hl 0 rfl) ?_
    refine z_getI hx hb hg zin_2 hown hK hM ha0 4 rfl (by decide) (hg _ zw_317) (fun _ h9 => h9) dX2_failureNumber_16 ?_
    refine lv_iadd hx hb dX2_failureNumber_19 ?_
    exact z_iret hx hb hr hlk hM hX0 hS ⟨h, rfl⟩ dX2_failureNumber_20
def f_X3_init (S0 : zM) (a0 : Nat) : zM :=
  zLet (f_X0L_init S0 a0) (fun S2 => zLet (znw S2 20 12) (fun S7 => zLet (zpR S7 a0 3 (zsz S2)) (fun S13 => zLet (znw S13 20 12) (fun S18 => zLet (zpR S18 a0 4 (zsz S13)) (fun S24 => zLet (znw S24 20 72) (fun S29 => zLet (zpR S29 a0 5 (zsz S24)) (fun S35 => S35)))))))
set_option maxHeartbeats 4000000 in
set_option maxRecDepth 100000 in
theorem c_X3_init (l : Launch) (D : va_G) (cy : Nat → ClassId) (B : Nat) {S0 : zM} {a0 : Nat} {S' : zM} (ha0 : zA S0 a0 3) (h : f_X3_init S0 a0 = S') : Met l yX3_init (zws yX3_init cX3_init 1 none) { frames := 2, cells := 4, slots := 103, locals := 40 } (zPc D cy B S0 [.ref (B + a0)]) (zQv D cy B S0 S') 4 103 (fun q => B < q) := by
  refine Met.ofW (cc := cX3_init) (maxL := 1) (ret := none) (by decide) rfl ?_
  intro p e s m args below meth c s₁ Bd hml hv
  obtain ⟨rfl, hC, hM⟩ := hv
  obtain ⟨hx, hb, hr, hg, hown, hlk⟩ := z_open Bd
  have hK := hC.1
  have hin : meth.name = "<init>" := (name_of_methodNamed Bd.named Bd.method).1
  have hS : va_S (fun q => B < q) s.heap s.heap [] := va_S.rf
  have hX0 : zX S0 S0 := zX.rf
  refine z_entry (vs := [.ref (B + a0)]) (Nat.le_of_ble_eq_true rfl) (fun ls hl => ?_)
  have hl : lv_has ls 1 [(0, .ref (B + a0))] := hl
  unfold f_X3_init at h
  refine lv_aload_n hx hb dX3_init_0 rfl (lv_at hl 0 rfl) ?_
  obtain ⟨S2, hr1, h⟩ := zlg h
  have hr1 := hr1.symm
  refine z_runv (va_runIN (As := []) (rest := []) ⟨hx, hb, hml, hown, hg⟩ (c_X0L_init l D cy B ha0 hr1) ⟨z_cnB hg hC (List.mem_of_getElem? (i := 6) rfl) zw_8 zw_191 zh_X0_init.2 ⟨(Nat.le_of_ble_eq_true rfl), (Nat.le_of_ble_eq_true rfl)⟩, rfl, hg _ zw_190⟩ (zPS hC hM) rfl rfl hl.1 rfl (lv_room (Nat.le_of_ble_eq_true rfl)) dX3_init_1 ⟨(Nat.le_of_ble_eq_true rfl), (Nat.le_of_ble_eq_true rfl)⟩) hS (fun H locs hM hX3 hS => ?_)
  refine W.widen (k := 1) (n := 7) (Nat.le_refl _) (Nat.le_refl _) ?_
  have h5 := ha0.mo hX3
  have hX6 := hX0.tr hX3
  refine lv_aload_n hx hb dX3_init_4 rfl (lv_at hl 0 rfl) ?_
  refine lv_bipush (v := (12 : Int32)) hx hb dX3_init_5 (by decide +kernel) ?_
  refine z_newa (atype := .int) hx hb (hg _ zw_66) hK hM hS 20 (by decide) rfl (N := 12) (by decide +kernel) (by decide +kernel) (by decide +kernel) (Nat.le_of_ble_eq_true rfl) (Nat.le_of_ble_eq_true rfl) dX3_init_7 (fun H hM hA hX hS => ?_)
  obtain ⟨S7, e8, h⟩ := zlg h
  rw [← e8] at hM hA hX
  have hX9 := hX
  have h10 := hA
  have h11 := h5.mo hX9
  have hX12 := hX6.tr hX9
  refine W.widen (k := 2) (n := 19) (Nat.le_refl _) (Nat.le_refl _) ?_
  refine z_putR (r := (zsz S2)) hx hb hg zin_3 tyX3 tyX3_ok nmX3 hown hK hM hS h11 3 rfl (by decide) (hg _ zw_213) (fun _ h9 => h9) (Or.inr ⟨rfl, hin, rfl⟩) (zv_ref h10.1).symm (tyX3_ok 3 (by decide)) (Or.inr ⟨_, rfl⟩) (h10.q) dX3_init_9 (fun H locs hM hS => ?_)
  obtain ⟨S13, e14, h⟩ := zlg h
  rw [← e14] at hM
  have hX15 : zX S7 S13 := by rw [e14]; exact zX_pR
  have h16 := h11.mo hX15
  have hX17 := hX12.tr hX15
  refine lv_aload_n hx hb dX3_init_12 rfl (lv_at hl 0 rfl) ?_
  refine lv_bipush (v := (12 : Int32)) hx hb dX3_init_13 (by decide +kernel) ?_
  refine z_newa (atype := .int) hx hb (hg _ zw_66) hK hM hS 20 (by decide) rfl (N := 12) (by decide +kernel) (by decide +kernel) (by decide +kernel) (Nat.le_of_ble_eq_true rfl) (Nat.le_of_ble_eq_true rfl) dX3_init_15 (fun H hM hA hX hS => ?_)
  obtain ⟨S18, e19, h⟩ := zlg h
  rw [← e19] at hM hA hX
  have hX20 := hX
  have h21 := hA
  have h22 := h16.mo hX20
  have hX23 := hX17.tr hX20
  refine W.widen (k := 3) (n := 31) (Nat.le_refl _) (Nat.le_refl _) ?_
  refine z_putR (r := (zsz S13)) hx hb hg zin_3 tyX3 tyX3_ok nmX3 hown hK hM hS h22 4 rfl (by decide) (hg _ zw_214) (fun _ h9 => h9) (Or.inr ⟨rfl, hin, rfl⟩) (zv_ref h21.1).symm (tyX3_ok 4 (by decide)) (Or.inr ⟨_, rfl⟩) (h21.q) dX3_init_17 (fun H locs hM hS => ?_)
  obtain ⟨S24, e25, h⟩ := zlg h
  rw [← e25] at hM
  have hX26 : zX S18 S24 := by rw [e25]; exact zX_pR
  have h27 := h22.mo hX26
  have hX28 := hX23.tr hX26
  refine lv_aload_n hx hb dX3_init_20 rfl (lv_at hl 0 rfl) ?_
  refine lv_bipush (v := (72 : Int32)) hx hb dX3_init_21 (by decide +kernel) ?_
  refine z_newa (atype := .int) hx hb (hg _ zw_66) hK hM hS 20 (by decide) rfl (N := 72) (by decide +kernel) (by decide +kernel) (by decide +kernel) (Nat.le_of_ble_eq_true rfl) (Nat.le_of_ble_eq_true rfl) dX3_init_23 (fun H hM hA hX hS => ?_)
  obtain ⟨S29, e30, h⟩ := zlg h
  rw [← e30] at hM hA hX
  have hX31 := hX
  have h32 := hA
  have h33 := h27.mo hX31
  have hX34 := hX28.tr hX31
  refine W.widen (k := 4) (n := 103) (Nat.le_refl _) (Nat.le_refl _) ?_
  refine z_putR (r := (zsz S24)) hx hb hg zin_3 tyX3 tyX3_ok nmX3 hown hK hM hS h33 5 rfl (by decide) (hg _ zw_215) (fun _ h9 => h9) (Or.inr ⟨rfl, hin, rfl⟩) (zv_ref h32.1).symm (tyX3_ok 5 (by decide)) (Or.inr ⟨_, rfl⟩) (h32.q) dX3_init_25 (fun H locs hM hS => ?_)
  obtain ⟨S35, e36, h⟩ := zlg h
  rw [← e36] at hM
  have hX37 : zX S29 S35 := by rw [e36]; exact zX_pR
  have hX38 := hX34.tr hX37
  refine W.widen (k := 4) (n := 103) (by omega) (by omega) ?_
  exact z_vret hx hb hr hlk hM hX38 hS h dX3_init_28
def f_X9_judgeAt (S0 : zM) (a0 : Nat) (v1 : Int32) : Option (Nat) :=
  zLet (f_X11_within v1 (zi S0 a0 6)) (fun r2 => if r2 = 0 then some 0 else zChk (¬ (zr S0 a0 8) = 0) (zChk (¬ (v1 < 0 ∨ zln S0 (zr S0 a0 8) ≤ (v1).toNatClampNeg)) (some (zr S0 (zr S0 a0 8) (Int32.toNatClampNeg v1)))))
set_option maxHeartbeats 4000000 in
set_option maxRecDepth 100000 in
theorem c_X9_judgeAt (l : Launch) (D : va_G) (cy : Nat → ClassId) (B : Nat) {S0 : zM} {a0 : Nat} {v1 : Int32} {r : Nat} (ha0 : zA S0 a0 9) (h : f_X9_judgeAt S0 a0 v1 = some r) : Met l yX9_judgeAt (zws yX9_judgeAt cX9_judgeAt 2 ((some (.object "DiveChairs$Judge")))) { frames := 1, cells := 0, slots := 0, locals := 21 } (zPc D cy B S0 [.ref (B + a0), .int v1]) (zQr D cy B S0 2 r S0) 0 0 (fun q => B < q) := by
  refine Met.ofW (cc := cX9_judgeAt) (maxL := 2) (ret := ((some (.object "DiveChairs$Judge")))) (by decide) rfl ?_
  intro p e s m args below meth c s₁ Bd hml hv
  obtain ⟨rfl, hC, hM⟩ := hv
  obtain ⟨hx, hb, hr, hg, hown, hlk⟩ := z_open Bd
  have hK := hC.1
  have hS : va_S (fun q => B < q) s.heap s.heap [] := va_S.rf
  have hX0 : zX S0 S0 := zX.rf
  refine z_entry (vs := [.ref (B + a0), .int v1]) (Nat.le_of_ble_eq_true rfl) (fun ls hl => ?_)
  have hl : lv_has ls 2 [(0, .ref (B + a0)), (1, .int v1)] := hl
  unfold f_X9_judgeAt at h
  refine lv_iload_n hx hb dX9_judgeAt_0 rfl (lv_at hl 1 rfl) ?_
  refine lv_aload_n hx hb dX9_judgeAt_1 rfl (lv_at hl 0 rfl) ?_
  refine z_getI hx hb hg zin_9 hown hK hM ha0 6 rfl (by decide) (hg _ zw_135) (fun _ h9 => h9) dX9_judgeAt_2 ?_
  obtain ⟨r2, hr1, h⟩ := zlg h
  have hr1 := hr1.symm
  refine z_runi (va_runSN (As := [.int v1, .int (zi S0 a0 6)]) (rest := []) ⟨hx, hb, hml, hown, hg⟩ (c_X11_within l D cy B hr1) ⟨z_cnB hg hC (List.mem_of_getElem? (i := 9) rfl) zw_2 zw_292 zh_X11_within.2 ⟨(Nat.le_of_ble_eq_true rfl), (Nat.le_of_ble_eq_true rfl)⟩, hg _ zw_291, trivial⟩ (zPS hC hM) rfl rfl hl.1 rfl (lv_room (Nat.le_of_ble_eq_true rfl)) dX9_judgeAt_5 ⟨(Nat.le_of_ble_eq_true rfl), (Nat.le_of_ble_eq_true rfl)⟩) hS (fun H locs hM hX3 hS => ?_)
  refine lv_if_eq (tgt := 20) hx hb dX9_judgeAt_8 (by decide) (fun hc5 => ?_) (fun hc5 => ?_)
  · have h := zt h hc5
    refine lv_null hx hb dX9_judgeAt_20 ?_
    exact z_aret (r := 0) hx hb hr (Or.inl ⟨_, rfl⟩) hlk hM hX0 hS rfl zQ_0 ⟨zsm h, rfl⟩ dX9_judgeAt_21
  · have h := zf h hc5
    refine lv_aload_n hx hb dX9_judgeAt_11 rfl (lv_at hl 0 rfl) ?_
    obtain ⟨hq7, h⟩ := zk h
    refine z_getN hx hb hg zin_9 hown hK hM ha0 8 rfl (by decide) (hg _ zw_141) (fun _ h9 => h9) hq7 dX9_judgeAt_12 (fun h6 => ?_)
    refine lv_iload_n hx hb dX9_judgeAt_15 rfl (lv_at hl 1 rfl) ?_
    obtain ⟨hq8, h⟩ := zk h
    refine z_aald hx hb hK hM h6 (by decide) rfl hq8 dX9_judgeAt_16 (fun h9 => ?_)
    have h9 : zQ S0 (zr S0 (zr S0 a0 8) (Int32.toNatClampNeg v1)) 2 := h9
    refine lv_goto (tgt := 21) hx hb dX9_judgeAt_17 (by decide) ?_
    exact z_aret (r := (zr S0 (zr S0 a0 8) (Int32.toNatClampNeg v1))) hx hb hr (Or.inl ⟨_, rfl⟩) hlk hM hX0 hS rfl (h9) ⟨zsm h, rfl⟩ dX9_judgeAt_21
def f_X9_hallsOf_L4b (S0 : zM) (a0 : Nat) (v1 : Int32) (K3 : Int32 → Option (Int32)) (rec4 : Int32 → Int32 → Option (Int32)) (x5 : Int32) (x6 : Int32) : Option (Int32) :=
  if (42 : Int32) ≤ x6 then K3 x5 else zChk (¬ (zr S0 a0 3) = 0) (zChk (¬ (x6 < 0 ∨ zln S0 (zr S0 a0 3) ≤ (x6).toNatClampNeg)) (if (zi S0 (zr S0 a0 3) (Int32.toNatClampNeg x6)) = v1 then rec4 (x5 ||| ((1 : Int32) <<< ((x6 / (7 : Int32)) &&& 31))) (x6 + (1 : Int32)) else rec4 x5 (x6 + (1 : Int32))))
def f_X9_hallsOf_L4 (S0 : zM) (a0 : Nat) (v1 : Int32) (K3 : Int32 → Option (Int32)) : Nat → Int32 → Int32 → Option (Int32)
  | 0 => fun _ _ => none
  | k + 1 => fun x5 x6 => f_X9_hallsOf_L4b S0 a0 v1 K3 (f_X9_hallsOf_L4 S0 a0 v1 K3 k) x5 x6
def f_X9_hallsOf (n : Nat) (S0 : zM) (a0 : Nat) (v1 : Int32) : Option (Int32) :=
  zLet (fun (x1 : Int32) => some x1) (fun K3 => f_X9_hallsOf_L4 S0 a0 v1 K3 n (0 : Int32) (0 : Int32))
set_option maxHeartbeats 4000000 in
set_option maxRecDepth 100000 in
theorem c_X9_hallsOf (l : Launch) (D : va_G) (cy : Nat → ClassId) (B : Nat) {n : Nat} {S0 : zM} {a0 : Nat} {v1 : Int32} {r : Int32} (ha0 : zA S0 a0 9) (h : f_X9_hallsOf n S0 a0 v1 = some r) : Met l yX9_hallsOf (zws yX9_hallsOf cX9_hallsOf 4 ((some .int))) { frames := 0, cells := 0, slots := 0, locals := 0 } (zPc D cy B S0 [.ref (B + a0), .int v1]) (zQi D cy B S0 r S0) 0 0 (fun q => B < q) := by
  refine Met.ofW (cc := cX9_hallsOf) (maxL := 4) (ret := ((some .int))) (by decide) rfl ?_
  intro p e s m args below meth c s₁ Bd hml hv
  obtain ⟨rfl, hC, hM⟩ := hv
  obtain ⟨hx, hb, hr, hg, hown, hlk⟩ := z_open Bd
  have hK := hC.1
  have hS : va_S (fun q => B < q) s.heap s.heap [] := va_S.rf
  have hX0 : zX S0 S0 := zX.rf
  refine z_entry (vs := [.ref (B + a0), .int v1]) (Nat.le_of_ble_eq_true rfl) (fun ls hl => ?_)
  have hl : lv_has ls 4 [(0, .ref (B + a0)), (1, .int v1)] := hl
  unfold f_X9_hallsOf at h
  refine lv_iconst (v := (0 : Int32)) hx hb dX9_hallsOf_0 (by decide +kernel) ?_
  refine lv_istore_n (i := 2) (lv' := [(2, .int (0 : Int32)), (0, .ref (B + a0)), (1, .int v1)]) hx hb dX9_hallsOf_1 rfl hl (by decide) rfl (fun ls hl => ?_)
  refine lv_iconst (v := (0 : Int32)) hx hb dX9_hallsOf_2 (by decide +kernel) ?_
  refine lv_istore_n (i := 3) (lv' := [(3, .int (0 : Int32)), (2, .int (0 : Int32)), (0, .ref (B + a0)), (1, .int v1)]) hx hb dX9_hallsOf_3 rfl hl (by decide) rfl (fun ls hl => ?_)
  obtain ⟨K3, eK3, h⟩ := zlg h
  have hK3 : ∀ (x1 : Int32) (H : Heap) (locs : List Loc), zMR D cy B S0 H → zX S0 S0 → va_S (fun q => B < q) s.heap H locs → ∀ ls : Array Slot, lv_has ls 4 [(2, .int x1)] → K3 x1 = some r → W p l e (headSpec (zws yX9_hallsOf cX9_hallsOf 4 ((some .int))) { frames := 0, cells := 0, slots := 0, locals := 0 }).room s m (([.ref (B + a0), .int v1] : List Value).toArray) below meth c H locs 0 0 (MQ below (zQi D cy B S0 r S0) (([.ref (B + a0), .int v1] : List Value).toArray) s 0 0 (fun q => B < q)) (F0 m 35 ls []) := by
    intro x1 H locs hM hX2 hS ls hl h
    rw [eK3] at h
    refine lv_iload_n hx hb dX9_hallsOf_35 rfl (lv_at hl 0 rfl) ?_
    exact z_iret hx hb hr hlk hM hX2 hS ⟨zsm h, rfl⟩ dX9_hallsOf_36
  have hL4 : ∀ (k : Nat) (x5 : Int32) (x6 : Int32) (H : Heap) (locs : List Loc), zMR D cy B S0 H → zX S0 S0 → va_S (fun q => B < q) s.heap H locs → zA S0 a0 9 → ∀ ls : Array Slot, lv_has ls 4 [(0, .ref (B + a0)), (1, .int v1), (2, .int x5), (3, .int x6)] → f_X9_hallsOf_L4 S0 a0 v1 K3 k x5 x6 = some r → W p l e (headSpec (zws yX9_hallsOf cX9_hallsOf 4 ((some .int))) { frames := 0, cells := 0, slots := 0, locals := 0 }).room s m (([.ref (B + a0), .int v1] : List Value).toArray) below meth c H locs 0 0 (MQ below (zQi D cy B S0 r S0) (([.ref (B + a0), .int v1] : List Value).toArray) s 0 0 (fun q => B < q)) (F0 m 4 ls []) := by
    intro k
    induction k with
    | zero =>
      intro x5 x6 H locs hM hX7 hS h4 ls hl h
      exact znone h
    | succ k ih4 =>
      intro x5 x6 H locs hM hX7 hS h4 ls hl h
      replace h : f_X9_hallsOf_L4b S0 a0 v1 K3 (f_X9_hallsOf_L4 S0 a0 v1 K3 k) x5 x6 = some r := h
      generalize f_X9_hallsOf_L4 S0 a0 v1 K3 k = rec4 at ih4 h
      unfold f_X9_hallsOf_L4b at h
      refine lv_iload_n hx hb dX9_hallsOf_4 rfl (lv_at hl 3 rfl) ?_
      refine lv_bipush (v := (42 : Int32)) hx hb dX9_hallsOf_5 (by decide +kernel) ?_
      refine lv_icmp_ge (tgt := 35) hx hb dX9_hallsOf_7 (by decide) (fun hc8 => ?_) (fun hc8 => ?_)
      · have h := zt h hc8
        exact hK3 x5 _ _ hM hX7 hS _ (lv_sub hl [2] rfl) h
      · have h := zf h hc8
        refine lv_aload_n hx hb dX9_hallsOf_10 rfl (lv_at hl 0 rfl) ?_
        obtain ⟨hq10, h⟩ := zk h
        refine z_getN hx hb hg zin_9 hown hK hM h4 3 rfl (by decide) (hg _ zw_128) (fun _ h9 => h9) hq10 dX9_hallsOf_11 (fun h9 => ?_)
        refine lv_iload_n hx hb dX9_hallsOf_14 rfl (lv_at hl 3 rfl) ?_
        obtain ⟨hq11, h⟩ := zk h
        refine z_iald hx hb hK hM h9 hq11 dX9_hallsOf_15 ?_
        refine lv_iload_n hx hb dX9_hallsOf_16 rfl (lv_at hl 1 rfl) ?_
        refine lv_icmp_ne (tgt := 29) hx hb dX9_hallsOf_17 (by decide) (fun hc12 => ?_) (fun hc12 => ?_)
        · have h := zf h hc12
          refine lv_iinc (v := (x6 + (1 : Int32))) (lv' := [(3, .int (x6 + (1 : Int32))), (0, .ref (B + a0)), (1, .int v1), (2, .int x5)]) hx hb dX9_hallsOf_29 hl (k := 3) rfl rfl (by decide) rfl (fun ls hl => ?_)
          refine lv_goto (tgt := 4) hx hb dX9_hallsOf_32 (by decide) ?_
          exact ih4 x5 (x6 + (1 : Int32)) _ _ hM hX7 hS h4 _ (lv_sub hl [1, 2, 3, 0] rfl) h
        · have h := zt h hc12
          refine lv_iload_n hx hb dX9_hallsOf_20 rfl (lv_at hl 2 rfl) ?_
          refine lv_iconst (v := (1 : Int32)) hx hb dX9_hallsOf_21 (by decide +kernel) ?_
          refine lv_iload_n hx hb dX9_hallsOf_22 rfl (lv_at hl 3 rfl) ?_
          refine lv_bipush (v := (7 : Int32)) hx hb dX9_hallsOf_23 (by decide +kernel) ?_
          refine lv_idiv hx hb dX9_hallsOf_25 (by decide +kernel) ?_
          refine lv_ishl hx hb dX9_hallsOf_26 ?_
          refine lv_ior hx hb dX9_hallsOf_27 ?_
          refine lv_istore_n (i := 2) (lv' := [(2, .int (x5 ||| ((1 : Int32) <<< ((x6 / (7 : Int32)) &&& 31)))), (0, .ref (B + a0)), (1, .int v1), (3, .int x6)]) hx hb dX9_hallsOf_28 rfl hl (by decide) rfl (fun ls hl => ?_)
          refine lv_iinc (v := (x6 + (1 : Int32))) (lv' := [(3, .int (x6 + (1 : Int32))), (2, .int (x5 ||| ((1 : Int32) <<< ((x6 / (7 : Int32)) &&& 31)))), (0, .ref (B + a0)), (1, .int v1)]) hx hb dX9_hallsOf_29 hl (k := 3) rfl rfl (by decide) rfl (fun ls hl => ?_)
          refine lv_goto (tgt := 4) hx hb dX9_hallsOf_32 (by decide) ?_
          exact ih4 (x5 ||| ((1 : Int32) <<< ((x6 / (7 : Int32)) &&& 31))) (x6 + (1 : Int32)) _ _ hM hX7 hS h4 _ (lv_sub hl [2, 3, 1, 0] rfl) h
  exact hL4 n (0 : Int32) (0 : Int32) _ _ hM hX0 hS ha0 _ (lv_sub hl [2, 3, 1, 0] rfl) h
def f_X9_diveAt (S0 : zM) (a0 : Nat) (v1 : Int32) : Option (Nat) :=
  zLet (f_X11_within v1 (zi S0 a0 7)) (fun r2 => if r2 = 0 then some 0 else zChk (¬ (zr S0 a0 9) = 0) (zChk (¬ (v1 < 0 ∨ zln S0 (zr S0 a0 9) ≤ (v1).toNatClampNeg)) (some (zr S0 (zr S0 a0 9) (Int32.toNatClampNeg v1)))))
set_option maxHeartbeats 4000000 in
set_option maxRecDepth 100000 in
theorem c_X9_diveAt (l : Launch) (D : va_G) (cy : Nat → ClassId) (B : Nat) {S0 : zM} {a0 : Nat} {v1 : Int32} {r : Nat} (ha0 : zA S0 a0 9) (h : f_X9_diveAt S0 a0 v1 = some r) : Met l yX9_diveAt (zws yX9_diveAt cX9_diveAt 2 ((some (.object "DiveChairs$Dive")))) { frames := 1, cells := 0, slots := 0, locals := 21 } (zPc D cy B S0 [.ref (B + a0), .int v1]) (zQr D cy B S0 1 r S0) 0 0 (fun q => B < q) := by
  refine Met.ofW (cc := cX9_diveAt) (maxL := 2) (ret := ((some (.object "DiveChairs$Dive")))) (by decide) rfl ?_
  intro p e s m args below meth c s₁ Bd hml hv
  obtain ⟨rfl, hC, hM⟩ := hv
  obtain ⟨hx, hb, hr, hg, hown, hlk⟩ := z_open Bd
  have hK := hC.1
  have hS : va_S (fun q => B < q) s.heap s.heap [] := va_S.rf
  have hX0 : zX S0 S0 := zX.rf
  refine z_entry (vs := [.ref (B + a0), .int v1]) (Nat.le_of_ble_eq_true rfl) (fun ls hl => ?_)
  have hl : lv_has ls 2 [(0, .ref (B + a0)), (1, .int v1)] := hl
  unfold f_X9_diveAt at h
  refine lv_iload_n hx hb dX9_diveAt_0 rfl (lv_at hl 1 rfl) ?_
  refine lv_aload_n hx hb dX9_diveAt_1 rfl (lv_at hl 0 rfl) ?_
  refine z_getI hx hb hg zin_9 hown hK hM ha0 7 rfl (by decide) (hg _ zw_139) (fun _ h9 => h9) dX9_diveAt_2 ?_
  obtain ⟨r2, hr1, h⟩ := zlg h
  have hr1 := hr1.symm
  refine z_runi (va_runSN (As := [.int v1, .int (zi S0 a0 7)]) (rest := []) ⟨hx, hb, hml, hown, hg⟩ (c_X11_within l D cy B hr1) ⟨z_cnB hg hC (List.mem_of_getElem? (i := 9) rfl) zw_2 zw_292 zh_X11_within.2 ⟨(Nat.le_of_ble_eq_true rfl), (Nat.le_of_ble_eq_true rfl)⟩, hg _ zw_291, trivial⟩ (zPS hC hM) rfl rfl hl.1 rfl (lv_room (Nat.le_of_ble_eq_true rfl)) dX9_diveAt_5 ⟨(Nat.le_of_ble_eq_true rfl), (Nat.le_of_ble_eq_true rfl)⟩) hS (fun H locs hM hX3 hS => ?_)
  refine lv_if_eq (tgt := 20) hx hb dX9_diveAt_8 (by decide) (fun hc5 => ?_) (fun hc5 => ?_)
  · have h := zt h hc5
    refine lv_null hx hb dX9_diveAt_20 ?_
    exact z_aret (r := 0) hx hb hr (Or.inl ⟨_, rfl⟩) hlk hM hX0 hS rfl zQ_0 ⟨zsm h, rfl⟩ dX9_diveAt_21
  · have h := zf h hc5
    refine lv_aload_n hx hb dX9_diveAt_11 rfl (lv_at hl 0 rfl) ?_
    obtain ⟨hq7, h⟩ := zk h
    refine z_getN hx hb hg zin_9 hown hK hM ha0 9 rfl (by decide) (hg _ zw_142) (fun _ h9 => h9) hq7 dX9_diveAt_12 (fun h6 => ?_)
    refine lv_iload_n hx hb dX9_diveAt_15 rfl (lv_at hl 1 rfl) ?_
    obtain ⟨hq8, h⟩ := zk h
    refine z_aald hx hb hK hM h6 (by decide) rfl hq8 dX9_diveAt_16 (fun h9 => ?_)
    have h9 : zQ S0 (zr S0 (zr S0 a0 9) (Int32.toNatClampNeg v1)) 1 := h9
    refine lv_goto (tgt := 21) hx hb dX9_diveAt_17 (by decide) ?_
    exact z_aret (r := (zr S0 (zr S0 a0 9) (Int32.toNatClampNeg v1))) hx hb hr (Or.inl ⟨_, rfl⟩) hlk hM hX0 hS rfl (h9) ⟨zsm h, rfl⟩ dX9_diveAt_21
def f_X5_add_L15b (a0 : Nat) (v1 : Int32) (K6 : Int32 → zM → Option (zM)) (rec15 : Int32 → zM → Option (zM)) (x20 : Int32) (S21 : zM) : Option (zM) :=
  if x20 ≤ 0 then K6 x20 S21 else zChk (¬ (zr S21 a0 0) = 0) (zChk (¬ ((x20 - (1 : Int32)) < 0 ∨ zln S21 (zr S21 a0 0) ≤ ((x20 - (1 : Int32))).toNatClampNeg)) (if (zi S21 (zr S21 a0 0) (Int32.toNatClampNeg (x20 - (1 : Int32)))) ≤ v1 then K6 x20 S21 else zChk (¬ ((x20 - (1 : Int32)) < 0 ∨ zln S21 (zr S21 a0 0) ≤ ((x20 - (1 : Int32))).toNatClampNeg)) (zChk (¬ (x20 < 0 ∨ zln S21 (zr S21 a0 0) ≤ (x20).toNatClampNeg)) (zLet (zpI S21 (zr S21 a0 0) (Int32.toNatClampNeg x20) (zi S21 (zr S21 a0 0) (Int32.toNatClampNeg (x20 - (1 : Int32))))) (fun S32 => rec15 (x20 + (-1 : Int32)) S32)))))
def f_X5_add_L15 (a0 : Nat) (v1 : Int32) (K6 : Int32 → zM → Option (zM)) : Nat → Int32 → zM → Option (zM)
  | 0 => fun _ _ => none
  | k + 1 => fun x20 S21 => f_X5_add_L15b a0 v1 K6 (f_X5_add_L15 a0 v1 K6 k) x20 S21
def f_X5_add (n : Nat) (S0 : zM) (a0 : Nat) (v1 : Int32) : Option (zM) :=
  if (zi S0 a0 1) < (7 : Int32) then zLet (fun (x3 : Int32) (S4 : zM) => zChk (¬ (zr S4 a0 0) = 0) (zChk (¬ (x3 < 0 ∨ zln S4 (zr S4 a0 0) ≤ (x3).toNatClampNeg)) (zLet (zpI S4 (zr S4 a0 0) (Int32.toNatClampNeg x3) v1) (fun S10 => zLet (zpI S10 a0 1 ((zi S10 a0 1) + (1 : Int32))) (fun S15 => some S15))))) (fun K6 => f_X5_add_L15 a0 v1 K6 n (zi S0 a0 1) S0) else some S0
set_option maxHeartbeats 4000000 in
set_option maxRecDepth 100000 in
theorem c_X5_add (l : Launch) (D : va_G) (cy : Nat → ClassId) (B : Nat) {n : Nat} {S0 : zM} {a0 : Nat} {v1 : Int32} {S' : zM} (ha0 : zA S0 a0 5) (h : f_X5_add n S0 a0 v1 = some S') : Met l yX5_add (zws yX5_add cX5_add 3 none) { frames := 0, cells := 0, slots := 0, locals := 0 } (zPc D cy B S0 [.ref (B + a0), .int v1]) (zQv D cy B S0 S') 0 0 (fun q => B < q) := by
  refine Met.ofW (cc := cX5_add) (maxL := 3) (ret := none) (by decide) rfl ?_
  intro p e s m args below meth c s₁ Bd hml hv
  obtain ⟨rfl, hC, hM⟩ := hv
  obtain ⟨hx, hb, hr, hg, hown, hlk⟩ := z_open Bd
  have hK := hC.1
  have hS : va_S (fun q => B < q) s.heap s.heap [] := va_S.rf
  have hX0 : zX S0 S0 := zX.rf
  refine z_entry (vs := [.ref (B + a0), .int v1]) (Nat.le_of_ble_eq_true rfl) (fun ls hl => ?_)
  have hl : lv_has ls 3 [(0, .ref (B + a0)), (1, .int v1)] := hl
  unfold f_X5_add at h
  refine lv_aload_n hx hb dX5_add_0 rfl (lv_at hl 0 rfl) ?_
  refine z_getI hx hb hg zin_5 hown hK hM ha0 1 rfl (by decide) (hg _ zw_78) (fun _ h9 => h9) dX5_add_1 ?_
  refine lv_bipush (v := (7 : Int32)) hx hb dX5_add_4 (by decide +kernel) ?_
  refine lv_icmp_lt (tgt := 10) hx hb dX5_add_6 (by decide) (fun hc1 => ?_) (fun hc1 => ?_)
  · have h := zt h hc1
    refine lv_aload_n hx hb dX5_add_10 rfl (lv_at hl 0 rfl) ?_
    refine z_getI hx hb hg zin_5 hown hK hM ha0 1 rfl (by decide) (hg _ zw_78) (fun _ h9 => h9) dX5_add_11 ?_
    refine lv_istore_n (i := 2) (lv' := [(2, .int (zi S0 a0 1)), (0, .ref (B + a0)), (1, .int v1)]) hx hb dX5_add_14 rfl hl (by decide) rfl (fun ls hl => ?_)
    obtain ⟨K6, eK6, h⟩ := zlg h
    have hK6 : ∀ (x3 : Int32) (S4 : zM) (H : Heap) (locs : List Loc), zMR D cy B S4 H → zX S0 S4 → va_S (fun q => B < q) s.heap H locs → zA S4 a0 5 → ∀ ls : Array Slot, lv_has ls 3 [(0, .ref (B + a0)), (1, .int v1), (2, .int x3)] → K6 x3 S4 = some S' → W p l e (headSpec (zws yX5_add cX5_add 3 none) { frames := 0, cells := 0, slots := 0, locals := 0 }).room s m (([.ref (B + a0), .int v1] : List Value).toArray) below meth c H locs 0 0 (MQ below (zQv D cy B S0 S') (([.ref (B + a0), .int v1] : List Value).toArray) s 0 0 (fun q => B < q)) (F0 m 51 ls []) := by
      intro x3 S4 H locs hM hX5 hS h2 ls hl h
      rw [eK6] at h
      refine lv_aload_n hx hb dX5_add_51 rfl (lv_at hl 0 rfl) ?_
      obtain ⟨hq8, h⟩ := zk h
      refine z_getN hx hb hg zin_5 hown hK hM h2 0 rfl (by decide) (hg _ zw_77) (fun _ h9 => h9) hq8 dX5_add_52 (fun h7 => ?_)
      refine lv_iload_n hx hb dX5_add_55 rfl (lv_at hl 2 rfl) ?_
      refine lv_iload_n hx hb dX5_add_56 rfl (lv_at hl 1 rfl) ?_
      obtain ⟨hq9, h⟩ := zk h
      refine z_iast hx hb hK hM hS h7 hq9 dX5_add_57 (fun H locs hM hS => ?_)
      obtain ⟨S10, e11, h⟩ := zlg h
      rw [← e11] at hM
      have hX12 : zX S4 S10 := by rw [e11]; exact zX_pI
      have h13 := h2.mo hX12
      have hX14 := hX5.tr hX12
      refine lv_aload_n hx hb dX5_add_58 rfl (lv_at hl 0 rfl) ?_
      refine lv_dup hx hb dX5_add_59 rfl ?_
      refine z_getI hx hb hg zin_5 hown hK hM h13 1 rfl (by decide) (hg _ zw_78) (fun _ h9 => h9) dX5_add_60 ?_
      refine lv_iconst (v := (1 : Int32)) hx hb dX5_add_63 (by decide +kernel) ?_
      refine lv_iadd hx hb dX5_add_64 ?_
      refine z_putI hx hb hg zin_5 tyX5 tyX5_ok nmX5 hown hK hM hS h13 1 rfl (by decide) (hg _ zw_78) (fun _ h9 => h9) (Or.inl rfl) (tyX5_ok 1 (by decide)) rfl rfl dX5_add_65 (fun H locs hM hS => ?_)
      obtain ⟨S15, e16, h⟩ := zlg h
      rw [← e16] at hM
      have hX17 : zX S10 S15 := by rw [e16]; exact zX_pI
      have hX18 := hX14.tr hX17
      exact z_vret hx hb hr hlk hM hX18 hS (zsm h) dX5_add_68
    have hL15 : ∀ (k : Nat) (x20 : Int32) (S21 : zM) (H : Heap) (locs : List Loc), zMR D cy B S21 H → zX S0 S21 → va_S (fun q => B < q) s.heap H locs → zA S21 a0 5 → ∀ ls : Array Slot, lv_has ls 3 [(0, .ref (B + a0)), (1, .int v1), (2, .int x20)] → f_X5_add_L15 a0 v1 K6 k x20 S21 = some S' → W p l e (headSpec (zws yX5_add cX5_add 3 none) { frames := 0, cells := 0, slots := 0, locals := 0 }).room s m (([.ref (B + a0), .int v1] : List Value).toArray) below meth c H locs 0 0 (MQ below (zQv D cy B S0 S') (([.ref (B + a0), .int v1] : List Value).toArray) s 0 0 (fun q => B < q)) (F0 m 15 ls []) := by
      intro k
      induction k with
      | zero =>
        intro x20 S21 H locs hM hX22 hS h19 ls hl h
        exact znone h
      | succ k ih15 =>
        intro x20 S21 H locs hM hX22 hS h19 ls hl h
        replace h : f_X5_add_L15b a0 v1 K6 (f_X5_add_L15 a0 v1 K6 k) x20 S21 = some S' := h
        generalize f_X5_add_L15 a0 v1 K6 k = rec15 at ih15 h
        unfold f_X5_add_L15b at h
        refine lv_iload_n hx hb dX5_add_15 rfl (lv_at hl 2 rfl) ?_
        refine lv_if_le (tgt := 51) hx hb dX5_add_16 (by decide) (fun hc23 => ?_) (fun hc23 => ?_)
        · have h := zt h hc23
          exact hK6 x20 S21 _ _ hM hX22 hS h19 _ (lv_sub hl [0, 1, 2] rfl) h
        · have h := zf h hc23
          refine lv_aload_n hx hb dX5_add_19 rfl (lv_at hl 0 rfl) ?_
          obtain ⟨hq25, h⟩ := zk h
          refine z_getN hx hb hg zin_5 hown hK hM h19 0 rfl (by decide) (hg _ zw_77) (fun _ h9 => h9) hq25 dX5_add_20 (fun h24 => ?_)
          refine lv_iload_n hx hb dX5_add_23 rfl (lv_at hl 2 rfl) ?_
          refine lv_iconst (v := (1 : Int32)) hx hb dX5_add_24 (by decide +kernel) ?_
          refine lv_isub hx hb dX5_add_25 ?_
          obtain ⟨hq26, h⟩ := zk h
          refine z_iald hx hb hK hM h24 hq26 dX5_add_26 ?_
          refine lv_iload_n hx hb dX5_add_27 rfl (lv_at hl 1 rfl) ?_
          refine lv_icmp_le (tgt := 51) hx hb dX5_add_28 (by decide) (fun hc27 => ?_) (fun hc27 => ?_)
          · have h := zt h hc27
            exact hK6 x20 S21 _ _ hM hX22 hS h19 _ (lv_sub hl [0, 1, 2] rfl) h
          · have h := zf h hc27
            refine lv_aload_n hx hb dX5_add_31 rfl (lv_at hl 0 rfl) ?_
            refine z_getN hx hb hg zin_5 hown hK hM h19 0 rfl (by decide) (hg _ zw_77) (fun _ h9 => h9) h24.ne dX5_add_32 (fun h28 => ?_)
            refine lv_iload_n hx hb dX5_add_35 rfl (lv_at hl 2 rfl) ?_
            refine lv_aload_n hx hb dX5_add_36 rfl (lv_at hl 0 rfl) ?_
            refine z_getN hx hb hg zin_5 hown hK hM h19 0 rfl (by decide) (hg _ zw_77) (fun _ h9 => h9) h28.ne dX5_add_37 (fun h29 => ?_)
            refine lv_iload_n hx hb dX5_add_40 rfl (lv_at hl 2 rfl) ?_
            refine lv_iconst (v := (1 : Int32)) hx hb dX5_add_41 (by decide +kernel) ?_
            refine lv_isub hx hb dX5_add_42 ?_
            obtain ⟨hq30, h⟩ := zk h
            refine z_iald hx hb hK hM h29 hq30 dX5_add_43 ?_
            obtain ⟨hq31, h⟩ := zk h
            refine z_iast hx hb hK hM hS h29 hq31 dX5_add_44 (fun H locs hM hS => ?_)
            obtain ⟨S32, e33, h⟩ := zlg h
            rw [← e33] at hM
            have hX34 : zX S21 S32 := by rw [e33]; exact zX_pI
            have h35 := h19.mo hX34
            have hX36 := hX22.tr hX34
            refine lv_iinc (v := (x20 + (-1 : Int32))) (lv' := [(2, .int (x20 + (-1 : Int32))), (0, .ref (B + a0)), (1, .int v1)]) hx hb dX5_add_45 hl (k := 2) rfl rfl (by decide) rfl (fun ls hl => ?_)
            refine lv_goto (tgt := 15) hx hb dX5_add_48 (by decide) ?_
            exact ih15 (x20 + (-1 : Int32)) S32 _ _ hM hX36 hS h35 _ (lv_sub hl [1, 2, 0] rfl) h
    exact hL15 n (zi S0 a0 1) S0 _ _ hM hX0 hS ha0 _ (lv_sub hl [1, 2, 0] rfl) h
  · have h := zf h hc1
    exact z_vret hx hb hr hlk hM hX0 hS (zsm h) dX5_add_9
def f_X5_gather_L7b (n : Nat) (a0 : Nat) (a1 : Nat) (K9 : zM → Option (zM)) (rec7 : Int32 → zM → Option (zM)) (x12 : Int32) (S13 : zM) : Option (zM) :=
  if (7 : Int32) ≤ x12 then K9 S13 else zB1 (f_X1_hasMark S13 a1 x12) (fun r17 => if r17 = 0 then rec7 (x12 + (1 : Int32)) S13 else zChk (¬ (zr S13 a1 0) = 0) (zChk (¬ (x12 < 0 ∨ zln S13 (zr S13 a1 0) ≤ (x12).toNatClampNeg)) (zB1 (f_X5_add n S13 a0 (zi S13 (zr S13 a1 0) (Int32.toNatClampNeg x12))) (fun S25 => rec7 (x12 + (1 : Int32)) S25))))
def f_X5_gather_L7 (n : Nat) (a0 : Nat) (a1 : Nat) (K9 : zM → Option (zM)) : Nat → Int32 → zM → Option (zM)
  | 0 => fun _ _ => none
  | k + 1 => fun x12 S13 => f_X5_gather_L7b n a0 a1 K9 (f_X5_gather_L7 n a0 a1 K9 k) x12 S13
def f_X5_gather (n : Nat) (S0 : zM) (a0 : Nat) (a1 : Nat) : Option (zM) :=
  zLet (zpI S0 a0 1 (0 : Int32)) (fun S1 => zLet (fun (S7 : zM) => some S7) (fun K9 => f_X5_gather_L7 n a0 a1 K9 n (0 : Int32) S1))
set_option maxHeartbeats 4000000 in
set_option maxRecDepth 100000 in
theorem c_X5_gather (l : Launch) (D : va_G) (cy : Nat → ClassId) (B : Nat) {n : Nat} {S0 : zM} {a0 : Nat} {a1 : Nat} {S' : zM} (ha0 : zA S0 a0 5) (ha1 : zA S0 a1 1) (h : f_X5_gather n S0 a0 a1 = some S') : Met l yX5_gather (zws yX5_gather cX5_gather 3 none) { frames := 2, cells := 0, slots := 0, locals := 42 } (zPc D cy B S0 [.ref (B + a0), .ref (B + a1)]) (zQv D cy B S0 S') 0 0 (fun q => B < q) := by
  refine Met.ofW (cc := cX5_gather) (maxL := 3) (ret := none) (by decide) rfl ?_
  intro p e s m args below meth c s₁ Bd hml hv
  obtain ⟨rfl, hC, hM⟩ := hv
  obtain ⟨hx, hb, hr, hg, hown, hlk⟩ := z_open Bd
  have hK := hC.1
  have hS : va_S (fun q => B < q) s.heap s.heap [] := va_S.rf
  have hX0 : zX S0 S0 := zX.rf
  refine z_entry (vs := [.ref (B + a0), .ref (B + a1)]) (Nat.le_of_ble_eq_true rfl) (fun ls hl => ?_)
  have hl : lv_has ls 3 [(0, .ref (B + a0)), (1, .ref (B + a1))] := hl
  unfold f_X5_gather at h
  refine lv_aload_n hx hb dX5_gather_0 rfl (lv_at hl 0 rfl) ?_
  refine lv_iconst (v := (0 : Int32)) hx hb dX5_gather_1 (by decide +kernel) ?_
  refine z_putI hx hb hg zin_5 tyX5 tyX5_ok nmX5 hown hK hM hS ha0 1 rfl (by decide) (hg _ zw_78) (fun _ h9 => h9) (Or.inl rfl) (tyX5_ok 1 (by decide)) rfl rfl dX5_gather_2 (fun H locs hM hS => ?_)
  obtain ⟨S1, e2, h⟩ := zlg h
  rw [← e2] at hM
  have hX3 : zX S0 S1 := by rw [e2]; exact zX_pI
  have h4 := ha0.mo hX3
  have h5 := ha1.mo hX3
  have hX6 := hX0.tr hX3
  refine lv_iconst (v := (0 : Int32)) hx hb dX5_gather_5 (by decide +kernel) ?_
  refine lv_istore_n (i := 2) (lv' := [(2, .int (0 : Int32)), (0, .ref (B + a0)), (1, .ref (B + a1))]) hx hb dX5_gather_6 rfl hl (by decide) rfl (fun ls hl => ?_)
  obtain ⟨K9, eK9, h⟩ := zlg h
  have hK9 : ∀ (S7 : zM) (H : Heap) (locs : List Loc), zMR D cy B S7 H → zX S0 S7 → va_S (fun q => B < q) s.heap H locs → ∀ ls : Array Slot, lv_has ls 3 [] → K9 S7 = some S' → W p l e (headSpec (zws yX5_gather cX5_gather 3 none) { frames := 2, cells := 0, slots := 0, locals := 42 }).room s m (([.ref (B + a0), .ref (B + a1)] : List Value).toArray) below meth c H locs 0 0 (MQ below (zQv D cy B S0 S') (([.ref (B + a0), .ref (B + a1)] : List Value).toArray) s 0 0 (fun q => B < q)) (F0 m 37 ls []) := by
    intro S7 H locs hM hX8 hS ls hl h
    rw [eK9] at h
    exact z_vret hx hb hr hlk hM hX8 hS (zsm h) dX5_gather_37
  have hL7 : ∀ (k : Nat) (x12 : Int32) (S13 : zM) (H : Heap) (locs : List Loc), zMR D cy B S13 H → zX S0 S13 → va_S (fun q => B < q) s.heap H locs → zA S13 a0 5 → zA S13 a1 1 → ∀ ls : Array Slot, lv_has ls 3 [(0, .ref (B + a0)), (1, .ref (B + a1)), (2, .int x12)] → f_X5_gather_L7 n a0 a1 K9 k x12 S13 = some S' → W p l e (headSpec (zws yX5_gather cX5_gather 3 none) { frames := 2, cells := 0, slots := 0, locals := 42 }).room s m (([.ref (B + a0), .ref (B + a1)] : List Value).toArray) below meth c H locs 0 0 (MQ below (zQv D cy B S0 S') (([.ref (B + a0), .ref (B + a1)] : List Value).toArray) s 0 0 (fun q => B < q)) (F0 m 7 ls []) := by
    intro k
    induction k with
    | zero =>
      intro x12 S13 H locs hM hX14 hS h10 h11 ls hl h
      exact znone h
    | succ k ih7 =>
      intro x12 S13 H locs hM hX14 hS h10 h11 ls hl h
      replace h : f_X5_gather_L7b n a0 a1 K9 (f_X5_gather_L7 n a0 a1 K9 k) x12 S13 = some S' := h
      generalize f_X5_gather_L7 n a0 a1 K9 k = rec7 at ih7 h
      unfold f_X5_gather_L7b at h
      refine lv_iload_n hx hb dX5_gather_7 rfl (lv_at hl 2 rfl) ?_
      refine lv_bipush (v := (7 : Int32)) hx hb dX5_gather_8 (by decide +kernel) ?_
      refine lv_icmp_ge (tgt := 37) hx hb dX5_gather_10 (by decide) (fun hc15 => ?_) (fun hc15 => ?_)
      · have h := zt h hc15
        exact hK9 S13 _ _ hM hX14 hS _ (lv_sub hl [] rfl) h
      · have h := zf h hc15
        refine lv_aload_n hx hb dX5_gather_13 rfl (lv_at hl 1 rfl) ?_
        refine lv_iload_n hx hb dX5_gather_14 rfl (lv_at hl 2 rfl) ?_
        obtain ⟨r17, hr16, h⟩ := zb1 h
        refine z_runi (va_runV (As := [.int x12]) (rest := []) ⟨hx, hb, hml, hown, hg⟩ (c_X1_hasMark l D cy B h11 hr16) (z_cwV hg zw_549 zw_474 zw_475 zw_6 zw_476 zh_X1_hasMark ⟨(Nat.le_of_ble_eq_true rfl), (Nat.le_of_ble_eq_true rfl)⟩) (zPV hC hM h11 (by decide) rfl) rfl rfl hl.1 rfl (lv_room (Nat.le_of_ble_eq_true rfl)) dX5_gather_15 ⟨(Nat.le_of_ble_eq_true rfl), (Nat.le_of_ble_eq_true rfl)⟩) hS (fun H locs hM hX18 hS => ?_)
        refine lv_if_eq (tgt := 31) hx hb dX5_gather_18 (by decide) (fun hc20 => ?_) (fun hc20 => ?_)
        · have h := zt h hc20
          refine lv_iinc (v := (x12 + (1 : Int32))) (lv' := [(2, .int (x12 + (1 : Int32))), (0, .ref (B + a0)), (1, .ref (B + a1))]) hx hb dX5_gather_31 hl (k := 2) rfl rfl (by decide) rfl (fun ls hl => ?_)
          refine lv_goto (tgt := 7) hx hb dX5_gather_34 (by decide) ?_
          exact ih7 (x12 + (1 : Int32)) S13 _ _ hM hX14 hS h10 h11 _ (lv_sub hl [1, 2, 0] rfl) h
        · have h := zf h hc20
          refine lv_aload_n hx hb dX5_gather_21 rfl (lv_at hl 0 rfl) ?_
          refine lv_aload_n hx hb dX5_gather_22 rfl (lv_at hl 1 rfl) ?_
          obtain ⟨hq22, h⟩ := zk h
          refine z_getN hx hb hg zin_1 hown hK hM h11 0 rfl (by decide) (hg _ zw_91) (fun _ h9 => h9) hq22 dX5_gather_23 (fun h21 => ?_)
          refine lv_iload_n hx hb dX5_gather_26 rfl (lv_at hl 2 rfl) ?_
          obtain ⟨hq23, h⟩ := zk h
          refine z_iald hx hb hK hM h21 hq23 dX5_gather_27 ?_
          obtain ⟨S25, hr24, h⟩ := zb1 h
          refine z_runv (va_runV (As := [.int (zi S13 (zr S13 a1 0) (Int32.toNatClampNeg x12))]) (rest := []) ⟨hx, hb, hml, hown, hg⟩ (c_X5_add l D cy B h10 hr24) (z_cwV hg zw_550 zw_430 zw_431 zw_5 zw_432 zh_X5_add ⟨(Nat.le_of_ble_eq_true rfl), (Nat.le_of_ble_eq_true rfl)⟩) (zPV hC hM h10 (by decide) rfl) rfl rfl hl.1 rfl (lv_room (Nat.le_of_ble_eq_true rfl)) dX5_gather_28 ⟨(Nat.le_of_ble_eq_true rfl), (Nat.le_of_ble_eq_true rfl)⟩) hS (fun H locs hM hX26 hS => ?_)
          have h28 := h10.mo hX26
          have h29 := h11.mo hX26
          have hX30 := hX14.tr hX26
          refine lv_iinc (v := (x12 + (1 : Int32))) (lv' := [(2, .int (x12 + (1 : Int32))), (0, .ref (B + a0)), (1, .ref (B + a1))]) hx hb dX5_gather_31 hl (k := 2) rfl rfl (by decide) rfl (fun ls hl => ?_)
          refine lv_goto (tgt := 7) hx hb dX5_gather_34 (by decide) ?_
          exact ih7 (x12 + (1 : Int32)) S25 _ _ hM hX30 hS h28 h29 _ (lv_sub hl [1, 2, 0] rfl) h
  exact hL7 n (0 : Int32) S1 _ _ hM hX6 hS h4 h5 _ (lv_sub hl [1, 2, 0] rfl) h
def f_X9_landOf (S0 : zM) (a0 : Nat) (a1 : Nat) : Option (Int32) :=
  zLet (f_X11_within (zi S0 a1 3) (zi S0 a0 5)) (fun r2 => if r2 = 0 then some (-4 : Int32) else zChk (¬ (zr S0 a0 0) = 0) (zChk (¬ ((zi S0 a1 3) < 0 ∨ zln S0 (zr S0 a0 0) ≤ ((zi S0 a1 3)).toNatClampNeg)) (some (zi S0 (zr S0 a0 0) (Int32.toNatClampNeg (zi S0 a1 3))))))
set_option maxHeartbeats 4000000 in
set_option maxRecDepth 100000 in
theorem c_X9_landOf (l : Launch) (D : va_G) (cy : Nat → ClassId) (B : Nat) {S0 : zM} {a0 : Nat} {a1 : Nat} {r : Int32} (ha0 : zA S0 a0 9) (ha1 : zA S0 a1 1) (h : f_X9_landOf S0 a0 a1 = some r) : Met l yX9_landOf (zws yX9_landOf cX9_landOf 2 ((some .int))) { frames := 1, cells := 0, slots := 0, locals := 21 } (zPc D cy B S0 [.ref (B + a0), .ref (B + a1)]) (zQi D cy B S0 r S0) 0 0 (fun q => B < q) := by
  refine Met.ofW (cc := cX9_landOf) (maxL := 2) (ret := ((some .int))) (by decide) rfl ?_
  intro p e s m args below meth c s₁ Bd hml hv
  obtain ⟨rfl, hC, hM⟩ := hv
  obtain ⟨hx, hb, hr, hg, hown, hlk⟩ := z_open Bd
  have hK := hC.1
  have hS : va_S (fun q => B < q) s.heap s.heap [] := va_S.rf
  have hX0 : zX S0 S0 := zX.rf
  refine z_entry (vs := [.ref (B + a0), .ref (B + a1)]) (Nat.le_of_ble_eq_true rfl) (fun ls hl => ?_)
  have hl : lv_has ls 2 [(0, .ref (B + a0)), (1, .ref (B + a1))] := hl
  unfold f_X9_landOf at h
  refine lv_aload_n hx hb dX9_landOf_0 rfl (lv_at hl 1 rfl) ?_
  refine z_getI hx hb hg zin_1 hown hK hM ha1 3 rfl (by decide) (hg _ zw_104) (fun _ h9 => h9) dX9_landOf_1 ?_
  refine lv_aload_n hx hb dX9_landOf_4 rfl (lv_at hl 0 rfl) ?_
  refine z_getI hx hb hg zin_9 hown hK hM ha0 5 rfl (by decide) (hg _ zw_132) (fun _ h9 => h9) dX9_landOf_5 ?_
  obtain ⟨r2, hr1, h⟩ := zlg h
  have hr1 := hr1.symm
  refine z_runi (va_runSN (As := [.int (zi S0 a1 3), .int (zi S0 a0 5)]) (rest := []) ⟨hx, hb, hml, hown, hg⟩ (c_X11_within l D cy B hr1) ⟨z_cnB hg hC (List.mem_of_getElem? (i := 9) rfl) zw_2 zw_292 zh_X11_within.2 ⟨(Nat.le_of_ble_eq_true rfl), (Nat.le_of_ble_eq_true rfl)⟩, hg _ zw_291, trivial⟩ (zPS hC hM) rfl rfl hl.1 rfl (lv_room (Nat.le_of_ble_eq_true rfl)) dX9_landOf_8 ⟨(Nat.le_of_ble_eq_true rfl), (Nat.le_of_ble_eq_true rfl)⟩) hS (fun H locs hM hX3 hS => ?_)
  refine lv_if_eq (tgt := 26) hx hb dX9_landOf_11 (by decide) (fun hc5 => ?_) (fun hc5 => ?_)
  · have h := zt h hc5
    refine lv_bipush (v := (-4 : Int32)) hx hb dX9_landOf_26 (by decide +kernel) ?_
    exact z_iret hx hb hr hlk hM hX0 hS ⟨zsm h, rfl⟩ dX9_landOf_28
  · have h := zf h hc5
    refine lv_aload_n hx hb dX9_landOf_14 rfl (lv_at hl 0 rfl) ?_
    obtain ⟨hq7, h⟩ := zk h
    refine z_getN hx hb hg zin_9 hown hK hM ha0 0 rfl (by decide) (hg _ zw_124) (fun _ h9 => h9) hq7 dX9_landOf_15 (fun h6 => ?_)
    refine lv_aload_n hx hb dX9_landOf_18 rfl (lv_at hl 1 rfl) ?_
    refine z_getI hx hb hg zin_1 hown hK hM ha1 3 rfl (by decide) (hg _ zw_104) (fun _ h9 => h9) dX9_landOf_19 ?_
    obtain ⟨hq8, h⟩ := zk h
    refine z_iald hx hb hK hM h6 hq8 dX9_landOf_22 ?_
    refine lv_goto (tgt := 28) hx hb dX9_landOf_23 (by decide) ?_
    exact z_iret hx hb hr hlk hM hX0 hS ⟨zsm h, rfl⟩ dX9_landOf_28
def f_X5_middle (S0 : zM) (a0 : Nat) : Option (Int32) :=
  if (zi S0 a0 1) ≤ 0 then some (0 : Int32) else zChk (¬ (zr S0 a0 0) = 0) (zChk (¬ (((zi S0 a0 1) / (2 : Int32)) < 0 ∨ zln S0 (zr S0 a0 0) ≤ (((zi S0 a0 1) / (2 : Int32))).toNatClampNeg)) (some (zi S0 (zr S0 a0 0) (Int32.toNatClampNeg ((zi S0 a0 1) / (2 : Int32))))))
set_option maxHeartbeats 4000000 in
set_option maxRecDepth 100000 in
theorem c_X5_middle (l : Launch) (D : va_G) (cy : Nat → ClassId) (B : Nat) {S0 : zM} {a0 : Nat} {r : Int32} (ha0 : zA S0 a0 5) (h : f_X5_middle S0 a0 = some r) : Met l yX5_middle (zws yX5_middle cX5_middle 1 ((some .int))) { frames := 0, cells := 0, slots := 0, locals := 0 } (zPc D cy B S0 [.ref (B + a0)]) (zQi D cy B S0 r S0) 0 0 (fun q => B < q) := by
  refine Met.ofW (cc := cX5_middle) (maxL := 1) (ret := ((some .int))) (by decide) rfl ?_
  intro p e s m args below meth c s₁ Bd hml hv
  obtain ⟨rfl, hC, hM⟩ := hv
  obtain ⟨hx, hb, hr, hg, hown, hlk⟩ := z_open Bd
  have hK := hC.1
  have hS : va_S (fun q => B < q) s.heap s.heap [] := va_S.rf
  have hX0 : zX S0 S0 := zX.rf
  refine z_entry (vs := [.ref (B + a0)]) (Nat.le_of_ble_eq_true rfl) (fun ls hl => ?_)
  have hl : lv_has ls 1 [(0, .ref (B + a0))] := hl
  unfold f_X5_middle at h
  refine lv_aload_n hx hb dX5_middle_0 rfl (lv_at hl 0 rfl) ?_
  refine z_getI hx hb hg zin_5 hown hK hM ha0 1 rfl (by decide) (hg _ zw_78) (fun _ h9 => h9) dX5_middle_1 ?_
  refine lv_if_le (tgt := 21) hx hb dX5_middle_4 (by decide) (fun hc1 => ?_) (fun hc1 => ?_)
  · have h := zt h hc1
    refine lv_iconst (v := (0 : Int32)) hx hb dX5_middle_21 (by decide +kernel) ?_
    exact z_iret hx hb hr hlk hM hX0 hS ⟨zsm h, rfl⟩ dX5_middle_22
  · have h := zf h hc1
    refine lv_aload_n hx hb dX5_middle_7 rfl (lv_at hl 0 rfl) ?_
    obtain ⟨hq3, h⟩ := zk h
    refine z_getN hx hb hg zin_5 hown hK hM ha0 0 rfl (by decide) (hg _ zw_77) (fun _ h9 => h9) hq3 dX5_middle_8 (fun h2 => ?_)
    refine lv_aload_n hx hb dX5_middle_11 rfl (lv_at hl 0 rfl) ?_
    refine z_getI hx hb hg zin_5 hown hK hM ha0 1 rfl (by decide) (hg _ zw_78) (fun _ h9 => h9) dX5_middle_12 ?_
    refine lv_iconst (v := (2 : Int32)) hx hb dX5_middle_15 (by decide +kernel) ?_
    refine lv_idiv hx hb dX5_middle_16 (by decide +kernel) ?_
    obtain ⟨hq4, h⟩ := zk h
    refine z_iald hx hb hK hM h2 hq4 dX5_middle_17 ?_
    refine lv_goto (tgt := 22) hx hb dX5_middle_18 (by decide) ?_
    exact z_iret hx hb hr hlk hM hX0 hS ⟨zsm h, rfl⟩ dX5_middle_22
def f_X3_addLeans_L3b (a0 : Nat) (a1 : Nat) (v2 : Int32) (v3 : Int32) (K3 : zM → Option (zM)) (rec3 : Int32 → zM → Option (zM)) (x6 : Int32) (S7 : zM) : Option (zM) :=
  if (7 : Int32) ≤ x6 then K3 S7 else zChk (¬ (zr S7 a1 1) = 0) (zChk (¬ (x6 < 0 ∨ zln S7 (zr S7 a1 1) ≤ (x6).toNatClampNeg)) (zLet (f_X11_within (zi S7 (zr S7 a1 1) (Int32.toNatClampNeg x6)) (12 : Int32)) (fun r14 => if r14 = 0 then rec3 (x6 + (1 : Int32)) S7 else zLet (f_X11_within v2 (6 : Int32)) (fun r19 => if r19 = 0 then rec3 (x6 + (1 : Int32)) S7 else zChk (¬ (zr S7 a0 5) = 0) (zChk (¬ ((((zi S7 (zr S7 a1 1) (Int32.toNatClampNeg x6)) * (6 : Int32)) + v2) < 0 ∨ zln S7 (zr S7 a0 5) ≤ ((((zi S7 (zr S7 a1 1) (Int32.toNatClampNeg x6)) * (6 : Int32)) + v2)).toNatClampNeg)) (zChk (¬ (zr S7 a1 0) = 0) (zChk (¬ (x6 < 0 ∨ zln S7 (zr S7 a1 0) ≤ (x6).toNatClampNeg)) (zChk (¬ ((((zi S7 (zr S7 a1 1) (Int32.toNatClampNeg x6)) * (6 : Int32)) + v2) < 0 ∨ zln S7 (zr S7 a0 5) ≤ ((((zi S7 (zr S7 a1 1) (Int32.toNatClampNeg x6)) * (6 : Int32)) + v2)).toNatClampNeg)) (zLet (zpI S7 (zr S7 a0 5) (Int32.toNatClampNeg (((zi S7 (zr S7 a1 1) (Int32.toNatClampNeg x6)) * (6 : Int32)) + v2)) ((zi S7 (zr S7 a0 5) (Int32.toNatClampNeg (((zi S7 (zr S7 a1 1) (Int32.toNatClampNeg x6)) * (6 : Int32)) + v2))) + ((zi S7 (zr S7 a1 0) (Int32.toNatClampNeg x6)) - v3))) (fun S30 => rec3 (x6 + (1 : Int32)) S30))))))))))
def f_X3_addLeans_L3 (a0 : Nat) (a1 : Nat) (v2 : Int32) (v3 : Int32) (K3 : zM → Option (zM)) : Nat → Int32 → zM → Option (zM)
  | 0 => fun _ _ => none
  | k + 1 => fun x6 S7 => f_X3_addLeans_L3b a0 a1 v2 v3 K3 (f_X3_addLeans_L3 a0 a1 v2 v3 K3 k) x6 S7
def f_X3_addLeans (n : Nat) (S0 : zM) (a0 : Nat) (a1 : Nat) (v2 : Int32) (v3 : Int32) : Option (zM) :=
  zLet (fun (S1 : zM) => some S1) (fun K3 => f_X3_addLeans_L3 a0 a1 v2 v3 K3 n (0 : Int32) S0)
set_option maxHeartbeats 4000000 in
set_option maxRecDepth 100000 in
theorem c_X3_addLeans (l : Launch) (D : va_G) (cy : Nat → ClassId) (B : Nat) {n : Nat} {S0 : zM} {a0 : Nat} {a1 : Nat} {v2 : Int32} {v3 : Int32} {S' : zM} (ha0 : zA S0 a0 3) (ha1 : zA S0 a1 1) (h : f_X3_addLeans n S0 a0 a1 v2 v3 = some S') : Met l yX3_addLeans (zws yX3_addLeans cX3_addLeans 6 none) { frames := 1, cells := 0, slots := 0, locals := 21 } (zPc D cy B S0 [.ref (B + a0), .ref (B + a1), .int v2, .int v3]) (zQv D cy B S0 S') 0 0 (fun q => B < q) := by
  refine Met.ofW (cc := cX3_addLeans) (maxL := 6) (ret := none) (by decide) rfl ?_
  intro p e s m args below meth c s₁ Bd hml hv
  obtain ⟨rfl, hC, hM⟩ := hv
  obtain ⟨hx, hb, hr, hg, hown, hlk⟩ := z_open Bd
  have hK := hC.1
  have hS : va_S (fun q => B < q) s.heap s.heap [] := va_S.rf
  have hX0 : zX S0 S0 := zX.rf
  refine z_entry (vs := [.ref (B + a0), .ref (B + a1), .int v2, .int v3]) (Nat.le_of_ble_eq_true rfl) (fun ls hl => ?_)
  have hl : lv_has ls 6 [(0, .ref (B + a0)), (1, .ref (B + a1)), (2, .int v2), (3, .int v3)] := hl
  unfold f_X3_addLeans at h
  refine lv_iconst (v := (0 : Int32)) hx hb dX3_addLeans_0 (by decide +kernel) ?_
  refine lv_istore (i := 4) (lv' := [(4, .int (0 : Int32)), (0, .ref (B + a0)), (1, .ref (B + a1)), (2, .int v2), (3, .int v3)]) hx hb dX3_addLeans_1 hl (by decide) rfl (fun ls hl => ?_)
  obtain ⟨K3, eK3, h⟩ := zlg h
  have hK3 : ∀ (S1 : zM) (H : Heap) (locs : List Loc), zMR D cy B S1 H → zX S0 S1 → va_S (fun q => B < q) s.heap H locs → ∀ ls : Array Slot, lv_has ls 6 [] → K3 S1 = some S' → W p l e (headSpec (zws yX3_addLeans cX3_addLeans 6 none) { frames := 1, cells := 0, slots := 0, locals := 21 }).room s m (([.ref (B + a0), .ref (B + a1), .int v2, .int v3] : List Value).toArray) below meth c H locs 0 0 (MQ below (zQv D cy B S0 S') (([.ref (B + a0), .ref (B + a1), .int v2, .int v3] : List Value).toArray) s 0 0 (fun q => B < q)) (F0 m 68 ls []) := by
    intro S1 H locs hM hX2 hS ls hl h
    rw [eK3] at h
    exact z_vret hx hb hr hlk hM hX2 hS (zsm h) dX3_addLeans_68
  have hL3 : ∀ (k : Nat) (x6 : Int32) (S7 : zM) (H : Heap) (locs : List Loc), zMR D cy B S7 H → zX S0 S7 → va_S (fun q => B < q) s.heap H locs → zA S7 a0 3 → zA S7 a1 1 → ∀ ls : Array Slot, lv_has ls 6 [(0, .ref (B + a0)), (1, .ref (B + a1)), (2, .int v2), (3, .int v3), (4, .int x6)] → f_X3_addLeans_L3 a0 a1 v2 v3 K3 k x6 S7 = some S' → W p l e (headSpec (zws yX3_addLeans cX3_addLeans 6 none) { frames := 1, cells := 0, slots := 0, locals := 21 }).room s m (([.ref (B + a0), .ref (B + a1), .int v2, .int v3] : List Value).toArray) below meth c H locs 0 0 (MQ below (zQv D cy B S0 S') (([.ref (B + a0), .ref (B + a1), .int v2, .int v3] : List Value).toArray) s 0 0 (fun q => B < q)) (F0 m 3 ls []) := by
    intro k
    induction k with
    | zero =>
      intro x6 S7 H locs hM hX8 hS h4 h5 ls hl h
      exact znone h
    | succ k ih3 =>
      intro x6 S7 H locs hM hX8 hS h4 h5 ls hl h
      replace h : f_X3_addLeans_L3b a0 a1 v2 v3 K3 (f_X3_addLeans_L3 a0 a1 v2 v3 K3 k) x6 S7 = some S' := h
      generalize f_X3_addLeans_L3 a0 a1 v2 v3 K3 k = rec3 at ih3 h
      unfold f_X3_addLeans_L3b at h
      refine lv_iload hx hb dX3_addLeans_3 (lv_at hl 4 rfl) ?_
      refine lv_bipush (v := (7 : Int32)) hx hb dX3_addLeans_5 (by decide +kernel) ?_
      refine lv_icmp_ge (tgt := 68) hx hb dX3_addLeans_7 (by decide) (fun hc9 => ?_) (fun hc9 => ?_)
      · have h := zt h hc9
        exact hK3 S7 _ _ hM hX8 hS _ (lv_sub hl [] rfl) h
      · have h := zf h hc9
        refine lv_aload_n hx hb dX3_addLeans_10 rfl (lv_at hl 1 rfl) ?_
        obtain ⟨hq11, h⟩ := zk h
        refine z_getN hx hb hg zin_1 hown hK hM h5 1 rfl (by decide) (hg _ zw_96) (fun _ h9 => h9) hq11 dX3_addLeans_11 (fun h10 => ?_)
        refine lv_iload hx hb dX3_addLeans_14 (lv_at hl 4 rfl) ?_
        obtain ⟨hq12, h⟩ := zk h
        refine z_iald hx hb hK hM h10 hq12 dX3_addLeans_16 ?_
        refine lv_istore (i := 5) (lv' := [(5, .int (zi S7 (zr S7 a1 1) (Int32.toNatClampNeg x6))), (0, .ref (B + a0)), (1, .ref (B + a1)), (2, .int v2), (3, .int v3), (4, .int x6)]) hx hb dX3_addLeans_17 hl (by decide) rfl (fun ls hl => ?_)
        refine lv_iload hx hb dX3_addLeans_19 (lv_at hl 0 rfl) ?_
        refine lv_bipush (v := (12 : Int32)) hx hb dX3_addLeans_21 (by decide +kernel) ?_
        obtain ⟨r14, hr13, h⟩ := zlg h
        have hr13 := hr13.symm
        refine z_runi (va_runSN (As := [.int (zi S7 (zr S7 a1 1) (Int32.toNatClampNeg x6)), .int (12 : Int32)]) (rest := []) ⟨hx, hb, hml, hown, hg⟩ (c_X11_within l D cy B hr13) ⟨z_cnB hg hC (List.mem_of_getElem? (i := 15) rfl) zw_2 zw_292 zh_X11_within.2 ⟨(Nat.le_of_ble_eq_true rfl), (Nat.le_of_ble_eq_true rfl)⟩, hg _ zw_291, trivial⟩ (zPS hC hM) rfl rfl hl.1 rfl (lv_room (Nat.le_of_ble_eq_true rfl)) dX3_addLeans_23 ⟨(Nat.le_of_ble_eq_true rfl), (Nat.le_of_ble_eq_true rfl)⟩) hS (fun H locs hM hX15 hS => ?_)
        refine lv_if_eq (tgt := 62) hx hb dX3_addLeans_26 (by decide) (fun hc17 => ?_) (fun hc17 => ?_)
        · have h := zt h hc17
          refine lv_iinc (v := (x6 + (1 : Int32))) (lv' := [(4, .int (x6 + (1 : Int32))), (5, .int (zi S7 (zr S7 a1 1) (Int32.toNatClampNeg x6))), (0, .ref (B + a0)), (1, .ref (B + a1)), (2, .int v2), (3, .int v3)]) hx hb dX3_addLeans_62 hl (k := 5) rfl rfl (by decide) rfl (fun ls hl => ?_)
          refine lv_goto (tgt := 3) hx hb dX3_addLeans_65 (by decide) ?_
          exact ih3 (x6 + (1 : Int32)) S7 _ _ hM hX8 hS h4 h5 _ (lv_sub hl [2, 3, 4, 5, 0] rfl) h
        · have h := zf h hc17
          refine lv_iload_n hx hb dX3_addLeans_29 rfl (lv_at hl 3 rfl) ?_
          refine lv_bipush (v := (6 : Int32)) hx hb dX3_addLeans_30 (by decide +kernel) ?_
          obtain ⟨r19, hr18, h⟩ := zlg h
          have hr18 := hr18.symm
          refine z_runi (va_runSN (As := [.int v2, .int (6 : Int32)]) (rest := []) ⟨hx, hb, hml, hown, hg⟩ (c_X11_within l D cy B hr18) ⟨z_cnB hg hC (List.mem_of_getElem? (i := 15) rfl) zw_2 zw_292 zh_X11_within.2 ⟨(Nat.le_of_ble_eq_true rfl), (Nat.le_of_ble_eq_true rfl)⟩, hg _ zw_291, trivial⟩ (zPS hC hM) rfl rfl hl.1 rfl (lv_room (Nat.le_of_ble_eq_true rfl)) dX3_addLeans_32 ⟨(Nat.le_of_ble_eq_true rfl), (Nat.le_of_ble_eq_true rfl)⟩) hS (fun H locs hM hX20 hS => ?_)
          refine lv_if_eq (tgt := 62) hx hb dX3_addLeans_35 (by decide) (fun hc22 => ?_) (fun hc22 => ?_)
          · have h := zt h hc22
            refine lv_iinc (v := (x6 + (1 : Int32))) (lv' := [(4, .int (x6 + (1 : Int32))), (5, .int (zi S7 (zr S7 a1 1) (Int32.toNatClampNeg x6))), (0, .ref (B + a0)), (1, .ref (B + a1)), (2, .int v2), (3, .int v3)]) hx hb dX3_addLeans_62 hl (k := 5) rfl rfl (by decide) rfl (fun ls hl => ?_)
            refine lv_goto (tgt := 3) hx hb dX3_addLeans_65 (by decide) ?_
            exact ih3 (x6 + (1 : Int32)) S7 _ _ hM hX8 hS h4 h5 _ (lv_sub hl [2, 3, 4, 5, 0] rfl) h
          · have h := zf h hc22
            refine lv_aload_n hx hb dX3_addLeans_38 rfl (lv_at hl 1 rfl) ?_
            obtain ⟨hq24, h⟩ := zk h
            refine z_getN hx hb hg zin_3 hown hK hM h4 5 rfl (by decide) (hg _ zw_215) (fun _ h9 => h9) hq24 dX3_addLeans_39 (fun h23 => ?_)
            refine lv_iload hx hb dX3_addLeans_42 (lv_at hl 0 rfl) ?_
            refine lv_bipush (v := (6 : Int32)) hx hb dX3_addLeans_44 (by decide +kernel) ?_
            refine lv_imul hx hb dX3_addLeans_46 ?_
            refine lv_iload_n hx hb dX3_addLeans_47 rfl (lv_at hl 3 rfl) ?_
            refine lv_iadd hx hb dX3_addLeans_48 ?_
            refine lv_dup2_11 hx hb dX3_addLeans_49 rfl rfl ?_
            obtain ⟨hq25, h⟩ := zk h
            refine z_iald hx hb hK hM h23 hq25 dX3_addLeans_50 ?_
            refine lv_aload_n hx hb dX3_addLeans_51 rfl (lv_at hl 2 rfl) ?_
            obtain ⟨hq27, h⟩ := zk h
            refine z_getN hx hb hg zin_1 hown hK hM h5 0 rfl (by decide) (hg _ zw_92) (fun _ h9 => h9) hq27 dX3_addLeans_52 (fun h26 => ?_)
            refine lv_iload hx hb dX3_addLeans_55 (lv_at hl 5 rfl) ?_
            obtain ⟨hq28, h⟩ := zk h
            refine z_iald hx hb hK hM h26 hq28 dX3_addLeans_57 ?_
            refine lv_iload_n hx hb dX3_addLeans_58 rfl (lv_at hl 4 rfl) ?_
            refine lv_isub hx hb dX3_addLeans_59 ?_
            refine lv_iadd hx hb dX3_addLeans_60 ?_
            obtain ⟨hq29, h⟩ := zk h
            refine z_iast hx hb hK hM hS h23 hq29 dX3_addLeans_61 (fun H locs hM hS => ?_)
            obtain ⟨S30, e31, h⟩ := zlg h
            rw [← e31] at hM
            have hX32 : zX S7 S30 := by rw [e31]; exact zX_pI
            have h33 := h4.mo hX32
            have h34 := h5.mo hX32
            have hX35 := hX8.tr hX32
            refine lv_iinc (v := (x6 + (1 : Int32))) (lv' := [(4, .int (x6 + (1 : Int32))), (5, .int (zi S7 (zr S7 a1 1) (Int32.toNatClampNeg x6))), (0, .ref (B + a0)), (1, .ref (B + a1)), (2, .int v2), (3, .int v3)]) hx hb dX3_addLeans_62 hl (k := 5) rfl rfl (by decide) rfl (fun ls hl => ?_)
            refine lv_goto (tgt := 3) hx hb dX3_addLeans_65 (by decide) ?_
            exact ih3 (x6 + (1 : Int32)) S30 _ _ hM hX35 hS h33 h34 _ (lv_sub hl [2, 3, 4, 5, 0] rfl) h
  exact hL3 n (0 : Int32) S0 _ _ hM hX0 hS ha0 ha1 _ (lv_sub hl [1, 2, 3, 4, 0] rfl) h
def f_X3_takeFrom_L81b (n : Nat) (a0 : Nat) (a1 : Nat) (K19 : zM → Option (zM)) (rec81 : Int32 → zM → Option (zM)) (x22 : Int32) (S23 : zM) : Option (zM) :=
  if (zi S23 a1 7) ≤ x22 then K19 S23 else zB1 (f_X9_diveAt S23 a1 x22) (fun r27 => if r27 = 0 then rec81 (x22 + (1 : Int32)) S23 else zChk (¬ (zr S23 a1 11) = 0) (zB1 (f_X5_gather n S23 (zr S23 a1 11) r27) (fun S35 => zB1 (f_X9_landOf S35 a1 r27) (fun r43 => zChk (¬ (zr S35 a1 11) = 0) (zB1 (f_X5_middle S35 (zr S35 a1 11)) (fun r49 => zB1 (f_X3_addLeans n S35 a0 r27 r43 r49) (fun S53 => rec81 (x22 + (1 : Int32)) S53)))))))
def f_X3_takeFrom_L81 (n : Nat) (a0 : Nat) (a1 : Nat) (K19 : zM → Option (zM)) : Nat → Int32 → zM → Option (zM)
  | 0 => fun _ _ => none
  | k + 1 => fun x22 S23 => f_X3_takeFrom_L81b n a0 a1 K19 (f_X3_takeFrom_L81 n a0 a1 K19 k) x22 S23
def f_X3_takeFrom_L60b (a0 : Nat) (K16 : zM → Option (zM)) (rec60 : Int32 → zM → Option (zM)) (x61 : Int32) (S62 : zM) : Option (zM) :=
  if (72 : Int32) ≤ x61 then K16 S62 else zChk (¬ (zr S62 a0 5) = 0) (zChk (¬ (x61 < 0 ∨ zln S62 (zr S62 a0 5) ≤ (x61).toNatClampNeg)) (zLet (zpI S62 (zr S62 a0 5) (Int32.toNatClampNeg x61) (0 : Int32)) (fun S68 => rec60 (x61 + (1 : Int32)) S68)))
def f_X3_takeFrom_L60 (a0 : Nat) (K16 : zM → Option (zM)) : Nat → Int32 → zM → Option (zM)
  | 0 => fun _ _ => none
  | k + 1 => fun x61 S62 => f_X3_takeFrom_L60b a0 K16 (f_X3_takeFrom_L60 a0 K16 k) x61 S62
def f_X3_takeFrom_L10b (n : Nat) (a0 : Nat) (a1 : Nat) (K11 : zM → Option (zM)) (rec10 : Int32 → zM → Option (zM)) (x76 : Int32) (S77 : zM) : Option (zM) :=
  if (12 : Int32) ≤ x76 then K11 S77 else zB1 (f_X9_judgeAt S77 a1 x76) (fun r81 => zChk (¬ (zr S77 a0 3) = 0) (zLet (fun (x89 : Int32) => zChk (¬ (x76 < 0 ∨ zln S77 (zr S77 a0 3) ≤ (x76).toNatClampNeg)) (zLet (zpI S77 (zr S77 a0 3) (Int32.toNatClampNeg x76) x89) (fun S93 => zChk (¬ (zr S93 a0 4) = 0) (zB1 (f_X9_hallsOf n S93 a1 x76) (fun r102 => zChk (¬ (x76 < 0 ∨ zln S93 (zr S93 a0 4) ≤ (x76).toNatClampNeg)) (zLet (zpI S93 (zr S93 a0 4) (Int32.toNatClampNeg x76) r102) (fun S106 => rec10 (x76 + (1 : Int32)) S106))))))) (fun K91 => if r81 = 0 then K91 (-4 : Int32) else K91 (zi S77 r81 2))))
def f_X3_takeFrom_L10 (n : Nat) (a0 : Nat) (a1 : Nat) (K11 : zM → Option (zM)) : Nat → Int32 → zM → Option (zM)
  | 0 => fun _ _ => none
  | k + 1 => fun x76 S77 => f_X3_takeFrom_L10b n a0 a1 K11 (f_X3_takeFrom_L10 n a0 a1 K11 k) x76 S77
def f_X3_takeFrom (n : Nat) (S0 : zM) (a0 : Nat) (a1 : Nat) : Option (zM) :=
  zLet (zpI S0 a0 2 (zi S0 a1 6)) (fun S1 => zLet (fun (S9 : zM) => zLet (fun (S14 : zM) => zLet (fun (S17 : zM) => some S17) (fun K19 => f_X3_takeFrom_L81 n a0 a1 K19 n (0 : Int32) S14)) (fun K16 => f_X3_takeFrom_L60 a0 K16 n (0 : Int32) S9)) (fun K11 => f_X3_takeFrom_L10 n a0 a1 K11 n (0 : Int32) S1))
set_option maxHeartbeats 4000000 in
set_option maxRecDepth 100000 in
theorem c_X3_takeFrom (l : Launch) (D : va_G) (cy : Nat → ClassId) (B : Nat) {n : Nat} {S0 : zM} {a0 : Nat} {a1 : Nat} {S' : zM} (ha0 : zA S0 a0 3) (ha1 : zA S0 a1 9) (h : f_X3_takeFrom n S0 a0 a1 = some S') : Met l yX3_takeFrom (zws yX3_takeFrom cX3_takeFrom 4 none) { frames := 3, cells := 0, slots := 0, locals := 64 } (zPc D cy B S0 [.ref (B + a0), .ref (B + a1)]) (zQv D cy B S0 S') 0 0 (fun q => B < q) := by
  refine Met.ofW (cc := cX3_takeFrom) (maxL := 4) (ret := none) (by decide) rfl ?_
  intro p e s m args below meth c s₁ Bd hml hv
  obtain ⟨rfl, hC, hM⟩ := hv
  obtain ⟨hx, hb, hr, hg, hown, hlk⟩ := z_open Bd
  have hK := hC.1
  have hS : va_S (fun q => B < q) s.heap s.heap [] := va_S.rf
  have hX0 : zX S0 S0 := zX.rf
  refine z_entry (vs := [.ref (B + a0), .ref (B + a1)]) (Nat.le_of_ble_eq_true rfl) (fun ls hl => ?_)
  have hl : lv_has ls 4 [(0, .ref (B + a0)), (1, .ref (B + a1))] := hl
  unfold f_X3_takeFrom at h
  refine lv_aload_n hx hb dX3_takeFrom_0 rfl (lv_at hl 0 rfl) ?_
  refine lv_aload_n hx hb dX3_takeFrom_1 rfl (lv_at hl 1 rfl) ?_
  refine z_getI hx hb hg zin_9 hown hK hM ha1 6 rfl (by decide) (hg _ zw_134) (fun _ h9 => h9) dX3_takeFrom_2 ?_
  refine z_putI hx hb hg zin_3 tyX3 tyX3_ok nmX3 hown hK hM hS ha0 2 rfl (by decide) (hg _ zw_198) (fun x9 h9 => u_same (hg _ zw_199) x9 h9) (Or.inl rfl) (tyX3_ok 2 (by decide)) rfl rfl dX3_takeFrom_5 (fun H locs hM hS => ?_)
  obtain ⟨S1, e2, h⟩ := zlg h
  rw [← e2] at hM
  have hX3 : zX S0 S1 := by rw [e2]; exact zX_pI
  have h4 := ha0.mo hX3
  have h5 := ha1.mo hX3
  have hX6 := hX0.tr hX3
  refine lv_iconst (v := (0 : Int32)) hx hb dX3_takeFrom_8 (by decide +kernel) ?_
  refine lv_istore_n (i := 2) (lv' := [(2, .int (0 : Int32)), (0, .ref (B + a0)), (1, .ref (B + a1))]) hx hb dX3_takeFrom_9 rfl hl (by decide) rfl (fun ls hl => ?_)
  obtain ⟨K11, eK11, h⟩ := zlg h
  have hK11 : ∀ (S9 : zM) (H : Heap) (locs : List Loc), zMR D cy B S9 H → zX S0 S9 → va_S (fun q => B < q) s.heap H locs → zA S9 a0 3 → zA S9 a1 9 → ∀ ls : Array Slot, lv_has ls 4 [(0, .ref (B + a0)), (1, .ref (B + a1))] → K11 S9 = some S' → W p l e (headSpec (zws yX3_takeFrom cX3_takeFrom 4 none) { frames := 3, cells := 0, slots := 0, locals := 64 }).room s m (([.ref (B + a0), .ref (B + a1)] : List Value).toArray) below meth c H locs 0 0 (MQ below (zQv D cy B S0 S') (([.ref (B + a0), .ref (B + a1)] : List Value).toArray) s 0 0 (fun q => B < q)) (F0 m 58 ls []) := by
    intro S9 H locs hM hX10 hS h7 h8 ls hl h
    rw [eK11] at h
    refine lv_iconst (v := (0 : Int32)) hx hb dX3_takeFrom_58 (by decide +kernel) ?_
    refine lv_istore_n (i := 2) (lv' := [(2, .int (0 : Int32)), (0, .ref (B + a0)), (1, .ref (B + a1))]) hx hb dX3_takeFrom_59 rfl hl (by decide) rfl (fun ls hl => ?_)
    obtain ⟨K16, eK16, h⟩ := zlg h
    have hK16 : ∀ (S14 : zM) (H : Heap) (locs : List Loc), zMR D cy B S14 H → zX S0 S14 → va_S (fun q => B < q) s.heap H locs → zA S14 a0 3 → zA S14 a1 9 → ∀ ls : Array Slot, lv_has ls 4 [(0, .ref (B + a0)), (1, .ref (B + a1))] → K16 S14 = some S' → W p l e (headSpec (zws yX3_takeFrom cX3_takeFrom 4 none) { frames := 3, cells := 0, slots := 0, locals := 64 }).room s m (([.ref (B + a0), .ref (B + a1)] : List Value).toArray) below meth c H locs 0 0 (MQ below (zQv D cy B S0 S') (([.ref (B + a0), .ref (B + a1)] : List Value).toArray) s 0 0 (fun q => B < q)) (F0 m 79 ls []) := by
      intro S14 H locs hM hX15 hS h12 h13 ls hl h
      rw [eK16] at h
      refine lv_iconst (v := (0 : Int32)) hx hb dX3_takeFrom_79 (by decide +kernel) ?_
      refine lv_istore_n (i := 2) (lv' := [(2, .int (0 : Int32)), (0, .ref (B + a0)), (1, .ref (B + a1))]) hx hb dX3_takeFrom_80 rfl hl (by decide) rfl (fun ls hl => ?_)
      obtain ⟨K19, eK19, h⟩ := zlg h
      have hK19 : ∀ (S17 : zM) (H : Heap) (locs : List Loc), zMR D cy B S17 H → zX S0 S17 → va_S (fun q => B < q) s.heap H locs → ∀ ls : Array Slot, lv_has ls 4 [] → K19 S17 = some S' → W p l e (headSpec (zws yX3_takeFrom cX3_takeFrom 4 none) { frames := 3, cells := 0, slots := 0, locals := 64 }).room s m (([.ref (B + a0), .ref (B + a1)] : List Value).toArray) below meth c H locs 0 0 (MQ below (zQv D cy B S0 S') (([.ref (B + a0), .ref (B + a1)] : List Value).toArray) s 0 0 (fun q => B < q)) (F0 m 130 ls []) := by
        intro S17 H locs hM hX18 hS ls hl h
        rw [eK19] at h
        exact z_vret hx hb hr hlk hM hX18 hS (zsm h) dX3_takeFrom_130
      have hL81 : ∀ (k : Nat) (x22 : Int32) (S23 : zM) (H : Heap) (locs : List Loc), zMR D cy B S23 H → zX S0 S23 → va_S (fun q => B < q) s.heap H locs → zA S23 a0 3 → zA S23 a1 9 → ∀ ls : Array Slot, lv_has ls 4 [(0, .ref (B + a0)), (1, .ref (B + a1)), (2, .int x22)] → f_X3_takeFrom_L81 n a0 a1 K19 k x22 S23 = some S' → W p l e (headSpec (zws yX3_takeFrom cX3_takeFrom 4 none) { frames := 3, cells := 0, slots := 0, locals := 64 }).room s m (([.ref (B + a0), .ref (B + a1)] : List Value).toArray) below meth c H locs 0 0 (MQ below (zQv D cy B S0 S') (([.ref (B + a0), .ref (B + a1)] : List Value).toArray) s 0 0 (fun q => B < q)) (F0 m 81 ls []) := by
        intro k
        induction k with
        | zero =>
          intro x22 S23 H locs hM hX24 hS h20 h21 ls hl h
          exact znone h
        | succ k ih81 =>
          intro x22 S23 H locs hM hX24 hS h20 h21 ls hl h
          replace h : f_X3_takeFrom_L81b n a0 a1 K19 (f_X3_takeFrom_L81 n a0 a1 K19 k) x22 S23 = some S' := h
          generalize f_X3_takeFrom_L81 n a0 a1 K19 k = rec81 at ih81 h
          unfold f_X3_takeFrom_L81b at h
          refine lv_iload_n hx hb dX3_takeFrom_81 rfl (lv_at hl 2 rfl) ?_
          refine lv_aload_n hx hb dX3_takeFrom_82 rfl (lv_at hl 1 rfl) ?_
          refine z_getI hx hb hg zin_9 hown hK hM h21 7 rfl (by decide) (hg _ zw_138) (fun _ h9 => h9) dX3_takeFrom_83 ?_
          refine lv_icmp_ge (tgt := 130) hx hb dX3_takeFrom_86 (by decide) (fun hc25 => ?_) (fun hc25 => ?_)
          · have h := zt h hc25
            exact hK19 S23 _ _ hM hX24 hS _ (lv_sub hl [] rfl) h
          · have h := zf h hc25
            refine lv_aload_n hx hb dX3_takeFrom_89 rfl (lv_at hl 1 rfl) ?_
            refine lv_iload_n hx hb dX3_takeFrom_90 rfl (lv_at hl 2 rfl) ?_
            obtain ⟨r27, hr26, h⟩ := zb1 h
            refine z_runr (va_runV (As := [.int x22]) (rest := []) ⟨hx, hb, hml, hown, hg⟩ (c_X9_diveAt l D cy B h21 hr26) (z_cwV hg zw_695 zw_363 zw_364 zw_3 zw_365 zh_X9_diveAt ⟨(Nat.le_of_ble_eq_true rfl), (Nat.le_of_ble_eq_true rfl)⟩) (zPV hC hM h21 (by decide) rfl) rfl rfl hl.1 rfl (lv_room (Nat.le_of_ble_eq_true rfl)) dX3_takeFrom_91 ⟨(Nat.le_of_ble_eq_true rfl), (Nat.le_of_ble_eq_true rfl)⟩) hS (fun H locs hM hX28 h29 hS => ?_)
            refine z_astore_n (i := 3) (lv' := [(3, zv B r27), (0, .ref (B + a0)), (1, .ref (B + a1)), (2, .int x22)]) hx hb dX3_takeFrom_94 rfl hl (by decide) rfl (fun ls hl => ?_)
            refine z_aload_n hx hb dX3_takeFrom_95 rfl (lv_at hl 0 rfl) ?_
            refine z_ifnull (tgt := 124) hx hb dX3_takeFrom_96 (by decide) (fun hc30 => ?_) (fun hc30 => ?_)
            · have h := zt h hc30
              refine lv_iinc (v := (x22 + (1 : Int32))) (lv' := [(2, .int (x22 + (1 : Int32))), (3, zv B r27), (0, .ref (B + a0)), (1, .ref (B + a1))]) hx hb dX3_takeFrom_124 hl (k := 3) rfl rfl (by decide) rfl (fun ls hl => ?_)
              refine lv_goto (tgt := 81) hx hb dX3_takeFrom_127 (by decide) ?_
              exact ih81 (x22 + (1 : Int32)) S23 _ _ hM hX24 hS h20 h21 _ (lv_sub hl [2, 3, 0] rfl) h
            · have h31 := h29.nn hc30
              have h := zf h hc30
              refine lv_aload_n hx hb dX3_takeFrom_99 rfl (lv_at hl 2 rfl) ?_
              obtain ⟨hq33, h⟩ := zk h
              refine z_getN hx hb hg zin_9 hown hK hM h21 11 rfl (by decide) (hg _ zw_146) (fun _ h9 => h9) hq33 dX3_takeFrom_100 (fun h32 => ?_)
              refine z_aloadR_n hx hb dX3_takeFrom_103 rfl (lv_at hl 0 rfl) h31.1 ?_
              obtain ⟨S35, hr34, h⟩ := zb1 h
              refine z_runv (va_runV (As := [.ref (B + r27)]) (rest := []) ⟨hx, hb, hml, hown, hg⟩ (c_X5_gather l D cy B h32 h31 hr34) (z_cwV hg zw_696 zw_546 zw_547 zw_5 zw_548 zh_X5_gather ⟨(Nat.le_of_ble_eq_true rfl), (Nat.le_of_ble_eq_true rfl)⟩) (zPV hC hM h32 (by decide) rfl) rfl rfl hl.1 rfl (lv_room (Nat.le_of_ble_eq_true rfl)) dX3_takeFrom_104 ⟨(Nat.le_of_ble_eq_true rfl), (Nat.le_of_ble_eq_true rfl)⟩) hS (fun H locs hM hX36 hS => ?_)
              have h38 := h20.mo hX36
              have h39 := h21.mo hX36
              have h40 := h31.mo hX36
              have hX41 := hX24.tr hX36
              refine lv_aload_n hx hb dX3_takeFrom_107 rfl (lv_at hl 1 rfl) ?_
              refine z_aloadR_n hx hb dX3_takeFrom_108 rfl (lv_at hl 0 rfl) h40.1 ?_
              refine lv_aload_n hx hb dX3_takeFrom_109 rfl (lv_at hl 2 rfl) ?_
              refine z_aloadR_n hx hb dX3_takeFrom_110 rfl (lv_at hl 0 rfl) h40.1 ?_
              obtain ⟨r43, hr42, h⟩ := zb1 h
              refine z_runi (va_runV (As := [.ref (B + r27)]) (rest := [.ref (B + r27), .ref (B + a0)]) ⟨hx, hb, hml, hown, hg⟩ (c_X9_landOf l D cy B h39 h40 hr42) (z_cwV hg zw_697 zw_415 zw_416 zw_3 zw_417 zh_X9_landOf ⟨(Nat.le_of_ble_eq_true rfl), (Nat.le_of_ble_eq_true rfl)⟩) (zPV hC hM h39 (by decide) rfl) rfl rfl hl.1 rfl (lv_room (Nat.le_of_ble_eq_true rfl)) dX3_takeFrom_111 ⟨(Nat.le_of_ble_eq_true rfl), (Nat.le_of_ble_eq_true rfl)⟩) hS (fun H locs hM hX44 hS => ?_)
              refine lv_aload_n hx hb dX3_takeFrom_114 rfl (lv_at hl 2 rfl) ?_
              obtain ⟨hq47, h⟩ := zk h
              refine z_getN hx hb hg zin_9 hown hK hM h39 11 rfl (by decide) (hg _ zw_146) (fun _ h9 => h9) hq47 dX3_takeFrom_115 (fun h46 => ?_)
              obtain ⟨r49, hr48, h⟩ := zb1 h
              refine z_runi (va_runV (As := []) (rest := [.int r43, .ref (B + r27), .ref (B + a0)]) ⟨hx, hb, hml, hown, hg⟩ (c_X5_middle l D cy B h46 hr48) (z_cwV hg zw_698 zw_434 zw_435 zw_5 zw_436 zh_X5_middle ⟨(Nat.le_of_ble_eq_true rfl), (Nat.le_of_ble_eq_true rfl)⟩) (zPV hC hM h46 (by decide) rfl) rfl rfl hl.1 rfl (lv_room (Nat.le_of_ble_eq_true rfl)) dX3_takeFrom_118 ⟨(Nat.le_of_ble_eq_true rfl), (Nat.le_of_ble_eq_true rfl)⟩) hS (fun H locs hM hX50 hS => ?_)
              obtain ⟨S53, hr52, h⟩ := zb1 h
              refine z_runv (va_runV (As := [.ref (B + r27), .int r43, .int r49]) (rest := []) ⟨hx, hb, hml, hown, hg⟩ (c_X3_addLeans l D cy B h38 h40 hr52) (z_cwV hg zw_699 zw_700 zw_1479 zw_10 zw_701 zh_X3_addLeans ⟨(Nat.le_of_ble_eq_true rfl), (Nat.le_of_ble_eq_true rfl)⟩) (zPV hC hM h38 (by decide) rfl) rfl rfl hl.1 rfl (lv_room (Nat.le_of_ble_eq_true rfl)) dX3_takeFrom_121 ⟨(Nat.le_of_ble_eq_true rfl), (Nat.le_of_ble_eq_true rfl)⟩) hS (fun H locs hM hX54 hS => ?_)
              have h56 := h38.mo hX54
              have h57 := h39.mo hX54
              have hX58 := hX41.tr hX54
              refine lv_iinc (v := (x22 + (1 : Int32))) (lv' := [(2, .int (x22 + (1 : Int32))), (3, zv B r27), (0, .ref (B + a0)), (1, .ref (B + a1))]) hx hb dX3_takeFrom_124 hl (k := 3) rfl rfl (by decide) rfl (fun ls hl => ?_)
              refine lv_goto (tgt := 81) hx hb dX3_takeFrom_127 (by decide) ?_
              exact ih81 (x22 + (1 : Int32)) S53 _ _ hM hX58 hS h56 h57 _ (lv_sub hl [2, 3, 0] rfl) h
      exact hL81 n (0 : Int32) S14 _ _ hM hX15 hS h12 h13 _ (lv_sub hl [1, 2, 0] rfl) h
    have hL60 : ∀ (k : Nat) (x61 : Int32) (S62 : zM) (H : Heap) (locs : List Loc), zMR D cy B S62 H → zX S0 S62 → va_S (fun q => B < q) s.heap H locs → zA S62 a0 3 → zA S62 a1 9 → ∀ ls : Array Slot, lv_has ls 4 [(0, .ref (B + a0)), (1, .ref (B + a1)), (2, .int x61)] → f_X3_takeFrom_L60 a0 K16 k x61 S62 = some S' → W p l e (headSpec (zws yX3_takeFrom cX3_takeFrom 4 none) { frames := 3, cells := 0, slots := 0, locals := 64 }).room s m (([.ref (B + a0), .ref (B + a1)] : List Value).toArray) below meth c H locs 0 0 (MQ below (zQv D cy B S0 S') (([.ref (B + a0), .ref (B + a1)] : List Value).toArray) s 0 0 (fun q => B < q)) (F0 m 60 ls []) := by
      intro k
      induction k with
      | zero =>
        intro x61 S62 H locs hM hX63 hS h59 h60 ls hl h
        exact znone h
      | succ k ih60 =>
        intro x61 S62 H locs hM hX63 hS h59 h60 ls hl h
        replace h : f_X3_takeFrom_L60b a0 K16 (f_X3_takeFrom_L60 a0 K16 k) x61 S62 = some S' := h
        generalize f_X3_takeFrom_L60 a0 K16 k = rec60 at ih60 h
        unfold f_X3_takeFrom_L60b at h
        refine lv_iload_n hx hb dX3_takeFrom_60 rfl (lv_at hl 2 rfl) ?_
        refine lv_bipush (v := (72 : Int32)) hx hb dX3_takeFrom_61 (by decide +kernel) ?_
        refine lv_icmp_ge (tgt := 79) hx hb dX3_takeFrom_63 (by decide) (fun hc64 => ?_) (fun hc64 => ?_)
        · have h := zt h hc64
          exact hK16 S62 _ _ hM hX63 hS h59 h60 _ (lv_sub hl [0, 1] rfl) h
        · have h := zf h hc64
          refine lv_aload_n hx hb dX3_takeFrom_66 rfl (lv_at hl 0 rfl) ?_
          obtain ⟨hq66, h⟩ := zk h
          refine z_getN hx hb hg zin_3 hown hK hM h59 5 rfl (by decide) (hg _ zw_215) (fun _ h9 => h9) hq66 dX3_takeFrom_67 (fun h65 => ?_)
          refine lv_iload_n hx hb dX3_takeFrom_70 rfl (lv_at hl 2 rfl) ?_
          refine lv_iconst (v := (0 : Int32)) hx hb dX3_takeFrom_71 (by decide +kernel) ?_
          obtain ⟨hq67, h⟩ := zk h
          refine z_iast hx hb hK hM hS h65 hq67 dX3_takeFrom_72 (fun H locs hM hS => ?_)
          obtain ⟨S68, e69, h⟩ := zlg h
          rw [← e69] at hM
          have hX70 : zX S62 S68 := by rw [e69]; exact zX_pI
          have h71 := h59.mo hX70
          have h72 := h60.mo hX70
          have hX73 := hX63.tr hX70
          refine lv_iinc (v := (x61 + (1 : Int32))) (lv' := [(2, .int (x61 + (1 : Int32))), (0, .ref (B + a0)), (1, .ref (B + a1))]) hx hb dX3_takeFrom_73 hl (k := 2) rfl rfl (by decide) rfl (fun ls hl => ?_)
          refine lv_goto (tgt := 60) hx hb dX3_takeFrom_76 (by decide) ?_
          exact ih60 (x61 + (1 : Int32)) S68 _ _ hM hX73 hS h71 h72 _ (lv_sub hl [1, 2, 0] rfl) h
    exact hL60 n (0 : Int32) S9 _ _ hM hX10 hS h7 h8 _ (lv_sub hl [1, 2, 0] rfl) h
  have hL10 : ∀ (k : Nat) (x76 : Int32) (S77 : zM) (H : Heap) (locs : List Loc), zMR D cy B S77 H → zX S0 S77 → va_S (fun q => B < q) s.heap H locs → zA S77 a0 3 → zA S77 a1 9 → ∀ ls : Array Slot, lv_has ls 4 [(0, .ref (B + a0)), (1, .ref (B + a1)), (2, .int x76)] → f_X3_takeFrom_L10 n a0 a1 K11 k x76 S77 = some S' → W p l e (headSpec (zws yX3_takeFrom cX3_takeFrom 4 none) { frames := 3, cells := 0, slots := 0, locals := 64 }).room s m (([.ref (B + a0), .ref (B + a1)] : List Value).toArray) below meth c H locs 0 0 (MQ below (zQv D cy B S0 S') (([.ref (B + a0), .ref (B + a1)] : List Value).toArray) s 0 0 (fun q => B < q)) (F0 m 10 ls []) := by
    intro k
    induction k with
    | zero =>
      intro x76 S77 H locs hM hX78 hS h74 h75 ls hl h
      exact znone h
    | succ k ih10 =>
      intro x76 S77 H locs hM hX78 hS h74 h75 ls hl h
      replace h : f_X3_takeFrom_L10b n a0 a1 K11 (f_X3_takeFrom_L10 n a0 a1 K11 k) x76 S77 = some S' := h
      generalize f_X3_takeFrom_L10 n a0 a1 K11 k = rec10 at ih10 h
      unfold f_X3_takeFrom_L10b at h
      refine lv_iload_n hx hb dX3_takeFrom_10 rfl (lv_at hl 2 rfl) ?_
      refine lv_bipush (v := (12 : Int32)) hx hb dX3_takeFrom_11 (by decide +kernel) ?_
      refine lv_icmp_ge (tgt := 58) hx hb dX3_takeFrom_13 (by decide) (fun hc79 => ?_) (fun hc79 => ?_)
      · have h := zt h hc79
        exact hK11 S77 _ _ hM hX78 hS h74 h75 _ (lv_sub hl [0, 1] rfl) h
      · have h := zf h hc79
        refine lv_aload_n hx hb dX3_takeFrom_16 rfl (lv_at hl 1 rfl) ?_
        refine lv_iload_n hx hb dX3_takeFrom_17 rfl (lv_at hl 2 rfl) ?_
        obtain ⟨r81, hr80, h⟩ := zb1 h
        refine z_runr (va_runV (As := [.int x76]) (rest := []) ⟨hx, hb, hml, hown, hg⟩ (c_X9_judgeAt l D cy B h75 hr80) (z_cwV hg zw_690 zw_398 zw_399 zw_3 zw_400 zh_X9_judgeAt ⟨(Nat.le_of_ble_eq_true rfl), (Nat.le_of_ble_eq_true rfl)⟩) (zPV hC hM h75 (by decide) rfl) rfl rfl hl.1 rfl (lv_room (Nat.le_of_ble_eq_true rfl)) dX3_takeFrom_18 ⟨(Nat.le_of_ble_eq_true rfl), (Nat.le_of_ble_eq_true rfl)⟩) hS (fun H locs hM hX82 h83 hS => ?_)
        refine z_astore_n (i := 3) (lv' := [(3, zv B r81), (0, .ref (B + a0)), (1, .ref (B + a1)), (2, .int x76)]) hx hb dX3_takeFrom_21 rfl hl (by decide) rfl (fun ls hl => ?_)
        refine lv_aload_n hx hb dX3_takeFrom_22 rfl (lv_at hl 1 rfl) ?_
        obtain ⟨hq85, h⟩ := zk h
        refine z_getN hx hb hg zin_3 hown hK hM h74 3 rfl (by decide) (hg _ zw_213) (fun _ h9 => h9) hq85 dX3_takeFrom_23 (fun h84 => ?_)
        refine lv_iload_n hx hb dX3_takeFrom_26 rfl (lv_at hl 3 rfl) ?_
        refine z_aload_n hx hb dX3_takeFrom_27 rfl (lv_at hl 0 rfl) ?_
        obtain ⟨K91, eK91, h⟩ := zlg h
        have hK91 : ∀ (x89 : Int32) (H : Heap) (locs : List Loc), zMR D cy B S77 H → zX S0 S77 → va_S (fun q => B < q) s.heap H locs → zA S77 a0 3 → zA S77 a1 9 → zA S77 (zr S77 a0 3) 20 → ∀ ls : Array Slot, lv_has ls 4 [(0, .ref (B + a0)), (1, .ref (B + a1)), (2, .int x76)] → K91 x89 = some S' → W p l e (headSpec (zws yX3_takeFrom cX3_takeFrom 4 none) { frames := 3, cells := 0, slots := 0, locals := 64 }).room s m (([.ref (B + a0), .ref (B + a1)] : List Value).toArray) below meth c H locs 0 0 (MQ below (zQv D cy B S0 S') (([.ref (B + a0), .ref (B + a1)] : List Value).toArray) s 0 0 (fun q => B < q)) (F0 m 40 ls [.int x89, .int x76, .ref (B + (zr S77 a0 3))]) := by
          intro x89 H locs hM hX90 hS h86 h87 h88 ls hl h
          rw [eK91] at h
          obtain ⟨hq92, h⟩ := zk h
          refine z_iast hx hb hK hM hS h88 hq92 dX3_takeFrom_40 (fun H locs hM hS => ?_)
          obtain ⟨S93, e94, h⟩ := zlg h
          rw [← e94] at hM
          have hX95 : zX S77 S93 := by rw [e94]; exact zX_pI
          have h96 := h86.mo hX95
          have h97 := h87.mo hX95
          have hX98 := hX90.tr hX95
          refine lv_aload_n hx hb dX3_takeFrom_41 rfl (lv_at hl 0 rfl) ?_
          obtain ⟨hq100, h⟩ := zk h
          refine z_getN hx hb hg zin_3 hown hK hM h96 4 rfl (by decide) (hg _ zw_214) (fun _ h9 => h9) hq100 dX3_takeFrom_42 (fun h99 => ?_)
          refine lv_iload_n hx hb dX3_takeFrom_45 rfl (lv_at hl 2 rfl) ?_
          refine lv_aload_n hx hb dX3_takeFrom_46 rfl (lv_at hl 1 rfl) ?_
          refine lv_iload_n hx hb dX3_takeFrom_47 rfl (lv_at hl 2 rfl) ?_
          obtain ⟨r102, hr101, h⟩ := zb1 h
          refine z_runi (va_runV (As := [.int x76]) (rest := [.int x76, .ref (B + (zr S93 a0 4))]) ⟨hx, hb, hml, hown, hg⟩ (c_X9_hallsOf l D cy B h97 hr101) (z_cwV hg zw_691 zw_692 zw_693 zw_3 zw_694 zh_X9_hallsOf ⟨(Nat.le_of_ble_eq_true rfl), (Nat.le_of_ble_eq_true rfl)⟩) (zPV hC hM h97 (by decide) rfl) rfl rfl hl.1 rfl (lv_room (Nat.le_of_ble_eq_true rfl)) dX3_takeFrom_48 ⟨(Nat.le_of_ble_eq_true rfl), (Nat.le_of_ble_eq_true rfl)⟩) hS (fun H locs hM hX103 hS => ?_)
          obtain ⟨hq105, h⟩ := zk h
          refine z_iast hx hb hK hM hS h99 hq105 dX3_takeFrom_51 (fun H locs hM hS => ?_)
          obtain ⟨S106, e107, h⟩ := zlg h
          rw [← e107] at hM
          have hX108 : zX S93 S106 := by rw [e107]; exact zX_pI
          have h109 := h96.mo hX108
          have h110 := h97.mo hX108
          have hX111 := hX98.tr hX108
          refine lv_iinc (v := (x76 + (1 : Int32))) (lv' := [(2, .int (x76 + (1 : Int32))), (0, .ref (B + a0)), (1, .ref (B + a1))]) hx hb dX3_takeFrom_52 hl (k := 2) rfl rfl (by decide) rfl (fun ls hl => ?_)
          refine lv_goto (tgt := 10) hx hb dX3_takeFrom_55 (by decide) ?_
          exact ih10 (x76 + (1 : Int32)) S106 _ _ hM hX111 hS h109 h110 _ (lv_sub hl [1, 2, 0] rfl) h
        refine z_ifnonnull (tgt := 36) hx hb dX3_takeFrom_28 (by decide) (fun hc112 => ?_) (fun hc112 => ?_)
        · have h113 := h83.nn hc112
          have h := zf h hc112
          refine z_aloadR_n hx hb dX3_takeFrom_36 rfl (lv_at hl 0 rfl) h113.1 ?_
          refine z_getI hx hb hg zin_2 hown hK hM h113 2 rfl (by decide) (hg _ zw_315) (fun _ h9 => h9) dX3_takeFrom_37 ?_
          exact hK91 (zi S77 r81 2) _ _ hM hX78 hS h74 h75 h84 _ (lv_sub hl [1, 2, 3] rfl) h
        · have h := zt h hc112
          refine lv_bipush (v := (-4 : Int32)) hx hb dX3_takeFrom_31 (by decide +kernel) ?_
          refine lv_goto (tgt := 40) hx hb dX3_takeFrom_33 (by decide) ?_
          exact hK91 (-4 : Int32) _ _ hM hX78 hS h74 h75 h84 _ (lv_sub hl [1, 2, 3] rfl) h
  exact hL10 n (0 : Int32) S1 _ _ hM hX6 hS h4 h5 _ (lv_sub hl [1, 2, 0] rfl) h
def f_X4_init (S0 : zM) (a0 : Nat) : zM :=
  zLet (f_X0O_init S0 a0) (fun S2 => zLet (znw S2 20 40) (fun S7 => zLet (zpR S7 a0 3 (zsz S2)) (fun S13 => S13)))
set_option maxHeartbeats 4000000 in
set_option maxRecDepth 100000 in
theorem c_X4_init (l : Launch) (D : va_G) (cy : Nat → ClassId) (B : Nat) {S0 : zM} {a0 : Nat} {S' : zM} (ha0 : zA S0 a0 4) (h : f_X4_init S0 a0 = S') : Met l yX4_init (zws yX4_init cX4_init 1 none) { frames := 2, cells := 2, slots := 47, locals := 40 } (zPc D cy B S0 [.ref (B + a0)]) (zQv D cy B S0 S') 2 47 (fun q => B < q) := by
  refine Met.ofW (cc := cX4_init) (maxL := 1) (ret := none) (by decide) rfl ?_
  intro p e s m args below meth c s₁ Bd hml hv
  obtain ⟨rfl, hC, hM⟩ := hv
  obtain ⟨hx, hb, hr, hg, hown, hlk⟩ := z_open Bd
  have hK := hC.1
  have hin : meth.name = "<init>" := (name_of_methodNamed Bd.named Bd.method).1
  have hS : va_S (fun q => B < q) s.heap s.heap [] := va_S.rf
  have hX0 : zX S0 S0 := zX.rf
  refine z_entry (vs := [.ref (B + a0)]) (Nat.le_of_ble_eq_true rfl) (fun ls hl => ?_)
  have hl : lv_has ls 1 [(0, .ref (B + a0))] := hl
  unfold f_X4_init at h
  refine lv_aload_n hx hb dX4_init_0 rfl (lv_at hl 0 rfl) ?_
  obtain ⟨S2, hr1, h⟩ := zlg h
  have hr1 := hr1.symm
  refine z_runv (va_runIN (As := []) (rest := []) ⟨hx, hb, hml, hown, hg⟩ (c_X0O_init l D cy B ha0 hr1) ⟨z_cnB hg hC (List.mem_of_getElem? (i := 4) rfl) zw_8 zw_191 zh_X0_init.2 ⟨(Nat.le_of_ble_eq_true rfl), (Nat.le_of_ble_eq_true rfl)⟩, rfl, hg _ zw_190⟩ (zPS hC hM) rfl rfl hl.1 rfl (lv_room (Nat.le_of_ble_eq_true rfl)) dX4_init_1 ⟨(Nat.le_of_ble_eq_true rfl), (Nat.le_of_ble_eq_true rfl)⟩) hS (fun H locs hM hX3 hS => ?_)
  refine W.widen (k := 1) (n := 7) (Nat.le_refl _) (Nat.le_refl _) ?_
  have h5 := ha0.mo hX3
  have hX6 := hX0.tr hX3
  refine lv_aload_n hx hb dX4_init_4 rfl (lv_at hl 0 rfl) ?_
  refine lv_bipush (v := (40 : Int32)) hx hb dX4_init_5 (by decide +kernel) ?_
  refine z_newa (atype := .int) hx hb (hg _ zw_66) hK hM hS 20 (by decide) rfl (N := 40) (by decide +kernel) (by decide +kernel) (by decide +kernel) (Nat.le_of_ble_eq_true rfl) (Nat.le_of_ble_eq_true rfl) dX4_init_7 (fun H hM hA hX hS => ?_)
  obtain ⟨S7, e8, h⟩ := zlg h
  rw [← e8] at hM hA hX
  have hX9 := hX
  have h10 := hA
  have h11 := h5.mo hX9
  have hX12 := hX6.tr hX9
  refine W.widen (k := 2) (n := 47) (Nat.le_refl _) (Nat.le_refl _) ?_
  refine z_putR (r := (zsz S2)) hx hb hg zin_4 tyX4 tyX4_ok nmX4 hown hK hM hS h11 3 rfl (by decide) (hg _ zw_193) (fun _ h9 => h9) (Or.inr ⟨rfl, hin, rfl⟩) (zv_ref h10.1).symm (tyX4_ok 3 (by decide)) (Or.inr ⟨_, rfl⟩) (h10.q) dX4_init_9 (fun H locs hM hS => ?_)
  obtain ⟨S13, e14, h⟩ := zlg h
  rw [← e14] at hM
  have hX15 : zX S7 S13 := by rw [e14]; exact zX_pR
  have hX16 := hX12.tr hX15
  refine W.widen (k := 2) (n := 47) (by omega) (by omega) ?_
  exact z_vret hx hb hr hlk hM hX16 hS h dX4_init_12
def f_X6_isWorking (v0 : Int32) : Int32 :=
  if v0 = (42 : Int32) then (1 : Int32) else if v0 = (43 : Int32) then (1 : Int32) else if v0 = (45 : Int32) then (1 : Int32) else if v0 = (47 : Int32) then (1 : Int32) else if v0 = (91 : Int32) then (1 : Int32) else if v0 = (123 : Int32) then (1 : Int32) else (0 : Int32)
set_option maxHeartbeats 4000000 in
set_option maxRecDepth 100000 in
theorem c_X6_isWorking (l : Launch) (D : va_G) (cy : Nat → ClassId) (B : Nat) {S0 : zM} {v0 : Int32} {r : Int32}  (h : f_X6_isWorking v0 = r) : Met l yX6_isWorking (zws yX6_isWorking cX6_isWorking 1 ((some .boolean))) { frames := 0, cells := 0, slots := 0, locals := 0 } (zPc D cy B S0 [.int v0]) (zQi D cy B S0 r S0) 0 0 (fun q => B < q) := by
  refine Met.ofW (cc := cX6_isWorking) (maxL := 1) (ret := ((some .boolean))) (by decide) rfl ?_
  intro p e s m args below meth c s₁ Bd hml hv
  obtain ⟨rfl, hC, hM⟩ := hv
  obtain ⟨hx, hb, hr, hg, hown, hlk⟩ := z_open Bd
  have hK := hC.1
  have hS : va_S (fun q => B < q) s.heap s.heap [] := va_S.rf
  have hX0 : zX S0 S0 := zX.rf
  refine z_entry (vs := [.int v0]) (Nat.le_of_ble_eq_true rfl) (fun ls hl => ?_)
  have hl : lv_has ls 1 [(0, .int v0)] := hl
  unfold f_X6_isWorking at h
  refine lv_iload_n hx hb dX6_isWorking_0 rfl (lv_at hl 0 rfl) ?_
  by_cases hc1 : v0 = (42 : Int32)
  · refine z_lin (off := 59) hx hb hc1 dX6_isWorking_1 (by decide +kernel) (by decide +kernel) (tgt := 60) (by decide) ?_
    have h := zt h hc1
    refine lv_iconst (v := (1 : Int32)) hx hb dX6_isWorking_60 (by decide +kernel) ?_
    exact z_zret (by decide +kernel) hx hb hr hlk hM hX0 hS ⟨h, rfl⟩ dX6_isWorking_61
  · have h := zf h hc1
    by_cases hc2 : v0 = (43 : Int32)
    · refine z_lin (off := 59) hx hb hc2 dX6_isWorking_1 (by decide +kernel) (by decide +kernel) (tgt := 60) (by decide) ?_
      have h := zt h hc2
      refine lv_iconst (v := (1 : Int32)) hx hb dX6_isWorking_60 (by decide +kernel) ?_
      exact z_zret (by decide +kernel) hx hb hr hlk hM hX0 hS ⟨h, rfl⟩ dX6_isWorking_61
    · have h := zf h hc2
      by_cases hc3 : v0 = (45 : Int32)
      · refine z_lin (off := 59) hx hb hc3 dX6_isWorking_1 (by decide +kernel) (by decide +kernel) (tgt := 60) (by decide) ?_
        have h := zt h hc3
        refine lv_iconst (v := (1 : Int32)) hx hb dX6_isWorking_60 (by decide +kernel) ?_
        exact z_zret (by decide +kernel) hx hb hr hlk hM hX0 hS ⟨h, rfl⟩ dX6_isWorking_61
      · have h := zf h hc3
        by_cases hc4 : v0 = (47 : Int32)
        · refine z_lin (off := 59) hx hb hc4 dX6_isWorking_1 (by decide +kernel) (by decide +kernel) (tgt := 60) (by decide) ?_
          have h := zt h hc4
          refine lv_iconst (v := (1 : Int32)) hx hb dX6_isWorking_60 (by decide +kernel) ?_
          exact z_zret (by decide +kernel) hx hb hr hlk hM hX0 hS ⟨h, rfl⟩ dX6_isWorking_61
        · have h := zf h hc4
          by_cases hc5 : v0 = (91 : Int32)
          · refine z_lin (off := 59) hx hb hc5 dX6_isWorking_1 (by decide +kernel) (by decide +kernel) (tgt := 60) (by decide) ?_
            have h := zt h hc5
            refine lv_iconst (v := (1 : Int32)) hx hb dX6_isWorking_60 (by decide +kernel) ?_
            exact z_zret (by decide +kernel) hx hb hr hlk hM hX0 hS ⟨h, rfl⟩ dX6_isWorking_61
          · have h := zf h hc5
            by_cases hc6 : v0 = (123 : Int32)
            · refine z_lin (off := 59) hx hb hc6 dX6_isWorking_1 (by decide +kernel) (by decide +kernel) (tgt := 60) (by decide) ?_
              have h := zt h hc6
              refine lv_iconst (v := (1 : Int32)) hx hb dX6_isWorking_60 (by decide +kernel) ?_
              exact z_zret (by decide +kernel) hx hb hr hlk hM hX0 hS ⟨h, rfl⟩ dX6_isWorking_61
            · have h := zf h hc6
              refine lv_lookup hx hb dX6_isWorking_1 (by decide +kernel) (off := 61) (by show Op.lookupswitch.offset [(42, 59), (43, 59), (45, 59), (47, 59), (91, 59), (123, 59)] 61 _ = _; rw [lv_osw hc1 (by decide +kernel), lv_osw hc2 (by decide +kernel), lv_osw hc3 (by decide +kernel), lv_osw hc4 (by decide +kernel), lv_osw hc5 (by decide +kernel), lv_osw hc6 (by decide +kernel)]; rfl) (tgt := 62) (by decide) ?_
              refine lv_iconst (v := (0 : Int32)) hx hb dX6_isWorking_62 (by decide +kernel) ?_
              exact z_zret (by decide +kernel) hx hb hr hlk hM hX0 hS ⟨h, rfl⟩ dX6_isWorking_63
def f_X5_sumBetween_L5b (S0 : zM) (a0 : Nat) (v2 : Int32) (K3 : Int32 → Option (Int32)) (rec5 : Int32 → Int32 → Option (Int32)) (x5 : Int32) (x6 : Int32) : Option (Int32) :=
  if ((zi S0 a0 1) - v2) ≤ x6 then K3 x5 else zChk (¬ (zr S0 a0 0) = 0) (zChk (¬ (x6 < 0 ∨ zln S0 (zr S0 a0 0) ≤ (x6).toNatClampNeg)) (rec5 (x5 + (zi S0 (zr S0 a0 0) (Int32.toNatClampNeg x6))) (x6 + (1 : Int32))))
def f_X5_sumBetween_L5 (S0 : zM) (a0 : Nat) (v2 : Int32) (K3 : Int32 → Option (Int32)) : Nat → Int32 → Int32 → Option (Int32)
  | 0 => fun _ _ => none
  | k + 1 => fun x5 x6 => f_X5_sumBetween_L5b S0 a0 v2 K3 (f_X5_sumBetween_L5 S0 a0 v2 K3 k) x5 x6
def f_X5_sumBetween (n : Nat) (S0 : zM) (a0 : Nat) (v1 : Int32) (v2 : Int32) : Option (Int32) :=
  zLet (fun (x1 : Int32) => some x1) (fun K3 => f_X5_sumBetween_L5 S0 a0 v2 K3 n (0 : Int32) v1)
set_option maxHeartbeats 4000000 in
set_option maxRecDepth 100000 in
theorem c_X5_sumBetween (l : Launch) (D : va_G) (cy : Nat → ClassId) (B : Nat) {n : Nat} {S0 : zM} {a0 : Nat} {v1 : Int32} {v2 : Int32} {r : Int32} (ha0 : zA S0 a0 5) (h : f_X5_sumBetween n S0 a0 v1 v2 = some r) : Met l yX5_sumBetween (zws yX5_sumBetween cX5_sumBetween 5 ((some .int))) { frames := 0, cells := 0, slots := 0, locals := 0 } (zPc D cy B S0 [.ref (B + a0), .int v1, .int v2]) (zQi D cy B S0 r S0) 0 0 (fun q => B < q) := by
  refine Met.ofW (cc := cX5_sumBetween) (maxL := 5) (ret := ((some .int))) (by decide) rfl ?_
  intro p e s m args below meth c s₁ Bd hml hv
  obtain ⟨rfl, hC, hM⟩ := hv
  obtain ⟨hx, hb, hr, hg, hown, hlk⟩ := z_open Bd
  have hK := hC.1
  have hS : va_S (fun q => B < q) s.heap s.heap [] := va_S.rf
  have hX0 : zX S0 S0 := zX.rf
  refine z_entry (vs := [.ref (B + a0), .int v1, .int v2]) (Nat.le_of_ble_eq_true rfl) (fun ls hl => ?_)
  have hl : lv_has ls 5 [(0, .ref (B + a0)), (1, .int v1), (2, .int v2)] := hl
  unfold f_X5_sumBetween at h
  refine lv_iconst (v := (0 : Int32)) hx hb dX5_sumBetween_0 (by decide +kernel) ?_
  refine lv_istore_n (i := 3) (lv' := [(3, .int (0 : Int32)), (0, .ref (B + a0)), (1, .int v1), (2, .int v2)]) hx hb dX5_sumBetween_1 rfl hl (by decide) rfl (fun ls hl => ?_)
  refine lv_iload_n hx hb dX5_sumBetween_2 rfl (lv_at hl 2 rfl) ?_
  refine lv_istore (i := 4) (lv' := [(4, .int v1), (3, .int (0 : Int32)), (0, .ref (B + a0)), (1, .int v1), (2, .int v2)]) hx hb dX5_sumBetween_3 hl (by decide) rfl (fun ls hl => ?_)
  obtain ⟨K3, eK3, h⟩ := zlg h
  have hK3 : ∀ (x1 : Int32) (H : Heap) (locs : List Loc), zMR D cy B S0 H → zX S0 S0 → va_S (fun q => B < q) s.heap H locs → ∀ ls : Array Slot, lv_has ls 5 [(3, .int x1)] → K3 x1 = some r → W p l e (headSpec (zws yX5_sumBetween cX5_sumBetween 5 ((some .int))) { frames := 0, cells := 0, slots := 0, locals := 0 }).room s m (([.ref (B + a0), .int v1, .int v2] : List Value).toArray) below meth c H locs 0 0 (MQ below (zQi D cy B S0 r S0) (([.ref (B + a0), .int v1, .int v2] : List Value).toArray) s 0 0 (fun q => B < q)) (F0 m 32 ls []) := by
    intro x1 H locs hM hX2 hS ls hl h
    rw [eK3] at h
    refine lv_iload_n hx hb dX5_sumBetween_32 rfl (lv_at hl 0 rfl) ?_
    exact z_iret hx hb hr hlk hM hX2 hS ⟨zsm h, rfl⟩ dX5_sumBetween_33
  have hL5 : ∀ (k : Nat) (x5 : Int32) (x6 : Int32) (H : Heap) (locs : List Loc), zMR D cy B S0 H → zX S0 S0 → va_S (fun q => B < q) s.heap H locs → zA S0 a0 5 → ∀ ls : Array Slot, lv_has ls 5 [(0, .ref (B + a0)), (2, .int v2), (3, .int x5), (4, .int x6)] → f_X5_sumBetween_L5 S0 a0 v2 K3 k x5 x6 = some r → W p l e (headSpec (zws yX5_sumBetween cX5_sumBetween 5 ((some .int))) { frames := 0, cells := 0, slots := 0, locals := 0 }).room s m (([.ref (B + a0), .int v1, .int v2] : List Value).toArray) below meth c H locs 0 0 (MQ below (zQi D cy B S0 r S0) (([.ref (B + a0), .int v1, .int v2] : List Value).toArray) s 0 0 (fun q => B < q)) (F0 m 5 ls []) := by
    intro k
    induction k with
    | zero =>
      intro x5 x6 H locs hM hX7 hS h4 ls hl h
      exact znone h
    | succ k ih5 =>
      intro x5 x6 H locs hM hX7 hS h4 ls hl h
      replace h : f_X5_sumBetween_L5b S0 a0 v2 K3 (f_X5_sumBetween_L5 S0 a0 v2 K3 k) x5 x6 = some r := h
      generalize f_X5_sumBetween_L5 S0 a0 v2 K3 k = rec5 at ih5 h
      unfold f_X5_sumBetween_L5b at h
      refine lv_iload hx hb dX5_sumBetween_5 (lv_at hl 3 rfl) ?_
      refine lv_aload_n hx hb dX5_sumBetween_7 rfl (lv_at hl 0 rfl) ?_
      refine z_getI hx hb hg zin_5 hown hK hM h4 1 rfl (by decide) (hg _ zw_78) (fun _ h9 => h9) dX5_sumBetween_8 ?_
      refine lv_iload_n hx hb dX5_sumBetween_11 rfl (lv_at hl 1 rfl) ?_
      refine lv_isub hx hb dX5_sumBetween_12 ?_
      refine lv_icmp_ge (tgt := 32) hx hb dX5_sumBetween_13 (by decide) (fun hc8 => ?_) (fun hc8 => ?_)
      · have h := zt h hc8
        exact hK3 x5 _ _ hM hX7 hS _ (lv_sub hl [2] rfl) h
      · have h := zf h hc8
        refine lv_iload_n hx hb dX5_sumBetween_16 rfl (lv_at hl 2 rfl) ?_
        refine lv_aload_n hx hb dX5_sumBetween_17 rfl (lv_at hl 0 rfl) ?_
        obtain ⟨hq10, h⟩ := zk h
        refine z_getN hx hb hg zin_5 hown hK hM h4 0 rfl (by decide) (hg _ zw_77) (fun _ h9 => h9) hq10 dX5_sumBetween_18 (fun h9 => ?_)
        refine lv_iload hx hb dX5_sumBetween_21 (lv_at hl 3 rfl) ?_
        obtain ⟨hq11, h⟩ := zk h
        refine z_iald hx hb hK hM h9 hq11 dX5_sumBetween_23 ?_
        refine lv_iadd hx hb dX5_sumBetween_24 ?_
        refine lv_istore_n (i := 3) (lv' := [(3, .int (x5 + (zi S0 (zr S0 a0 0) (Int32.toNatClampNeg x6)))), (0, .ref (B + a0)), (2, .int v2), (4, .int x6)]) hx hb dX5_sumBetween_25 rfl hl (by decide) rfl (fun ls hl => ?_)
        refine lv_iinc (v := (x6 + (1 : Int32))) (lv' := [(4, .int (x6 + (1 : Int32))), (3, .int (x5 + (zi S0 (zr S0 a0 0) (Int32.toNatClampNeg x6)))), (0, .ref (B + a0)), (2, .int v2)]) hx hb dX5_sumBetween_26 hl (k := 3) rfl rfl (by decide) rfl (fun ls hl => ?_)
        refine lv_goto (tgt := 5) hx hb dX5_sumBetween_29 (by decide) ?_
        exact ih5 (x5 + (zi S0 (zr S0 a0 0) (Int32.toNatClampNeg x6))) (x6 + (1 : Int32)) _ _ hM hX7 hS h4 _ (lv_sub hl [2, 3, 1, 0] rfl) h
  exact hL5 n (0 : Int32) v1 _ _ hM hX0 hS ha0 _ (lv_sub hl [2, 4, 1, 0] rfl) h
def f_X5_highest (S0 : zM) (a0 : Nat) : Option (Int32) :=
  if (zi S0 a0 1) ≤ 0 then some (0 : Int32) else zChk (¬ (zr S0 a0 0) = 0) (zChk (¬ (((zi S0 a0 1) - (1 : Int32)) < 0 ∨ zln S0 (zr S0 a0 0) ≤ (((zi S0 a0 1) - (1 : Int32))).toNatClampNeg)) (some (zi S0 (zr S0 a0 0) (Int32.toNatClampNeg ((zi S0 a0 1) - (1 : Int32))))))
set_option maxHeartbeats 4000000 in
set_option maxRecDepth 100000 in
theorem c_X5_highest (l : Launch) (D : va_G) (cy : Nat → ClassId) (B : Nat) {S0 : zM} {a0 : Nat} {r : Int32} (ha0 : zA S0 a0 5) (h : f_X5_highest S0 a0 = some r) : Met l yX5_highest (zws yX5_highest cX5_highest 1 ((some .int))) { frames := 0, cells := 0, slots := 0, locals := 0 } (zPc D cy B S0 [.ref (B + a0)]) (zQi D cy B S0 r S0) 0 0 (fun q => B < q) := by
  refine Met.ofW (cc := cX5_highest) (maxL := 1) (ret := ((some .int))) (by decide) rfl ?_
  intro p e s m args below meth c s₁ Bd hml hv
  obtain ⟨rfl, hC, hM⟩ := hv
  obtain ⟨hx, hb, hr, hg, hown, hlk⟩ := z_open Bd
  have hK := hC.1
  have hS : va_S (fun q => B < q) s.heap s.heap [] := va_S.rf
  have hX0 : zX S0 S0 := zX.rf
  refine z_entry (vs := [.ref (B + a0)]) (Nat.le_of_ble_eq_true rfl) (fun ls hl => ?_)
  have hl : lv_has ls 1 [(0, .ref (B + a0))] := hl
  unfold f_X5_highest at h
  refine lv_aload_n hx hb dX5_highest_0 rfl (lv_at hl 0 rfl) ?_
  refine z_getI hx hb hg zin_5 hown hK hM ha0 1 rfl (by decide) (hg _ zw_78) (fun _ h9 => h9) dX5_highest_1 ?_
  refine lv_if_le (tgt := 21) hx hb dX5_highest_4 (by decide) (fun hc1 => ?_) (fun hc1 => ?_)
  · have h := zt h hc1
    refine lv_iconst (v := (0 : Int32)) hx hb dX5_highest_21 (by decide +kernel) ?_
    exact z_iret hx hb hr hlk hM hX0 hS ⟨zsm h, rfl⟩ dX5_highest_22
  · have h := zf h hc1
    refine lv_aload_n hx hb dX5_highest_7 rfl (lv_at hl 0 rfl) ?_
    obtain ⟨hq3, h⟩ := zk h
    refine z_getN hx hb hg zin_5 hown hK hM ha0 0 rfl (by decide) (hg _ zw_77) (fun _ h9 => h9) hq3 dX5_highest_8 (fun h2 => ?_)
    refine lv_aload_n hx hb dX5_highest_11 rfl (lv_at hl 0 rfl) ?_
    refine z_getI hx hb hg zin_5 hown hK hM ha0 1 rfl (by decide) (hg _ zw_78) (fun _ h9 => h9) dX5_highest_12 ?_
    refine lv_iconst (v := (1 : Int32)) hx hb dX5_highest_15 (by decide +kernel) ?_
    refine lv_isub hx hb dX5_highest_16 ?_
    obtain ⟨hq4, h⟩ := zk h
    refine z_iald hx hb hK hM h2 hq4 dX5_highest_17 ?_
    refine lv_goto (tgt := 22) hx hb dX5_highest_18 (by decide) ?_
    exact z_iret hx hb hr hlk hM hX0 hS ⟨zsm h, rfl⟩ dX5_highest_22
def f_X5_lowest (S0 : zM) (a0 : Nat) : Option (Int32) :=
  if (zi S0 a0 1) ≤ 0 then some (0 : Int32) else zChk (¬ (zr S0 a0 0) = 0) (zChk (¬ ((0 : Int32) < 0 ∨ zln S0 (zr S0 a0 0) ≤ ((0 : Int32)).toNatClampNeg)) (some (zi S0 (zr S0 a0 0) (Int32.toNatClampNeg (0 : Int32)))))
set_option maxHeartbeats 4000000 in
set_option maxRecDepth 100000 in
theorem c_X5_lowest (l : Launch) (D : va_G) (cy : Nat → ClassId) (B : Nat) {S0 : zM} {a0 : Nat} {r : Int32} (ha0 : zA S0 a0 5) (h : f_X5_lowest S0 a0 = some r) : Met l yX5_lowest (zws yX5_lowest cX5_lowest 1 ((some .int))) { frames := 0, cells := 0, slots := 0, locals := 0 } (zPc D cy B S0 [.ref (B + a0)]) (zQi D cy B S0 r S0) 0 0 (fun q => B < q) := by
  refine Met.ofW (cc := cX5_lowest) (maxL := 1) (ret := ((some .int))) (by decide) rfl ?_
  intro p e s m args below meth c s₁ Bd hml hv
  obtain ⟨rfl, hC, hM⟩ := hv
  obtain ⟨hx, hb, hr, hg, hown, hlk⟩ := z_open Bd
  have hK := hC.1
  have hS : va_S (fun q => B < q) s.heap s.heap [] := va_S.rf
  have hX0 : zX S0 S0 := zX.rf
  refine z_entry (vs := [.ref (B + a0)]) (Nat.le_of_ble_eq_true rfl) (fun ls hl => ?_)
  have hl : lv_has ls 1 [(0, .ref (B + a0))] := hl
  unfold f_X5_lowest at h
  refine lv_aload_n hx hb dX5_lowest_0 rfl (lv_at hl 0 rfl) ?_
  refine z_getI hx hb hg zin_5 hown hK hM ha0 1 rfl (by decide) (hg _ zw_78) (fun _ h9 => h9) dX5_lowest_1 ?_
  refine lv_if_le (tgt := 16) hx hb dX5_lowest_4 (by decide) (fun hc1 => ?_) (fun hc1 => ?_)
  · have h := zt h hc1
    refine lv_iconst (v := (0 : Int32)) hx hb dX5_lowest_16 (by decide +kernel) ?_
    exact z_iret hx hb hr hlk hM hX0 hS ⟨zsm h, rfl⟩ dX5_lowest_17
  · have h := zf h hc1
    refine lv_aload_n hx hb dX5_lowest_7 rfl (lv_at hl 0 rfl) ?_
    obtain ⟨hq3, h⟩ := zk h
    refine z_getN hx hb hg zin_5 hown hK hM ha0 0 rfl (by decide) (hg _ zw_77) (fun _ h9 => h9) hq3 dX5_lowest_8 (fun h2 => ?_)
    refine lv_iconst (v := (0 : Int32)) hx hb dX5_lowest_11 (by decide +kernel) ?_
    obtain ⟨hq4, h⟩ := zk h
    refine z_iald hx hb hK hM h2 hq4 dX5_lowest_12 ?_
    refine lv_goto (tgt := 17) hx hb dX5_lowest_13 (by decide) ?_
    exact z_iret hx hb hr hlk hM hX0 hS ⟨zsm h, rfl⟩ dX5_lowest_17
def f_X6_fieldOf (n : Nat) (S0 : zM) (a0 : Nat) (v1 : Int32) (a2 : Nat) (a3 : Nat) : Option (Int32) :=
  if v1 = (97 : Int32) then zB1 (f_X5_highest S0 a2) (fun r3 => some r3) else if v1 = (104 : Int32) then some (zi S0 a3 6) else if v1 = (109 : Int32) then zB1 (f_X5_middle S0 a2) (fun r9 => some r9) else if v1 = (110 : Int32) then some (((zi S0 a2 1) - (zi S0 a0 2)) - (zi S0 a0 1)) else if v1 = (115 : Int32) then zB1 (f_X5_sumBetween n S0 a2 (zi S0 a0 2) (zi S0 a0 1)) (fun r15 => some r15) else if v1 = (122 : Int32) then zB1 (f_X5_lowest S0 a2) (fun r20 => some r20) else some (zi S0 a3 5)
set_option maxHeartbeats 4000000 in
set_option maxRecDepth 100000 in
theorem c_X6_fieldOf (l : Launch) (D : va_G) (cy : Nat → ClassId) (B : Nat) {n : Nat} {S0 : zM} {a0 : Nat} {v1 : Int32} {a2 : Nat} {a3 : Nat} {r : Int32} (ha0 : zA S0 a0 6) (ha2 : zA S0 a2 5) (ha3 : zA S0 a3 1) (h : f_X6_fieldOf n S0 a0 v1 a2 a3 = some r) : Met l yX6_fieldOf (zws yX6_fieldOf cX6_fieldOf 4 ((some .int))) { frames := 1, cells := 0, slots := 0, locals := 24 } (zPc D cy B S0 [.ref (B + a0), .int v1, .ref (B + a2), .ref (B + a3)]) (zQi D cy B S0 r S0) 0 0 (fun q => B < q) := by
  refine Met.ofW (cc := cX6_fieldOf) (maxL := 4) (ret := ((some .int))) (by decide) rfl ?_
  intro p e s m args below meth c s₁ Bd hml hv
  obtain ⟨rfl, hC, hM⟩ := hv
  obtain ⟨hx, hb, hr, hg, hown, hlk⟩ := z_open Bd
  have hK := hC.1
  have hS : va_S (fun q => B < q) s.heap s.heap [] := va_S.rf
  have hX0 : zX S0 S0 := zX.rf
  refine z_entry (vs := [.ref (B + a0), .int v1, .ref (B + a2), .ref (B + a3)]) (Nat.le_of_ble_eq_true rfl) (fun ls hl => ?_)
  have hl : lv_has ls 4 [(0, .ref (B + a0)), (1, .int v1), (2, .ref (B + a2)), (3, .ref (B + a3))] := hl
  unfold f_X6_fieldOf at h
  refine lv_iload_n hx hb dX6_fieldOf_0 rfl (lv_at hl 1 rfl) ?_
  by_cases hc1 : v1 = (97 : Int32)
  · refine z_lin (off := 97) hx hb hc1 dX6_fieldOf_1 (by decide +kernel) (by decide +kernel) (tgt := 98) (by decide) ?_
    have h := zt h hc1
    refine lv_aload_n hx hb dX6_fieldOf_98 rfl (lv_at hl 2 rfl) ?_
    obtain ⟨r3, hr2, h⟩ := zb1 h
    refine z_runi (va_runV (As := []) (rest := []) ⟨hx, hb, hml, hown, hg⟩ (c_X5_highest l D cy B ha2 hr2) (z_cwV hg zw_566 zw_567 zw_568 zw_5 zw_569 zh_X5_highest ⟨(Nat.le_of_ble_eq_true rfl), (Nat.le_of_ble_eq_true rfl)⟩) (zPV hC hM ha2 (by decide) rfl) rfl rfl hl.1 rfl (lv_room (Nat.le_of_ble_eq_true rfl)) dX6_fieldOf_99 ⟨(Nat.le_of_ble_eq_true rfl), (Nat.le_of_ble_eq_true rfl)⟩) hS (fun H locs hM hX4 hS => ?_)
    exact z_iret hx hb hr hlk hM hX0 hS ⟨zsm h, rfl⟩ dX6_fieldOf_102
  · have h := zf h hc1
    by_cases hc6 : v1 = (104 : Int32)
    · refine z_lin (off := 87) hx hb hc6 dX6_fieldOf_1 (by decide +kernel) (by decide +kernel) (tgt := 88) (by decide) ?_
      have h := zt h hc6
      refine lv_aload_n hx hb dX6_fieldOf_88 rfl (lv_at hl 3 rfl) ?_
      refine z_getI hx hb hg zin_1 hown hK hM ha3 6 rfl (by decide) (hg _ zw_114) (fun _ h9 => h9) dX6_fieldOf_89 ?_
      exact z_iret hx hb hr hlk hM hX0 hS ⟨zsm h, rfl⟩ dX6_fieldOf_92
    · have h := zf h hc6
      by_cases hc7 : v1 = (109 : Int32)
      · refine z_lin (off := 92) hx hb hc7 dX6_fieldOf_1 (by decide +kernel) (by decide +kernel) (tgt := 93) (by decide) ?_
        have h := zt h hc7
        refine lv_aload_n hx hb dX6_fieldOf_93 rfl (lv_at hl 2 rfl) ?_
        obtain ⟨r9, hr8, h⟩ := zb1 h
        refine z_runi (va_runV (As := []) (rest := []) ⟨hx, hb, hml, hown, hg⟩ (c_X5_middle l D cy B ha2 hr8) (z_cwV hg zw_565 zw_434 zw_435 zw_5 zw_436 zh_X5_middle ⟨(Nat.le_of_ble_eq_true rfl), (Nat.le_of_ble_eq_true rfl)⟩) (zPV hC hM ha2 (by decide) rfl) rfl rfl hl.1 rfl (lv_room (Nat.le_of_ble_eq_true rfl)) dX6_fieldOf_94 ⟨(Nat.le_of_ble_eq_true rfl), (Nat.le_of_ble_eq_true rfl)⟩) hS (fun H locs hM hX10 hS => ?_)
        exact z_iret hx hb hr hlk hM hX0 hS ⟨zsm h, rfl⟩ dX6_fieldOf_97
      · have h := zf h hc7
        by_cases hc12 : v1 = (110 : Int32)
        · refine z_lin (off := 72) hx hb hc12 dX6_fieldOf_1 (by decide +kernel) (by decide +kernel) (tgt := 73) (by decide) ?_
          have h := zt h hc12
          refine lv_aload_n hx hb dX6_fieldOf_73 rfl (lv_at hl 2 rfl) ?_
          refine z_getI hx hb hg zin_5 hown hK hM ha2 1 rfl (by decide) (hg _ zw_79) (fun _ h9 => h9) dX6_fieldOf_74 ?_
          refine lv_aload_n hx hb dX6_fieldOf_77 rfl (lv_at hl 0 rfl) ?_
          refine z_getI hx hb hg zin_6 hown hK hM ha0 2 rfl (by decide) (hg _ zw_53) (fun _ h9 => h9) dX6_fieldOf_78 ?_
          refine lv_isub hx hb dX6_fieldOf_81 ?_
          refine lv_aload_n hx hb dX6_fieldOf_82 rfl (lv_at hl 0 rfl) ?_
          refine z_getI hx hb hg zin_6 hown hK hM ha0 1 rfl (by decide) (hg _ zw_50) (fun _ h9 => h9) dX6_fieldOf_83 ?_
          refine lv_isub hx hb dX6_fieldOf_86 ?_
          exact z_iret hx hb hr hlk hM hX0 hS ⟨zsm h, rfl⟩ dX6_fieldOf_87
        · have h := zf h hc12
          by_cases hc13 : v1 = (115 : Int32)
          · refine z_lin (off := 59) hx hb hc13 dX6_fieldOf_1 (by decide +kernel) (by decide +kernel) (tgt := 60) (by decide) ?_
            have h := zt h hc13
            refine lv_aload_n hx hb dX6_fieldOf_60 rfl (lv_at hl 2 rfl) ?_
            refine lv_aload_n hx hb dX6_fieldOf_61 rfl (lv_at hl 0 rfl) ?_
            refine z_getI hx hb hg zin_6 hown hK hM ha0 2 rfl (by decide) (hg _ zw_53) (fun _ h9 => h9) dX6_fieldOf_62 ?_
            refine lv_aload_n hx hb dX6_fieldOf_65 rfl (lv_at hl 0 rfl) ?_
            refine z_getI hx hb hg zin_6 hown hK hM ha0 1 rfl (by decide) (hg _ zw_50) (fun _ h9 => h9) dX6_fieldOf_66 ?_
            obtain ⟨r15, hr14, h⟩ := zb1 h
            refine z_runi (va_runV (As := [.int (zi S0 a0 2), .int (zi S0 a0 1)]) (rest := []) ⟨hx, hb, hml, hown, hg⟩ (c_X5_sumBetween l D cy B ha2 hr14) (z_cwV hg zw_561 zw_562 zw_563 zw_5 zw_564 zh_X5_sumBetween ⟨(Nat.le_of_ble_eq_true rfl), (Nat.le_of_ble_eq_true rfl)⟩) (zPV hC hM ha2 (by decide) rfl) rfl rfl hl.1 rfl (lv_room (Nat.le_of_ble_eq_true rfl)) dX6_fieldOf_69 ⟨(Nat.le_of_ble_eq_true rfl), (Nat.le_of_ble_eq_true rfl)⟩) hS (fun H locs hM hX16 hS => ?_)
            exact z_iret hx hb hr hlk hM hX0 hS ⟨zsm h, rfl⟩ dX6_fieldOf_72
          · have h := zf h hc13
            by_cases hc18 : v1 = (122 : Int32)
            · refine z_lin (off := 102) hx hb hc18 dX6_fieldOf_1 (by decide +kernel) (by decide +kernel) (tgt := 103) (by decide) ?_
              have h := zt h hc18
              refine lv_aload_n hx hb dX6_fieldOf_103 rfl (lv_at hl 2 rfl) ?_
              obtain ⟨r20, hr19, h⟩ := zb1 h
              refine z_runi (va_runV (As := []) (rest := []) ⟨hx, hb, hml, hown, hg⟩ (c_X5_lowest l D cy B ha2 hr19) (z_cwV hg zw_570 zw_571 zw_572 zw_5 zw_573 zh_X5_lowest ⟨(Nat.le_of_ble_eq_true rfl), (Nat.le_of_ble_eq_true rfl)⟩) (zPV hC hM ha2 (by decide) rfl) rfl rfl hl.1 rfl (lv_room (Nat.le_of_ble_eq_true rfl)) dX6_fieldOf_104 ⟨(Nat.le_of_ble_eq_true rfl), (Nat.le_of_ble_eq_true rfl)⟩) hS (fun H locs hM hX21 hS => ?_)
              exact z_iret hx hb hr hlk hM hX0 hS ⟨zsm h, rfl⟩ dX6_fieldOf_107
            · have h := zf h hc18
              refine lv_lookup hx hb dX6_fieldOf_1 (by decide +kernel) (off := 107) (by show Op.lookupswitch.offset [(97, 97), (104, 87), (109, 92), (110, 72), (115, 59), (122, 102)] 107 _ = _; rw [lv_osw hc1 (by decide +kernel), lv_osw hc6 (by decide +kernel), lv_osw hc7 (by decide +kernel), lv_osw hc12 (by decide +kernel), lv_osw hc13 (by decide +kernel), lv_osw hc18 (by decide +kernel)]; rfl) (tgt := 108) (by decide) ?_
              refine lv_aload_n hx hb dX6_fieldOf_108 rfl (lv_at hl 3 rfl) ?_
              refine z_getI hx hb hg zin_1 hown hK hM ha3 5 rfl (by decide) (hg _ zw_110) (fun _ h9 => h9) dX6_fieldOf_109 ?_
              exact z_iret hx hb hr hlk hM hX0 hS ⟨zsm h, rfl⟩ dX6_fieldOf_112
def f_X6_worked (v0 : Int32) (v1 : Int32) (v2 : Int32) : Option (Int32) :=
  if v0 = (42 : Int32) then some (v1 * v2) else if v0 = (43 : Int32) then some (v1 + v2) else if v0 = (45 : Int32) then some (v1 - v2) else if v0 = (47 : Int32) then if v2 = 0 then some (0 : Int32) else zChk (¬ v2 = 0) (some (v1 / v2)) else if v0 = (91 : Int32) then some (zmin v1 v2) else some (zmax v1 v2)
set_option maxHeartbeats 4000000 in
set_option maxRecDepth 100000 in
theorem c_X6_worked (l : Launch) (D : va_G) (cy : Nat → ClassId) (B : Nat) {S0 : zM} {v0 : Int32} {v1 : Int32} {v2 : Int32} {r : Int32}  (h : f_X6_worked v0 v1 v2 = some r) : Met l yX6_worked (zws yX6_worked cX6_worked 3 ((some .int))) { frames := 1, cells := 0, slots := 0, locals := 21 } (zPc D cy B S0 [.int v0, .int v1, .int v2]) (zQi D cy B S0 r S0) 0 0 (fun q => B < q) := by
  refine Met.ofW (cc := cX6_worked) (maxL := 3) (ret := ((some .int))) (by decide) rfl ?_
  intro p e s m args below meth c s₁ Bd hml hv
  obtain ⟨rfl, hC, hM⟩ := hv
  obtain ⟨hx, hb, hr, hg, hown, hlk⟩ := z_open Bd
  have hK := hC.1
  have hS : va_S (fun q => B < q) s.heap s.heap [] := va_S.rf
  have hX0 : zX S0 S0 := zX.rf
  refine z_entry (vs := [.int v0, .int v1, .int v2]) (Nat.le_of_ble_eq_true rfl) (fun ls hl => ?_)
  have hl : lv_has ls 3 [(0, .int v0), (1, .int v1), (2, .int v2)] := hl
  unfold f_X6_worked at h
  refine lv_iload_n hx hb dX6_worked_0 rfl (lv_at hl 0 rfl) ?_
  by_cases hc1 : v0 = (42 : Int32)
  · refine z_lin (off := 59) hx hb hc1 dX6_worked_1 (by decide +kernel) (by decide +kernel) (tgt := 60) (by decide) ?_
    have h := zt h hc1
    refine lv_iload_n hx hb dX6_worked_60 rfl (lv_at hl 1 rfl) ?_
    refine lv_iload_n hx hb dX6_worked_61 rfl (lv_at hl 2 rfl) ?_
    refine lv_imul hx hb dX6_worked_62 ?_
    exact z_iret hx hb hr hlk hM hX0 hS ⟨zsm h, rfl⟩ dX6_worked_63
  · have h := zf h hc1
    by_cases hc2 : v0 = (43 : Int32)
    · refine z_lin (off := 51) hx hb hc2 dX6_worked_1 (by decide +kernel) (by decide +kernel) (tgt := 52) (by decide) ?_
      have h := zt h hc2
      refine lv_iload_n hx hb dX6_worked_52 rfl (lv_at hl 1 rfl) ?_
      refine lv_iload_n hx hb dX6_worked_53 rfl (lv_at hl 2 rfl) ?_
      refine lv_iadd hx hb dX6_worked_54 ?_
      exact z_iret hx hb hr hlk hM hX0 hS ⟨zsm h, rfl⟩ dX6_worked_55
    · have h := zf h hc2
      by_cases hc3 : v0 = (45 : Int32)
      · refine z_lin (off := 55) hx hb hc3 dX6_worked_1 (by decide +kernel) (by decide +kernel) (tgt := 56) (by decide) ?_
        have h := zt h hc3
        refine lv_iload_n hx hb dX6_worked_56 rfl (lv_at hl 1 rfl) ?_
        refine lv_iload_n hx hb dX6_worked_57 rfl (lv_at hl 2 rfl) ?_
        refine lv_isub hx hb dX6_worked_58 ?_
        exact z_iret hx hb hr hlk hM hX0 hS ⟨zsm h, rfl⟩ dX6_worked_59
      · have h := zf h hc3
        by_cases hc4 : v0 = (47 : Int32)
        · refine z_lin (off := 63) hx hb hc4 dX6_worked_1 (by decide +kernel) (by decide +kernel) (tgt := 64) (by decide) ?_
          have h := zt h hc4
          refine lv_iload_n hx hb dX6_worked_64 rfl (lv_at hl 2 rfl) ?_
          refine lv_if_ne (tgt := 72) hx hb dX6_worked_65 (by decide) (fun hc5 => ?_) (fun hc5 => ?_)
          · have h := zf h hc5
            refine lv_iload_n hx hb dX6_worked_72 rfl (lv_at hl 1 rfl) ?_
            refine lv_iload_n hx hb dX6_worked_73 rfl (lv_at hl 2 rfl) ?_
            obtain ⟨hq6, h⟩ := zk h
            refine lv_idiv hx hb dX6_worked_74 hq6 ?_
            exact z_iret hx hb hr hlk hM hX0 hS ⟨zsm h, rfl⟩ dX6_worked_75
          · have h := zt h hc5
            refine lv_iconst (v := (0 : Int32)) hx hb dX6_worked_68 (by decide +kernel) ?_
            refine lv_goto (tgt := 75) hx hb dX6_worked_69 (by decide) ?_
            exact z_iret hx hb hr hlk hM hX0 hS ⟨zsm h, rfl⟩ dX6_worked_75
        · have h := zf h hc4
          by_cases hc7 : v0 = (91 : Int32)
          · refine z_lin (off := 75) hx hb hc7 dX6_worked_1 (by decide +kernel) (by decide +kernel) (tgt := 76) (by decide) ?_
            have h := zt h hc7
            refine lv_iload_n hx hb dX6_worked_76 rfl (lv_at hl 1 rfl) ?_
            refine lv_iload_n hx hb dX6_worked_77 rfl (lv_at hl 2 rfl) ?_
            refine va_mmin hx hb (hml.trans hl.1.symm) hown (hg _ zw_577) (hg _ zw_412) (hg _ zw_15) (hg _ zw_413) (Nat.le_of_ble_eq_true rfl) (Nat.le_trans (Nat.add_le_add_right (z_room (Nat.le_of_ble_eq_true rfl)) 13) (Nat.le_of_ble_eq_true rfl)) (by omega) (by omega) dX6_worked_78 ?_
            refine W.eq (g2 := F0 m 81 ls [.int (zmin v1 v2)]) rfl ?_
            exact z_iret hx hb hr hlk hM hX0 hS ⟨zsm h, rfl⟩ dX6_worked_81
          · have h := zf h hc7
            refine lv_lookup hx hb dX6_worked_1 (by decide +kernel) (off := 81) (by show Op.lookupswitch.offset [(42, 59), (43, 51), (45, 55), (47, 63), (91, 75)] 81 _ = _; rw [lv_osw hc1 (by decide +kernel), lv_osw hc2 (by decide +kernel), lv_osw hc3 (by decide +kernel), lv_osw hc4 (by decide +kernel), lv_osw hc7 (by decide +kernel)]; rfl) (tgt := 82) (by decide) ?_
            refine lv_iload_n hx hb dX6_worked_82 rfl (lv_at hl 1 rfl) ?_
            refine lv_iload_n hx hb dX6_worked_83 rfl (lv_at hl 2 rfl) ?_
            refine va_mmax hx hb (hml.trans hl.1.symm) hown (hg _ zw_578) (hg _ zw_375) (hg _ zw_15) (hg _ zw_376) (Nat.le_of_ble_eq_true rfl) (Nat.le_trans (Nat.add_le_add_right (z_room (Nat.le_of_ble_eq_true rfl)) 13) (Nat.le_of_ble_eq_true rfl)) (by omega) (by omega) dX6_worked_84 ?_
            refine W.eq (g2 := F0 m 87 ls [.int (zmax v1 v2)]) rfl ?_
            exact z_iret hx hb hr hlk hM hX0 hS ⟨zsm h, rfl⟩ dX6_worked_87
def f_X6_countFor_L25b (n : Nat) (a0 : Nat) (a1 : Nat) (a2 : Nat) (K5 : zM → Option (Int32 × zM)) (rec25 : Int32 → Int32 → zM → Option (Int32 × zM)) (x12 : Int32) (x13 : Int32) (S14 : zM) : Option (Int32 × zM) :=
  if (zi S14 a0 4) ≤ x13 then K5 S14 else zChk (¬ (zr S14 a0 3) = 0) (zChk (¬ (x13 < 0 ∨ zln S14 (zr S14 a0 3) ≤ (x13).toNatClampNeg)) (zLet (f_X6_isWorking (-(zi S14 (zr S14 a0 3) (Int32.toNatClampNeg x13)))) (fun r21 => if r21 = 0 then if (120 : Int32) ≤ x12 then rec25 x12 (x13 + (1 : Int32)) S14 else zChk (¬ (zr S14 a0 5) = 0) (zLet (fun (x51 : Int32) => zChk (¬ (x12 < 0 ∨ zln S14 (zr S14 a0 5) ≤ (x12).toNatClampNeg)) (zLet (zpI S14 (zr S14 a0 5) (Int32.toNatClampNeg x12) x51) (fun S55 => rec25 (x12 + (1 : Int32)) (x13 + (1 : Int32)) S55))) (fun K53 => if (zi S14 (zr S14 a0 3) (Int32.toNatClampNeg x13)) < 0 then zB1 (f_X6_fieldOf n S14 a0 (-(zi S14 (zr S14 a0 3) (Int32.toNatClampNeg x13))) a1 a2) (fun r64 => K53 r64) else K53 (zi S14 (zr S14 a0 3) (Int32.toNatClampNeg x13)))) else if x12 < (2 : Int32) then rec25 x12 (x13 + (1 : Int32)) S14 else zChk (¬ (zr S14 a0 5) = 0) (zChk (¬ (((x12 + (-1 : Int32)) - (1 : Int32)) < 0 ∨ zln S14 (zr S14 a0 5) ≤ (((x12 + (-1 : Int32)) - (1 : Int32))).toNatClampNeg)) (zChk (¬ ((x12 + (-1 : Int32)) < 0 ∨ zln S14 (zr S14 a0 5) ≤ ((x12 + (-1 : Int32))).toNatClampNeg)) (zB1 (f_X6_worked (-(zi S14 (zr S14 a0 3) (Int32.toNatClampNeg x13))) (zi S14 (zr S14 a0 5) (Int32.toNatClampNeg ((x12 + (-1 : Int32)) - (1 : Int32)))) (zi S14 (zr S14 a0 5) (Int32.toNatClampNeg (x12 + (-1 : Int32))))) (fun r33 => zChk (¬ (((x12 + (-1 : Int32)) - (1 : Int32)) < 0 ∨ zln S14 (zr S14 a0 5) ≤ (((x12 + (-1 : Int32)) - (1 : Int32))).toNatClampNeg)) (zLet (zpI S14 (zr S14 a0 5) (Int32.toNatClampNeg ((x12 + (-1 : Int32)) - (1 : Int32))) r33) (fun S37 => rec25 (x12 + (-1 : Int32)) (x13 + (1 : Int32)) S37)))))))))
def f_X6_countFor_L25 (n : Nat) (a0 : Nat) (a1 : Nat) (a2 : Nat) (K5 : zM → Option (Int32 × zM)) : Nat → Int32 → Int32 → zM → Option (Int32 × zM)
  | 0 => fun _ _ _ => none
  | k + 1 => fun x12 x13 S14 => f_X6_countFor_L25b n a0 a1 a2 K5 (f_X6_countFor_L25 n a0 a1 a2 K5 k) x12 x13 S14
def f_X6_countFor (n : Nat) (S0 : zM) (a0 : Nat) (a1 : Nat) (a2 : Nat) : Option (Int32 × zM) :=
  if (((zi S0 a0 1) + (zi S0 a0 2)) + (1 : Int32)) ≤ (zi S0 a1 1) then zLet (fun (S3 : zM) => zChk (¬ (zr S3 a0 5) = 0) (zChk (¬ ((0 : Int32) < 0 ∨ zln S3 (zr S3 a0 5) ≤ ((0 : Int32)).toNatClampNeg)) (some (((zi S3 (zr S3 a0 5) (Int32.toNatClampNeg (0 : Int32))), S3))))) (fun K5 => f_X6_countFor_L25 n a0 a1 a2 K5 n (0 : Int32) (0 : Int32) S0) else some (((0 : Int32), S0))
set_option maxHeartbeats 4000000 in
set_option maxRecDepth 100000 in
theorem c_X6_countFor (l : Launch) (D : va_G) (cy : Nat → ClassId) (B : Nat) {n : Nat} {S0 : zM} {a0 : Nat} {a1 : Nat} {a2 : Nat} {r : Int32} {S' : zM} (ha0 : zA S0 a0 6) (ha1 : zA S0 a1 5) (ha2 : zA S0 a2 1) (h : f_X6_countFor n S0 a0 a1 a2 = some (r, S')) : Met l yX6_countFor (zws yX6_countFor cX6_countFor 6 ((some .int))) { frames := 2, cells := 0, slots := 0, locals := 47 } (zPc D cy B S0 [.ref (B + a0), .ref (B + a1), .ref (B + a2)]) (zQi D cy B S0 r S') 0 0 (fun q => B < q) := by
  refine Met.ofW (cc := cX6_countFor) (maxL := 6) (ret := ((some .int))) (by decide) rfl ?_
  intro p e s m args below meth c s₁ Bd hml hv
  obtain ⟨rfl, hC, hM⟩ := hv
  obtain ⟨hx, hb, hr, hg, hown, hlk⟩ := z_open Bd
  have hK := hC.1
  have hS : va_S (fun q => B < q) s.heap s.heap [] := va_S.rf
  have hX0 : zX S0 S0 := zX.rf
  refine z_entry (vs := [.ref (B + a0), .ref (B + a1), .ref (B + a2)]) (Nat.le_of_ble_eq_true rfl) (fun ls hl => ?_)
  have hl : lv_has ls 6 [(0, .ref (B + a0)), (1, .ref (B + a1)), (2, .ref (B + a2))] := hl
  unfold f_X6_countFor at h
  refine lv_aload_n hx hb dX6_countFor_0 rfl (lv_at hl 1 rfl) ?_
  refine z_getI hx hb hg zin_5 hown hK hM ha1 1 rfl (by decide) (hg _ zw_79) (fun _ h9 => h9) dX6_countFor_1 ?_
  refine lv_aload_n hx hb dX6_countFor_4 rfl (lv_at hl 0 rfl) ?_
  refine z_getI hx hb hg zin_6 hown hK hM ha0 1 rfl (by decide) (hg _ zw_50) (fun _ h9 => h9) dX6_countFor_5 ?_
  refine lv_aload_n hx hb dX6_countFor_8 rfl (lv_at hl 0 rfl) ?_
  refine z_getI hx hb hg zin_6 hown hK hM ha0 2 rfl (by decide) (hg _ zw_53) (fun _ h9 => h9) dX6_countFor_9 ?_
  refine lv_iadd hx hb dX6_countFor_12 ?_
  refine lv_iconst (v := (1 : Int32)) hx hb dX6_countFor_13 (by decide +kernel) ?_
  refine lv_iadd hx hb dX6_countFor_14 ?_
  refine lv_icmp_ge (tgt := 20) hx hb dX6_countFor_15 (by decide) (fun hc1 => ?_) (fun hc1 => ?_)
  · have h := zt h hc1
    refine lv_iconst (v := (0 : Int32)) hx hb dX6_countFor_20 (by decide +kernel) ?_
    refine lv_istore_n (i := 3) (lv' := [(3, .int (0 : Int32)), (0, .ref (B + a0)), (1, .ref (B + a1)), (2, .ref (B + a2))]) hx hb dX6_countFor_21 rfl hl (by decide) rfl (fun ls hl => ?_)
    refine lv_iconst (v := (0 : Int32)) hx hb dX6_countFor_22 (by decide +kernel) ?_
    refine lv_istore (i := 4) (lv' := [(4, .int (0 : Int32)), (3, .int (0 : Int32)), (0, .ref (B + a0)), (1, .ref (B + a1)), (2, .ref (B + a2))]) hx hb dX6_countFor_23 hl (by decide) rfl (fun ls hl => ?_)
    obtain ⟨K5, eK5, h⟩ := zlg h
    have hK5 : ∀ (S3 : zM) (H : Heap) (locs : List Loc), zMR D cy B S3 H → zX S0 S3 → va_S (fun q => B < q) s.heap H locs → zA S3 a0 6 → ∀ ls : Array Slot, lv_has ls 6 [(0, .ref (B + a0))] → K5 S3 = some (r, S') → W p l e (headSpec (zws yX6_countFor cX6_countFor 6 ((some .int))) { frames := 2, cells := 0, slots := 0, locals := 47 }).room s m (([.ref (B + a0), .ref (B + a1), .ref (B + a2)] : List Value).toArray) below meth c H locs 0 0 (MQ below (zQi D cy B S0 r S') (([.ref (B + a0), .ref (B + a1), .ref (B + a2)] : List Value).toArray) s 0 0 (fun q => B < q)) (F0 m 131 ls []) := by
      intro S3 H locs hM hX4 hS h2 ls hl h
      rw [eK5] at h
      refine lv_aload_n hx hb dX6_countFor_131 rfl (lv_at hl 0 rfl) ?_
      obtain ⟨hq7, h⟩ := zk h
      refine z_getN hx hb hg zin_6 hown hK hM h2 5 rfl (by decide) (hg _ zw_58) (fun _ h9 => h9) hq7 dX6_countFor_132 (fun h6 => ?_)
      refine lv_iconst (v := (0 : Int32)) hx hb dX6_countFor_135 (by decide +kernel) ?_
      obtain ⟨hq8, h⟩ := zk h
      refine z_iald hx hb hK hM h6 hq8 dX6_countFor_136 ?_
      exact z_iret hx hb hr hlk hM hX4 hS (zsp h) dX6_countFor_137
    have hL25 : ∀ (k : Nat) (x12 : Int32) (x13 : Int32) (S14 : zM) (H : Heap) (locs : List Loc), zMR D cy B S14 H → zX S0 S14 → va_S (fun q => B < q) s.heap H locs → zA S14 a0 6 → zA S14 a1 5 → zA S14 a2 1 → ∀ ls : Array Slot, lv_has ls 6 [(0, .ref (B + a0)), (1, .ref (B + a1)), (2, .ref (B + a2)), (3, .int x12), (4, .int x13)] → f_X6_countFor_L25 n a0 a1 a2 K5 k x12 x13 S14 = some (r, S') → W p l e (headSpec (zws yX6_countFor cX6_countFor 6 ((some .int))) { frames := 2, cells := 0, slots := 0, locals := 47 }).room s m (([.ref (B + a0), .ref (B + a1), .ref (B + a2)] : List Value).toArray) below meth c H locs 0 0 (MQ below (zQi D cy B S0 r S') (([.ref (B + a0), .ref (B + a1), .ref (B + a2)] : List Value).toArray) s 0 0 (fun q => B < q)) (F0 m 25 ls []) := by
      intro k
      induction k with
      | zero =>
        intro x12 x13 S14 H locs hM hX15 hS h9 h10 h11 ls hl h
        exact znone h
      | succ k ih25 =>
        intro x12 x13 S14 H locs hM hX15 hS h9 h10 h11 ls hl h
        replace h : f_X6_countFor_L25b n a0 a1 a2 K5 (f_X6_countFor_L25 n a0 a1 a2 K5 k) x12 x13 S14 = some (r, S') := h
        generalize f_X6_countFor_L25 n a0 a1 a2 K5 k = rec25 at ih25 h
        unfold f_X6_countFor_L25b at h
        refine lv_iload hx hb dX6_countFor_25 (lv_at hl 4 rfl) ?_
        refine lv_aload_n hx hb dX6_countFor_27 rfl (lv_at hl 0 rfl) ?_
        refine z_getI hx hb hg zin_6 hown hK hM h9 4 rfl (by decide) (hg _ zw_57) (fun _ h9 => h9) dX6_countFor_28 ?_
        refine lv_icmp_ge (tgt := 131) hx hb dX6_countFor_31 (by decide) (fun hc16 => ?_) (fun hc16 => ?_)
        · have h := zt h hc16
          exact hK5 S14 _ _ hM hX15 hS h9 _ (lv_sub hl [0] rfl) h
        · have h := zf h hc16
          refine lv_aload_n hx hb dX6_countFor_34 rfl (lv_at hl 0 rfl) ?_
          obtain ⟨hq18, h⟩ := zk h
          refine z_getN hx hb hg zin_6 hown hK hM h9 3 rfl (by decide) (hg _ zw_56) (fun _ h9 => h9) hq18 dX6_countFor_35 (fun h17 => ?_)
          refine lv_iload hx hb dX6_countFor_38 (lv_at hl 4 rfl) ?_
          obtain ⟨hq19, h⟩ := zk h
          refine z_iald hx hb hK hM h17 hq19 dX6_countFor_40 ?_
          refine lv_istore (i := 5) (lv' := [(5, .int (zi S14 (zr S14 a0 3) (Int32.toNatClampNeg x13))), (0, .ref (B + a0)), (1, .ref (B + a1)), (2, .ref (B + a2)), (3, .int x12), (4, .int x13)]) hx hb dX6_countFor_41 hl (by decide) rfl (fun ls hl => ?_)
          refine lv_iload hx hb dX6_countFor_43 (lv_at hl 0 rfl) ?_
          refine lv_ineg hx hb dX6_countFor_45 ?_
          obtain ⟨r21, hr20, h⟩ := zlg h
          have hr20 := hr20.symm
          refine z_runi (va_runS (As := [.int (-(zi S14 (zr S14 a0 3) (Int32.toNatClampNeg x13)))]) (rest := []) ⟨hx, hb, hml, hown, hg⟩ (c_X6_isWorking l D cy B hr20) (z_cwS hg zw_555 zw_556 zw_4 zw_557 zh_X6_isWorking.2 ⟨(Nat.le_of_ble_eq_true rfl), (Nat.le_of_ble_eq_true rfl)⟩) (zPS hC hM) rfl rfl hl.1 rfl (lv_room (Nat.le_of_ble_eq_true rfl)) dX6_countFor_46 ⟨(Nat.le_of_ble_eq_true rfl), (Nat.le_of_ble_eq_true rfl)⟩) hS (fun H locs hM hX22 hS => ?_)
          refine lv_if_ne (tgt := 89) hx hb dX6_countFor_49 (by decide) (fun hc24 => ?_) (fun hc24 => ?_)
          · have h := zf h hc24
            refine lv_iload_n hx hb dX6_countFor_89 rfl (lv_at hl 4 rfl) ?_
            refine lv_iconst (v := (2 : Int32)) hx hb dX6_countFor_90 (by decide +kernel) ?_
            refine lv_icmp_lt (tgt := 125) hx hb dX6_countFor_91 (by decide) (fun hc25 => ?_) (fun hc25 => ?_)
            · have h := zt h hc25
              refine lv_iinc (v := (x13 + (1 : Int32))) (lv' := [(4, .int (x13 + (1 : Int32))), (5, .int (zi S14 (zr S14 a0 3) (Int32.toNatClampNeg x13))), (0, .ref (B + a0)), (1, .ref (B + a1)), (2, .ref (B + a2)), (3, .int x12)]) hx hb dX6_countFor_125 hl (k := 5) rfl rfl (by decide) rfl (fun ls hl => ?_)
              refine lv_goto (tgt := 25) hx hb dX6_countFor_128 (by decide) ?_
              exact ih25 x12 (x13 + (1 : Int32)) S14 _ _ hM hX15 hS h9 h10 h11 _ (lv_sub hl [2, 3, 4, 5, 0] rfl) h
            · have h := zf h hc25
              refine lv_iinc (v := (x12 + (-1 : Int32))) (lv' := [(3, .int (x12 + (-1 : Int32))), (5, .int (zi S14 (zr S14 a0 3) (Int32.toNatClampNeg x13))), (0, .ref (B + a0)), (1, .ref (B + a1)), (2, .ref (B + a2)), (4, .int x13)]) hx hb dX6_countFor_94 hl (k := 4) rfl rfl (by decide) rfl (fun ls hl => ?_)
              refine lv_aload_n hx hb dX6_countFor_97 rfl (lv_at hl 2 rfl) ?_
              obtain ⟨hq27, h⟩ := zk h
              refine z_getN hx hb hg zin_6 hown hK hM h9 5 rfl (by decide) (hg _ zw_58) (fun _ h9 => h9) hq27 dX6_countFor_98 (fun h26 => ?_)
              refine lv_iload_n hx hb dX6_countFor_101 rfl (lv_at hl 0 rfl) ?_
              refine lv_iconst (v := (1 : Int32)) hx hb dX6_countFor_102 (by decide +kernel) ?_
              refine lv_isub hx hb dX6_countFor_103 ?_
              refine lv_iload hx hb dX6_countFor_104 (lv_at hl 1 rfl) ?_
              refine lv_ineg hx hb dX6_countFor_106 ?_
              refine lv_aload_n hx hb dX6_countFor_107 rfl (lv_at hl 2 rfl) ?_
              refine z_getN hx hb hg zin_6 hown hK hM h9 5 rfl (by decide) (hg _ zw_58) (fun _ h9 => h9) h26.ne dX6_countFor_108 (fun h28 => ?_)
              refine lv_iload_n hx hb dX6_countFor_111 rfl (lv_at hl 0 rfl) ?_
              refine lv_iconst (v := (1 : Int32)) hx hb dX6_countFor_112 (by decide +kernel) ?_
              refine lv_isub hx hb dX6_countFor_113 ?_
              obtain ⟨hq29, h⟩ := zk h
              refine z_iald hx hb hK hM h28 hq29 dX6_countFor_114 ?_
              refine lv_aload_n hx hb dX6_countFor_115 rfl (lv_at hl 2 rfl) ?_
              refine z_getN hx hb hg zin_6 hown hK hM h9 5 rfl (by decide) (hg _ zw_58) (fun _ h9 => h9) h28.ne dX6_countFor_116 (fun h30 => ?_)
              refine lv_iload_n hx hb dX6_countFor_119 rfl (lv_at hl 0 rfl) ?_
              obtain ⟨hq31, h⟩ := zk h
              refine z_iald hx hb hK hM h30 hq31 dX6_countFor_120 ?_
              obtain ⟨r33, hr32, h⟩ := zb1 h
              refine z_runi (va_runS (As := [.int (-(zi S14 (zr S14 a0 3) (Int32.toNatClampNeg x13))), .int (zi S14 (zr S14 a0 5) (Int32.toNatClampNeg ((x12 + (-1 : Int32)) - (1 : Int32)))), .int (zi S14 (zr S14 a0 5) (Int32.toNatClampNeg (x12 + (-1 : Int32))))]) (rest := [.int ((x12 + (-1 : Int32)) - (1 : Int32)), .ref (B + (zr S14 a0 5))]) ⟨hx, hb, hml, hown, hg⟩ (c_X6_worked l D cy B hr32) (z_cwS hg zw_574 zw_575 zw_4 zw_576 zh_X6_worked.2 ⟨(Nat.le_of_ble_eq_true rfl), (Nat.le_of_ble_eq_true rfl)⟩) (zPS hC hM) rfl rfl hl.1 rfl (lv_room (Nat.le_of_ble_eq_true rfl)) dX6_countFor_121 ⟨(Nat.le_of_ble_eq_true rfl), (Nat.le_of_ble_eq_true rfl)⟩) hS (fun H locs hM hX34 hS => ?_)
              obtain ⟨hq36, h⟩ := zk h
              refine z_iast hx hb hK hM hS h30 hq36 dX6_countFor_124 (fun H locs hM hS => ?_)
              obtain ⟨S37, e38, h⟩ := zlg h
              rw [← e38] at hM
              have hX39 : zX S14 S37 := by rw [e38]; exact zX_pI
              have h40 := h9.mo hX39
              have h41 := h10.mo hX39
              have h42 := h11.mo hX39
              have hX43 := hX15.tr hX39
              refine lv_iinc (v := (x13 + (1 : Int32))) (lv' := [(4, .int (x13 + (1 : Int32))), (3, .int (x12 + (-1 : Int32))), (5, .int (zi S14 (zr S14 a0 3) (Int32.toNatClampNeg x13))), (0, .ref (B + a0)), (1, .ref (B + a1)), (2, .ref (B + a2))]) hx hb dX6_countFor_125 hl (k := 5) rfl rfl (by decide) rfl (fun ls hl => ?_)
              refine lv_goto (tgt := 25) hx hb dX6_countFor_128 (by decide) ?_
              exact ih25 (x12 + (-1 : Int32)) (x13 + (1 : Int32)) S37 _ _ hM hX43 hS h40 h41 h42 _ (lv_sub hl [3, 4, 5, 1, 0] rfl) h
          · have h := zt h hc24
            refine lv_iload_n hx hb dX6_countFor_52 rfl (lv_at hl 4 rfl) ?_
            refine lv_bipush (v := (120 : Int32)) hx hb dX6_countFor_53 (by decide +kernel) ?_
            refine lv_icmp_ge (tgt := 125) hx hb dX6_countFor_55 (by decide) (fun hc44 => ?_) (fun hc44 => ?_)
            · have h := zt h hc44
              refine lv_iinc (v := (x13 + (1 : Int32))) (lv' := [(4, .int (x13 + (1 : Int32))), (5, .int (zi S14 (zr S14 a0 3) (Int32.toNatClampNeg x13))), (0, .ref (B + a0)), (1, .ref (B + a1)), (2, .ref (B + a2)), (3, .int x12)]) hx hb dX6_countFor_125 hl (k := 5) rfl rfl (by decide) rfl (fun ls hl => ?_)
              refine lv_goto (tgt := 25) hx hb dX6_countFor_128 (by decide) ?_
              exact ih25 x12 (x13 + (1 : Int32)) S14 _ _ hM hX15 hS h9 h10 h11 _ (lv_sub hl [2, 3, 4, 5, 0] rfl) h
            · have h := zf h hc44
              refine lv_aload_n hx hb dX6_countFor_58 rfl (lv_at hl 1 rfl) ?_
              obtain ⟨hq46, h⟩ := zk h
              refine z_getN hx hb hg zin_6 hown hK hM h9 5 rfl (by decide) (hg _ zw_58) (fun _ h9 => h9) hq46 dX6_countFor_59 (fun h45 => ?_)
              refine lv_iload_n hx hb dX6_countFor_62 rfl (lv_at hl 4 rfl) ?_
              refine lv_iload hx hb dX6_countFor_63 (lv_at hl 0 rfl) ?_
              obtain ⟨K53, eK53, h⟩ := zlg h
              have hK53 : ∀ (x51 : Int32) (H : Heap) (locs : List Loc), zMR D cy B S14 H → zX S0 S14 → va_S (fun q => B < q) s.heap H locs → zA S14 a0 6 → zA S14 a1 5 → zA S14 a2 1 → zA S14 (zr S14 a0 5) 20 → ∀ ls : Array Slot, lv_has ls 6 [(0, .ref (B + a0)), (1, .ref (B + a1)), (2, .ref (B + a2)), (3, .int x12), (4, .int x13)] → K53 x51 = some (r, S') → W p l e (headSpec (zws yX6_countFor cX6_countFor 6 ((some .int))) { frames := 2, cells := 0, slots := 0, locals := 47 }).room s m (([.ref (B + a0), .ref (B + a1), .ref (B + a2)] : List Value).toArray) below meth c H locs 0 0 (MQ below (zQi D cy B S0 r S') (([.ref (B + a0), .ref (B + a1), .ref (B + a2)] : List Value).toArray) s 0 0 (fun q => B < q)) (F0 m 82 ls [.int x51, .int x12, .ref (B + (zr S14 a0 5))]) := by
                intro x51 H locs hM hX52 hS h47 h48 h49 h50 ls hl h
                rw [eK53] at h
                obtain ⟨hq54, h⟩ := zk h
                refine z_iast hx hb hK hM hS h50 hq54 dX6_countFor_82 (fun H locs hM hS => ?_)
                obtain ⟨S55, e56, h⟩ := zlg h
                rw [← e56] at hM
                have hX57 : zX S14 S55 := by rw [e56]; exact zX_pI
                have h58 := h47.mo hX57
                have h59 := h48.mo hX57
                have h60 := h49.mo hX57
                have hX61 := hX52.tr hX57
                refine lv_iinc (v := (x12 + (1 : Int32))) (lv' := [(3, .int (x12 + (1 : Int32))), (0, .ref (B + a0)), (1, .ref (B + a1)), (2, .ref (B + a2)), (4, .int x13)]) hx hb dX6_countFor_83 hl (k := 3) rfl rfl (by decide) rfl (fun ls hl => ?_)
                refine lv_goto (tgt := 125) hx hb dX6_countFor_86 (by decide) ?_
                refine lv_iinc (v := (x13 + (1 : Int32))) (lv' := [(4, .int (x13 + (1 : Int32))), (3, .int (x12 + (1 : Int32))), (0, .ref (B + a0)), (1, .ref (B + a1)), (2, .ref (B + a2))]) hx hb dX6_countFor_125 hl (k := 4) rfl rfl (by decide) rfl (fun ls hl => ?_)
                refine lv_goto (tgt := 25) hx hb dX6_countFor_128 (by decide) ?_
                exact ih25 (x12 + (1 : Int32)) (x13 + (1 : Int32)) S55 _ _ hM hX61 hS h58 h59 h60 _ (lv_sub hl [2, 3, 4, 1, 0] rfl) h
              refine lv_if_lt (tgt := 73) hx hb dX6_countFor_65 (by decide) (fun hc62 => ?_) (fun hc62 => ?_)
              · have h := zt h hc62
                refine lv_aload_n hx hb dX6_countFor_73 rfl (lv_at hl 1 rfl) ?_
                refine lv_iload hx hb dX6_countFor_74 (lv_at hl 0 rfl) ?_
                refine lv_ineg hx hb dX6_countFor_76 ?_
                refine lv_aload_n hx hb dX6_countFor_77 rfl (lv_at hl 2 rfl) ?_
                refine lv_aload_n hx hb dX6_countFor_78 rfl (lv_at hl 3 rfl) ?_
                obtain ⟨r64, hr63, h⟩ := zb1 h
                refine z_runi (va_runV (As := [.int (-(zi S14 (zr S14 a0 3) (Int32.toNatClampNeg x13))), .ref (B + a1), .ref (B + a2)]) (rest := [.int x12, .ref (B + (zr S14 a0 5))]) ⟨hx, hb, hml, hown, hg⟩ (c_X6_fieldOf l D cy B h9 h10 h11 hr63) (z_cwV hg zw_558 zw_559 zw_1477 zw_4 zw_560 zh_X6_fieldOf ⟨(Nat.le_of_ble_eq_true rfl), (Nat.le_of_ble_eq_true rfl)⟩) (zPV hC hM h9 (by decide) rfl) rfl rfl hl.1 rfl (lv_room (Nat.le_of_ble_eq_true rfl)) dX6_countFor_79 ⟨(Nat.le_of_ble_eq_true rfl), (Nat.le_of_ble_eq_true rfl)⟩) hS (fun H locs hM hX65 hS => ?_)
                exact hK53 r64 _ _ hM hX15 hS h9 h10 h11 h45 _ (lv_sub hl [1, 2, 3, 4, 5] rfl) h
              · have h := zf h hc62
                refine lv_iload hx hb dX6_countFor_68 (lv_at hl 0 rfl) ?_
                refine lv_goto (tgt := 82) hx hb dX6_countFor_70 (by decide) ?_
                exact hK53 (zi S14 (zr S14 a0 3) (Int32.toNatClampNeg x13)) _ _ hM hX15 hS h9 h10 h11 h45 _ (lv_sub hl [1, 2, 3, 4, 5] rfl) h
    exact hL25 n (0 : Int32) (0 : Int32) S0 _ _ hM hX0 hS ha0 ha1 ha2 _ (lv_sub hl [2, 3, 4, 1, 0] rfl) h
  · have h := zf h hc1
    refine lv_iconst (v := (0 : Int32)) hx hb dX6_countFor_18 (by decide +kernel) ?_
    exact z_iret hx hb hr hlk hM hX0 hS (zsp h) dX6_countFor_19
def f_X9_countOf (n : Nat) (S0 : zM) (a0 : Nat) (a1 : Nat) : Option (Int32 × zM) :=
  zChk (¬ (zr S0 a0 11) = 0) (zB1 (f_X5_gather n S0 (zr S0 a0 11) a1) (fun S4 => zChk (¬ (zr S4 a0 4) = 0) (zChk (¬ (zr S4 a0 11) = 0) (zB2 (f_X6_countFor n S4 (zr S4 a0 4) (zr S4 a0 11) a1) (fun r15 S16 => some ((r15, S16)))))))
set_option maxHeartbeats 4000000 in
set_option maxRecDepth 100000 in
theorem c_X9_countOf (l : Launch) (D : va_G) (cy : Nat → ClassId) (B : Nat) {n : Nat} {S0 : zM} {a0 : Nat} {a1 : Nat} {r : Int32} {S' : zM} (ha0 : zA S0 a0 9) (ha1 : zA S0 a1 1) (h : f_X9_countOf n S0 a0 a1 = some (r, S')) : Met l yX9_countOf (zws yX9_countOf cX9_countOf 2 ((some .int))) { frames := 3, cells := 0, slots := 0, locals := 72 } (zPc D cy B S0 [.ref (B + a0), .ref (B + a1)]) (zQi D cy B S0 r S') 0 0 (fun q => B < q) := by
  refine Met.ofW (cc := cX9_countOf) (maxL := 2) (ret := ((some .int))) (by decide) rfl ?_
  intro p e s m args below meth c s₁ Bd hml hv
  obtain ⟨rfl, hC, hM⟩ := hv
  obtain ⟨hx, hb, hr, hg, hown, hlk⟩ := z_open Bd
  have hK := hC.1
  have hS : va_S (fun q => B < q) s.heap s.heap [] := va_S.rf
  have hX0 : zX S0 S0 := zX.rf
  refine z_entry (vs := [.ref (B + a0), .ref (B + a1)]) (Nat.le_of_ble_eq_true rfl) (fun ls hl => ?_)
  have hl : lv_has ls 2 [(0, .ref (B + a0)), (1, .ref (B + a1))] := hl
  unfold f_X9_countOf at h
  refine lv_aload_n hx hb dX9_countOf_0 rfl (lv_at hl 0 rfl) ?_
  obtain ⟨hq2, h⟩ := zk h
  refine z_getN hx hb hg zin_9 hown hK hM ha0 11 rfl (by decide) (hg _ zw_145) (fun _ h9 => h9) hq2 dX9_countOf_1 (fun h1 => ?_)
  refine lv_aload_n hx hb dX9_countOf_4 rfl (lv_at hl 1 rfl) ?_
  obtain ⟨S4, hr3, h⟩ := zb1 h
  refine z_runv (va_runV (As := [.ref (B + a1)]) (rest := []) ⟨hx, hb, hml, hown, hg⟩ (c_X5_gather l D cy B h1 ha1 hr3) (z_cwV hg zw_545 zw_546 zw_547 zw_5 zw_548 zh_X5_gather ⟨(Nat.le_of_ble_eq_true rfl), (Nat.le_of_ble_eq_true rfl)⟩) (zPV hC hM h1 (by decide) rfl) rfl rfl hl.1 rfl (lv_room (Nat.le_of_ble_eq_true rfl)) dX9_countOf_5 ⟨(Nat.le_of_ble_eq_true rfl), (Nat.le_of_ble_eq_true rfl)⟩) hS (fun H locs hM hX5 hS => ?_)
  have h7 := ha0.mo hX5
  have h8 := ha1.mo hX5
  have hX9 := hX0.tr hX5
  refine lv_aload_n hx hb dX9_countOf_8 rfl (lv_at hl 0 rfl) ?_
  obtain ⟨hq11, h⟩ := zk h
  refine z_getN hx hb hg zin_9 hown hK hM h7 4 rfl (by decide) (hg _ zw_130) (fun _ h9 => h9) hq11 dX9_countOf_9 (fun h10 => ?_)
  refine lv_aload_n hx hb dX9_countOf_12 rfl (lv_at hl 0 rfl) ?_
  obtain ⟨hq13, h⟩ := zk h
  refine z_getN hx hb hg zin_9 hown hK hM h7 11 rfl (by decide) (hg _ zw_145) (fun _ h9 => h9) hq13 dX9_countOf_13 (fun h12 => ?_)
  refine lv_aload_n hx hb dX9_countOf_16 rfl (lv_at hl 1 rfl) ?_
  obtain ⟨r15, S16, hr14, h⟩ := zb2 h
  refine z_runi (va_runV (As := [.ref (B + (zr S4 a0 11)), .ref (B + a1)]) (rest := []) ⟨hx, hb, hml, hown, hg⟩ (c_X6_countFor l D cy B h10 h12 h8 hr14) (z_cwV hg zw_551 zw_552 zw_553 zw_4 zw_554 zh_X6_countFor ⟨(Nat.le_of_ble_eq_true rfl), (Nat.le_of_ble_eq_true rfl)⟩) (zPV hC hM h10 (by decide) rfl) rfl rfl hl.1 rfl (lv_room (Nat.le_of_ble_eq_true rfl)) dX9_countOf_17 ⟨(Nat.le_of_ble_eq_true rfl), (Nat.le_of_ble_eq_true rfl)⟩) hS (fun H locs hM hX17 hS => ?_)
  have hX19 := hX9.tr hX17
  exact z_iret hx hb hr hlk hM hX19 hS (zsp h) dX9_countOf_20
def f_X4_takeFrom_L7b (n : Nat) (a0 : Nat) (a1 : Nat) (v2 : Int32) (K9 : zM → Option (zM)) (rec7 : Int32 → zM → Option (zM)) (x12 : Int32) (S13 : zM) : Option (zM) :=
  if (zi S13 a1 7) ≤ x12 then K9 S13 else zB1 (f_X9_diveAt S13 a1 x12) (fun r17 => if r17 = 0 then rec7 (x12 + (1 : Int32)) S13 else if (zi S13 r17 2) = v2 then zLet (f_X11_within (zi S13 a0 2) (40 : Int32)) (fun r24 => if r24 = 0 then rec7 (x12 + (1 : Int32)) S13 else zChk (¬ (zr S13 a0 3) = 0) (zB2 (f_X9_countOf n S13 a1 r17) (fun r31 S32 => zChk (¬ ((zi S13 a0 2) < 0 ∨ zln S32 (zr S13 a0 3) ≤ ((zi S13 a0 2)).toNatClampNeg)) (zLet (zpI S32 (zr S13 a0 3) (Int32.toNatClampNeg (zi S13 a0 2)) r31) (fun S40 => zLet (zpI S40 a0 2 ((zi S40 a0 2) + (1 : Int32))) (fun S46 => rec7 (x12 + (1 : Int32)) S46)))))) else rec7 (x12 + (1 : Int32)) S13)
def f_X4_takeFrom_L7 (n : Nat) (a0 : Nat) (a1 : Nat) (v2 : Int32) (K9 : zM → Option (zM)) : Nat → Int32 → zM → Option (zM)
  | 0 => fun _ _ => none
  | k + 1 => fun x12 S13 => f_X4_takeFrom_L7b n a0 a1 v2 K9 (f_X4_takeFrom_L7 n a0 a1 v2 K9 k) x12 S13
def f_X4_takeFrom (n : Nat) (S0 : zM) (a0 : Nat) (a1 : Nat) (v2 : Int32) : Option (zM) :=
  zLet (zpI S0 a0 2 (0 : Int32)) (fun S1 => zLet (fun (S7 : zM) => some S7) (fun K9 => f_X4_takeFrom_L7 n a0 a1 v2 K9 n (0 : Int32) S1))
set_option maxHeartbeats 4000000 in
set_option maxRecDepth 100000 in
theorem c_X4_takeFrom (l : Launch) (D : va_G) (cy : Nat → ClassId) (B : Nat) {n : Nat} {S0 : zM} {a0 : Nat} {a1 : Nat} {v2 : Int32} {S' : zM} (ha0 : zA S0 a0 4) (ha1 : zA S0 a1 9) (h : f_X4_takeFrom n S0 a0 a1 v2 = some S') : Met l yX4_takeFrom (zws yX4_takeFrom cX4_takeFrom 5 none) { frames := 4, cells := 0, slots := 0, locals := 93 } (zPc D cy B S0 [.ref (B + a0), .ref (B + a1), .int v2]) (zQv D cy B S0 S') 0 0 (fun q => B < q) := by
  refine Met.ofW (cc := cX4_takeFrom) (maxL := 5) (ret := none) (by decide) rfl ?_
  intro p e s m args below meth c s₁ Bd hml hv
  obtain ⟨rfl, hC, hM⟩ := hv
  obtain ⟨hx, hb, hr, hg, hown, hlk⟩ := z_open Bd
  have hK := hC.1
  have hS : va_S (fun q => B < q) s.heap s.heap [] := va_S.rf
  have hX0 : zX S0 S0 := zX.rf
  refine z_entry (vs := [.ref (B + a0), .ref (B + a1), .int v2]) (Nat.le_of_ble_eq_true rfl) (fun ls hl => ?_)
  have hl : lv_has ls 5 [(0, .ref (B + a0)), (1, .ref (B + a1)), (2, .int v2)] := hl
  unfold f_X4_takeFrom at h
  refine lv_aload_n hx hb dX4_takeFrom_0 rfl (lv_at hl 0 rfl) ?_
  refine lv_iconst (v := (0 : Int32)) hx hb dX4_takeFrom_1 (by decide +kernel) ?_
  refine z_putI hx hb hg zin_4 tyX4 tyX4_ok nmX4 hown hK hM hS ha0 2 rfl (by decide) (hg _ zw_196) (fun x9 h9 => u_same (hg _ zw_197) x9 h9) (Or.inl rfl) (tyX4_ok 2 (by decide)) rfl rfl dX4_takeFrom_2 (fun H locs hM hS => ?_)
  obtain ⟨S1, e2, h⟩ := zlg h
  rw [← e2] at hM
  have hX3 : zX S0 S1 := by rw [e2]; exact zX_pI
  have h4 := ha0.mo hX3
  have h5 := ha1.mo hX3
  have hX6 := hX0.tr hX3
  refine lv_iconst (v := (0 : Int32)) hx hb dX4_takeFrom_5 (by decide +kernel) ?_
  refine lv_istore_n (i := 3) (lv' := [(3, .int (0 : Int32)), (0, .ref (B + a0)), (1, .ref (B + a1)), (2, .int v2)]) hx hb dX4_takeFrom_6 rfl hl (by decide) rfl (fun ls hl => ?_)
  obtain ⟨K9, eK9, h⟩ := zlg h
  have hK9 : ∀ (S7 : zM) (H : Heap) (locs : List Loc), zMR D cy B S7 H → zX S0 S7 → va_S (fun q => B < q) s.heap H locs → ∀ ls : Array Slot, lv_has ls 5 [] → K9 S7 = some S' → W p l e (headSpec (zws yX4_takeFrom cX4_takeFrom 5 none) { frames := 4, cells := 0, slots := 0, locals := 93 }).room s m (([.ref (B + a0), .ref (B + a1), .int v2] : List Value).toArray) below meth c H locs 0 0 (MQ below (zQv D cy B S0 S') (([.ref (B + a0), .ref (B + a1), .int v2] : List Value).toArray) s 0 0 (fun q => B < q)) (F0 m 79 ls []) := by
    intro S7 H locs hM hX8 hS ls hl h
    rw [eK9] at h
    exact z_vret hx hb hr hlk hM hX8 hS (zsm h) dX4_takeFrom_79
  have hL7 : ∀ (k : Nat) (x12 : Int32) (S13 : zM) (H : Heap) (locs : List Loc), zMR D cy B S13 H → zX S0 S13 → va_S (fun q => B < q) s.heap H locs → zA S13 a0 4 → zA S13 a1 9 → ∀ ls : Array Slot, lv_has ls 5 [(0, .ref (B + a0)), (1, .ref (B + a1)), (2, .int v2), (3, .int x12)] → f_X4_takeFrom_L7 n a0 a1 v2 K9 k x12 S13 = some S' → W p l e (headSpec (zws yX4_takeFrom cX4_takeFrom 5 none) { frames := 4, cells := 0, slots := 0, locals := 93 }).room s m (([.ref (B + a0), .ref (B + a1), .int v2] : List Value).toArray) below meth c H locs 0 0 (MQ below (zQv D cy B S0 S') (([.ref (B + a0), .ref (B + a1), .int v2] : List Value).toArray) s 0 0 (fun q => B < q)) (F0 m 7 ls []) := by
    intro k
    induction k with
    | zero =>
      intro x12 S13 H locs hM hX14 hS h10 h11 ls hl h
      exact znone h
    | succ k ih7 =>
      intro x12 S13 H locs hM hX14 hS h10 h11 ls hl h
      replace h : f_X4_takeFrom_L7b n a0 a1 v2 K9 (f_X4_takeFrom_L7 n a0 a1 v2 K9 k) x12 S13 = some S' := h
      generalize f_X4_takeFrom_L7 n a0 a1 v2 K9 k = rec7 at ih7 h
      unfold f_X4_takeFrom_L7b at h
      refine lv_iload_n hx hb dX4_takeFrom_7 rfl (lv_at hl 3 rfl) ?_
      refine lv_aload_n hx hb dX4_takeFrom_8 rfl (lv_at hl 1 rfl) ?_
      refine z_getI hx hb hg zin_9 hown hK hM h11 7 rfl (by decide) (hg _ zw_137) (fun _ h9 => h9) dX4_takeFrom_9 ?_
      refine lv_icmp_ge (tgt := 79) hx hb dX4_takeFrom_12 (by decide) (fun hc15 => ?_) (fun hc15 => ?_)
      · have h := zt h hc15
        exact hK9 S13 _ _ hM hX14 hS _ (lv_sub hl [] rfl) h
      · have h := zf h hc15
        refine lv_aload_n hx hb dX4_takeFrom_15 rfl (lv_at hl 1 rfl) ?_
        refine lv_iload_n hx hb dX4_takeFrom_16 rfl (lv_at hl 3 rfl) ?_
        obtain ⟨r17, hr16, h⟩ := zb1 h
        refine z_runr (va_runV (As := [.int x12]) (rest := []) ⟨hx, hb, hml, hown, hg⟩ (c_X9_diveAt l D cy B h11 hr16) (z_cwV hg zw_755 zw_363 zw_364 zw_3 zw_365 zh_X9_diveAt ⟨(Nat.le_of_ble_eq_true rfl), (Nat.le_of_ble_eq_true rfl)⟩) (zPV hC hM h11 (by decide) rfl) rfl rfl hl.1 rfl (lv_room (Nat.le_of_ble_eq_true rfl)) dX4_takeFrom_17 ⟨(Nat.le_of_ble_eq_true rfl), (Nat.le_of_ble_eq_true rfl)⟩) hS (fun H locs hM hX18 h19 hS => ?_)
        refine z_astore (i := 4) (lv' := [(4, zv B r17), (0, .ref (B + a0)), (1, .ref (B + a1)), (2, .int v2), (3, .int x12)]) hx hb dX4_takeFrom_20 hl (by decide) rfl (fun ls hl => ?_)
        refine z_aload hx hb dX4_takeFrom_22 (lv_at hl 0 rfl) ?_
        refine z_ifnull (tgt := 73) hx hb dX4_takeFrom_24 (by decide) (fun hc20 => ?_) (fun hc20 => ?_)
        · have h := zt h hc20
          refine lv_iinc (v := (x12 + (1 : Int32))) (lv' := [(3, .int (x12 + (1 : Int32))), (4, zv B r17), (0, .ref (B + a0)), (1, .ref (B + a1)), (2, .int v2)]) hx hb dX4_takeFrom_73 hl (k := 4) rfl rfl (by decide) rfl (fun ls hl => ?_)
          refine lv_goto (tgt := 7) hx hb dX4_takeFrom_76 (by decide) ?_
          exact ih7 (x12 + (1 : Int32)) S13 _ _ hM hX14 hS h10 h11 _ (lv_sub hl [2, 3, 4, 0] rfl) h
        · have h21 := h19.nn hc20
          have h := zf h hc20
          refine z_aloadR hx hb dX4_takeFrom_27 (lv_at hl 0 rfl) h21.1 ?_
          refine z_getI hx hb hg zin_1 hown hK hM h21 2 rfl (by decide) (hg _ zw_99) (fun _ h9 => h9) dX4_takeFrom_29 ?_
          refine lv_iload_n hx hb dX4_takeFrom_32 rfl (lv_at hl 3 rfl) ?_
          refine lv_icmp_ne (tgt := 73) hx hb dX4_takeFrom_33 (by decide) (fun hc22 => ?_) (fun hc22 => ?_)
          · have h := zf h hc22
            refine lv_iinc (v := (x12 + (1 : Int32))) (lv' := [(3, .int (x12 + (1 : Int32))), (4, zv B r17), (0, .ref (B + a0)), (1, .ref (B + a1)), (2, .int v2)]) hx hb dX4_takeFrom_73 hl (k := 4) rfl rfl (by decide) rfl (fun ls hl => ?_)
            refine lv_goto (tgt := 7) hx hb dX4_takeFrom_76 (by decide) ?_
            exact ih7 (x12 + (1 : Int32)) S13 _ _ hM hX14 hS h10 h11 _ (lv_sub hl [2, 3, 4, 0] rfl) h
          · have h := zt h hc22
            refine lv_aload_n hx hb dX4_takeFrom_36 rfl (lv_at hl 1 rfl) ?_
            refine z_getI hx hb hg zin_4 hown hK hM h10 2 rfl (by decide) (hg _ zw_196) (fun x9 h9 => u_same (hg _ zw_197) x9 h9) dX4_takeFrom_37 ?_
            refine lv_bipush (v := (40 : Int32)) hx hb dX4_takeFrom_40 (by decide +kernel) ?_
            obtain ⟨r24, hr23, h⟩ := zlg h
            have hr23 := hr23.symm
            refine z_runi (va_runSN (As := [.int (zi S13 a0 2), .int (40 : Int32)]) (rest := []) ⟨hx, hb, hml, hown, hg⟩ (c_X11_within l D cy B hr23) ⟨z_cnB hg hC (List.mem_of_getElem? (i := 16) rfl) zw_2 zw_292 zh_X11_within.2 ⟨(Nat.le_of_ble_eq_true rfl), (Nat.le_of_ble_eq_true rfl)⟩, hg _ zw_291, trivial⟩ (zPS hC hM) rfl rfl hl.1 rfl (lv_room (Nat.le_of_ble_eq_true rfl)) dX4_takeFrom_42 ⟨(Nat.le_of_ble_eq_true rfl), (Nat.le_of_ble_eq_true rfl)⟩) hS (fun H locs hM hX25 hS => ?_)
            refine lv_if_eq (tgt := 73) hx hb dX4_takeFrom_45 (by decide) (fun hc27 => ?_) (fun hc27 => ?_)
            · have h := zt h hc27
              refine lv_iinc (v := (x12 + (1 : Int32))) (lv' := [(3, .int (x12 + (1 : Int32))), (4, zv B r17), (0, .ref (B + a0)), (1, .ref (B + a1)), (2, .int v2)]) hx hb dX4_takeFrom_73 hl (k := 4) rfl rfl (by decide) rfl (fun ls hl => ?_)
              refine lv_goto (tgt := 7) hx hb dX4_takeFrom_76 (by decide) ?_
              exact ih7 (x12 + (1 : Int32)) S13 _ _ hM hX14 hS h10 h11 _ (lv_sub hl [2, 3, 4, 0] rfl) h
            · have h := zf h hc27
              refine lv_aload_n hx hb dX4_takeFrom_48 rfl (lv_at hl 1 rfl) ?_
              obtain ⟨hq29, h⟩ := zk h
              refine z_getN hx hb hg zin_4 hown hK hM h10 3 rfl (by decide) (hg _ zw_193) (fun _ h9 => h9) hq29 dX4_takeFrom_49 (fun h28 => ?_)
              refine lv_aload_n hx hb dX4_takeFrom_52 rfl (lv_at hl 1 rfl) ?_
              refine z_getI hx hb hg zin_4 hown hK hM h10 2 rfl (by decide) (hg _ zw_196) (fun x9 h9 => u_same (hg _ zw_197) x9 h9) dX4_takeFrom_53 ?_
              refine lv_aload_n hx hb dX4_takeFrom_56 rfl (lv_at hl 2 rfl) ?_
              refine z_aloadR hx hb dX4_takeFrom_57 (lv_at hl 0 rfl) h21.1 ?_
              obtain ⟨r31, S32, hr30, h⟩ := zb2 h
              refine z_runi (va_runV (As := [.ref (B + r17)]) (rest := [.int (zi S13 a0 2), .ref (B + (zr S13 a0 3))]) ⟨hx, hb, hml, hown, hg⟩ (c_X9_countOf l D cy B h11 h21 hr30) (z_cwV hg zw_756 zw_542 zw_543 zw_3 zw_544 zh_X9_countOf ⟨(Nat.le_of_ble_eq_true rfl), (Nat.le_of_ble_eq_true rfl)⟩) (zPV hC hM h11 (by decide) rfl) rfl rfl hl.1 rfl (lv_room (Nat.le_of_ble_eq_true rfl)) dX4_takeFrom_59 ⟨(Nat.le_of_ble_eq_true rfl), (Nat.le_of_ble_eq_true rfl)⟩) hS (fun H locs hM hX33 hS => ?_)
              have h35 := h10.mo hX33
              have h36 := h11.mo hX33
              have h37 := h28.mo hX33
              have hX38 := hX14.tr hX33
              obtain ⟨hq39, h⟩ := zk h
              refine z_iast hx hb hK hM hS h37 hq39 dX4_takeFrom_62 (fun H locs hM hS => ?_)
              obtain ⟨S40, e41, h⟩ := zlg h
              rw [← e41] at hM
              have hX42 : zX S32 S40 := by rw [e41]; exact zX_pI
              have h43 := h35.mo hX42
              have h44 := h36.mo hX42
              have hX45 := hX38.tr hX42
              refine lv_aload_n hx hb dX4_takeFrom_63 rfl (lv_at hl 1 rfl) ?_
              refine lv_dup hx hb dX4_takeFrom_64 rfl ?_
              refine z_getI hx hb hg zin_4 hown hK hM h43 2 rfl (by decide) (hg _ zw_196) (fun x9 h9 => u_same (hg _ zw_197) x9 h9) dX4_takeFrom_65 ?_
              refine lv_iconst (v := (1 : Int32)) hx hb dX4_takeFrom_68 (by decide +kernel) ?_
              refine lv_iadd hx hb dX4_takeFrom_69 ?_
              refine z_putI hx hb hg zin_4 tyX4 tyX4_ok nmX4 hown hK hM hS h43 2 rfl (by decide) (hg _ zw_196) (fun x9 h9 => u_same (hg _ zw_197) x9 h9) (Or.inl rfl) (tyX4_ok 2 (by decide)) rfl rfl dX4_takeFrom_70 (fun H locs hM hS => ?_)
              obtain ⟨S46, e47, h⟩ := zlg h
              rw [← e47] at hM
              have hX48 : zX S40 S46 := by rw [e47]; exact zX_pI
              have h49 := h43.mo hX48
              have h50 := h44.mo hX48
              have hX51 := hX45.tr hX48
              refine lv_iinc (v := (x12 + (1 : Int32))) (lv' := [(3, .int (x12 + (1 : Int32))), (4, zv B r17), (0, .ref (B + a0)), (1, .ref (B + a1)), (2, .int v2)]) hx hb dX4_takeFrom_73 hl (k := 4) rfl rfl (by decide) rfl (fun ls hl => ?_)
              refine lv_goto (tgt := 7) hx hb dX4_takeFrom_76 (by decide) ?_
              exact ih7 (x12 + (1 : Int32)) S46 _ _ hM hX51 hS h49 h50 _ (lv_sub hl [2, 3, 4, 0] rfl) h
  exact hL7 n (0 : Int32) S1 _ _ hM hX6 hS h4 h5 _ (lv_sub hl [1, 2, 3, 0] rfl) h
def f_X5_init (S0 : zM) (a0 : Nat) : zM :=
  zLet (znw S0 20 7) (fun S1 => zLet (zpR S1 a0 0 (zsz S0)) (fun S7 => S7))
set_option maxHeartbeats 4000000 in
set_option maxRecDepth 100000 in
theorem c_X5_init (l : Launch) (D : va_G) (cy : Nat → ClassId) (B : Nat) {S0 : zM} {a0 : Nat} {S' : zM} (ha0 : zA S0 a0 5) (h : f_X5_init S0 a0 = S') : Met l yX5_init (zws yX5_init cX5_init 1 none) { frames := 1, cells := 1, slots := 7, locals := 20 } (zPc D cy B S0 [.ref (B + a0)]) (zQv D cy B S0 S') 1 7 (fun q => B < q) := by
  refine Met.ofW (cc := cX5_init) (maxL := 1) (ret := none) (by decide) rfl ?_
  intro p e s m args below meth c s₁ Bd hml hv
  obtain ⟨rfl, hC, hM⟩ := hv
  obtain ⟨hx, hb, hr, hg, hown, hlk⟩ := z_open Bd
  have hK := hC.1
  have hin : meth.name = "<init>" := (name_of_methodNamed Bd.named Bd.method).1
  have hS : va_S (fun q => B < q) s.heap s.heap [] := va_S.rf
  have hX0 : zX S0 S0 := zX.rf
  refine z_entry (vs := [.ref (B + a0)]) (Nat.le_of_ble_eq_true rfl) (fun ls hl => ?_)
  have hl : lv_has ls 1 [(0, .ref (B + a0))] := hl
  unfold f_X5_init at h
  refine lv_aload_n hx hb dX5_init_0 rfl (lv_at hl 0 rfl) ?_
  refine W.objInit hx hb hown (hg _ zw_76) (hg _ zw_29) (hg _ zw_30) rfl (by rw [hml]; exact hl.1) rfl dX5_init_1 (Nat.le_of_ble_eq_true rfl) (Nat.le_of_ble_eq_true rfl) ?_
  refine W.eq (g2 := F0 m 4 ls []) rfl ?_
  refine lv_aload_n hx hb dX5_init_4 rfl (lv_at hl 0 rfl) ?_
  refine lv_bipush (v := (7 : Int32)) hx hb dX5_init_5 (by decide +kernel) ?_
  refine z_newa (atype := .int) hx hb (hg _ zw_66) hK hM hS 20 (by decide) rfl (N := 7) (by decide +kernel) (by decide +kernel) (by decide +kernel) (Nat.le_of_ble_eq_true rfl) (Nat.le_of_ble_eq_true rfl) dX5_init_7 (fun H hM hA hX hS => ?_)
  obtain ⟨S1, e2, h⟩ := zlg h
  rw [← e2] at hM hA hX
  have hX3 := hX
  have h4 := hA
  have h5 := ha0.mo hX3
  have hX6 := hX0.tr hX3
  refine W.widen (k := 1) (n := 7) (Nat.le_refl _) (Nat.le_refl _) ?_
  refine z_putR (r := (zsz S0)) hx hb hg zin_5 tyX5 tyX5_ok nmX5 hown hK hM hS h5 0 rfl (by decide) (hg _ zw_77) (fun _ h9 => h9) (Or.inr ⟨rfl, hin, rfl⟩) (zv_ref h4.1).symm (tyX5_ok 0 (by decide)) (Or.inr ⟨_, rfl⟩) (h4.q) dX5_init_9 (fun H locs hM hS => ?_)
  obtain ⟨S7, e8, h⟩ := zlg h
  rw [← e8] at hM
  have hX9 : zX S1 S7 := by rw [e8]; exact zX_pR
  have hX10 := hX6.tr hX9
  refine W.widen (k := 1) (n := 7) (by omega) (by omega) ?_
  exact z_vret hx hb hr hlk hM hX10 hS h dX5_init_12
def f_X6_append (S0 : zM) (a0 : Nat) (v1 : Int32) : Option (zM) :=
  if (120 : Int32) ≤ (zi S0 a0 4) then some S0 else zChk (¬ (zr S0 a0 3) = 0) (zChk (¬ ((zi S0 a0 4) < 0 ∨ zln S0 (zr S0 a0 3) ≤ ((zi S0 a0 4)).toNatClampNeg)) (zLet (zpI S0 (zr S0 a0 3) (Int32.toNatClampNeg (zi S0 a0 4)) v1) (fun S5 => zLet (zpI S5 a0 4 ((zi S5 a0 4) + (1 : Int32))) (fun S10 => some S10))))
set_option maxHeartbeats 4000000 in
set_option maxRecDepth 100000 in
theorem c_X6_append (l : Launch) (D : va_G) (cy : Nat → ClassId) (B : Nat) {S0 : zM} {a0 : Nat} {v1 : Int32} {S' : zM} (ha0 : zA S0 a0 6) (h : f_X6_append S0 a0 v1 = some S') : Met l yX6_append (zws yX6_append cX6_append 2 none) { frames := 0, cells := 0, slots := 0, locals := 0 } (zPc D cy B S0 [.ref (B + a0), .int v1]) (zQv D cy B S0 S') 0 0 (fun q => B < q) := by
  refine Met.ofW (cc := cX6_append) (maxL := 2) (ret := none) (by decide) rfl ?_
  intro p e s m args below meth c s₁ Bd hml hv
  obtain ⟨rfl, hC, hM⟩ := hv
  obtain ⟨hx, hb, hr, hg, hown, hlk⟩ := z_open Bd
  have hK := hC.1
  have hS : va_S (fun q => B < q) s.heap s.heap [] := va_S.rf
  have hX0 : zX S0 S0 := zX.rf
  refine z_entry (vs := [.ref (B + a0), .int v1]) (Nat.le_of_ble_eq_true rfl) (fun ls hl => ?_)
  have hl : lv_has ls 2 [(0, .ref (B + a0)), (1, .int v1)] := hl
  unfold f_X6_append at h
  refine lv_aload_n hx hb dX6_append_0 rfl (lv_at hl 0 rfl) ?_
  refine z_getI hx hb hg zin_6 hown hK hM ha0 4 rfl (by decide) (hg _ zw_57) (fun _ h9 => h9) dX6_append_1 ?_
  refine lv_bipush (v := (120 : Int32)) hx hb dX6_append_4 (by decide +kernel) ?_
  refine lv_icmp_ge (tgt := 29) hx hb dX6_append_6 (by decide) (fun hc1 => ?_) (fun hc1 => ?_)
  · have h := zt h hc1
    exact z_vret hx hb hr hlk hM hX0 hS (zsm h) dX6_append_29
  · have h := zf h hc1
    refine lv_aload_n hx hb dX6_append_9 rfl (lv_at hl 0 rfl) ?_
    obtain ⟨hq3, h⟩ := zk h
    refine z_getN hx hb hg zin_6 hown hK hM ha0 3 rfl (by decide) (hg _ zw_56) (fun _ h9 => h9) hq3 dX6_append_10 (fun h2 => ?_)
    refine lv_aload_n hx hb dX6_append_13 rfl (lv_at hl 0 rfl) ?_
    refine z_getI hx hb hg zin_6 hown hK hM ha0 4 rfl (by decide) (hg _ zw_57) (fun _ h9 => h9) dX6_append_14 ?_
    refine lv_iload_n hx hb dX6_append_17 rfl (lv_at hl 1 rfl) ?_
    obtain ⟨hq4, h⟩ := zk h
    refine z_iast hx hb hK hM hS h2 hq4 dX6_append_18 (fun H locs hM hS => ?_)
    obtain ⟨S5, e6, h⟩ := zlg h
    rw [← e6] at hM
    have hX7 : zX S0 S5 := by rw [e6]; exact zX_pI
    have h8 := ha0.mo hX7
    have hX9 := hX0.tr hX7
    refine lv_aload_n hx hb dX6_append_19 rfl (lv_at hl 0 rfl) ?_
    refine lv_dup hx hb dX6_append_20 rfl ?_
    refine z_getI hx hb hg zin_6 hown hK hM h8 4 rfl (by decide) (hg _ zw_57) (fun _ h9 => h9) dX6_append_21 ?_
    refine lv_iconst (v := (1 : Int32)) hx hb dX6_append_24 (by decide +kernel) ?_
    refine lv_iadd hx hb dX6_append_25 ?_
    refine z_putI hx hb hg zin_6 tyX6 tyX6_ok nmX6 hown hK hM hS h8 4 rfl (by decide) (hg _ zw_57) (fun _ h9 => h9) (Or.inl rfl) (tyX6_ok 4 (by decide)) rfl rfl dX6_append_26 (fun H locs hM hS => ?_)
    obtain ⟨S10, e11, h⟩ := zlg h
    rw [← e11] at hM
    have hX12 : zX S5 S10 := by rw [e11]; exact zX_pI
    have hX13 := hX9.tr hX12
    exact z_vret hx hb hr hlk hM hX13 hS (zsm h) dX6_append_29
def f_X6_init_L40b (a0 : Nat) (K47 : zM → Option (zM)) (rec40 : Int32 → zM → Option (zM)) (x78 : Int32) (S79 : zM) : Option (zM) :=
  if (6 : Int32) ≤ x78 then K47 S79 else zChk (¬ (zr S79 a0 0) = 0) (zChk (¬ (x78 < 0 ∨ zln S79 (zr S79 a0 0) ≤ (x78).toNatClampNeg)) (zLet (zpI S79 (zr S79 a0 0) (Int32.toNatClampNeg x78) (2 : Int32)) (fun S85 => rec40 (x78 + (1 : Int32)) S85)))
def f_X6_init_L40 (a0 : Nat) (K47 : zM → Option (zM)) : Nat → Int32 → zM → Option (zM)
  | 0 => fun _ _ => none
  | k + 1 => fun x78 S79 => f_X6_init_L40b a0 K47 (f_X6_init_L40 a0 K47 k) x78 S79
def f_X6_init (n : Nat) (S0 : zM) (a0 : Nat) : Option (zM) :=
  zLet (znw S0 20 6) (fun S1 => zLet (zpR S1 a0 0 (zsz S0)) (fun S7 => zLet (zpI S7 a0 1 (1 : Int32)) (fun S12 => zLet (zpI S12 a0 2 (1 : Int32)) (fun S17 => zLet (znw S17 20 120) (fun S22 => zLet (zpR S22 a0 3 (zsz S17)) (fun S28 => zLet (znw S28 20 120) (fun S33 => zLet (zpR S33 a0 5 (zsz S28)) (fun S39 => zLet (fun (S45 : zM) => zB1 (f_X6_append S45 a0 (-115 : Int32)) (fun S49 => zB1 (f_X6_append S49 a0 (-104 : Int32)) (fun S55 => zB1 (f_X6_append S55 a0 (-42 : Int32)) (fun S61 => zB1 (f_X6_append S61 a0 (10 : Int32)) (fun S67 => zB1 (f_X6_append S67 a0 (-47 : Int32)) (fun S73 => some S73)))))) (fun K47 => f_X6_init_L40 a0 K47 n (0 : Int32) S39)))))))))
set_option maxHeartbeats 4000000 in
set_option maxRecDepth 100000 in
theorem c_X6_init (l : Launch) (D : va_G) (cy : Nat → ClassId) (B : Nat) {n : Nat} {S0 : zM} {a0 : Nat} {S' : zM} (ha0 : zA S0 a0 6) (h : f_X6_init n S0 a0 = some S') : Met l yX6_init (zws yX6_init cX6_init 2 none) { frames := 1, cells := 3, slots := 246, locals := 21 } (zPc D cy B S0 [.ref (B + a0)]) (zQv D cy B S0 S') 3 246 (fun q => B < q) := by
  refine Met.ofW (cc := cX6_init) (maxL := 2) (ret := none) (by decide) rfl ?_
  intro p e s m args below meth c s₁ Bd hml hv
  obtain ⟨rfl, hC, hM⟩ := hv
  obtain ⟨hx, hb, hr, hg, hown, hlk⟩ := z_open Bd
  have hK := hC.1
  have hin : meth.name = "<init>" := (name_of_methodNamed Bd.named Bd.method).1
  have hS : va_S (fun q => B < q) s.heap s.heap [] := va_S.rf
  have hX0 : zX S0 S0 := zX.rf
  refine z_entry (vs := [.ref (B + a0)]) (Nat.le_of_ble_eq_true rfl) (fun ls hl => ?_)
  have hl : lv_has ls 2 [(0, .ref (B + a0))] := hl
  unfold f_X6_init at h
  refine lv_aload_n hx hb dX6_init_0 rfl (lv_at hl 0 rfl) ?_
  refine W.objInit hx hb hown (hg _ zw_42) (hg _ zw_29) (hg _ zw_30) rfl (by rw [hml]; exact hl.1) rfl dX6_init_1 (Nat.le_of_ble_eq_true rfl) (Nat.le_of_ble_eq_true rfl) ?_
  refine W.eq (g2 := F0 m 4 ls []) rfl ?_
  refine lv_aload_n hx hb dX6_init_4 rfl (lv_at hl 0 rfl) ?_
  refine lv_bipush (v := (6 : Int32)) hx hb dX6_init_5 (by decide +kernel) ?_
  refine z_newa (atype := .int) hx hb (hg _ zw_66) hK hM hS 20 (by decide) rfl (N := 6) (by decide +kernel) (by decide +kernel) (by decide +kernel) (Nat.le_of_ble_eq_true rfl) (Nat.le_of_ble_eq_true rfl) dX6_init_7 (fun H hM hA hX hS => ?_)
  obtain ⟨S1, e2, h⟩ := zlg h
  rw [← e2] at hM hA hX
  have hX3 := hX
  have h4 := hA
  have h5 := ha0.mo hX3
  have hX6 := hX0.tr hX3
  refine W.widen (k := 1) (n := 6) (Nat.le_refl _) (Nat.le_refl _) ?_
  refine z_putR (r := (zsz S0)) hx hb hg zin_6 tyX6 tyX6_ok nmX6 hown hK hM hS h5 0 rfl (by decide) (hg _ zw_47) (fun _ h9 => h9) (Or.inr ⟨rfl, hin, rfl⟩) (zv_ref h4.1).symm (tyX6_ok 0 (by decide)) (Or.inr ⟨_, rfl⟩) (h4.q) dX6_init_9 (fun H locs hM hS => ?_)
  obtain ⟨S7, e8, h⟩ := zlg h
  rw [← e8] at hM
  have hX9 : zX S1 S7 := by rw [e8]; exact zX_pR
  have h10 := h5.mo hX9
  have hX11 := hX6.tr hX9
  refine lv_aload_n hx hb dX6_init_12 rfl (lv_at hl 0 rfl) ?_
  refine lv_iconst (v := (1 : Int32)) hx hb dX6_init_13 (by decide +kernel) ?_
  refine z_putI hx hb hg zin_6 tyX6 tyX6_ok nmX6 hown hK hM hS h10 1 rfl (by decide) (hg _ zw_50) (fun _ h9 => h9) (Or.inl rfl) (tyX6_ok 1 (by decide)) rfl rfl dX6_init_14 (fun H locs hM hS => ?_)
  obtain ⟨S12, e13, h⟩ := zlg h
  rw [← e13] at hM
  have hX14 : zX S7 S12 := by rw [e13]; exact zX_pI
  have h15 := h10.mo hX14
  have hX16 := hX11.tr hX14
  refine lv_aload_n hx hb dX6_init_17 rfl (lv_at hl 0 rfl) ?_
  refine lv_iconst (v := (1 : Int32)) hx hb dX6_init_18 (by decide +kernel) ?_
  refine z_putI hx hb hg zin_6 tyX6 tyX6_ok nmX6 hown hK hM hS h15 2 rfl (by decide) (hg _ zw_53) (fun _ h9 => h9) (Or.inl rfl) (tyX6_ok 2 (by decide)) rfl rfl dX6_init_19 (fun H locs hM hS => ?_)
  obtain ⟨S17, e18, h⟩ := zlg h
  rw [← e18] at hM
  have hX19 : zX S12 S17 := by rw [e18]; exact zX_pI
  have h20 := h15.mo hX19
  have hX21 := hX16.tr hX19
  refine lv_aload_n hx hb dX6_init_22 rfl (lv_at hl 0 rfl) ?_
  refine lv_bipush (v := (120 : Int32)) hx hb dX6_init_23 (by decide +kernel) ?_
  refine z_newa (atype := .int) hx hb (hg _ zw_66) hK hM hS 20 (by decide) rfl (N := 120) (by decide +kernel) (by decide +kernel) (by decide +kernel) (Nat.le_of_ble_eq_true rfl) (Nat.le_of_ble_eq_true rfl) dX6_init_25 (fun H hM hA hX hS => ?_)
  obtain ⟨S22, e23, h⟩ := zlg h
  rw [← e23] at hM hA hX
  have hX24 := hX
  have h25 := hA
  have h26 := h20.mo hX24
  have hX27 := hX21.tr hX24
  refine W.widen (k := 2) (n := 126) (Nat.le_refl _) (Nat.le_refl _) ?_
  refine z_putR (r := (zsz S17)) hx hb hg zin_6 tyX6 tyX6_ok nmX6 hown hK hM hS h26 3 rfl (by decide) (hg _ zw_56) (fun _ h9 => h9) (Or.inr ⟨rfl, hin, rfl⟩) (zv_ref h25.1).symm (tyX6_ok 3 (by decide)) (Or.inr ⟨_, rfl⟩) (h25.q) dX6_init_27 (fun H locs hM hS => ?_)
  obtain ⟨S28, e29, h⟩ := zlg h
  rw [← e29] at hM
  have hX30 : zX S22 S28 := by rw [e29]; exact zX_pR
  have h31 := h26.mo hX30
  have hX32 := hX27.tr hX30
  refine lv_aload_n hx hb dX6_init_30 rfl (lv_at hl 0 rfl) ?_
  refine lv_bipush (v := (120 : Int32)) hx hb dX6_init_31 (by decide +kernel) ?_
  refine z_newa (atype := .int) hx hb (hg _ zw_66) hK hM hS 20 (by decide) rfl (N := 120) (by decide +kernel) (by decide +kernel) (by decide +kernel) (Nat.le_of_ble_eq_true rfl) (Nat.le_of_ble_eq_true rfl) dX6_init_33 (fun H hM hA hX hS => ?_)
  obtain ⟨S33, e34, h⟩ := zlg h
  rw [← e34] at hM hA hX
  have hX35 := hX
  have h36 := hA
  have h37 := h31.mo hX35
  have hX38 := hX32.tr hX35
  refine W.widen (k := 3) (n := 246) (Nat.le_refl _) (Nat.le_refl _) ?_
  refine z_putR (r := (zsz S28)) hx hb hg zin_6 tyX6 tyX6_ok nmX6 hown hK hM hS h37 5 rfl (by decide) (hg _ zw_58) (fun _ h9 => h9) (Or.inr ⟨rfl, hin, rfl⟩) (zv_ref h36.1).symm (tyX6_ok 5 (by decide)) (Or.inr ⟨_, rfl⟩) (h36.q) dX6_init_35 (fun H locs hM hS => ?_)
  obtain ⟨S39, e40, h⟩ := zlg h
  rw [← e40] at hM
  have hX41 : zX S33 S39 := by rw [e40]; exact zX_pR
  have h42 := h37.mo hX41
  have hX43 := hX38.tr hX41
  refine lv_iconst (v := (0 : Int32)) hx hb dX6_init_38 (by decide +kernel) ?_
  refine lv_istore_n (i := 1) (lv' := [(1, .int (0 : Int32)), (0, .ref (B + a0))]) hx hb dX6_init_39 rfl hl (by decide) rfl (fun ls hl => ?_)
  obtain ⟨K47, eK47, h⟩ := zlg h
  have hK47 : ∀ (S45 : zM) (H : Heap) (locs : List Loc), zMR D cy B S45 H → zX S0 S45 → va_S (fun q => B < q) s.heap H locs → zA S45 a0 6 → ∀ ls : Array Slot, lv_has ls 2 [(0, .ref (B + a0))] → K47 S45 = some S' → W p l e (headSpec (zws yX6_init cX6_init 2 none) { frames := 1, cells := 3, slots := 246, locals := 21 }).room s m (([.ref (B + a0)] : List Value).toArray) below meth c H locs 3 246 (MQ below (zQv D cy B S0 S') (([.ref (B + a0)] : List Value).toArray) s 3 246 (fun q => B < q)) (F0 m 59 ls []) := by
    intro S45 H locs hM hX46 hS h44 ls hl h
    rw [eK47] at h
    refine lv_aload_n hx hb dX6_init_59 rfl (lv_at hl 0 rfl) ?_
    refine lv_bipush (v := (-115 : Int32)) hx hb dX6_init_60 (by decide +kernel) ?_
    obtain ⟨S49, hr48, h⟩ := zb1 h
    refine z_runv (va_runV (As := [.int (-115 : Int32)]) (rest := []) ⟨hx, hb, hml, hown, hg⟩ (c_X6_append l D cy B h44 hr48) (z_cwV hg zw_43 zw_44 zw_45 zw_4 zw_46 zh_X6_append ⟨(Nat.le_of_ble_eq_true rfl), (Nat.le_of_ble_eq_true rfl)⟩) (zPV hC hM h44 (by decide) rfl) rfl rfl hl.1 rfl (lv_room (Nat.le_of_ble_eq_true rfl)) dX6_init_62 ⟨(Nat.le_of_ble_eq_true rfl), (Nat.le_of_ble_eq_true rfl)⟩) hS (fun H locs hM hX50 hS => ?_)
    have h52 := h44.mo hX50
    have hX53 := hX46.tr hX50
    refine lv_aload_n hx hb dX6_init_65 rfl (lv_at hl 0 rfl) ?_
    refine lv_bipush (v := (-104 : Int32)) hx hb dX6_init_66 (by decide +kernel) ?_
    obtain ⟨S55, hr54, h⟩ := zb1 h
    refine z_runv (va_runV (As := [.int (-104 : Int32)]) (rest := []) ⟨hx, hb, hml, hown, hg⟩ (c_X6_append l D cy B h52 hr54) (z_cwV hg zw_43 zw_44 zw_45 zw_4 zw_46 zh_X6_append ⟨(Nat.le_of_ble_eq_true rfl), (Nat.le_of_ble_eq_true rfl)⟩) (zPV hC hM h52 (by decide) rfl) rfl rfl hl.1 rfl (lv_room (Nat.le_of_ble_eq_true rfl)) dX6_init_68 ⟨(Nat.le_of_ble_eq_true rfl), (Nat.le_of_ble_eq_true rfl)⟩) hS (fun H locs hM hX56 hS => ?_)
    have h58 := h52.mo hX56
    have hX59 := hX53.tr hX56
    refine lv_aload_n hx hb dX6_init_71 rfl (lv_at hl 0 rfl) ?_
    refine lv_bipush (v := (-42 : Int32)) hx hb dX6_init_72 (by decide +kernel) ?_
    obtain ⟨S61, hr60, h⟩ := zb1 h
    refine z_runv (va_runV (As := [.int (-42 : Int32)]) (rest := []) ⟨hx, hb, hml, hown, hg⟩ (c_X6_append l D cy B h58 hr60) (z_cwV hg zw_43 zw_44 zw_45 zw_4 zw_46 zh_X6_append ⟨(Nat.le_of_ble_eq_true rfl), (Nat.le_of_ble_eq_true rfl)⟩) (zPV hC hM h58 (by decide) rfl) rfl rfl hl.1 rfl (lv_room (Nat.le_of_ble_eq_true rfl)) dX6_init_74 ⟨(Nat.le_of_ble_eq_true rfl), (Nat.le_of_ble_eq_true rfl)⟩) hS (fun H locs hM hX62 hS => ?_)
    have h64 := h58.mo hX62
    have hX65 := hX59.tr hX62
    refine lv_aload_n hx hb dX6_init_77 rfl (lv_at hl 0 rfl) ?_
    refine lv_bipush (v := (10 : Int32)) hx hb dX6_init_78 (by decide +kernel) ?_
    obtain ⟨S67, hr66, h⟩ := zb1 h
    refine z_runv (va_runV (As := [.int (10 : Int32)]) (rest := []) ⟨hx, hb, hml, hown, hg⟩ (c_X6_append l D cy B h64 hr66) (z_cwV hg zw_43 zw_44 zw_45 zw_4 zw_46 zh_X6_append ⟨(Nat.le_of_ble_eq_true rfl), (Nat.le_of_ble_eq_true rfl)⟩) (zPV hC hM h64 (by decide) rfl) rfl rfl hl.1 rfl (lv_room (Nat.le_of_ble_eq_true rfl)) dX6_init_80 ⟨(Nat.le_of_ble_eq_true rfl), (Nat.le_of_ble_eq_true rfl)⟩) hS (fun H locs hM hX68 hS => ?_)
    have h70 := h64.mo hX68
    have hX71 := hX65.tr hX68
    refine lv_aload_n hx hb dX6_init_83 rfl (lv_at hl 0 rfl) ?_
    refine lv_bipush (v := (-47 : Int32)) hx hb dX6_init_84 (by decide +kernel) ?_
    obtain ⟨S73, hr72, h⟩ := zb1 h
    refine z_runv (va_runV (As := [.int (-47 : Int32)]) (rest := []) ⟨hx, hb, hml, hown, hg⟩ (c_X6_append l D cy B h70 hr72) (z_cwV hg zw_43 zw_44 zw_45 zw_4 zw_46 zh_X6_append ⟨(Nat.le_of_ble_eq_true rfl), (Nat.le_of_ble_eq_true rfl)⟩) (zPV hC hM h70 (by decide) rfl) rfl rfl hl.1 rfl (lv_room (Nat.le_of_ble_eq_true rfl)) dX6_init_86 ⟨(Nat.le_of_ble_eq_true rfl), (Nat.le_of_ble_eq_true rfl)⟩) hS (fun H locs hM hX74 hS => ?_)
    have hX76 := hX71.tr hX74
    refine W.widen (k := 3) (n := 246) (by omega) (by omega) ?_
    exact z_vret hx hb hr hlk hM hX76 hS (zsm h) dX6_init_89
  have hL40 : ∀ (k : Nat) (x78 : Int32) (S79 : zM) (H : Heap) (locs : List Loc), zMR D cy B S79 H → zX S0 S79 → va_S (fun q => B < q) s.heap H locs → zA S79 a0 6 → ∀ ls : Array Slot, lv_has ls 2 [(0, .ref (B + a0)), (1, .int x78)] → f_X6_init_L40 a0 K47 k x78 S79 = some S' → W p l e (headSpec (zws yX6_init cX6_init 2 none) { frames := 1, cells := 3, slots := 246, locals := 21 }).room s m (([.ref (B + a0)] : List Value).toArray) below meth c H locs 3 246 (MQ below (zQv D cy B S0 S') (([.ref (B + a0)] : List Value).toArray) s 3 246 (fun q => B < q)) (F0 m 40 ls []) := by
    intro k
    induction k with
    | zero =>
      intro x78 S79 H locs hM hX80 hS h77 ls hl h
      exact znone h
    | succ k ih40 =>
      intro x78 S79 H locs hM hX80 hS h77 ls hl h
      replace h : f_X6_init_L40b a0 K47 (f_X6_init_L40 a0 K47 k) x78 S79 = some S' := h
      generalize f_X6_init_L40 a0 K47 k = rec40 at ih40 h
      unfold f_X6_init_L40b at h
      refine lv_iload_n hx hb dX6_init_40 rfl (lv_at hl 1 rfl) ?_
      refine lv_bipush (v := (6 : Int32)) hx hb dX6_init_41 (by decide +kernel) ?_
      refine lv_icmp_ge (tgt := 59) hx hb dX6_init_43 (by decide) (fun hc81 => ?_) (fun hc81 => ?_)
      · have h := zt h hc81
        exact hK47 S79 _ _ hM hX80 hS h77 _ (lv_sub hl [0] rfl) h
      · have h := zf h hc81
        refine lv_aload_n hx hb dX6_init_46 rfl (lv_at hl 0 rfl) ?_
        obtain ⟨hq83, h⟩ := zk h
        refine z_getN hx hb hg zin_6 hown hK hM h77 0 rfl (by decide) (hg _ zw_47) (fun _ h9 => h9) hq83 dX6_init_47 (fun h82 => ?_)
        refine lv_iload_n hx hb dX6_init_50 rfl (lv_at hl 1 rfl) ?_
        refine lv_iconst (v := (2 : Int32)) hx hb dX6_init_51 (by decide +kernel) ?_
        obtain ⟨hq84, h⟩ := zk h
        refine z_iast hx hb hK hM hS h82 hq84 dX6_init_52 (fun H locs hM hS => ?_)
        obtain ⟨S85, e86, h⟩ := zlg h
        rw [← e86] at hM
        have hX87 : zX S79 S85 := by rw [e86]; exact zX_pI
        have h88 := h77.mo hX87
        have hX89 := hX80.tr hX87
        refine lv_iinc (v := (x78 + (1 : Int32))) (lv' := [(1, .int (x78 + (1 : Int32))), (0, .ref (B + a0))]) hx hb dX6_init_53 hl (k := 1) rfl rfl (by decide) rfl (fun ls hl => ?_)
        refine lv_goto (tgt := 40) hx hb dX6_init_56 (by decide) ?_
        exact ih40 (x78 + (1 : Int32)) S85 _ _ hM hX89 hS h88 _ (lv_sub hl [1, 0] rfl) h
  exact hL40 n (0 : Int32) S39 _ _ hM hX43 hS h42 _ (lv_sub hl [1, 0] rfl) h
def f_X6_copyFrom (S0 : zM) (a0 : Nat) (a1 : Nat) : Option (zM) :=
  zChk (¬ (zr S0 a1 0) = 0) (zChk (¬ (zr S0 a0 0) = 0) (zChk (¬ (0 : Int32) < 0 ∧ ¬ (0 : Int32) < 0 ∧ ¬ (6 : Int32) < 0 ∧ (Int32.toNatClampNeg (0 : Int32)) + (Int32.toNatClampNeg (6 : Int32)) ≤ zln S0 (zr S0 a1 0) ∧ (Int32.toNatClampNeg (0 : Int32)) + (Int32.toNatClampNeg (6 : Int32)) ≤ zln S0 (zr S0 a0 0)) (zLet (zcp S0 (zr S0 a1 0) (Int32.toNatClampNeg (0 : Int32)) (zr S0 a0 0) (Int32.toNatClampNeg (0 : Int32)) (Int32.toNatClampNeg (6 : Int32))) (fun S6 => zLet (zpI S6 a0 1 (zi S6 a1 1)) (fun S12 => zLet (zpI S12 a0 2 (zi S12 a1 2)) (fun S18 => zChk (¬ (zr S18 a1 3) = 0) (zChk (¬ (zr S18 a0 3) = 0) (zChk (¬ (0 : Int32) < 0 ∧ ¬ (0 : Int32) < 0 ∧ ¬ (120 : Int32) < 0 ∧ (Int32.toNatClampNeg (0 : Int32)) + (Int32.toNatClampNeg (120 : Int32)) ≤ zln S18 (zr S18 a1 3) ∧ (Int32.toNatClampNeg (0 : Int32)) + (Int32.toNatClampNeg (120 : Int32)) ≤ zln S18 (zr S18 a0 3)) (zLet (zcp S18 (zr S18 a1 3) (Int32.toNatClampNeg (0 : Int32)) (zr S18 a0 3) (Int32.toNatClampNeg (0 : Int32)) (Int32.toNatClampNeg (120 : Int32))) (fun S29 => zLet (zpI S29 a0 4 (zi S29 a1 4)) (fun S35 => some S35)))))))))))
set_option maxHeartbeats 4000000 in
set_option maxRecDepth 100000 in
theorem c_X6_copyFrom (l : Launch) (D : va_G) (cy : Nat → ClassId) (B : Nat) {S0 : zM} {a0 : Nat} {a1 : Nat} {S' : zM} (ha0 : zA S0 a0 6) (ha1 : zA S0 a1 6) (h : f_X6_copyFrom S0 a0 a1 = some S') : Met l yX6_copyFrom (zws yX6_copyFrom cX6_copyFrom 2 none) { frames := 1, cells := 0, slots := 0, locals := 80 } (zPc D cy B S0 [.ref (B + a0), .ref (B + a1)]) (zQv D cy B S0 S') 0 0 (fun q => B < q) := by
  refine Met.ofW (cc := cX6_copyFrom) (maxL := 2) (ret := none) (by decide) rfl ?_
  intro p e s m args below meth c s₁ Bd hml hv
  obtain ⟨rfl, hC, hM⟩ := hv
  obtain ⟨hx, hb, hr, hg, hown, hlk⟩ := z_open Bd
  have hK := hC.1
  have hS : va_S (fun q => B < q) s.heap s.heap [] := va_S.rf
  have hX0 : zX S0 S0 := zX.rf
  refine z_entry (vs := [.ref (B + a0), .ref (B + a1)]) (Nat.le_of_ble_eq_true rfl) (fun ls hl => ?_)
  have hl : lv_has ls 2 [(0, .ref (B + a0)), (1, .ref (B + a1))] := hl
  unfold f_X6_copyFrom at h
  refine lv_aload_n hx hb dX6_copyFrom_0 rfl (lv_at hl 1 rfl) ?_
  obtain ⟨hq2, h⟩ := zk h
  refine z_getN hx hb hg zin_6 hown hK hM ha1 0 rfl (by decide) (hg _ zw_47) (fun _ h9 => h9) hq2 dX6_copyFrom_1 (fun h1 => ?_)
  refine lv_iconst (v := (0 : Int32)) hx hb dX6_copyFrom_4 (by decide +kernel) ?_
  refine lv_aload_n hx hb dX6_copyFrom_5 rfl (lv_at hl 0 rfl) ?_
  obtain ⟨hq4, h⟩ := zk h
  refine z_getN hx hb hg zin_6 hown hK hM ha0 0 rfl (by decide) (hg _ zw_47) (fun _ h9 => h9) hq4 dX6_copyFrom_6 (fun h3 => ?_)
  refine lv_iconst (v := (0 : Int32)) hx hb dX6_copyFrom_9 (by decide +kernel) ?_
  refine lv_bipush (v := (6 : Int32)) hx hb dX6_copyFrom_10 (by decide +kernel) ?_
  obtain ⟨hq5, h⟩ := zk h
  refine z_copy hx hb (hml.trans hl.1.symm) hown (hg _ zw_489) (hg _ zw_491) (hg _ zw_490) (hg _ zw_16) hK hM hS h1 h3 hq5 (Nat.le_of_ble_eq_true rfl) (Nat.le_of_ble_eq_true rfl) dX6_copyFrom_12 (fun H locs hM hS => ?_)
  obtain ⟨S6, e7, h⟩ := zlg h
  rw [← e7] at hM
  have hX8 : zX S0 S6 := by rw [e7]; exact zX_cp
  have h9 := ha0.mo hX8
  have h10 := ha1.mo hX8
  have hX11 := hX0.tr hX8
  refine lv_aload_n hx hb dX6_copyFrom_15 rfl (lv_at hl 0 rfl) ?_
  refine lv_aload_n hx hb dX6_copyFrom_16 rfl (lv_at hl 1 rfl) ?_
  refine z_getI hx hb hg zin_6 hown hK hM h10 1 rfl (by decide) (hg _ zw_50) (fun _ h9 => h9) dX6_copyFrom_17 ?_
  refine z_putI hx hb hg zin_6 tyX6 tyX6_ok nmX6 hown hK hM hS h9 1 rfl (by decide) (hg _ zw_50) (fun _ h9 => h9) (Or.inl rfl) (tyX6_ok 1 (by decide)) rfl rfl dX6_copyFrom_20 (fun H locs hM hS => ?_)
  obtain ⟨S12, e13, h⟩ := zlg h
  rw [← e13] at hM
  have hX14 : zX S6 S12 := by rw [e13]; exact zX_pI
  have h15 := h9.mo hX14
  have h16 := h10.mo hX14
  have hX17 := hX11.tr hX14
  refine lv_aload_n hx hb dX6_copyFrom_23 rfl (lv_at hl 0 rfl) ?_
  refine lv_aload_n hx hb dX6_copyFrom_24 rfl (lv_at hl 1 rfl) ?_
  refine z_getI hx hb hg zin_6 hown hK hM h16 2 rfl (by decide) (hg _ zw_53) (fun _ h9 => h9) dX6_copyFrom_25 ?_
  refine z_putI hx hb hg zin_6 tyX6 tyX6_ok nmX6 hown hK hM hS h15 2 rfl (by decide) (hg _ zw_53) (fun _ h9 => h9) (Or.inl rfl) (tyX6_ok 2 (by decide)) rfl rfl dX6_copyFrom_28 (fun H locs hM hS => ?_)
  obtain ⟨S18, e19, h⟩ := zlg h
  rw [← e19] at hM
  have hX20 : zX S12 S18 := by rw [e19]; exact zX_pI
  have h21 := h15.mo hX20
  have h22 := h16.mo hX20
  have hX23 := hX17.tr hX20
  refine lv_aload_n hx hb dX6_copyFrom_31 rfl (lv_at hl 1 rfl) ?_
  obtain ⟨hq25, h⟩ := zk h
  refine z_getN hx hb hg zin_6 hown hK hM h22 3 rfl (by decide) (hg _ zw_56) (fun _ h9 => h9) hq25 dX6_copyFrom_32 (fun h24 => ?_)
  refine lv_iconst (v := (0 : Int32)) hx hb dX6_copyFrom_35 (by decide +kernel) ?_
  refine lv_aload_n hx hb dX6_copyFrom_36 rfl (lv_at hl 0 rfl) ?_
  obtain ⟨hq27, h⟩ := zk h
  refine z_getN hx hb hg zin_6 hown hK hM h21 3 rfl (by decide) (hg _ zw_56) (fun _ h9 => h9) hq27 dX6_copyFrom_37 (fun h26 => ?_)
  refine lv_iconst (v := (0 : Int32)) hx hb dX6_copyFrom_40 (by decide +kernel) ?_
  refine lv_bipush (v := (120 : Int32)) hx hb dX6_copyFrom_41 (by decide +kernel) ?_
  obtain ⟨hq28, h⟩ := zk h
  refine z_copy hx hb (hml.trans hl.1.symm) hown (hg _ zw_489) (hg _ zw_491) (hg _ zw_490) (hg _ zw_16) hK hM hS h24 h26 hq28 (Nat.le_of_ble_eq_true rfl) (Nat.le_of_ble_eq_true rfl) dX6_copyFrom_43 (fun H locs hM hS => ?_)
  obtain ⟨S29, e30, h⟩ := zlg h
  rw [← e30] at hM
  have hX31 : zX S18 S29 := by rw [e30]; exact zX_cp
  have h32 := h21.mo hX31
  have h33 := h22.mo hX31
  have hX34 := hX23.tr hX31
  refine lv_aload_n hx hb dX6_copyFrom_46 rfl (lv_at hl 0 rfl) ?_
  refine lv_aload_n hx hb dX6_copyFrom_47 rfl (lv_at hl 1 rfl) ?_
  refine z_getI hx hb hg zin_6 hown hK hM h33 4 rfl (by decide) (hg _ zw_57) (fun _ h9 => h9) dX6_copyFrom_48 ?_
  refine z_putI hx hb hg zin_6 tyX6 tyX6_ok nmX6 hown hK hM hS h32 4 rfl (by decide) (hg _ zw_57) (fun _ h9 => h9) (Or.inl rfl) (tyX6_ok 4 (by decide)) rfl rfl dX6_copyFrom_51 (fun H locs hM hS => ?_)
  obtain ⟨S35, e36, h⟩ := zlg h
  rw [← e36] at hM
  have hX37 : zX S29 S35 := by rw [e36]; exact zX_pI
  have hX38 := hX34.tr hX37
  exact z_vret hx hb hr hlk hM hX38 hS (zsm h) dX6_copyFrom_54
def f_X6_forgetSum (S0 : zM) (a0 : Nat) : zM :=
  zLet (zpI S0 a0 4 (0 : Int32)) (fun S1 => S1)
set_option maxHeartbeats 4000000 in
set_option maxRecDepth 100000 in
theorem c_X6_forgetSum (l : Launch) (D : va_G) (cy : Nat → ClassId) (B : Nat) {S0 : zM} {a0 : Nat} {S' : zM} (ha0 : zA S0 a0 6) (h : f_X6_forgetSum S0 a0 = S') : Met l yX6_forgetSum (zws yX6_forgetSum cX6_forgetSum 1 none) { frames := 0, cells := 0, slots := 0, locals := 0 } (zPc D cy B S0 [.ref (B + a0)]) (zQv D cy B S0 S') 0 0 (fun q => B < q) := by
  refine Met.ofW (cc := cX6_forgetSum) (maxL := 1) (ret := none) (by decide) rfl ?_
  intro p e s m args below meth c s₁ Bd hml hv
  obtain ⟨rfl, hC, hM⟩ := hv
  obtain ⟨hx, hb, hr, hg, hown, hlk⟩ := z_open Bd
  have hK := hC.1
  have hS : va_S (fun q => B < q) s.heap s.heap [] := va_S.rf
  have hX0 : zX S0 S0 := zX.rf
  refine z_entry (vs := [.ref (B + a0)]) (Nat.le_of_ble_eq_true rfl) (fun ls hl => ?_)
  have hl : lv_has ls 1 [(0, .ref (B + a0))] := hl
  unfold f_X6_forgetSum at h
  refine lv_aload_n hx hb dX6_forgetSum_0 rfl (lv_at hl 0 rfl) ?_
  refine lv_iconst (v := (0 : Int32)) hx hb dX6_forgetSum_1 (by decide +kernel) ?_
  refine z_putI hx hb hg zin_6 tyX6 tyX6_ok nmX6 hown hK hM hS ha0 4 rfl (by decide) (hg _ zw_57) (fun _ h9 => h9) (Or.inl rfl) (tyX6_ok 4 (by decide)) rfl rfl dX6_forgetSum_2 (fun H locs hM hS => ?_)
  obtain ⟨S1, e2, h⟩ := zlg h
  rw [← e2] at hM
  have hX3 : zX S0 S1 := by rw [e2]; exact zX_pI
  have hX4 := hX0.tr hX3
  exact z_vret hx hb hr hlk hM hX4 hS h dX6_forgetSum_5
def f_X6_offFor_L4b (S0 : zM) (a0 : Nat) (v1 : Int32) (K3 : Int32 → Option (Int32)) (rec4 : Int32 → Int32 → Option (Int32)) (x5 : Int32) (x6 : Int32) : Option (Int32) :=
  if (6 : Int32) ≤ x6 then K3 x5 else if ((v1 >>> (x6 &&& 31)) &&& (1 : Int32)) = 0 then rec4 x5 (x6 + (1 : Int32)) else zChk (¬ (zr S0 a0 0) = 0) (zChk (¬ (x6 < 0 ∨ zln S0 (zr S0 a0 0) ≤ (x6).toNatClampNeg)) (rec4 (x5 + (zi S0 (zr S0 a0 0) (Int32.toNatClampNeg x6))) (x6 + (1 : Int32))))
def f_X6_offFor_L4 (S0 : zM) (a0 : Nat) (v1 : Int32) (K3 : Int32 → Option (Int32)) : Nat → Int32 → Int32 → Option (Int32)
  | 0 => fun _ _ => none
  | k + 1 => fun x5 x6 => f_X6_offFor_L4b S0 a0 v1 K3 (f_X6_offFor_L4 S0 a0 v1 K3 k) x5 x6
def f_X6_offFor (n : Nat) (S0 : zM) (a0 : Nat) (v1 : Int32) : Option (Int32) :=
  zLet (fun (x1 : Int32) => some x1) (fun K3 => f_X6_offFor_L4 S0 a0 v1 K3 n (0 : Int32) (0 : Int32))
set_option maxHeartbeats 4000000 in
set_option maxRecDepth 100000 in
theorem c_X6_offFor (l : Launch) (D : va_G) (cy : Nat → ClassId) (B : Nat) {n : Nat} {S0 : zM} {a0 : Nat} {v1 : Int32} {r : Int32} (ha0 : zA S0 a0 6) (h : f_X6_offFor n S0 a0 v1 = some r) : Met l yX6_offFor (zws yX6_offFor cX6_offFor 4 ((some .int))) { frames := 0, cells := 0, slots := 0, locals := 0 } (zPc D cy B S0 [.ref (B + a0), .int v1]) (zQi D cy B S0 r S0) 0 0 (fun q => B < q) := by
  refine Met.ofW (cc := cX6_offFor) (maxL := 4) (ret := ((some .int))) (by decide) rfl ?_
  intro p e s m args below meth c s₁ Bd hml hv
  obtain ⟨rfl, hC, hM⟩ := hv
  obtain ⟨hx, hb, hr, hg, hown, hlk⟩ := z_open Bd
  have hK := hC.1
  have hS : va_S (fun q => B < q) s.heap s.heap [] := va_S.rf
  have hX0 : zX S0 S0 := zX.rf
  refine z_entry (vs := [.ref (B + a0), .int v1]) (Nat.le_of_ble_eq_true rfl) (fun ls hl => ?_)
  have hl : lv_has ls 4 [(0, .ref (B + a0)), (1, .int v1)] := hl
  unfold f_X6_offFor at h
  refine lv_iconst (v := (0 : Int32)) hx hb dX6_offFor_0 (by decide +kernel) ?_
  refine lv_istore_n (i := 2) (lv' := [(2, .int (0 : Int32)), (0, .ref (B + a0)), (1, .int v1)]) hx hb dX6_offFor_1 rfl hl (by decide) rfl (fun ls hl => ?_)
  refine lv_iconst (v := (0 : Int32)) hx hb dX6_offFor_2 (by decide +kernel) ?_
  refine lv_istore_n (i := 3) (lv' := [(3, .int (0 : Int32)), (2, .int (0 : Int32)), (0, .ref (B + a0)), (1, .int v1)]) hx hb dX6_offFor_3 rfl hl (by decide) rfl (fun ls hl => ?_)
  obtain ⟨K3, eK3, h⟩ := zlg h
  have hK3 : ∀ (x1 : Int32) (H : Heap) (locs : List Loc), zMR D cy B S0 H → zX S0 S0 → va_S (fun q => B < q) s.heap H locs → ∀ ls : Array Slot, lv_has ls 4 [(2, .int x1)] → K3 x1 = some r → W p l e (headSpec (zws yX6_offFor cX6_offFor 4 ((some .int))) { frames := 0, cells := 0, slots := 0, locals := 0 }).room s m (([.ref (B + a0), .int v1] : List Value).toArray) below meth c H locs 0 0 (MQ below (zQi D cy B S0 r S0) (([.ref (B + a0), .int v1] : List Value).toArray) s 0 0 (fun q => B < q)) (F0 m 33 ls []) := by
    intro x1 H locs hM hX2 hS ls hl h
    rw [eK3] at h
    refine lv_iload_n hx hb dX6_offFor_33 rfl (lv_at hl 0 rfl) ?_
    exact z_iret hx hb hr hlk hM hX2 hS ⟨zsm h, rfl⟩ dX6_offFor_34
  have hL4 : ∀ (k : Nat) (x5 : Int32) (x6 : Int32) (H : Heap) (locs : List Loc), zMR D cy B S0 H → zX S0 S0 → va_S (fun q => B < q) s.heap H locs → zA S0 a0 6 → ∀ ls : Array Slot, lv_has ls 4 [(0, .ref (B + a0)), (1, .int v1), (2, .int x5), (3, .int x6)] → f_X6_offFor_L4 S0 a0 v1 K3 k x5 x6 = some r → W p l e (headSpec (zws yX6_offFor cX6_offFor 4 ((some .int))) { frames := 0, cells := 0, slots := 0, locals := 0 }).room s m (([.ref (B + a0), .int v1] : List Value).toArray) below meth c H locs 0 0 (MQ below (zQi D cy B S0 r S0) (([.ref (B + a0), .int v1] : List Value).toArray) s 0 0 (fun q => B < q)) (F0 m 4 ls []) := by
    intro k
    induction k with
    | zero =>
      intro x5 x6 H locs hM hX7 hS h4 ls hl h
      exact znone h
    | succ k ih4 =>
      intro x5 x6 H locs hM hX7 hS h4 ls hl h
      replace h : f_X6_offFor_L4b S0 a0 v1 K3 (f_X6_offFor_L4 S0 a0 v1 K3 k) x5 x6 = some r := h
      generalize f_X6_offFor_L4 S0 a0 v1 K3 k = rec4 at ih4 h
      unfold f_X6_offFor_L4b at h
      refine lv_iload_n hx hb dX6_offFor_4 rfl (lv_at hl 3 rfl) ?_
      refine lv_bipush (v := (6 : Int32)) hx hb dX6_offFor_5 (by decide +kernel) ?_
      refine lv_icmp_ge (tgt := 33) hx hb dX6_offFor_7 (by decide) (fun hc8 => ?_) (fun hc8 => ?_)
      · have h := zt h hc8
        exact hK3 x5 _ _ hM hX7 hS _ (lv_sub hl [2] rfl) h
      · have h := zf h hc8
        refine lv_iload_n hx hb dX6_offFor_10 rfl (lv_at hl 1 rfl) ?_
        refine lv_iload_n hx hb dX6_offFor_11 rfl (lv_at hl 3 rfl) ?_
        refine lv_ishr hx hb dX6_offFor_12 ?_
        refine lv_iconst (v := (1 : Int32)) hx hb dX6_offFor_13 (by decide +kernel) ?_
        refine lv_iand hx hb dX6_offFor_14 ?_
        refine lv_if_eq (tgt := 27) hx hb dX6_offFor_15 (by decide) (fun hc9 => ?_) (fun hc9 => ?_)
        · have h := zt h hc9
          refine lv_iinc (v := (x6 + (1 : Int32))) (lv' := [(3, .int (x6 + (1 : Int32))), (0, .ref (B + a0)), (1, .int v1), (2, .int x5)]) hx hb dX6_offFor_27 hl (k := 3) rfl rfl (by decide) rfl (fun ls hl => ?_)
          refine lv_goto (tgt := 4) hx hb dX6_offFor_30 (by decide) ?_
          exact ih4 x5 (x6 + (1 : Int32)) _ _ hM hX7 hS h4 _ (lv_sub hl [1, 2, 3, 0] rfl) h
        · have h := zf h hc9
          refine lv_iload_n hx hb dX6_offFor_18 rfl (lv_at hl 2 rfl) ?_
          refine lv_aload_n hx hb dX6_offFor_19 rfl (lv_at hl 0 rfl) ?_
          obtain ⟨hq11, h⟩ := zk h
          refine z_getN hx hb hg zin_6 hown hK hM h4 0 rfl (by decide) (hg _ zw_47) (fun _ h9 => h9) hq11 dX6_offFor_20 (fun h10 => ?_)
          refine lv_iload_n hx hb dX6_offFor_23 rfl (lv_at hl 3 rfl) ?_
          obtain ⟨hq12, h⟩ := zk h
          refine z_iald hx hb hK hM h10 hq12 dX6_offFor_24 ?_
          refine lv_iadd hx hb dX6_offFor_25 ?_
          refine lv_istore_n (i := 2) (lv' := [(2, .int (x5 + (zi S0 (zr S0 a0 0) (Int32.toNatClampNeg x6)))), (0, .ref (B + a0)), (1, .int v1), (3, .int x6)]) hx hb dX6_offFor_26 rfl hl (by decide) rfl (fun ls hl => ?_)
          refine lv_iinc (v := (x6 + (1 : Int32))) (lv' := [(3, .int (x6 + (1 : Int32))), (2, .int (x5 + (zi S0 (zr S0 a0 0) (Int32.toNatClampNeg x6)))), (0, .ref (B + a0)), (1, .int v1)]) hx hb dX6_offFor_27 hl (k := 3) rfl rfl (by decide) rfl (fun ls hl => ?_)
          refine lv_goto (tgt := 4) hx hb dX6_offFor_30 (by decide) ?_
          exact ih4 (x5 + (zi S0 (zr S0 a0 0) (Int32.toNatClampNeg x6))) (x6 + (1 : Int32)) _ _ hM hX7 hS h4 _ (lv_sub hl [2, 3, 1, 0] rfl) h
  exact hL4 n (0 : Int32) (0 : Int32) _ _ hM hX0 hS ha0 _ (lv_sub hl [2, 3, 1, 0] rfl) h
