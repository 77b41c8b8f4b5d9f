/-! the law: its loop, its start -/
def zRun (x y o L : Nat) (xs : Nat → Int32) : Nat → Nat → zM → Prop
  | 0, _, _ => True
  | n + 1, j, S => j + 6 ≤ L → ∃ S' : zM, zStep x y o (xs j &&& 63) (xs (j + 1)) (xs (j + 2)) (xs (j + 3)) (xs (j + 4)) (xs (j + 5)) S S' ∧ zRun x y o L xs n (j + 6) S'
theorem zi_add {j k : Nat} : Int32.ofNat j + Int32.ofNat k = Int32.ofNat (j + k) := (Int32.ofNat_add j k).symm
theorem zi_nat {j : Nat} (h : j < 2 ^ 31) : (Int32.ofNat j).toNatClampNeg = j := Int32.toNatClampNeg_ofNat_of_lt h
theorem zi_neg {j : Nat} (h : j < 2 ^ 31) : ¬ Int32.ofNat j < 0 := by
  rw [Int32.lt_iff_toInt_lt, Int32.toInt_ofNat_of_lt h]
  show ¬ ((j : Int) < 0)
  omega
theorem zi_in {j L : Nat} (h : j < L) (hL : L ≤ 3072) : vp_in (Int32.ofNat j) L := by
  intro hh
  rcases hh with h1 | h1
  · exact zi_neg (by omega) h1
  · rw [zi_nat (by omega)] at h1
    omega
theorem zi_gt {j L : Nat} (hj : j ≤ 4000) (hL : L ≤ 3072) (h : ¬ Int32.ofNat L - 6 < Int32.ofNat j) : j + 6 ≤ L := by
  rw [Int32.lt_iff_toInt_lt, Int32.toInt_sub, Int32.toInt_ofNat_of_lt (by omega), Int32.toInt_ofNat_of_lt (by omega)] at h
  have h6 : (6 : Int32).toInt = 6 := rfl
  rw [h6, Int.bmod_eq_of_le (by omega) (by omega)] at h
  omega
theorem zi_le {j L : Nat} (hj : j ≤ 4000) (hL : L ≤ 3072) (h : Int32.ofNat L - 6 < Int32.ofNat j) : L < j + 6 := by
  rw [Int32.lt_iff_toInt_lt, Int32.toInt_sub, Int32.toInt_ofNat_of_lt (by omega), Int32.toInt_ofNat_of_lt (by omega)] at h
  have h6 : (6 : Int32).toInt = 6 := rfl
  rw [h6, Int.bmod_eq_of_le (by omega) (by omega)] at h
  omega
set_option maxHeartbeats 4000000 in
set_option maxRecDepth 100000 in
theorem L_call {p : Program} {e : Env} {s : State} {m : MethodId} {args : Array Value} {below : List Frame} {meth : Method} {c : Code} {H : Heap} {locs : List Loc} {cells slots : Nat} {Q : State → Prop} {ls : Array Slot} {D : va_G} {cy : Nat → ClassId} {B b L : Nat} {xs : Nat → Int32} {x y o : Nat} {S S' : zM} {i : Int32} (l : Launch) (hst : l.stackTraces = false) (hx : p.tables.exec = Jvm.exec) (hb : c.code = cL_law) (hml : c.maxLocals = 8) (hown : s.vm.findClass RL = some m.cls) (hg : ∀ w ∈ zGW, w.before args s = true) (hC : zC D cy s) (hT : zT B s s.heap) (hXs : va_X b L xs s s.heap) (hbl : b < s.heap.size) (hbB : ¬ B < b) (hin : vp_in (i + 1) L ∧ vp_in (i + 2) L ∧ vp_in (i + 3) L ∧ vp_in (i + 4) L ∧ vp_in (i + 5) L) (hax : zA S x 11) (hay : zA S y 12) (hao : zA S o 21) (hl : lv_has ls 8 [(4, .int i), (3, .ref (B + o)), (2, .ref (B + y)), (1, .ref (B + x)), (0, .ref b)]) (hM : zMR D cy B S H) (hS : va_S (fun q => B < q) s.heap H locs) (hc1 : cells + 1 ≤ 601024) (hc2 : slots + 6 ≤ 7293034) {op w : Int32} (hop : w = op) (h : zStep x y o op (xs (i + 1).toNatClampNeg) (xs (i + 2).toNatClampNeg) (xs (i + 3).toNatClampNeg) (xs (i + 4).toNatClampNeg) (xs (i + 5).toNatClampNeg) S S') (kk : ∀ (ls : Array Slot) (H : Heap) (locs : List Loc), lv_has ls 8 [(4, .int i), (3, .ref (B + o)), (2, .ref (B + y)), (1, .ref (B + x)), (0, .ref b)] → zMR D cy B S' H → zX S S' → va_S (fun q => B < q) s.heap H locs → W p l e room_1 s m args below meth c H locs (cells + 1) (slots + 6) Q (F0 m 1621 ls [])) : W p l e room_1 s m args below meth c H locs cells slots Q (F0 m 40 ls [.int w]) := by
    have hs := h
    unfold zStep at hs
    by_cases hq0 : op = 0
    · rw [if_pos hq0] at hs
      refine z_tin (off := 168) hx hb (hop.trans hq0) dL_law_40 (by decide +kernel) (tgt := 208) (by decide) ?_
      exact L_0 l hst hx hb hml hown hg hC hT hXs hbl hbB hin hax hay hao hl hM hS hc1 hc2 hs kk
    rw [if_neg hq0] at hs
    by_cases hq1 : op = 1
    · rw [if_pos hq1] at hs
      refine z_tin (off := 205) hx hb (hop.trans hq1) dL_law_40 (by decide +kernel) (tgt := 245) (by decide) ?_
      exact L_1 l hst hx hb hml hown hg hC hT hXs hbl hbB hin hax hay hao hl hM hS hc1 hc2 hs kk
    rw [if_neg hq1] at hs
    by_cases hq2 : op = 2
    · rw [if_pos hq2] at hs
      refine z_tin (off := 242) hx hb (hop.trans hq2) dL_law_40 (by decide +kernel) (tgt := 282) (by decide) ?_
      exact L_2 l hst hx hb hml hown hg hC hT hXs hbl hbB hin hax hay hao hl hM hS hc1 hc2 hs kk
    rw [if_neg hq2] at hs
    by_cases hq3 : op = 3
    · rw [if_pos hq3] at hs
      refine z_tin (off := 279) hx hb (hop.trans hq3) dL_law_40 (by decide +kernel) (tgt := 319) (by decide) ?_
      exact L_3 l hst hx hb hml hown hg hC hT hXs hbl hbB hin hax hay hao hl hM hS hc1 hc2 hs kk
    rw [if_neg hq3] at hs
    by_cases hq4 : op = 4
    · rw [if_pos hq4] at hs
      refine z_tin (off := 328) hx hb (hop.trans hq4) dL_law_40 (by decide +kernel) (tgt := 368) (by decide) ?_
      exact L_4 l hst hx hb hml hown hg hC hT hXs hbl hbB hin hax hay hao hl hM hS hc1 hc2 hs kk
    rw [if_neg hq4] at hs
    by_cases hq5 : op = 5
    · rw [if_pos hq5] at hs
      refine z_tin (off := 389) hx hb (hop.trans hq5) dL_law_40 (by decide +kernel) (tgt := 429) (by decide) ?_
      exact L_5 l hst hx hb hml hown hg hC hT hXs hbl hbB hin hax hay hao hl hM hS hc1 hc2 hs kk
    rw [if_neg hq5] at hs
    by_cases hq6 : op = 6
    · rw [if_pos hq6] at hs
      refine z_tin (off := 426) hx hb (hop.trans hq6) dL_law_40 (by decide +kernel) (tgt := 466) (by decide) ?_
      exact L_6 l hst hx hb hml hown hg hC hT hXs hbl hbB hin hax hay hao hl hM hS hc1 hc2 hs kk
    rw [if_neg hq6] at hs
    by_cases hq7 : op = 7
    · rw [if_pos hq7] at hs
      refine z_tin (off := 475) hx hb (hop.trans hq7) dL_law_40 (by decide +kernel) (tgt := 515) (by decide) ?_
      exact L_7 l hst hx hb hml hown hg hC hT hXs hbl hbB hin hax hay hao hl hM hS hc1 hc2 hs kk
    rw [if_neg hq7] at hs
    by_cases hq8 : op = 8
    · rw [if_pos hq8] at hs
      refine z_tin (off := 512) hx hb (hop.trans hq8) dL_law_40 (by decide +kernel) (tgt := 552) (by decide) ?_
      exact L_8 l hst hx hb hml hown hg hC hT hXs hbl hbB hin hax hay hao hl hM hS hc1 hc2 hs kk
    rw [if_neg hq8] at hs
    by_cases hq9 : op = 9
    · rw [if_pos hq9] at hs
      refine z_tin (off := 537) hx hb (hop.trans hq9) dL_law_40 (by decide +kernel) (tgt := 577) (by decide) ?_
      exact L_9 l hst hx hb hml hown hg hC hT hXs hbl hbB hin hax hay hao hl hM hS hc1 hc2 hs kk
    rw [if_neg hq9] at hs
    by_cases hq10 : op = 10
    · rw [if_pos hq10] at hs
      refine z_tin (off := 574) hx hb (hop.trans hq10) dL_law_40 (by decide +kernel) (tgt := 614) (by decide) ?_
      exact L_10 l hst hx hb hml hown hg hC hT hXs hbl hbB hin hax hay hao hl hM hS hc1 hc2 hs kk
    rw [if_neg hq10] at hs
    by_cases hq11 : op = 11
    · rw [if_pos hq11] at hs
      refine z_tin (off := 611) hx hb (hop.trans hq11) dL_law_40 (by decide +kernel) (tgt := 651) (by decide) ?_
      exact L_11 l hst hx hb hml hown hg hC hT hXs hbl hbB hin hax hay hao hl hM hS hc1 hc2 hs kk
    rw [if_neg hq11] at hs
    by_cases hq12 : op = 12
    · rw [if_pos hq12] at hs
      refine z_tin (off := 636) hx hb (hop.trans hq12) dL_law_40 (by decide +kernel) (tgt := 676) (by decide) ?_
      exact L_12 l hst hx hb hml hown hg hC hT hXs hbl hbB hin hax hay hao hl hM hS hc1 hc2 hs kk
    rw [if_neg hq12] at hs
    by_cases hq13 : op = 13
    · rw [if_pos hq13] at hs
      refine z_tin (off := 661) hx hb (hop.trans hq13) dL_law_40 (by decide +kernel) (tgt := 701) (by decide) ?_
      exact L_13 l hst hx hb hml hown hg hC hT hXs hbl hbB hin hax hay hao hl hM hS hc1 hc2 hs kk
    rw [if_neg hq13] at hs
    by_cases hq14 : op = 14
    · rw [if_pos hq14] at hs
      refine z_tin (off := 699) hx hb (hop.trans hq14) dL_law_40 (by decide +kernel) (tgt := 739) (by decide) ?_
      exact L_14 l hst hx hb hml hown hg hC hT hXs hbl hbB hin hax hay hao hl hM hS hc1 hc2 hs kk
    rw [if_neg hq14] at hs
    by_cases hq15 : op = 15
    · rw [if_pos hq15] at hs
      refine z_tin (off := 736) hx hb (hop.trans hq15) dL_law_40 (by decide +kernel) (tgt := 776) (by decide) ?_
      exact L_15 l hst hx hb hml hown hg hC hT hXs hbl hbB hin hax hay hao hl hM hS hc1 hc2 hs kk
    rw [if_neg hq15] at hs
    by_cases hq16 : op = 16
    · rw [if_pos hq16] at hs
      refine z_tin (off := 761) hx hb (hop.trans hq16) dL_law_40 (by decide +kernel) (tgt := 801) (by decide) ?_
      exact L_16 l hst hx hb hml hown hg hC hT hXs hbl hbB hin hax hay hao hl hM hS hc1 hc2 hs kk
    rw [if_neg hq16] at hs
    by_cases hq17 : op = 17
    · rw [if_pos hq17] at hs
      refine z_tin (off := 810) hx hb (hop.trans hq17) dL_law_40 (by decide +kernel) (tgt := 850) (by decide) ?_
      exact L_17 l hst hx hb hml hown hg hC hT hXs hbl hbB hin hax hay hao hl hM hS hc1 hc2 hs kk
    rw [if_neg hq17] at hs
    by_cases hq18 : op = 18
    · rw [if_pos hq18] at hs
      refine z_tin (off := 871) hx hb (hop.trans hq18) dL_law_40 (by decide +kernel) (tgt := 911) (by decide) ?_
      exact L_18 l hst hx hb hml hown hg hC hT hXs hbl hbB hin hax hay hao hl hM hS hc1 hc2 hs kk
    rw [if_neg hq18] at hs
    by_cases hq19 : op = 19
    · rw [if_pos hq19] at hs
      refine z_tin (off := 920) hx hb (hop.trans hq19) dL_law_40 (by decide +kernel) (tgt := 960) (by decide) ?_
      exact L_19 l hst hx hb hml hown hg hC hT hXs hbl hbB hin hax hay hao hl hM hS hc1 hc2 hs kk
    rw [if_neg hq19] at hs
    by_cases hq20 : op = 20
    · rw [if_pos hq20] at hs
      refine z_tin (off := 933) hx hb (hop.trans hq20) dL_law_40 (by decide +kernel) (tgt := 973) (by decide) ?_
      exact L_20 l hst hx hb hml hown hg hC hT hXs hbl hbB hin hax hay hao hl hM hS hc1 hc2 hs kk
    rw [if_neg hq20] at hs
    by_cases hq21 : op = 21
    · rw [if_pos hq21] at hs
      refine z_tin (off := 958) hx hb (hop.trans hq21) dL_law_40 (by decide +kernel) (tgt := 998) (by decide) ?_
      exact L_21 l hst hx hb hml hown hg hC hT hXs hbl hbB hin hax hay hao hl hM hS hc1 hc2 hs kk
    rw [if_neg hq21] at hs
    by_cases hq22 : op = 22
    · rw [if_pos hq22] at hs
      refine z_tin (off := 983) hx hb (hop.trans hq22) dL_law_40 (by decide +kernel) (tgt := 1023) (by decide) ?_
      exact L_22 l hst hx hb hml hown hg hC hT hXs hbl hbB hin hax hay hao hl hM hS hc1 hc2 hs kk
    rw [if_neg hq22] at hs
    by_cases hq23 : op = 23
    · rw [if_pos hq23] at hs
      refine z_tin (off := 1020) hx hb (hop.trans hq23) dL_law_40 (by decide +kernel) (tgt := 1060) (by decide) ?_
      exact L_23 l hst hx hb hml hown hg hC hT hXs hbl hbB hin hax hay hao hl hM hS hc1 hc2 hs kk
    rw [if_neg hq23] at hs
    by_cases hq24 : op = 24
    · rw [if_pos hq24] at hs
      refine z_tin (off := 1057) hx hb (hop.trans hq24) dL_law_40 (by decide +kernel) (tgt := 1097) (by decide) ?_
      exact L_24 l hst hx hb hml hown hg hC hT hXs hbl hbB hin hax hay hao hl hM hS hc1 hc2 hs kk
    rw [if_neg hq24] at hs
    by_cases hq25 : op = 25
    · rw [if_pos hq25] at hs
      refine z_tin (off := 1082) hx hb (hop.trans hq25) dL_law_40 (by decide +kernel) (tgt := 1122) (by decide) ?_
      exact L_25 l hst hx hb hml hown hg hC hT hXs hbl hbB hin hax hay hao hl hM hS hc1 hc2 hs kk
    rw [if_neg hq25] at hs
    by_cases hq26 : op = 26
    · rw [if_pos hq26] at hs
      refine z_tin (off := 1095) hx hb (hop.trans hq26) dL_law_40 (by decide +kernel) (tgt := 1135) (by decide) ?_
      exact L_26 l hst hx hb hml hown hg hC hT hXs hbl hbB hin hax hay hao hl hM hS hc1 hc2 hs kk
    rw [if_neg hq26] at hs
    by_cases hq27 : op = 27
    · rw [if_pos hq27] at hs
      refine z_tin (off := 1144) hx hb (hop.trans hq27) dL_law_40 (by decide +kernel) (tgt := 1184) (by decide) ?_
      exact L_27 l hst hx hb hml hown hg hC hT hXs hbl hbB hin hax hay hao hl hM hS hc1 hc2 hs kk
    rw [if_neg hq27] at hs
    by_cases hq28 : op = 28
    · rw [if_pos hq28] at hs
      refine z_tin (off := 1193) hx hb (hop.trans hq28) dL_law_40 (by decide +kernel) (tgt := 1233) (by decide) ?_
      exact L_28 l hst hx hb hml hown hg hC hT hXs hbl hbB hin hax hay hao hl hM hS hc1 hc2 hs kk
    rw [if_neg hq28] at hs
    by_cases hq29 : op = 29
    · rw [if_pos hq29] at hs
      refine z_tin (off := 1206) hx hb (hop.trans hq29) dL_law_40 (by decide +kernel) (tgt := 1246) (by decide) ?_
      exact L_29 l hst hx hb hml hown hg hC hT hXs hbl hbB hin hax hay hao hl hM hS hc1 hc2 hs kk
    rw [if_neg hq29] at hs
    by_cases hq30 : op = 30
    · rw [if_pos hq30] at hs
      refine z_tin (off := 1219) hx hb (hop.trans hq30) dL_law_40 (by decide +kernel) (tgt := 1259) (by decide) ?_
      exact L_30 l hst hx hb hml hown hg hC hT hXs hbl hbB hin hax hay hao hl hM hS hc1 hc2 hs kk
    rw [if_neg hq30] at hs
    by_cases hq31 : op = 31
    · rw [if_pos hq31] at hs
      refine z_tin (off := 1244) hx hb (hop.trans hq31) dL_law_40 (by decide +kernel) (tgt := 1284) (by decide) ?_
      exact L_31 l hst hx hb hml hown hg hC hT hXs hbl hbB hin hax hay hao hl hM hS hc1 hc2 hs kk
    rw [if_neg hq31] at hs
    by_cases hq32 : op = 32
    · rw [if_pos hq32] at hs
      refine z_tin (off := 1293) hx hb (hop.trans hq32) dL_law_40 (by decide +kernel) (tgt := 1333) (by decide) ?_
      exact L_32 l hst hx hb hml hown hg hC hT hXs hbl hbB hin hax hay hao hl hM hS hc1 hc2 hs kk
    rw [if_neg hq32] at hs
    by_cases hq33 : op = 33
    · rw [if_pos hq33] at hs
      refine z_tin (off := 1342) hx hb (hop.trans hq33) dL_law_40 (by decide +kernel) (tgt := 1382) (by decide) ?_
      exact L_33 l hst hx hb hml hown hg hC hT hXs hbl hbB hin hax hay hao hl hM hS hc1 hc2 hs kk
    rw [if_neg hq33] at hs
    by_cases hq34 : op = 34
    · rw [if_pos hq34] at hs
      refine z_tin (off := 1391) hx hb (hop.trans hq34) dL_law_40 (by decide +kernel) (tgt := 1431) (by decide) ?_
      exact L_34 l hst hx hb hml hown hg hC hT hXs hbl hbB hin hax hay hao hl hM hS hc1 hc2 hs kk
    rw [if_neg hq34] at hs
    by_cases hq35 : op = 35
    · rw [if_pos hq35] at hs
      refine z_tin (off := 1458) hx hb (hop.trans hq35) dL_law_40 (by decide +kernel) (tgt := 1498) (by decide) ?_
      exact L_35 l hst hx hb hml hown hg hC hT hXs hbl hbB hin hax hay hao hl hM hS hc1 hc2 hs kk
    rw [if_neg hq35] at hs
    by_cases hq36 : op = 36
    · rw [if_pos hq36] at hs
      refine z_tin (off := 1531) hx hb (hop.trans hq36) dL_law_40 (by decide +kernel) (tgt := 1571) (by decide) ?_
      exact L_36 l hst hx hb hml hown hg hC hT hXs hbl hbB hin hax hay hao hl hM hS hc1 hc2 hs kk
    rw [if_neg hq36] at hs
    by_cases hq37 : op = 37
    · rw [if_pos hq37] at hs
      refine z_tin (off := 1556) hx hb (hop.trans hq37) dL_law_40 (by decide +kernel) (tgt := 1596) (by decide) ?_
      exact L_37 l hst hx hb hml hown hg hC hT hXs hbl hbB hin hax hay hao hl hM hS hc1 hc2 hs kk
    rw [if_neg hq37] at hs
    subst hs
    refine lv_tableOut hx hb dL_law_40 ?_ (tgt := 1621) (by decide) ?_
    · have hall : ∀ n : Nat, n < 38 → ¬ op = Int32.ofNat n := by
        intro n hn
        match n, hn with
        | 0, _ => exact hq0
        | 1, _ => exact hq1
        | 2, _ => exact hq2
        | 3, _ => exact hq3
        | 4, _ => exact hq4
        | 5, _ => exact hq5
        | 6, _ => exact hq6
        | 7, _ => exact hq7
        | 8, _ => exact hq8
        | 9, _ => exact hq9
        | 10, _ => exact hq10
        | 11, _ => exact hq11
        | 12, _ => exact hq12
        | 13, _ => exact hq13
        | 14, _ => exact hq14
        | 15, _ => exact hq15
        | 16, _ => exact hq16
        | 17, _ => exact hq17
        | 18, _ => exact hq18
        | 19, _ => exact hq19
        | 20, _ => exact hq20
        | 21, _ => exact hq21
        | 22, _ => exact hq22
        | 23, _ => exact hq23
        | 24, _ => exact hq24
        | 25, _ => exact hq25
        | 26, _ => exact hq26
        | 27, _ => exact hq27
        | 28, _ => exact hq28
        | 29, _ => exact hq29
        | 30, _ => exact hq30
        | 31, _ => exact hq31
        | 32, _ => exact hq32
        | 33, _ => exact hq33
        | 34, _ => exact hq34
        | 35, _ => exact hq35
        | 36, _ => exact hq36
        | 37, _ => exact hq37
        | n + 38, h => omega
      rw [hop]
      rcases Int.lt_or_le op.toInt 0 with h1 | h1
      · exact Or.inl h1
      · rcases Int.lt_or_le 37 op.toInt with h2 | h2
        · exact Or.inr h2
        · exact absurd (by rw [← Int32.ofInt_eq_ofNat, Int.toNat_of_nonneg h1, Int32.ofInt_toInt]) (hall op.toInt.toNat (by omega))
    · exact W.widen (k := cells + 1) (n := slots + 6) (by omega) (by omega) (kk ls H locs hl hM zX.rf hS)
set_option maxHeartbeats 4000000 in
set_option maxRecDepth 100000 in
theorem L_loop {p : Program} {e : Env} {s : State} {m : MethodId} {args : Array Value} {below : List Frame} {meth : Method} {c : Code} {Q : State → Prop} {D : va_G} {cy : Nat → ClassId} {B b L : Nat} {xs : Nat → Int32} {x y o : Nat} (l : Launch) (hst : l.stackTraces = false) (hx : p.tables.exec = Jvm.exec) (hb : c.code = cL_law) (hml : c.maxLocals = 8) (hown : s.vm.findClass RL = some m.cls) (hg : ∀ w ∈ zGW, w.before args s = true) (hC : zC D cy s) (hT : zT B s s.heap) (hXs : va_X b L xs s s.heap) (hbl : b < s.heap.size) (hbB : ¬ B < b) (hL : L ≤ 3072)
    (hend : ∀ (ls : Array Slot) (H : Heap) (locs : List Loc) (cells slots : Nat), va_S (fun q => B < q) s.heap H locs → cells ≤ 601024 → slots ≤ 7293034 → W p l e room_1 s m args below meth c H locs cells slots Q (F0 m 1627 ls [])) :
    ∀ (n j : Nat) (S : zM) (ls : Array Slot) (H : Heap) (locs : List Loc) (cells slots : Nat), L < j + 6 * n → j ≤ L + 5 → zRun x y o L xs n j S → zA S x 11 → zA S y 12 → zA S o 21 → lv_has ls 8 [(4, .int (Int32.ofNat j)), (3, .ref (B + o)), (2, .ref (B + y)), (1, .ref (B + x)), (0, .ref b)] → zMR D cy B S H → va_S (fun q => B < q) s.heap H locs → cells + (L + 6 - j) ≤ 601024 → slots + (L + 6 - j) ≤ 7293034 →
      W p l e room_1 s m args below meth c H locs cells slots Q (F0 m 23 ls []) := by
  intro n
  induction n with
  | zero =>
    intro j S ls H locs cells slots hn hj hrun hax hay hao hl hM hS hc1 hc2
    refine lv_iload hx hb dL_law_23 (lv_at hl 0 rfl) ?_
    refine lv_aload_n hx hb dL_law_25 rfl (lv_at hl 4 rfl) ?_
    refine va_slen hx hb hXs hbl hbB hS dL_law_26 ?_
    refine lv_bipush (v := (6 : Int32)) hx hb dL_law_27 (by decide +kernel) ?_
    refine lv_isub hx hb dL_law_29 ?_
    refine lv_icmp_gt (tgt := 1627) hx hb dL_law_30 (by decide) (fun hc => ?_) (fun hc => ?_)
    · exact hend ls H locs cells slots hS (by omega) (by omega)
    · have := zi_gt (by omega) hL hc
      omega
  | succ n ih =>
    intro j S ls H locs cells slots hn hj hrun hax hay hao hl hM hS hc1 hc2
    refine lv_iload hx hb dL_law_23 (lv_at hl 0 rfl) ?_
    refine lv_aload_n hx hb dL_law_25 rfl (lv_at hl 4 rfl) ?_
    refine va_slen hx hb hXs hbl hbB hS dL_law_26 ?_
    refine lv_bipush (v := (6 : Int32)) hx hb dL_law_27 (by decide +kernel) ?_
    refine lv_isub hx hb dL_law_29 ?_
    refine lv_icmp_gt (tgt := 1627) hx hb dL_law_30 (by decide) (fun hc => ?_) (fun hc => ?_)
    · exact hend ls H locs cells slots hS (by omega) (by omega)
    · have hjL := zi_gt (by omega) hL hc
      obtain ⟨S', hstep, hrun'⟩ := hrun hjL
      have e0 : (Int32.ofNat j).toNatClampNeg = j := zi_nat (by omega)
      have e1 : (Int32.ofNat j + 1).toNatClampNeg = j + 1 := by rw [show (1 : Int32) = Int32.ofNat 1 from rfl, zi_add, zi_nat (by omega)]
      have e2 : (Int32.ofNat j + 2).toNatClampNeg = j + 2 := by rw [show (2 : Int32) = Int32.ofNat 2 from rfl, zi_add, zi_nat (by omega)]
      have e3 : (Int32.ofNat j + 3).toNatClampNeg = j + 3 := by rw [show (3 : Int32) = Int32.ofNat 3 from rfl, zi_add, zi_nat (by omega)]
      have e4 : (Int32.ofNat j + 4).toNatClampNeg = j + 4 := by rw [show (4 : Int32) = Int32.ofNat 4 from rfl, zi_add, zi_nat (by omega)]
      have e5 : (Int32.ofNat j + 5).toNatClampNeg = j + 5 := by rw [show (5 : Int32) = Int32.ofNat 5 from rfl, zi_add, zi_nat (by omega)]
      have i1 : vp_in (Int32.ofNat j + 1) L := by rw [show (1 : Int32) = Int32.ofNat 1 from rfl, zi_add]; exact zi_in (by omega) hL
      have i2 : vp_in (Int32.ofNat j + 2) L := by rw [show (2 : Int32) = Int32.ofNat 2 from rfl, zi_add]; exact zi_in (by omega) hL
      have i3 : vp_in (Int32.ofNat j + 3) L := by rw [show (3 : Int32) = Int32.ofNat 3 from rfl, zi_add]; exact zi_in (by omega) hL
      have i4 : vp_in (Int32.ofNat j + 4) L := by rw [show (4 : Int32) = Int32.ofNat 4 from rfl, zi_add]; exact zi_in (by omega) hL
      have i5 : vp_in (Int32.ofNat j + 5) L := by rw [show (5 : Int32) = Int32.ofNat 5 from rfl, zi_add]; exact zi_in (by omega) hL
      refine lv_aload_n hx hb dL_law_33 rfl (lv_at hl 4 rfl) ?_
      refine lv_iload hx hb dL_law_34 (lv_at hl 0 rfl) ?_
      refine va_sld hx hb hXs hbl hbB hS (zi_in (by omega) hL) dL_law_36 ?_
      refine lv_bipush (v := (63 : Int32)) hx hb dL_law_37 (by decide +kernel) ?_
      refine lv_iand hx hb dL_law_39 ?_
      refine L_call l hst hx hb hml hown hg hC hT hXs hbl hbB ⟨i1, i2, i3, i4, i5⟩ hax hay hao hl hM hS (by omega) (by omega) (op := xs j &&& 63) (by rw [e0]) (by rw [e1, e2, e3, e4, e5]; exact hstep) (fun ls H locs hl hM hX hS => ?_)
      refine lv_iinc (v := Int32.ofNat (j + 6)) (lv' := [(4, .int (Int32.ofNat (j + 6))), (3, .ref (B + o)), (2, .ref (B + y)), (1, .ref (B + x)), (0, .ref b)]) hx hb dL_law_1621 hl (k := 0) rfl (by rw [show Int32.ofInt 6 = Int32.ofNat 6 from rfl, zi_add]) (by decide) rfl (fun ls hl => ?_)
      refine lv_goto (tgt := 23) hx hb dL_law_1624 (by decide) ?_
      exact ih (j + 6) S' ls H locs (cells + 1) (slots + 6) (by omega) (by omega) hrun' (hax.mo hX) (hay.mo hX) (hao.mo hX) hl hM hS (by omega) (by omega)
/-- the memory that the law starts with -/
def zS0 : zM := (1, fun _ => 0, fun _ => 0, fun _ _ => 0, fun _ _ => 0, fun _ _ => 0)
/-- what is left to show of the functions alone -/
def zMain (L : Nat) (xs : Nat → Int32) : Prop := ∃ (n1 n2 n3 : Nat) (S1 S2 : zM), f_X11_init n1 (znw zS0 11 0) 1 = some S1 ∧ f_X12_init n2 (znw S1 12 0) (zsz S1) = some S2 ∧ L < 6 * n3 ∧ zRun 1 (zsz S1) (zsz S2) L xs n3 0 (znw S2 21 1)
theorem zKn {s : State} {args : Array Value} (hg : ∀ w ∈ zGW, w.before args s = true) : ∃ D : va_G, ∀ (c : Nat) (q : vw_C), vwCl[c]? = some q → u_Kn s q.1 q.2.1 q.2.2 (D.1 c) (D.2 c) := by
  have F : ∀ c : Nat, ∃ (cC : ClassId) (iS : Nat → Nat), ∀ q : vw_C, vwCl[c]? = some q → u_Kn s q.1 q.2.1 q.2.2 cC iS := by
    intro c
    match c with
    | 0 => obtain ⟨cC, iS, h⟩ := u_known hg zin_1 (hg _ zw_85); exact ⟨cC, iS, fun q hq => by cases hq; exact h⟩
    | 1 => obtain ⟨cC, iS, h⟩ := u_known hg zin_2 (hg _ zw_306); exact ⟨cC, iS, fun q hq => by cases hq; exact h⟩
    | 2 => obtain ⟨cC, iS, h⟩ := u_known hg zin_3 (hg _ zw_208); exact ⟨cC, iS, fun q hq => by cases hq; exact h⟩
    | 3 => obtain ⟨cC, iS, h⟩ := u_known hg zin_4 (hg _ zw_185); exact ⟨cC, iS, fun q hq => by cases hq; exact h⟩
    | 4 => obtain ⟨cC, iS, h⟩ := u_known hg zin_5 (hg _ zw_72); exact ⟨cC, iS, fun q hq => by cases hq; exact h⟩
    | 5 => obtain ⟨cC, iS, h⟩ := u_known hg zin_6 (hg _ zw_38); exact ⟨cC, iS, fun q hq => by cases hq; exact h⟩
    | 6 => obtain ⟨cC, iS, h⟩ := u_known hg zin_7 (hg _ zw_163); exact ⟨cC, iS, fun q hq => by cases hq; exact h⟩
    | 7 => obtain ⟨cC, iS, h⟩ := u_known hg zin_8 (hg _ zw_245); exact ⟨cC, iS, fun q hq => by cases hq; exact h⟩
    | 8 => obtain ⟨cC, iS, h⟩ := u_known hg zin_9 (hg _ zw_32); exact ⟨cC, iS, fun q hq => by cases hq; exact h⟩
    | 9 => obtain ⟨cC, iS, h⟩ := u_known hg zin_10 (hg _ zw_224); exact ⟨cC, iS, fun q hq => by cases hq; exact h⟩
    | 10 => obtain ⟨cC, iS, h⟩ := u_known hg zin_11 (hg _ zw_24); exact ⟨cC, iS, fun q hq => by cases hq; exact h⟩
    | 11 => obtain ⟨cC, iS, h⟩ := u_known hg zin_12 (hg _ zw_995); exact ⟨cC, iS, fun q hq => by cases hq; exact h⟩
    | c + 12 => exact ⟨0, fun _ => 0, fun q hq => by simp at hq⟩
  exact ⟨(fun c => (F c).choose, fun c => (F c).choose_spec.choose), fun c q hq => (F c).choose_spec.choose_spec q hq⟩
theorem zAp {s : State} {args : Array Value} {ty : FieldType} (h : (Cond.arrayClass ty).before args s = true) : ∃ cA : ClassId, ArrOfT s cA ty ∧ s.vm.findClass ("[" ++ ty.toString) = some cA := by
  obtain ⟨cA, kA, comp, h1, h2, h3⟩ := Cond.arrayClass_spec h
  exact ⟨cA, fun n z => ⟨(fun k h => by cases h), kA, h2, comp, h3⟩, h1⟩
theorem zAr {s : State} {args : Array Value} {C : String} (h : (Cond.arrayOver (.object C)).before args s = true) : ∃ cA : ClassId, ArrOfT s cA (.object C) ∧ va_RA s cA (.object C) := by
  obtain ⟨comp, cA, kA, h1, h2, h3, h4, h5⟩ := Cond.arrayOver_spec h
  exact ⟨cA, fun n z => ⟨(fun k h => by cases h), kA, h3, comp, h4⟩, kA, comp, h3, h4, h1, h5⟩
theorem zCof {s : State} {args : Array Value} (hts : ∀ w ∈ lw_tbl, w.before args s = true) : ∃ (D : va_G) (cy : Nat → ClassId), zC D cy s := by
  have hg : ∀ w ∈ zGW, w.before args s = true := fun w hw => hts w (zGW_tbl w hw)
  obtain ⟨D, hD⟩ := zKn hg
  obtain ⟨c20, a20, b20⟩ := zAp (hg _ zw_66)
  obtain ⟨c21, a21, b21⟩ := zAp (hg _ zw_84)
  obtain ⟨c22, a22, b22⟩ := zAp (hg _ zw_1101)
  obtain ⟨c23, a23, b23⟩ := zAr (hts _ zx_70)
  obtain ⟨c24, a24, b24⟩ := zAr (hts _ zx_68)
  obtain ⟨c25, a25, b25⟩ := zAr (hts _ zx_161)
  refine ⟨D, fun t => if t = 20 then c20 else if t = 21 then c21 else if t = 22 then c22 else if t = 23 then c23 else if t = 24 then c24 else c25, ⟨hD, ?_⟩, fun w hw => va_Nw.of rfl (hts _ (zNM_in w hw)), fun x hx => va_Nw.of rfl (hts _ (zDc_in x hx)), fun C hC => va_AO.of (hts _ (zAO_in C hC)), ?_⟩
  · intro k q hk
    match k, hk with
    | 0, hk => cases hk; exact ⟨a20, b20⟩
    | 1, hk => cases hk; exact ⟨a21, b21⟩
    | 2, hk => cases hk; exact ⟨a22, b22⟩
    | 3, hk => cases hk; exact ⟨a23, b23⟩
    | 4, hk => cases hk; exact ⟨a24, b24⟩
    | 5, hk => cases hk; exact ⟨a25, b25⟩
    | k + 6, hk => simp [ztys] at hk
  · intro q hq
    have hpg : (Cond.privateMethod yX0_gainAt).before args s = true := hts _ (zn4 103 (by decide +kernel))
    have hpw : (Cond.privateMethod yX0_waysFrom).before args s = true := hts _ (zn4 97 (by decide +kernel))
    simp only [zSel, List.mem_cons, List.not_mem_nil, or_false] at hq
    rcases hq with rfl | rfl | rfl | rfl
    · exact va_Nw.of rfl (zselp ⟨by decide, by decide⟩ hpg (hg _ zw_739) (hg _ zw_706) rfl)
    · exact va_Nw.of rfl (zselp ⟨by decide, by decide⟩ hpg (hg _ zw_739) (hg _ zw_759) rfl)
    · exact va_Nw.of rfl (zselp ⟨by decide, by decide⟩ hpw (hg _ zw_734) (hg _ zw_706) rfl)
    · exact va_Nw.of rfl (zselp ⟨by decide, by decide⟩ hpw (hg _ zw_734) (hg _ zw_759) rfl)
theorem zTof {s : State} {args : Array Value} {m : MethodId} (hts : ∀ w ∈ lw_tbl, w.before args s = true) (hgv : (Jvm.Cond.and given_1 narrow_1).before args s = true) {B : Nat} (hB : s.heap.size ≤ B + 1) : zT B s s.heap := by
  have hg : ∀ w ∈ zGW, w.before args s = true := fun w hw => hts w (zGW_tbl w hw)
  have hq := flat_of_before _ hgv
  have hA : ∀ a : Nat, a < s.heap.size → ¬ (B < a) := fun a ha => by omega
  obtain ⟨k1, -, -, -, b1, -⟩ := Cond.exactly_spec (show (Cond.exactly (.string "DiveChairs$Judge" 36) "java/lang/String").before args s = true from hq _ (by decide +kernel))
  obtain ⟨k2, -, -, -, b2, -⟩ := Cond.exactly_spec (show (Cond.exactly (.string "DiveChairs" 320) "java/lang/String").before args s = true from hq _ (by decide +kernel))
  obtain ⟨k3, -, -, -, b3, -⟩ := Cond.exactly_spec (show (Cond.exactly (.string "DiveChairs" 327) "java/lang/String").before args s = true from hq _ (by decide +kernel))
  refine ⟨vx_Zqof (hts _ zx_931) (hg _ zw_18) (hq _ (by decide +kernel)) hA, vx_Zqof (hts _ zx_933) (hg _ zw_18) (hq _ (by decide +kernel)) hA, ?_, ?_, ?_, va_Nw.of rfl (hts _ zx_906), va_Nw.of rfl (hts _ zx_978), ⟨va_Nw.of rfl (hts _ zx_908), va_Nw.of rfl (hts _ zx_910), va_Nw.of rfl (hts _ zx_912)⟩, va_Nc.of (hq _ (by decide +kernel))⟩
  · exact ⟨k1, vk_R.of (hts _ zx_943) b1⟩
  · exact ⟨k2, vk_R.of (hts _ zx_985) b2⟩
  · exact ⟨k3, vk_R.of (hts _ zx_992) b3⟩
set_option maxHeartbeats 4000000 in
set_option maxRecDepth 100000 in
theorem law_from {p : Program} {e : Env} {s : State} {m : MethodId} {below : List Frame} {meth : Method} {c : Code} {Q : State → Prop} (l : Launch) (hst : l.stackTraces = false) {b L : Nat} {xs : Nat → Int32} (hL : L ≤ 3072) (hx : p.tables.exec = Jvm.exec) (hb : c.code = cL_law) (hml : c.maxLocals = 8) (hown : s.vm.findClass RL = some m.cls) (hts : ∀ w ∈ lw_tbl, w.before #[Value.ref b] s = true) (hXs : va_X b L xs s s.heap) (hbl : b < s.heap.size) (hgv : (Jvm.Cond.and given_1 narrow_1).before #[Value.ref b] s = true) (hmain : zMain L xs)
    (hend : ∀ (ls : Array Slot) (H : Heap), W p l e room_1 s m #[Value.ref b] below meth c H [] 601024 7293034 Q (F0 m 1628 ls [.int 1])) : W p l e room_1 s m #[Value.ref b] below meth c s.heap [] 0 0 Q (entryFrame m ([Value.ref b] : List Value).toArray 8) := by
  obtain ⟨n1, n2, n3, S1, S2, hm1, hm2, hn3, hrun⟩ := hmain
  have hg : ∀ w ∈ zGW, w.before #[Value.ref b] s = true := fun w hw => hts w (zGW_tbl w hw)
  obtain ⟨D, cy, hC⟩ := zCof hts
  obtain ⟨B, hB⟩ : ∃ B : Nat, s.heap.size = B + 1 := ⟨s.heap.size - 1, by omega⟩
  have hT : zT B s s.heap := zTof (m := m) hts hgv (by omega)
  have hK := hC.1
  have hM : zMR D cy B zS0 s.heap := ⟨hB, by decide, fun a h0 h1 => by have : a < 1 := h1; omega, fun a h0 h1 => by have : a < 1 := h1; omega⟩
  have hS : va_S (fun q => B < q) s.heap s.heap [] := va_S.rf
  refine z_entry (vs := [.ref b]) (Nat.le_of_ble_eq_true rfl) (fun ls hl => ?_)
  have hl : lv_has ls 8 [(0, .ref b)] := hl
  refine z_new hx hb hg zin_11 tyX11 tyX11_ok hown (hg _ zw_23) (hg _ zw_24) (hg _ zw_2) hK hM hS 11 rfl (by decide) zdf_11 (Nat.le_of_ble_eq_true rfl) (Nat.le_of_ble_eq_true rfl) dL_law_0 (fun H hM hA1 hX1 hS => ?_)
  refine lv_dup hx hb dL_law_3 rfl ?_
  refine z_runv (va_runI (As := []) (rest := [.ref (B + (zsz zS0))]) ⟨hx, hb, hml, hown, hg⟩ (c_X11_init l D cy B hA1 hm1) (z_cwI hg zw_25 zw_26 zw_2 zw_27 rfl zh_X11_init.2 ⟨(Nat.le_of_ble_eq_true rfl), (Nat.le_of_ble_eq_true rfl)⟩) (zPS hC hM) rfl rfl hl.1 rfl (lv_room (Nat.le_of_ble_eq_true rfl)) dL_law_4 ⟨(Nat.le_of_ble_eq_true rfl), (Nat.le_of_ble_eq_true rfl)⟩) hS (fun H locs hM hX2 hS => ?_)
  refine lv_astore_n (i := 1) (lv' := [(1, .ref (B + zsz zS0)), (0, .ref b)]) hx hb dL_law_7 rfl hl (by decide) rfl (fun ls hl => ?_)
  refine z_new hx hb hg zin_12 tyX12 tyX12_ok hown (hg _ zw_994) (hg _ zw_995) (hg _ zw_13) hK hM hS 12 rfl (by decide) zdf_12 (Nat.le_of_ble_eq_true rfl) (Nat.le_of_ble_eq_true rfl) dL_law_8 (fun H hM hA3 hX3 hS => ?_)
  refine lv_dup hx hb dL_law_11 rfl ?_
  refine z_runv (va_runI (As := []) (rest := [.ref (B + (zsz S1))]) ⟨hx, hb, hml, hown, hg⟩ (c_X12_init l D cy B hA3 hm2) (z_cwI hg zw_996 zw_997 zw_13 zw_998 rfl zh_X12_init.2 ⟨(Nat.le_of_ble_eq_true rfl), (Nat.le_of_ble_eq_true rfl)⟩) (zPS hC hM) rfl rfl hl.1 rfl (lv_room (Nat.le_of_ble_eq_true rfl)) dL_law_12 ⟨(Nat.le_of_ble_eq_true rfl), (Nat.le_of_ble_eq_true rfl)⟩) hS (fun H locs hM hX4 hS => ?_)
  refine lv_astore_n (i := 2) (lv' := [(2, .ref (B + zsz S1)), (1, .ref (B + zsz zS0)), (0, .ref b)]) hx hb dL_law_15 rfl hl (by decide) rfl (fun ls hl => ?_)
  refine lv_iconst (v := (1 : Int32)) hx hb dL_law_16 (by decide +kernel) ?_
  refine z_newa (atype := .long) hx hb (hg _ zw_84) hK hM hS 21 (by decide) rfl (n := 1) (N := 1) (by decide +kernel) (by decide +kernel) (by decide) (Nat.le_of_ble_eq_true rfl) (Nat.le_of_ble_eq_true rfl) dL_law_17 (fun H hM hA5 hX5 hS => ?_)
  refine lv_astore_n (i := 3) (lv' := [(3, .ref (B + zsz S2)), (2, .ref (B + zsz S1)), (1, .ref (B + zsz zS0)), (0, .ref b)]) hx hb dL_law_19 rfl hl (by decide) rfl (fun ls hl => ?_)
  refine lv_iconst (v := (0 : Int32)) hx hb dL_law_20 (by decide +kernel) ?_
  refine lv_istore (i := 4) (lv' := [(4, .int 0), (3, .ref (B + zsz S2)), (2, .ref (B + zsz S1)), (1, .ref (B + zsz zS0)), (0, .ref b)]) hx hb dL_law_21 hl (by decide) rfl (fun ls hl => ?_)
  refine L_loop l hst hx hb hml hown hg hC hT hXs hbl (by omega) hL (fun ls H locs cells slots hS h1 h2 => ?_) n3 0 (znw S2 21 1) ls H _ _ _ (by omega) (by omega) hrun ((((hA1.mo hX2).mo hX3).mo hX4).mo hX5) ((hA3.mo hX4).mo hX5) hA5 hl hM hS (by show 0 + 1 + 434 + 1 + 15 + 1 + (L + 6 - 0) ≤ 601024; omega) (by show 0 + 9 + 5142 + 50 + 4327 + 1 + (L + 6 - 0) ≤ 7293034; omega)
  refine lv_iconst (v := (1 : Int32)) hx hb dL_law_1627 (by decide +kernel) ?_
  refine va_forget (fun q hq => by have := hS.2.2 q hq; omega) ?_
  exact W.widen h1 h2 (hend ls H)
