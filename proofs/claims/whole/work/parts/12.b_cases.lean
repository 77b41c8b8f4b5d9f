set_option maxHeartbeats 4000000 in
set_option maxRecDepth 100000 in
theorem L_0 {p : Program} {e : Env} {s : State} {m : MethodId} {args : Array Value} {below : List Frame} {meth : Method} {c : Code} {H : Heap} {locs : List Loc} {cells slots : Nat} {Q : State → Prop} {ls : Array Slot} {D : va_G} {cy : Nat → ClassId} {B b L : Nat} {xs : Nat → Int32} {x y o : Nat} {S S' : zM} {i : Int32} (l : Launch) (hst : l.stackTraces = false) (hx : p.tables.exec = Jvm.exec) (hb : c.code = cL_law) (hml : c.maxLocals = 8) (hown : s.vm.findClass RL = some m.cls) (hg : ∀ w ∈ zGW, w.before args s = true) (hC : zC D cy s) (hT : zT B s s.heap) (hXs : va_X b L xs s s.heap) (hbl : b < s.heap.size) (hbB : ¬ B < b) (hin : vp_in (i + 1) L ∧ vp_in (i + 2) L ∧ vp_in (i + 3) L ∧ vp_in (i + 4) L ∧ vp_in (i + 5) L) (hax : zA S x 11) (hay : zA S y 12) (hao : zA S o 21) (hl : lv_has ls 8 [(4, .int i), (3, .ref (B + o)), (2, .ref (B + y)), (1, .ref (B + x)), (0, .ref b)]) (hM : zMR D cy B S H) (hS : va_S (fun q => B < q) s.heap H locs) (hc1 : cells + 1 ≤ 601024) (hc2 : slots + 6 ≤ 7293034) (h : zs_0 x y (xs (i + 1).toNatClampNeg) (xs (i + 2).toNatClampNeg) (xs (i + 3).toNatClampNeg) (xs (i + 4).toNatClampNeg) (xs (i + 5).toNatClampNeg) S S') (kk : ∀ (ls : Array Slot) (H : Heap) (locs : List Loc), lv_has ls 8 [(4, .int i), (3, .ref (B + o)), (2, .ref (B + y)), (1, .ref (B + x)), (0, .ref b)] → zMR D cy B S' H → zX S S' → va_S (fun q => B < q) s.heap H locs → W p l e room_1 s m args below meth c H locs (cells + 1) (slots + 6) Q (F0 m 1621 ls [])) : W p l e room_1 s m args below meth c H locs cells slots Q (F0 m 208 ls []) := by
  obtain ⟨r, S1, h1, h2⟩ := h
  refine lv_aload_n hx hb dL_law_208 rfl (lv_at hl 3 rfl) ?_
  refine lv_aload_n hx hb dL_law_209 rfl (lv_at hl 4 rfl) ?_
  refine lv_iload hx hb dL_law_210 (lv_at hl 0 rfl) ?_
  refine lv_iconst (v := (1 : Int32)) hx hb dL_law_212 (by decide +kernel) ?_
  refine lv_iadd hx hb dL_law_213 ?_
  refine va_sld hx hb hXs hbl hbB hS hin.1 dL_law_214 ?_
  refine lv_aload_n hx hb dL_law_215 rfl (lv_at hl 4 rfl) ?_
  refine lv_iload hx hb dL_law_216 (lv_at hl 0 rfl) ?_
  refine lv_iconst (v := (2 : Int32)) hx hb dL_law_218 (by decide +kernel) ?_
  refine lv_iadd hx hb dL_law_219 ?_
  refine va_sld hx hb hXs hbl hbB hS hin.2.1 dL_law_220 ?_
  refine z_runi (va_runV (As := [.int (xs (i + 1).toNatClampNeg), .int (xs (i + 2).toNatClampNeg)]) (rest := []) ⟨hx, hb, hml, hown, hg⟩ (c_X11_diver l D cy B hax h1) (z_cwV hg zw_286 zw_287 zw_288 zw_2 zw_289 zh_X11_diver ⟨(Nat.le_of_ble_eq_true rfl), (Nat.le_of_ble_eq_true rfl)⟩) (zPV hC hM hax (by decide) rfl) rfl rfl hl.1 rfl (lv_room (Nat.le_of_ble_eq_true rfl)) dL_law_221 ⟨Nat.le_trans (Nat.add_le_add_left (show 0 ≤ 1 by decide) _) hc1, Nat.le_trans (Nat.add_le_add_left (show 0 ≤ 6 by decide) _) hc2⟩) hS (fun H locs hM hX1 hS => ?_)
  have hax := hax.mo hX1
  have hay := hay.mo hX1
  refine lv_aload_n hx hb dL_law_224 rfl (lv_at hl 2 rfl) ?_
  refine lv_aload_n hx hb dL_law_225 rfl (lv_at hl 4 rfl) ?_
  refine lv_iload hx hb dL_law_226 (lv_at hl 0 rfl) ?_
  refine lv_iconst (v := (1 : Int32)) hx hb dL_law_228 (by decide +kernel) ?_
  refine lv_iadd hx hb dL_law_229 ?_
  refine va_sld hx hb hXs hbl hbB hS hin.1 dL_law_230 ?_
  refine lv_aload_n hx hb dL_law_231 rfl (lv_at hl 4 rfl) ?_
  refine lv_iload hx hb dL_law_232 (lv_at hl 0 rfl) ?_
  refine lv_iconst (v := (2 : Int32)) hx hb dL_law_234 (by decide +kernel) ?_
  refine lv_iadd hx hb dL_law_235 ?_
  refine va_sld hx hb hXs hbl hbB hS hin.2.1 dL_law_236 ?_
  refine z_runi (va_runV (As := [.int (xs (i + 1).toNatClampNeg), .int (xs (i + 2).toNatClampNeg)]) (rest := [.int r]) ⟨hx, hb, hml, hown, hg⟩ (c_X12_diver l D cy B hay h2) (z_cwV hg zw_1106 zw_1107 zw_1108 zw_13 zw_1109 zh_X12_diver ⟨(Nat.le_of_ble_eq_true rfl), (Nat.le_of_ble_eq_true rfl)⟩) (zPV hC hM hay (by decide) rfl) rfl rfl hl.1 rfl (lv_room (Nat.le_of_ble_eq_true rfl)) dL_law_237 ⟨(show cells + 0 + 0 ≤ 601024 by omega), (show slots + 0 + 0 ≤ 7293034 by omega)⟩) hS (fun H locs hM hX2 hS => ?_)
  refine lv_icmp_eq (tgt := 1621) hx hb dL_law_240 (by decide) (fun _ => ?_) (fun hn => absurd rfl hn)
  refine W.widen (k := cells + 1) (n := slots + 6) (by omega) (by omega) ?_
  exact kk ls _ _ hl hM (hX1.tr hX2) hS
set_option maxHeartbeats 4000000 in
set_option maxRecDepth 100000 in
theorem L_1 {p : Program} {e : Env} {s : State} {m : MethodId} {args : Array Value} {below : List Frame} {meth : Method} {c : Code} {H : Heap} {locs : List Loc} {cells slots : Nat} {Q : State → Prop} {ls : Array Slot} {D : va_G} {cy : Nat → ClassId} {B b L : Nat} {xs : Nat → Int32} {x y o : Nat} {S S' : zM} {i : Int32} (l : Launch) (hst : l.stackTraces = false) (hx : p.tables.exec = Jvm.exec) (hb : c.code = cL_law) (hml : c.maxLocals = 8) (hown : s.vm.findClass RL = some m.cls) (hg : ∀ w ∈ zGW, w.before args s = true) (hC : zC D cy s) (hT : zT B s s.heap) (hXs : va_X b L xs s s.heap) (hbl : b < s.heap.size) (hbB : ¬ B < b) (hin : vp_in (i + 1) L ∧ vp_in (i + 2) L ∧ vp_in (i + 3) L ∧ vp_in (i + 4) L ∧ vp_in (i + 5) L) (hax : zA S x 11) (hay : zA S y 12) (hao : zA S o 21) (hl : lv_has ls 8 [(4, .int i), (3, .ref (B + o)), (2, .ref (B + y)), (1, .ref (B + x)), (0, .ref b)]) (hM : zMR D cy B S H) (hS : va_S (fun q => B < q) s.heap H locs) (hc1 : cells + 1 ≤ 601024) (hc2 : slots + 6 ≤ 7293034) (h : zs_1 x y (xs (i + 1).toNatClampNeg) (xs (i + 2).toNatClampNeg) (xs (i + 3).toNatClampNeg) (xs (i + 4).toNatClampNeg) (xs (i + 5).toNatClampNeg) S S') (kk : ∀ (ls : Array Slot) (H : Heap) (locs : List Loc), lv_has ls 8 [(4, .int i), (3, .ref (B + o)), (2, .ref (B + y)), (1, .ref (B + x)), (0, .ref b)] → zMR D cy B S' H → zX S S' → va_S (fun q => B < q) s.heap H locs → W p l e room_1 s m args below meth c H locs (cells + 1) (slots + 6) Q (F0 m 1621 ls [])) : W p l e room_1 s m args below meth c H locs cells slots Q (F0 m 245 ls []) := by
  obtain ⟨r, S1, h1, h2⟩ := h
  refine lv_aload_n hx hb dL_law_245 rfl (lv_at hl 3 rfl) ?_
  refine lv_aload_n hx hb dL_law_246 rfl (lv_at hl 4 rfl) ?_
  refine lv_iload hx hb dL_law_247 (lv_at hl 0 rfl) ?_
  refine lv_iconst (v := (1 : Int32)) hx hb dL_law_249 (by decide +kernel) ?_
  refine lv_iadd hx hb dL_law_250 ?_
  refine va_sld hx hb hXs hbl hbB hS hin.1 dL_law_251 ?_
  refine lv_aload_n hx hb dL_law_252 rfl (lv_at hl 4 rfl) ?_
  refine lv_iload hx hb dL_law_253 (lv_at hl 0 rfl) ?_
  refine lv_iconst (v := (2 : Int32)) hx hb dL_law_255 (by decide +kernel) ?_
  refine lv_iadd hx hb dL_law_256 ?_
  refine va_sld hx hb hXs hbl hbB hS hin.2.1 dL_law_257 ?_
  refine z_runi (va_runV (As := [.int (xs (i + 1).toNatClampNeg), .int (xs (i + 2).toNatClampNeg)]) (rest := []) ⟨hx, hb, hml, hown, hg⟩ (c_X11_judge l D cy B hax h1) (z_cwV hg zw_298 zw_299 zw_300 zw_2 zw_301 zh_X11_judge ⟨(Nat.le_of_ble_eq_true rfl), (Nat.le_of_ble_eq_true rfl)⟩) (zPV hC hM hax (by decide) rfl) rfl rfl hl.1 rfl (lv_room (Nat.le_of_ble_eq_true rfl)) dL_law_258 ⟨Nat.le_trans (Nat.add_le_add_left (show 1 ≤ 1 by decide) _) hc1, Nat.le_trans (Nat.add_le_add_left (show 5 ≤ 6 by decide) _) hc2⟩) hS (fun H locs hM hX1 hS => ?_)
  have hax := hax.mo hX1
  have hay := hay.mo hX1
  refine lv_aload_n hx hb dL_law_261 rfl (lv_at hl 2 rfl) ?_
  refine lv_aload_n hx hb dL_law_262 rfl (lv_at hl 4 rfl) ?_
  refine lv_iload hx hb dL_law_263 (lv_at hl 0 rfl) ?_
  refine lv_iconst (v := (1 : Int32)) hx hb dL_law_265 (by decide +kernel) ?_
  refine lv_iadd hx hb dL_law_266 ?_
  refine va_sld hx hb hXs hbl hbB hS hin.1 dL_law_267 ?_
  refine lv_aload_n hx hb dL_law_268 rfl (lv_at hl 4 rfl) ?_
  refine lv_iload hx hb dL_law_269 (lv_at hl 0 rfl) ?_
  refine lv_iconst (v := (2 : Int32)) hx hb dL_law_271 (by decide +kernel) ?_
  refine lv_iadd hx hb dL_law_272 ?_
  refine va_sld hx hb hXs hbl hbB hS hin.2.1 dL_law_273 ?_
  refine z_runi (va_runV (As := [.int (xs (i + 1).toNatClampNeg), .int (xs (i + 2).toNatClampNeg)]) (rest := [.int r]) ⟨hx, hb, hml, hown, hg⟩ (c_X12_judge l D cy B hay h2) (z_cwV hg zw_1115 zw_1116 zw_1117 zw_13 zw_1118 zh_X12_judge ⟨(Nat.le_of_ble_eq_true rfl), (Nat.le_of_ble_eq_true rfl)⟩) (zPV hC hM hay (by decide) rfl) rfl rfl hl.1 rfl (lv_room (Nat.le_of_ble_eq_true rfl)) dL_law_274 ⟨(show cells + 1 + 0 ≤ 601024 by omega), (show slots + 5 + 0 ≤ 7293034 by omega)⟩) hS (fun H locs hM hX2 hS => ?_)
  refine lv_icmp_eq (tgt := 1621) hx hb dL_law_277 (by decide) (fun _ => ?_) (fun hn => absurd rfl hn)
  refine W.widen (k := cells + 1) (n := slots + 6) (by omega) (by omega) ?_
  exact kk ls _ _ hl hM (hX1.tr hX2) hS
set_option maxHeartbeats 4000000 in
set_option maxRecDepth 100000 in
theorem L_2 {p : Program} {e : Env} {s : State} {m : MethodId} {args : Array Value} {below : List Frame} {meth : Method} {c : Code} {H : Heap} {locs : List Loc} {cells slots : Nat} {Q : State → Prop} {ls : Array Slot} {D : va_G} {cy : Nat → ClassId} {B b L : Nat} {xs : Nat → Int32} {x y o : Nat} {S S' : zM} {i : Int32} (l : Launch) (hst : l.stackTraces = false) (hx : p.tables.exec = Jvm.exec) (hb : c.code = cL_law) (hml : c.maxLocals = 8) (hown : s.vm.findClass RL = some m.cls) (hg : ∀ w ∈ zGW, w.before args s = true) (hC : zC D cy s) (hT : zT B s s.heap) (hXs : va_X b L xs s s.heap) (hbl : b < s.heap.size) (hbB : ¬ B < b) (hin : vp_in (i + 1) L ∧ vp_in (i + 2) L ∧ vp_in (i + 3) L ∧ vp_in (i + 4) L ∧ vp_in (i + 5) L) (hax : zA S x 11) (hay : zA S y 12) (hao : zA S o 21) (hl : lv_has ls 8 [(4, .int i), (3, .ref (B + o)), (2, .ref (B + y)), (1, .ref (B + x)), (0, .ref b)]) (hM : zMR D cy B S H) (hS : va_S (fun q => B < q) s.heap H locs) (hc1 : cells + 1 ≤ 601024) (hc2 : slots + 6 ≤ 7293034) (h : zs_2 x y (xs (i + 1).toNatClampNeg) (xs (i + 2).toNatClampNeg) (xs (i + 3).toNatClampNeg) (xs (i + 4).toNatClampNeg) (xs (i + 5).toNatClampNeg) S S') (kk : ∀ (ls : Array Slot) (H : Heap) (locs : List Loc), lv_has ls 8 [(4, .int i), (3, .ref (B + o)), (2, .ref (B + y)), (1, .ref (B + x)), (0, .ref b)] → zMR D cy B S' H → zX S S' → va_S (fun q => B < q) s.heap H locs → W p l e room_1 s m args below meth c H locs (cells + 1) (slots + 6) Q (F0 m 1621 ls [])) : W p l e room_1 s m args below meth c H locs cells slots Q (F0 m 282 ls []) := by
  obtain ⟨r, S1, h1, h2⟩ := h
  refine lv_aload_n hx hb dL_law_282 rfl (lv_at hl 3 rfl) ?_
  refine lv_aload_n hx hb dL_law_283 rfl (lv_at hl 4 rfl) ?_
  refine lv_iload hx hb dL_law_284 (lv_at hl 0 rfl) ?_
  refine lv_iconst (v := (1 : Int32)) hx hb dL_law_286 (by decide +kernel) ?_
  refine lv_iadd hx hb dL_law_287 ?_
  refine va_sld hx hb hXs hbl hbB hS hin.1 dL_law_288 ?_
  refine lv_aload_n hx hb dL_law_289 rfl (lv_at hl 4 rfl) ?_
  refine lv_iload hx hb dL_law_290 (lv_at hl 0 rfl) ?_
  refine lv_iconst (v := (2 : Int32)) hx hb dL_law_292 (by decide +kernel) ?_
  refine lv_iadd hx hb dL_law_293 ?_
  refine va_sld hx hb hXs hbl hbB hS hin.2.1 dL_law_294 ?_
  refine z_runi (va_runV (As := [.int (xs (i + 1).toNatClampNeg), .int (xs (i + 2).toNatClampNeg)]) (rest := []) ⟨hx, hb, hml, hown, hg⟩ (c_X11_year l D cy B hax h1) (z_cwV hg zw_324 zw_325 zw_326 zw_2 zw_327 zh_X11_year ⟨(Nat.le_of_ble_eq_true rfl), (Nat.le_of_ble_eq_true rfl)⟩) (zPV hC hM hax (by decide) rfl) rfl rfl hl.1 rfl (lv_room (Nat.le_of_ble_eq_true rfl)) dL_law_295 ⟨Nat.le_trans (Nat.add_le_add_left (show 0 ≤ 1 by decide) _) hc1, Nat.le_trans (Nat.add_le_add_left (show 0 ≤ 6 by decide) _) hc2⟩) hS (fun H locs hM hX1 hS => ?_)
  have hax := hax.mo hX1
  have hay := hay.mo hX1
  refine lv_aload_n hx hb dL_law_298 rfl (lv_at hl 2 rfl) ?_
  refine lv_aload_n hx hb dL_law_299 rfl (lv_at hl 4 rfl) ?_
  refine lv_iload hx hb dL_law_300 (lv_at hl 0 rfl) ?_
  refine lv_iconst (v := (1 : Int32)) hx hb dL_law_302 (by decide +kernel) ?_
  refine lv_iadd hx hb dL_law_303 ?_
  refine va_sld hx hb hXs hbl hbB hS hin.1 dL_law_304 ?_
  refine lv_aload_n hx hb dL_law_305 rfl (lv_at hl 4 rfl) ?_
  refine lv_iload hx hb dL_law_306 (lv_at hl 0 rfl) ?_
  refine lv_iconst (v := (2 : Int32)) hx hb dL_law_308 (by decide +kernel) ?_
  refine lv_iadd hx hb dL_law_309 ?_
  refine va_sld hx hb hXs hbl hbB hS hin.2.1 dL_law_310 ?_
  refine z_runi (va_runV (As := [.int (xs (i + 1).toNatClampNeg), .int (xs (i + 2).toNatClampNeg)]) (rest := [.int r]) ⟨hx, hb, hml, hown, hg⟩ (c_X12_year l D cy B hay h2) (z_cwV hg zw_1121 zw_1122 zw_1123 zw_13 zw_1124 zh_X12_year ⟨(Nat.le_of_ble_eq_true rfl), (Nat.le_of_ble_eq_true rfl)⟩) (zPV hC hM hay (by decide) rfl) rfl rfl hl.1 rfl (lv_room (Nat.le_of_ble_eq_true rfl)) dL_law_311 ⟨(show cells + 0 + 0 ≤ 601024 by omega), (show slots + 0 + 0 ≤ 7293034 by omega)⟩) hS (fun H locs hM hX2 hS => ?_)
  refine lv_icmp_eq (tgt := 1621) hx hb dL_law_314 (by decide) (fun _ => ?_) (fun hn => absurd rfl hn)
  refine W.widen (k := cells + 1) (n := slots + 6) (by omega) (by omega) ?_
  exact kk ls _ _ hl hM (hX1.tr hX2) hS
set_option maxHeartbeats 4000000 in
set_option maxRecDepth 100000 in
theorem L_3 {p : Program} {e : Env} {s : State} {m : MethodId} {args : Array Value} {below : List Frame} {meth : Method} {c : Code} {H : Heap} {locs : List Loc} {cells slots : Nat} {Q : State → Prop} {ls : Array Slot} {D : va_G} {cy : Nat → ClassId} {B b L : Nat} {xs : Nat → Int32} {x y o : Nat} {S S' : zM} {i : Int32} (l : Launch) (hst : l.stackTraces = false) (hx : p.tables.exec = Jvm.exec) (hb : c.code = cL_law) (hml : c.maxLocals = 8) (hown : s.vm.findClass RL = some m.cls) (hg : ∀ w ∈ zGW, w.before args s = true) (hC : zC D cy s) (hT : zT B s s.heap) (hXs : va_X b L xs s s.heap) (hbl : b < s.heap.size) (hbB : ¬ B < b) (hin : vp_in (i + 1) L ∧ vp_in (i + 2) L ∧ vp_in (i + 3) L ∧ vp_in (i + 4) L ∧ vp_in (i + 5) L) (hax : zA S x 11) (hay : zA S y 12) (hao : zA S o 21) (hl : lv_has ls 8 [(4, .int i), (3, .ref (B + o)), (2, .ref (B + y)), (1, .ref (B + x)), (0, .ref b)]) (hM : zMR D cy B S H) (hS : va_S (fun q => B < q) s.heap H locs) (hc1 : cells + 1 ≤ 601024) (hc2 : slots + 6 ≤ 7293034) (h : zs_3 x y (xs (i + 1).toNatClampNeg) (xs (i + 2).toNatClampNeg) (xs (i + 3).toNatClampNeg) (xs (i + 4).toNatClampNeg) (xs (i + 5).toNatClampNeg) S S') (kk : ∀ (ls : Array Slot) (H : Heap) (locs : List Loc), lv_has ls 8 [(4, .int i), (3, .ref (B + o)), (2, .ref (B + y)), (1, .ref (B + x)), (0, .ref b)] → zMR D cy B S' H → zX S S' → va_S (fun q => B < q) s.heap H locs → W p l e room_1 s m args below meth c H locs (cells + 1) (slots + 6) Q (F0 m 1621 ls [])) : W p l e room_1 s m args below meth c H locs cells slots Q (F0 m 319 ls []) := by
  obtain ⟨r, n, S1, h1, h2⟩ := h
  refine lv_aload_n hx hb dL_law_319 rfl (lv_at hl 3 rfl) ?_
  refine lv_aload_n hx hb dL_law_320 rfl (lv_at hl 4 rfl) ?_
  refine lv_iload hx hb dL_law_321 (lv_at hl 0 rfl) ?_
  refine lv_iconst (v := (1 : Int32)) hx hb dL_law_323 (by decide +kernel) ?_
  refine lv_iadd hx hb dL_law_324 ?_
  refine va_sld hx hb hXs hbl hbB hS hin.1 dL_law_325 ?_
  refine lv_aload_n hx hb dL_law_326 rfl (lv_at hl 4 rfl) ?_
  refine lv_iload hx hb dL_law_327 (lv_at hl 0 rfl) ?_
  refine lv_iconst (v := (2 : Int32)) hx hb dL_law_329 (by decide +kernel) ?_
  refine lv_iadd hx hb dL_law_330 ?_
  refine va_sld hx hb hXs hbl hbB hS hin.2.1 dL_law_331 ?_
  refine lv_aload_n hx hb dL_law_332 rfl (lv_at hl 4 rfl) ?_
  refine lv_iload hx hb dL_law_333 (lv_at hl 0 rfl) ?_
  refine lv_iconst (v := (3 : Int32)) hx hb dL_law_335 (by decide +kernel) ?_
  refine lv_iadd hx hb dL_law_336 ?_
  refine va_sld hx hb hXs hbl hbB hS hin.2.2.1 dL_law_337 ?_
  refine z_runi (va_runV (As := [.int (xs (i + 1).toNatClampNeg), .int (xs (i + 2).toNatClampNeg), .int (xs (i + 3).toNatClampNeg)]) (rest := []) ⟨hx, hb, hml, hown, hg⟩ (c_X11_chair l D cy B hax h1) (z_cwV hg zw_328 zw_329 zw_330 zw_2 zw_331 zh_X11_chair ⟨(Nat.le_of_ble_eq_true rfl), (Nat.le_of_ble_eq_true rfl)⟩) (zPV hC hM hax (by decide) rfl) rfl rfl hl.1 rfl (lv_room (Nat.le_of_ble_eq_true rfl)) dL_law_338 ⟨Nat.le_trans (Nat.add_le_add_left (show 0 ≤ 1 by decide) _) hc1, Nat.le_trans (Nat.add_le_add_left (show 0 ≤ 6 by decide) _) hc2⟩) hS (fun H locs hM hX1 hS => ?_)
  have hax := hax.mo hX1
  have hay := hay.mo hX1
  refine lv_aload_n hx hb dL_law_341 rfl (lv_at hl 2 rfl) ?_
  refine lv_aload_n hx hb dL_law_342 rfl (lv_at hl 4 rfl) ?_
  refine lv_iload hx hb dL_law_343 (lv_at hl 0 rfl) ?_
  refine lv_iconst (v := (1 : Int32)) hx hb dL_law_345 (by decide +kernel) ?_
  refine lv_iadd hx hb dL_law_346 ?_
  refine va_sld hx hb hXs hbl hbB hS hin.1 dL_law_347 ?_
  refine lv_aload_n hx hb dL_law_348 rfl (lv_at hl 4 rfl) ?_
  refine lv_iload hx hb dL_law_349 (lv_at hl 0 rfl) ?_
  refine lv_iconst (v := (2 : Int32)) hx hb dL_law_351 (by decide +kernel) ?_
  refine lv_iadd hx hb dL_law_352 ?_
  refine va_sld hx hb hXs hbl hbB hS hin.2.1 dL_law_353 ?_
  refine lv_aload_n hx hb dL_law_354 rfl (lv_at hl 4 rfl) ?_
  refine lv_iload hx hb dL_law_355 (lv_at hl 0 rfl) ?_
  refine lv_iconst (v := (3 : Int32)) hx hb dL_law_357 (by decide +kernel) ?_
  refine lv_iadd hx hb dL_law_358 ?_
  refine va_sld hx hb hXs hbl hbB hS hin.2.2.1 dL_law_359 ?_
  refine z_runi (va_runV (As := [.int (xs (i + 1).toNatClampNeg), .int (xs (i + 2).toNatClampNeg), .int (xs (i + 3).toNatClampNeg)]) (rest := [.int r]) ⟨hx, hb, hml, hown, hg⟩ (c_X12_chair l D cy B hay h2) (z_cwV hg zw_1132 zw_1133 zw_1134 zw_13 zw_1135 zh_X12_chair ⟨(Nat.le_of_ble_eq_true rfl), (Nat.le_of_ble_eq_true rfl)⟩) (zPV hC hM hay (by decide) rfl) rfl rfl hl.1 rfl (lv_room (Nat.le_of_ble_eq_true rfl)) dL_law_360 ⟨(show cells + 0 + 0 ≤ 601024 by omega), (show slots + 0 + 0 ≤ 7293034 by omega)⟩) hS (fun H locs hM hX2 hS => ?_)
  refine lv_icmp_eq (tgt := 1621) hx hb dL_law_363 (by decide) (fun _ => ?_) (fun hn => absurd rfl hn)
  refine W.widen (k := cells + 1) (n := slots + 6) (by omega) (by omega) ?_
  exact kk ls _ _ hl hM (hX1.tr hX2) hS
set_option maxHeartbeats 4000000 in
set_option maxRecDepth 100000 in
theorem L_4 {p : Program} {e : Env} {s : State} {m : MethodId} {args : Array Value} {below : List Frame} {meth : Method} {c : Code} {H : Heap} {locs : List Loc} {cells slots : Nat} {Q : State → Prop} {ls : Array Slot} {D : va_G} {cy : Nat → ClassId} {B b L : Nat} {xs : Nat → Int32} {x y o : Nat} {S S' : zM} {i : Int32} (l : Launch) (hst : l.stackTraces = false) (hx : p.tables.exec = Jvm.exec) (hb : c.code = cL_law) (hml : c.maxLocals = 8) (hown : s.vm.findClass RL = some m.cls) (hg : ∀ w ∈ zGW, w.before args s = true) (hC : zC D cy s) (hT : zT B s s.heap) (hXs : va_X b L xs s s.heap) (hbl : b < s.heap.size) (hbB : ¬ B < b) (hin : vp_in (i + 1) L ∧ vp_in (i + 2) L ∧ vp_in (i + 3) L ∧ vp_in (i + 4) L ∧ vp_in (i + 5) L) (hax : zA S x 11) (hay : zA S y 12) (hao : zA S o 21) (hl : lv_has ls 8 [(4, .int i), (3, .ref (B + o)), (2, .ref (B + y)), (1, .ref (B + x)), (0, .ref b)]) (hM : zMR D cy B S H) (hS : va_S (fun q => B < q) s.heap H locs) (hc1 : cells + 1 ≤ 601024) (hc2 : slots + 6 ≤ 7293034) (h : zs_4 x y (xs (i + 1).toNatClampNeg) (xs (i + 2).toNatClampNeg) (xs (i + 3).toNatClampNeg) (xs (i + 4).toNatClampNeg) (xs (i + 5).toNatClampNeg) S S') (kk : ∀ (ls : Array Slot) (H : Heap) (locs : List Loc), lv_has ls 8 [(4, .int i), (3, .ref (B + o)), (2, .ref (B + y)), (1, .ref (B + x)), (0, .ref b)] → zMR D cy B S' H → zX S S' → va_S (fun q => B < q) s.heap H locs → W p l e room_1 s m args below meth c H locs (cells + 1) (slots + 6) Q (F0 m 1621 ls [])) : W p l e room_1 s m args below meth c H locs cells slots Q (F0 m 368 ls []) := by
  obtain ⟨r, n, S1, h1, h2⟩ := h
  refine lv_aload_n hx hb dL_law_368 rfl (lv_at hl 3 rfl) ?_
  refine lv_aload_n hx hb dL_law_369 rfl (lv_at hl 4 rfl) ?_
  refine lv_iload hx hb dL_law_370 (lv_at hl 0 rfl) ?_
  refine lv_iconst (v := (1 : Int32)) hx hb dL_law_372 (by decide +kernel) ?_
  refine lv_iadd hx hb dL_law_373 ?_
  refine va_sld hx hb hXs hbl hbB hS hin.1 dL_law_374 ?_
  refine lv_aload_n hx hb dL_law_375 rfl (lv_at hl 4 rfl) ?_
  refine lv_iload hx hb dL_law_376 (lv_at hl 0 rfl) ?_
  refine lv_iconst (v := (2 : Int32)) hx hb dL_law_378 (by decide +kernel) ?_
  refine lv_iadd hx hb dL_law_379 ?_
  refine va_sld hx hb hXs hbl hbB hS hin.2.1 dL_law_380 ?_
  refine lv_aload_n hx hb dL_law_381 rfl (lv_at hl 4 rfl) ?_
  refine lv_iload hx hb dL_law_382 (lv_at hl 0 rfl) ?_
  refine lv_iconst (v := (3 : Int32)) hx hb dL_law_384 (by decide +kernel) ?_
  refine lv_iadd hx hb dL_law_385 ?_
  refine va_sld hx hb hXs hbl hbB hS hin.2.2.1 dL_law_386 ?_
  refine lv_aload_n hx hb dL_law_387 rfl (lv_at hl 4 rfl) ?_
  refine lv_iload hx hb dL_law_388 (lv_at hl 0 rfl) ?_
  refine lv_iconst (v := (4 : Int32)) hx hb dL_law_390 (by decide +kernel) ?_
  refine lv_iadd hx hb dL_law_391 ?_
  refine va_sld hx hb hXs hbl hbB hS hin.2.2.2.1 dL_law_392 ?_
  refine z_runi (va_runV (As := [.int (xs (i + 1).toNatClampNeg), .int (xs (i + 2).toNatClampNeg), .int (xs (i + 3).toNatClampNeg), .int (xs (i + 4).toNatClampNeg)]) (rest := []) ⟨hx, hb, hml, hown, hg⟩ (c_X11_dive l D cy B hax h1) (z_cwV hg zw_341 zw_342 zw_343 zw_2 zw_344 zh_X11_dive ⟨(Nat.le_of_ble_eq_true rfl), (Nat.le_of_ble_eq_true rfl)⟩) (zPV hC hM hax (by decide) rfl) rfl rfl hl.1 rfl (lv_room (Nat.le_of_ble_eq_true rfl)) dL_law_393 ⟨Nat.le_trans (Nat.add_le_add_left (show 0 ≤ 1 by decide) _) hc1, Nat.le_trans (Nat.add_le_add_left (show 0 ≤ 6 by decide) _) hc2⟩) hS (fun H locs hM hX1 hS => ?_)
  have hax := hax.mo hX1
  have hay := hay.mo hX1
  refine lv_aload_n hx hb dL_law_396 rfl (lv_at hl 2 rfl) ?_
  refine lv_aload_n hx hb dL_law_397 rfl (lv_at hl 4 rfl) ?_
  refine lv_iload hx hb dL_law_398 (lv_at hl 0 rfl) ?_
  refine lv_iconst (v := (1 : Int32)) hx hb dL_law_400 (by decide +kernel) ?_
  refine lv_iadd hx hb dL_law_401 ?_
  refine va_sld hx hb hXs hbl hbB hS hin.1 dL_law_402 ?_
  refine lv_aload_n hx hb dL_law_403 rfl (lv_at hl 4 rfl) ?_
  refine lv_iload hx hb dL_law_404 (lv_at hl 0 rfl) ?_
  refine lv_iconst (v := (2 : Int32)) hx hb dL_law_406 (by decide +kernel) ?_
  refine lv_iadd hx hb dL_law_407 ?_
  refine va_sld hx hb hXs hbl hbB hS hin.2.1 dL_law_408 ?_
  refine lv_aload_n hx hb dL_law_409 rfl (lv_at hl 4 rfl) ?_
  refine lv_iload hx hb dL_law_410 (lv_at hl 0 rfl) ?_
  refine lv_iconst (v := (3 : Int32)) hx hb dL_law_412 (by decide +kernel) ?_
  refine lv_iadd hx hb dL_law_413 ?_
  refine va_sld hx hb hXs hbl hbB hS hin.2.2.1 dL_law_414 ?_
  refine lv_aload_n hx hb dL_law_415 rfl (lv_at hl 4 rfl) ?_
  refine lv_iload hx hb dL_law_416 (lv_at hl 0 rfl) ?_
  refine lv_iconst (v := (4 : Int32)) hx hb dL_law_418 (by decide +kernel) ?_
  refine lv_iadd hx hb dL_law_419 ?_
  refine va_sld hx hb hXs hbl hbB hS hin.2.2.2.1 dL_law_420 ?_
  refine z_runi (va_runV (As := [.int (xs (i + 1).toNatClampNeg), .int (xs (i + 2).toNatClampNeg), .int (xs (i + 3).toNatClampNeg), .int (xs (i + 4).toNatClampNeg)]) (rest := [.int r]) ⟨hx, hb, hml, hown, hg⟩ (c_X12_dive l D cy B hay h2) (z_cwV hg zw_1146 zw_1147 zw_1148 zw_13 zw_1149 zh_X12_dive ⟨(Nat.le_of_ble_eq_true rfl), (Nat.le_of_ble_eq_true rfl)⟩) (zPV hC hM hay (by decide) rfl) rfl rfl hl.1 rfl (lv_room (Nat.le_of_ble_eq_true rfl)) dL_law_421 ⟨(show cells + 0 + 0 ≤ 601024 by omega), (show slots + 0 + 0 ≤ 7293034 by omega)⟩) hS (fun H locs hM hX2 hS => ?_)
  refine lv_icmp_eq (tgt := 1621) hx hb dL_law_424 (by decide) (fun _ => ?_) (fun hn => absurd rfl hn)
  refine W.widen (k := cells + 1) (n := slots + 6) (by omega) (by omega) ?_
  exact kk ls _ _ hl hM (hX1.tr hX2) hS
set_option maxHeartbeats 4000000 in
set_option maxRecDepth 100000 in
theorem L_5 {p : Program} {e : Env} {s : State} {m : MethodId} {args : Array Value} {below : List Frame} {meth : Method} {c : Code} {H : Heap} {locs : List Loc} {cells slots : Nat} {Q : State → Prop} {ls : Array Slot} {D : va_G} {cy : Nat → ClassId} {B b L : Nat} {xs : Nat → Int32} {x y o : Nat} {S S' : zM} {i : Int32} (l : Launch) (hst : l.stackTraces = false) (hx : p.tables.exec = Jvm.exec) (hb : c.code = cL_law) (hml : c.maxLocals = 8) (hown : s.vm.findClass RL = some m.cls) (hg : ∀ w ∈ zGW, w.before args s = true) (hC : zC D cy s) (hT : zT B s s.heap) (hXs : va_X b L xs s s.heap) (hbl : b < s.heap.size) (hbB : ¬ B < b) (hin : vp_in (i + 1) L ∧ vp_in (i + 2) L ∧ vp_in (i + 3) L ∧ vp_in (i + 4) L ∧ vp_in (i + 5) L) (hax : zA S x 11) (hay : zA S y 12) (hao : zA S o 21) (hl : lv_has ls 8 [(4, .int i), (3, .ref (B + o)), (2, .ref (B + y)), (1, .ref (B + x)), (0, .ref b)]) (hM : zMR D cy B S H) (hS : va_S (fun q => B < q) s.heap H locs) (hc1 : cells + 1 ≤ 601024) (hc2 : slots + 6 ≤ 7293034) (h : zs_5 x y (xs (i + 1).toNatClampNeg) (xs (i + 2).toNatClampNeg) (xs (i + 3).toNatClampNeg) (xs (i + 4).toNatClampNeg) (xs (i + 5).toNatClampNeg) S S') (kk : ∀ (ls : Array Slot) (H : Heap) (locs : List Loc), lv_has ls 8 [(4, .int i), (3, .ref (B + o)), (2, .ref (B + y)), (1, .ref (B + x)), (0, .ref b)] → zMR D cy B S' H → zX S S' → va_S (fun q => B < q) s.heap H locs → W p l e room_1 s m args below meth c H locs (cells + 1) (slots + 6) Q (F0 m 1621 ls [])) : W p l e room_1 s m args below meth c H locs cells slots Q (F0 m 429 ls []) := by
  obtain ⟨r, n, h1, h2, rfl⟩ := h
  refine lv_aload_n hx hb dL_law_429 rfl (lv_at hl 3 rfl) ?_
  refine lv_aload_n hx hb dL_law_430 rfl (lv_at hl 4 rfl) ?_
  refine lv_iload hx hb dL_law_431 (lv_at hl 0 rfl) ?_
  refine lv_iconst (v := (1 : Int32)) hx hb dL_law_433 (by decide +kernel) ?_
  refine lv_iadd hx hb dL_law_434 ?_
  refine va_sld hx hb hXs hbl hbB hS hin.1 dL_law_435 ?_
  refine lv_aload_n hx hb dL_law_436 rfl (lv_at hl 4 rfl) ?_
  refine lv_iload hx hb dL_law_437 (lv_at hl 0 rfl) ?_
  refine lv_iconst (v := (2 : Int32)) hx hb dL_law_439 (by decide +kernel) ?_
  refine lv_iadd hx hb dL_law_440 ?_
  refine va_sld hx hb hXs hbl hbB hS hin.2.1 dL_law_441 ?_
  refine z_runi (va_runV (As := [.int (xs (i + 1).toNatClampNeg), .int (xs (i + 2).toNatClampNeg)]) (rest := []) ⟨hx, hb, hml, hown, hg⟩ (c_X11_of l D cy B hax h1) (z_cwV hg zw_358 zw_359 zw_360 zw_2 zw_361 zh_X11_of ⟨(Nat.le_of_ble_eq_true rfl), (Nat.le_of_ble_eq_true rfl)⟩) (zPV hC hM hax (by decide) rfl) rfl rfl hl.1 rfl (lv_room (Nat.le_of_ble_eq_true rfl)) dL_law_442 ⟨Nat.le_trans (Nat.add_le_add_left (show 0 ≤ 1 by decide) _) hc1, Nat.le_trans (Nat.add_le_add_left (show 0 ≤ 6 by decide) _) hc2⟩) hS (fun H locs hM hX1 hS => ?_)
  have hax := hax.mo hX1
  have hay := hay.mo hX1
  refine lv_aload_n hx hb dL_law_445 rfl (lv_at hl 2 rfl) ?_
  refine lv_aload_n hx hb dL_law_446 rfl (lv_at hl 4 rfl) ?_
  refine lv_iload hx hb dL_law_447 (lv_at hl 0 rfl) ?_
  refine lv_iconst (v := (1 : Int32)) hx hb dL_law_449 (by decide +kernel) ?_
  refine lv_iadd hx hb dL_law_450 ?_
  refine va_sld hx hb hXs hbl hbB hS hin.1 dL_law_451 ?_
  refine lv_aload_n hx hb dL_law_452 rfl (lv_at hl 4 rfl) ?_
  refine lv_iload hx hb dL_law_453 (lv_at hl 0 rfl) ?_
  refine lv_iconst (v := (2 : Int32)) hx hb dL_law_455 (by decide +kernel) ?_
  refine lv_iadd hx hb dL_law_456 ?_
  refine va_sld hx hb hXs hbl hbB hS hin.2.1 dL_law_457 ?_
  refine z_runi (va_runV (As := [.int (xs (i + 1).toNatClampNeg), .int (xs (i + 2).toNatClampNeg)]) (rest := [.int r]) ⟨hx, hb, hml, hown, hg⟩ (c_X12_of l D cy B hay h2) (z_cwV hg zw_1156 zw_1157 zw_1158 zw_13 zw_1159 zh_X12_of ⟨(Nat.le_of_ble_eq_true rfl), (Nat.le_of_ble_eq_true rfl)⟩) (zPV hC hM hay (by decide) rfl) rfl rfl hl.1 rfl (lv_room (Nat.le_of_ble_eq_true rfl)) dL_law_458 ⟨(show cells + 0 + 0 ≤ 601024 by omega), (show slots + 0 + 0 ≤ 7293034 by omega)⟩) hS (fun H locs hM hX2 hS => ?_)
  refine lv_icmp_eq (tgt := 1621) hx hb dL_law_461 (by decide) (fun _ => ?_) (fun hn => absurd rfl hn)
  refine W.widen (k := cells + 1) (n := slots + 6) (by omega) (by omega) ?_
  exact kk ls _ _ hl hM (hX1.tr hX2) hS
set_option maxHeartbeats 4000000 in
set_option maxRecDepth 100000 in
theorem L_6 {p : Program} {e : Env} {s : State} {m : MethodId} {args : Array Value} {below : List Frame} {meth : Method} {c : Code} {H : Heap} {locs : List Loc} {cells slots : Nat} {Q : State → Prop} {ls : Array Slot} {D : va_G} {cy : Nat → ClassId} {B b L : Nat} {xs : Nat → Int32} {x y o : Nat} {S S' : zM} {i : Int32} (l : Launch) (hst : l.stackTraces = false) (hx : p.tables.exec = Jvm.exec) (hb : c.code = cL_law) (hml : c.maxLocals = 8) (hown : s.vm.findClass RL = some m.cls) (hg : ∀ w ∈ zGW, w.before args s = true) (hC : zC D cy s) (hT : zT B s s.heap) (hXs : va_X b L xs s s.heap) (hbl : b < s.heap.size) (hbB : ¬ B < b) (hin : vp_in (i + 1) L ∧ vp_in (i + 2) L ∧ vp_in (i + 3) L ∧ vp_in (i + 4) L ∧ vp_in (i + 5) L) (hax : zA S x 11) (hay : zA S y 12) (hao : zA S o 21) (hl : lv_has ls 8 [(4, .int i), (3, .ref (B + o)), (2, .ref (B + y)), (1, .ref (B + x)), (0, .ref b)]) (hM : zMR D cy B S H) (hS : va_S (fun q => B < q) s.heap H locs) (hc1 : cells + 1 ≤ 601024) (hc2 : slots + 6 ≤ 7293034) (h : zs_6 x y (xs (i + 1).toNatClampNeg) (xs (i + 2).toNatClampNeg) (xs (i + 3).toNatClampNeg) (xs (i + 4).toNatClampNeg) (xs (i + 5).toNatClampNeg) S S') (kk : ∀ (ls : Array Slot) (H : Heap) (locs : List Loc), lv_has ls 8 [(4, .int i), (3, .ref (B + o)), (2, .ref (B + y)), (1, .ref (B + x)), (0, .ref b)] → zMR D cy B S' H → zX S S' → va_S (fun q => B < q) s.heap H locs → W p l e room_1 s m args below meth c H locs (cells + 1) (slots + 6) Q (F0 m 1621 ls [])) : W p l e room_1 s m args below meth c H locs cells slots Q (F0 m 466 ls []) := by
  obtain ⟨r, n, h1, h2, rfl⟩ := h
  refine lv_aload_n hx hb dL_law_466 rfl (lv_at hl 3 rfl) ?_
  refine lv_aload_n hx hb dL_law_467 rfl (lv_at hl 4 rfl) ?_
  refine lv_iload hx hb dL_law_468 (lv_at hl 0 rfl) ?_
  refine lv_iconst (v := (1 : Int32)) hx hb dL_law_470 (by decide +kernel) ?_
  refine lv_iadd hx hb dL_law_471 ?_
  refine va_sld hx hb hXs hbl hbB hS hin.1 dL_law_472 ?_
  refine lv_aload_n hx hb dL_law_473 rfl (lv_at hl 4 rfl) ?_
  refine lv_iload hx hb dL_law_474 (lv_at hl 0 rfl) ?_
  refine lv_iconst (v := (2 : Int32)) hx hb dL_law_476 (by decide +kernel) ?_
  refine lv_iadd hx hb dL_law_477 ?_
  refine va_sld hx hb hXs hbl hbB hS hin.2.1 dL_law_478 ?_
  refine lv_aload_n hx hb dL_law_479 rfl (lv_at hl 4 rfl) ?_
  refine lv_iload hx hb dL_law_480 (lv_at hl 0 rfl) ?_
  refine lv_iconst (v := (3 : Int32)) hx hb dL_law_482 (by decide +kernel) ?_
  refine lv_iadd hx hb dL_law_483 ?_
  refine va_sld hx hb hXs hbl hbB hS hin.2.2.1 dL_law_484 ?_
  refine z_runi (va_runV (As := [.int (xs (i + 1).toNatClampNeg), .int (xs (i + 2).toNatClampNeg), .int (xs (i + 3).toNatClampNeg)]) (rest := []) ⟨hx, hb, hml, hown, hg⟩ (c_X11_seen l D cy B hax h1) (z_cwV hg zw_381 zw_382 zw_383 zw_2 zw_384 zh_X11_seen ⟨(Nat.le_of_ble_eq_true rfl), (Nat.le_of_ble_eq_true rfl)⟩) (zPV hC hM hax (by decide) rfl) rfl rfl hl.1 rfl (lv_room (Nat.le_of_ble_eq_true rfl)) dL_law_485 ⟨Nat.le_trans (Nat.add_le_add_left (show 0 ≤ 1 by decide) _) hc1, Nat.le_trans (Nat.add_le_add_left (show 0 ≤ 6 by decide) _) hc2⟩) hS (fun H locs hM hX1 hS => ?_)
  have hax := hax.mo hX1
  have hay := hay.mo hX1
  refine lv_aload_n hx hb dL_law_488 rfl (lv_at hl 2 rfl) ?_
  refine lv_aload_n hx hb dL_law_489 rfl (lv_at hl 4 rfl) ?_
  refine lv_iload hx hb dL_law_490 (lv_at hl 0 rfl) ?_
  refine lv_iconst (v := (1 : Int32)) hx hb dL_law_492 (by decide +kernel) ?_
  refine lv_iadd hx hb dL_law_493 ?_
  refine va_sld hx hb hXs hbl hbB hS hin.1 dL_law_494 ?_
  refine lv_aload_n hx hb dL_law_495 rfl (lv_at hl 4 rfl) ?_
  refine lv_iload hx hb dL_law_496 (lv_at hl 0 rfl) ?_
  refine lv_iconst (v := (2 : Int32)) hx hb dL_law_498 (by decide +kernel) ?_
  refine lv_iadd hx hb dL_law_499 ?_
  refine va_sld hx hb hXs hbl hbB hS hin.2.1 dL_law_500 ?_
  refine lv_aload_n hx hb dL_law_501 rfl (lv_at hl 4 rfl) ?_
  refine lv_iload hx hb dL_law_502 (lv_at hl 0 rfl) ?_
  refine lv_iconst (v := (3 : Int32)) hx hb dL_law_504 (by decide +kernel) ?_
  refine lv_iadd hx hb dL_law_505 ?_
  refine va_sld hx hb hXs hbl hbB hS hin.2.2.1 dL_law_506 ?_
  refine z_runi (va_runV (As := [.int (xs (i + 1).toNatClampNeg), .int (xs (i + 2).toNatClampNeg), .int (xs (i + 3).toNatClampNeg)]) (rest := [.int r]) ⟨hx, hb, hml, hown, hg⟩ (c_X12_seen l D cy B hay h2) (z_cwV hg zw_1172 zw_1173 zw_1174 zw_13 zw_1175 zh_X12_seen ⟨(Nat.le_of_ble_eq_true rfl), (Nat.le_of_ble_eq_true rfl)⟩) (zPV hC hM hay (by decide) rfl) rfl rfl hl.1 rfl (lv_room (Nat.le_of_ble_eq_true rfl)) dL_law_507 ⟨(show cells + 0 + 0 ≤ 601024 by omega), (show slots + 0 + 0 ≤ 7293034 by omega)⟩) hS (fun H locs hM hX2 hS => ?_)
  refine lv_icmp_eq (tgt := 1621) hx hb dL_law_510 (by decide) (fun _ => ?_) (fun hn => absurd rfl hn)
  refine W.widen (k := cells + 1) (n := slots + 6) (by omega) (by omega) ?_
  exact kk ls _ _ hl hM (hX1.tr hX2) hS
set_option maxHeartbeats 4000000 in
set_option maxRecDepth 100000 in
theorem L_7 {p : Program} {e : Env} {s : State} {m : MethodId} {args : Array Value} {below : List Frame} {meth : Method} {c : Code} {H : Heap} {locs : List Loc} {cells slots : Nat} {Q : State → Prop} {ls : Array Slot} {D : va_G} {cy : Nat → ClassId} {B b L : Nat} {xs : Nat → Int32} {x y o : Nat} {S S' : zM} {i : Int32} (l : Launch) (hst : l.stackTraces = false) (hx : p.tables.exec = Jvm.exec) (hb : c.code = cL_law) (hml : c.maxLocals = 8) (hown : s.vm.findClass RL = some m.cls) (hg : ∀ w ∈ zGW, w.before args s = true) (hC : zC D cy s) (hT : zT B s s.heap) (hXs : va_X b L xs s s.heap) (hbl : b < s.heap.size) (hbB : ¬ B < b) (hin : vp_in (i + 1) L ∧ vp_in (i + 2) L ∧ vp_in (i + 3) L ∧ vp_in (i + 4) L ∧ vp_in (i + 5) L) (hax : zA S x 11) (hay : zA S y 12) (hao : zA S o 21) (hl : lv_has ls 8 [(4, .int i), (3, .ref (B + o)), (2, .ref (B + y)), (1, .ref (B + x)), (0, .ref b)]) (hM : zMR D cy B S H) (hS : va_S (fun q => B < q) s.heap H locs) (hc1 : cells + 1 ≤ 601024) (hc2 : slots + 6 ≤ 7293034) (h : zs_7 x y (xs (i + 1).toNatClampNeg) (xs (i + 2).toNatClampNeg) (xs (i + 3).toNatClampNeg) (xs (i + 4).toNatClampNeg) (xs (i + 5).toNatClampNeg) S S') (kk : ∀ (ls : Array Slot) (H : Heap) (locs : List Loc), lv_has ls 8 [(4, .int i), (3, .ref (B + o)), (2, .ref (B + y)), (1, .ref (B + x)), (0, .ref b)] → zMR D cy B S' H → zX S S' → va_S (fun q => B < q) s.heap H locs → W p l e room_1 s m args below meth c H locs (cells + 1) (slots + 6) Q (F0 m 1621 ls [])) : W p l e room_1 s m args below meth c H locs cells slots Q (F0 m 515 ls []) := by
  obtain ⟨r, n, S1, h1, h2⟩ := h
  refine lv_aload_n hx hb dL_law_515 rfl (lv_at hl 3 rfl) ?_
  refine lv_aload_n hx hb dL_law_516 rfl (lv_at hl 4 rfl) ?_
  refine lv_iload hx hb dL_law_517 (lv_at hl 0 rfl) ?_
  refine lv_iconst (v := (1 : Int32)) hx hb dL_law_519 (by decide +kernel) ?_
  refine lv_iadd hx hb dL_law_520 ?_
  refine va_sld hx hb hXs hbl hbB hS hin.1 dL_law_521 ?_
  refine lv_aload_n hx hb dL_law_522 rfl (lv_at hl 4 rfl) ?_
  refine lv_iload hx hb dL_law_523 (lv_at hl 0 rfl) ?_
  refine lv_iconst (v := (2 : Int32)) hx hb dL_law_525 (by decide +kernel) ?_
  refine lv_iadd hx hb dL_law_526 ?_
  refine va_sld hx hb hXs hbl hbB hS hin.2.1 dL_law_527 ?_
  refine z_runi (va_runV (As := [.int (xs (i + 1).toNatClampNeg), .int (xs (i + 2).toNatClampNeg)]) (rest := []) ⟨hx, hb, hml, hown, hg⟩ (c_X11_would l D cy B hax h1) (z_cwV hg zw_388 zw_389 zw_390 zw_2 zw_391 zh_X11_would ⟨(Nat.le_of_ble_eq_true rfl), (Nat.le_of_ble_eq_true rfl)⟩) (zPV hC hM hax (by decide) rfl) rfl rfl hl.1 rfl (lv_room (Nat.le_of_ble_eq_true rfl)) dL_law_528 ⟨Nat.le_trans (Nat.add_le_add_left (show 0 ≤ 1 by decide) _) hc1, Nat.le_trans (Nat.add_le_add_left (show 0 ≤ 6 by decide) _) hc2⟩) hS (fun H locs hM hX1 hS => ?_)
  have hax := hax.mo hX1
  have hay := hay.mo hX1
  refine lv_aload_n hx hb dL_law_531 rfl (lv_at hl 2 rfl) ?_
  refine lv_aload_n hx hb dL_law_532 rfl (lv_at hl 4 rfl) ?_
  refine lv_iload hx hb dL_law_533 (lv_at hl 0 rfl) ?_
  refine lv_iconst (v := (1 : Int32)) hx hb dL_law_535 (by decide +kernel) ?_
  refine lv_iadd hx hb dL_law_536 ?_
  refine va_sld hx hb hXs hbl hbB hS hin.1 dL_law_537 ?_
  refine lv_aload_n hx hb dL_law_538 rfl (lv_at hl 4 rfl) ?_
  refine lv_iload hx hb dL_law_539 (lv_at hl 0 rfl) ?_
  refine lv_iconst (v := (2 : Int32)) hx hb dL_law_541 (by decide +kernel) ?_
  refine lv_iadd hx hb dL_law_542 ?_
  refine va_sld hx hb hXs hbl hbB hS hin.2.1 dL_law_543 ?_
  refine z_runi (va_runV (As := [.int (xs (i + 1).toNatClampNeg), .int (xs (i + 2).toNatClampNeg)]) (rest := [.int r]) ⟨hx, hb, hml, hown, hg⟩ (c_X12_would l D cy B hay h2) (z_cwV hg zw_1179 zw_1180 zw_1181 zw_13 zw_1182 zh_X12_would ⟨(Nat.le_of_ble_eq_true rfl), (Nat.le_of_ble_eq_true rfl)⟩) (zPV hC hM hay (by decide) rfl) rfl rfl hl.1 rfl (lv_room (Nat.le_of_ble_eq_true rfl)) dL_law_544 ⟨(show cells + 0 + 0 ≤ 601024 by omega), (show slots + 0 + 0 ≤ 7293034 by omega)⟩) hS (fun H locs hM hX2 hS => ?_)
  refine lv_icmp_eq (tgt := 1621) hx hb dL_law_547 (by decide) (fun _ => ?_) (fun hn => absurd rfl hn)
  refine W.widen (k := cells + 1) (n := slots + 6) (by omega) (by omega) ?_
  exact kk ls _ _ hl hM (hX1.tr hX2) hS
set_option maxHeartbeats 4000000 in
set_option maxRecDepth 100000 in
theorem L_8 {p : Program} {e : Env} {s : State} {m : MethodId} {args : Array Value} {below : List Frame} {meth : Method} {c : Code} {H : Heap} {locs : List Loc} {cells slots : Nat} {Q : State → Prop} {ls : Array Slot} {D : va_G} {cy : Nat → ClassId} {B b L : Nat} {xs : Nat → Int32} {x y o : Nat} {S S' : zM} {i : Int32} (l : Launch) (hst : l.stackTraces = false) (hx : p.tables.exec = Jvm.exec) (hb : c.code = cL_law) (hml : c.maxLocals = 8) (hown : s.vm.findClass RL = some m.cls) (hg : ∀ w ∈ zGW, w.before args s = true) (hC : zC D cy s) (hT : zT B s s.heap) (hXs : va_X b L xs s s.heap) (hbl : b < s.heap.size) (hbB : ¬ B < b) (hin : vp_in (i + 1) L ∧ vp_in (i + 2) L ∧ vp_in (i + 3) L ∧ vp_in (i + 4) L ∧ vp_in (i + 5) L) (hax : zA S x 11) (hay : zA S y 12) (hao : zA S o 21) (hl : lv_has ls 8 [(4, .int i), (3, .ref (B + o)), (2, .ref (B + y)), (1, .ref (B + x)), (0, .ref b)]) (hM : zMR D cy B S H) (hS : va_S (fun q => B < q) s.heap H locs) (hc1 : cells + 1 ≤ 601024) (hc2 : slots + 6 ≤ 7293034) (h : zs_8 x y (xs (i + 1).toNatClampNeg) (xs (i + 2).toNatClampNeg) (xs (i + 3).toNatClampNeg) (xs (i + 4).toNatClampNeg) (xs (i + 5).toNatClampNeg) S S') (kk : ∀ (ls : Array Slot) (H : Heap) (locs : List Loc), lv_has ls 8 [(4, .int i), (3, .ref (B + o)), (2, .ref (B + y)), (1, .ref (B + x)), (0, .ref b)] → zMR D cy B S' H → zX S S' → va_S (fun q => B < q) s.heap H locs → W p l e room_1 s m args below meth c H locs (cells + 1) (slots + 6) Q (F0 m 1621 ls [])) : W p l e room_1 s m args below meth c H locs cells slots Q (F0 m 552 ls []) := by
  obtain ⟨r, n, S1, h1, h2⟩ := h
  refine lv_aload_n hx hb dL_law_552 rfl (lv_at hl 3 rfl) ?_
  refine lv_aload_n hx hb dL_law_553 rfl (lv_at hl 4 rfl) ?_
  refine lv_iload hx hb dL_law_554 (lv_at hl 0 rfl) ?_
  refine lv_iconst (v := (1 : Int32)) hx hb dL_law_556 (by decide +kernel) ?_
  refine lv_iadd hx hb dL_law_557 ?_
  refine va_sld hx hb hXs hbl hbB hS hin.1 dL_law_558 ?_
  refine z_runi (va_runV (As := [.int (xs (i + 1).toNatClampNeg)]) (rest := []) ⟨hx, hb, hml, hown, hg⟩ (c_X11_markAll l D cy B hax h1) (z_cwV hg zw_437 zw_438 zw_439 zw_2 zw_440 zh_X11_markAll ⟨(Nat.le_of_ble_eq_true rfl), (Nat.le_of_ble_eq_true rfl)⟩) (zPV hC hM hax (by decide) rfl) rfl rfl hl.1 rfl (lv_room (Nat.le_of_ble_eq_true rfl)) dL_law_559 ⟨Nat.le_trans (Nat.add_le_add_left (show 0 ≤ 1 by decide) _) hc1, Nat.le_trans (Nat.add_le_add_left (show 0 ≤ 6 by decide) _) hc2⟩) hS (fun H locs hM hX1 hS => ?_)
  have hax := hax.mo hX1
  have hay := hay.mo hX1
  refine lv_aload_n hx hb dL_law_562 rfl (lv_at hl 2 rfl) ?_
  refine lv_aload_n hx hb dL_law_563 rfl (lv_at hl 4 rfl) ?_
  refine lv_iload hx hb dL_law_564 (lv_at hl 0 rfl) ?_
  refine lv_iconst (v := (1 : Int32)) hx hb dL_law_566 (by decide +kernel) ?_
  refine lv_iadd hx hb dL_law_567 ?_
  refine va_sld hx hb hXs hbl hbB hS hin.1 dL_law_568 ?_
  refine z_runi (va_runV (As := [.int (xs (i + 1).toNatClampNeg)]) (rest := [.int r]) ⟨hx, hb, hml, hown, hg⟩ (c_X12_markAll l D cy B hay h2) (z_cwV hg zw_1201 zw_1202 zw_1203 zw_13 zw_1204 zh_X12_markAll ⟨(Nat.le_of_ble_eq_true rfl), (Nat.le_of_ble_eq_true rfl)⟩) (zPV hC hM hay (by decide) rfl) rfl rfl hl.1 rfl (lv_room (Nat.le_of_ble_eq_true rfl)) dL_law_569 ⟨(show cells + 0 + 0 ≤ 601024 by omega), (show slots + 0 + 0 ≤ 7293034 by omega)⟩) hS (fun H locs hM hX2 hS => ?_)
  refine lv_icmp_eq (tgt := 1621) hx hb dL_law_572 (by decide) (fun _ => ?_) (fun hn => absurd rfl hn)
  refine W.widen (k := cells + 1) (n := slots + 6) (by omega) (by omega) ?_
  exact kk ls _ _ hl hM (hX1.tr hX2) hS
set_option maxHeartbeats 4000000 in
set_option maxRecDepth 100000 in
theorem L_9 {p : Program} {e : Env} {s : State} {m : MethodId} {args : Array Value} {below : List Frame} {meth : Method} {c : Code} {H : Heap} {locs : List Loc} {cells slots : Nat} {Q : State → Prop} {ls : Array Slot} {D : va_G} {cy : Nat → ClassId} {B b L : Nat} {xs : Nat → Int32} {x y o : Nat} {S S' : zM} {i : Int32} (l : Launch) (hst : l.stackTraces = false) (hx : p.tables.exec = Jvm.exec) (hb : c.code = cL_law) (hml : c.maxLocals = 8) (hown : s.vm.findClass RL = some m.cls) (hg : ∀ w ∈ zGW, w.before args s = true) (hC : zC D cy s) (hT : zT B s s.heap) (hXs : va_X b L xs s s.heap) (hbl : b < s.heap.size) (hbB : ¬ B < b) (hin : vp_in (i + 1) L ∧ vp_in (i + 2) L ∧ vp_in (i + 3) L ∧ vp_in (i + 4) L ∧ vp_in (i + 5) L) (hax : zA S x 11) (hay : zA S y 12) (hao : zA S o 21) (hl : lv_has ls 8 [(4, .int i), (3, .ref (B + o)), (2, .ref (B + y)), (1, .ref (B + x)), (0, .ref b)]) (hM : zMR D cy B S H) (hS : va_S (fun q => B < q) s.heap H locs) (hc1 : cells + 1 ≤ 601024) (hc2 : slots + 6 ≤ 7293034) (h : zs_9 x y (xs (i + 1).toNatClampNeg) (xs (i + 2).toNatClampNeg) (xs (i + 3).toNatClampNeg) (xs (i + 4).toNatClampNeg) (xs (i + 5).toNatClampNeg) S S') (kk : ∀ (ls : Array Slot) (H : Heap) (locs : List Loc), lv_has ls 8 [(4, .int i), (3, .ref (B + o)), (2, .ref (B + y)), (1, .ref (B + x)), (0, .ref b)] → zMR D cy B S' H → zX S S' → va_S (fun q => B < q) s.heap H locs → W p l e room_1 s m args below meth c H locs (cells + 1) (slots + 6) Q (F0 m 1621 ls [])) : W p l e room_1 s m args below meth c H locs cells slots Q (F0 m 577 ls []) := by
  obtain ⟨r, n, S1, h1, h2⟩ := h
  refine lv_aload_n hx hb dL_law_577 rfl (lv_at hl 3 rfl) ?_
  refine lv_aload_n hx hb dL_law_578 rfl (lv_at hl 4 rfl) ?_
  refine lv_iload hx hb dL_law_579 (lv_at hl 0 rfl) ?_
  refine lv_iconst (v := (1 : Int32)) hx hb dL_law_581 (by decide +kernel) ?_
  refine lv_iadd hx hb dL_law_582 ?_
  refine va_sld hx hb hXs hbl hbB hS hin.1 dL_law_583 ?_
  refine lv_aload_n hx hb dL_law_584 rfl (lv_at hl 4 rfl) ?_
  refine lv_iload hx hb dL_law_585 (lv_at hl 0 rfl) ?_
  refine lv_iconst (v := (2 : Int32)) hx hb dL_law_587 (by decide +kernel) ?_
  refine lv_iadd hx hb dL_law_588 ?_
  refine va_sld hx hb hXs hbl hbB hS hin.2.1 dL_law_589 ?_
  refine z_runi (va_runV (As := [.int (xs (i + 1).toNatClampNeg), .int (xs (i + 2).toNatClampNeg)]) (rest := []) ⟨hx, hb, hml, hown, hg⟩ (c_X11_marks l D cy B hax h1) (z_cwV hg zw_448 zw_449 zw_450 zw_2 zw_451 zh_X11_marks ⟨(Nat.le_of_ble_eq_true rfl), (Nat.le_of_ble_eq_true rfl)⟩) (zPV hC hM hax (by decide) rfl) rfl rfl hl.1 rfl (lv_room (Nat.le_of_ble_eq_true rfl)) dL_law_590 ⟨Nat.le_trans (Nat.add_le_add_left (show 0 ≤ 1 by decide) _) hc1, Nat.le_trans (Nat.add_le_add_left (show 0 ≤ 6 by decide) _) hc2⟩) hS (fun H locs hM hX1 hS => ?_)
  have hax := hax.mo hX1
  have hay := hay.mo hX1
  refine lv_aload_n hx hb dL_law_593 rfl (lv_at hl 2 rfl) ?_
  refine lv_aload_n hx hb dL_law_594 rfl (lv_at hl 4 rfl) ?_
  refine lv_iload hx hb dL_law_595 (lv_at hl 0 rfl) ?_
  refine lv_iconst (v := (1 : Int32)) hx hb dL_law_597 (by decide +kernel) ?_
  refine lv_iadd hx hb dL_law_598 ?_
  refine va_sld hx hb hXs hbl hbB hS hin.1 dL_law_599 ?_
  refine lv_aload_n hx hb dL_law_600 rfl (lv_at hl 4 rfl) ?_
  refine lv_iload hx hb dL_law_601 (lv_at hl 0 rfl) ?_
  refine lv_iconst (v := (2 : Int32)) hx hb dL_law_603 (by decide +kernel) ?_
  refine lv_iadd hx hb dL_law_604 ?_
  refine va_sld hx hb hXs hbl hbB hS hin.2.1 dL_law_605 ?_
  refine z_runi (va_runV (As := [.int (xs (i + 1).toNatClampNeg), .int (xs (i + 2).toNatClampNeg)]) (rest := [.int r]) ⟨hx, hb, hml, hown, hg⟩ (c_X12_marks l D cy B hay h2) (z_cwV hg zw_1208 zw_1209 zw_1210 zw_13 zw_1211 zh_X12_marks ⟨(Nat.le_of_ble_eq_true rfl), (Nat.le_of_ble_eq_true rfl)⟩) (zPV hC hM hay (by decide) rfl) rfl rfl hl.1 rfl (lv_room (Nat.le_of_ble_eq_true rfl)) dL_law_606 ⟨(show cells + 0 + 0 ≤ 601024 by omega), (show slots + 0 + 0 ≤ 7293034 by omega)⟩) hS (fun H locs hM hX2 hS => ?_)
  refine lv_icmp_eq (tgt := 1621) hx hb dL_law_609 (by decide) (fun _ => ?_) (fun hn => absurd rfl hn)
  refine W.widen (k := cells + 1) (n := slots + 6) (by omega) (by omega) ?_
  exact kk ls _ _ hl hM (hX1.tr hX2) hS
set_option maxHeartbeats 4000000 in
set_option maxRecDepth 100000 in
theorem L_10 {p : Program} {e : Env} {s : State} {m : MethodId} {args : Array Value} {below : List Frame} {meth : Method} {c : Code} {H : Heap} {locs : List Loc} {cells slots : Nat} {Q : State → Prop} {ls : Array Slot} {D : va_G} {cy : Nat → ClassId} {B b L : Nat} {xs : Nat → Int32} {x y o : Nat} {S S' : zM} {i : Int32} (l : Launch) (hst : l.stackTraces = false) (hx : p.tables.exec = Jvm.exec) (hb : c.code = cL_law) (hml : c.maxLocals = 8) (hown : s.vm.findClass RL = some m.cls) (hg : ∀ w ∈ zGW, w.before args s = true) (hC : zC D cy s) (hT : zT B s s.heap) (hXs : va_X b L xs s s.heap) (hbl : b < s.heap.size) (hbB : ¬ B < b) (hin : vp_in (i + 1) L ∧ vp_in (i + 2) L ∧ vp_in (i + 3) L ∧ vp_in (i + 4) L ∧ vp_in (i + 5) L) (hax : zA S x 11) (hay : zA S y 12) (hao : zA S o 21) (hl : lv_has ls 8 [(4, .int i), (3, .ref (B + o)), (2, .ref (B + y)), (1, .ref (B + x)), (0, .ref b)]) (hM : zMR D cy B S H) (hS : va_S (fun q => B < q) s.heap H locs) (hc1 : cells + 1 ≤ 601024) (hc2 : slots + 6 ≤ 7293034) (h : zs_10 x y (xs (i + 1).toNatClampNeg) (xs (i + 2).toNatClampNeg) (xs (i + 3).toNatClampNeg) (xs (i + 4).toNatClampNeg) (xs (i + 5).toNatClampNeg) S S') (kk : ∀ (ls : Array Slot) (H : Heap) (locs : List Loc), lv_has ls 8 [(4, .int i), (3, .ref (B + o)), (2, .ref (B + y)), (1, .ref (B + x)), (0, .ref b)] → zMR D cy B S' H → zX S S' → va_S (fun q => B < q) s.heap H locs → W p l e room_1 s m args below meth c H locs (cells + 1) (slots + 6) Q (F0 m 1621 ls [])) : W p l e room_1 s m args below meth c H locs cells slots Q (F0 m 614 ls []) := by
  obtain ⟨r, h1, h2, rfl⟩ := h
  refine lv_aload_n hx hb dL_law_614 rfl (lv_at hl 3 rfl) ?_
  refine lv_aload_n hx hb dL_law_615 rfl (lv_at hl 4 rfl) ?_
  refine lv_iload hx hb dL_law_616 (lv_at hl 0 rfl) ?_
  refine lv_iconst (v := (1 : Int32)) hx hb dL_law_618 (by decide +kernel) ?_
  refine lv_iadd hx hb dL_law_619 ?_
  refine va_sld hx hb hXs hbl hbB hS hin.1 dL_law_620 ?_
  refine lv_aload_n hx hb dL_law_621 rfl (lv_at hl 4 rfl) ?_
  refine lv_iload hx hb dL_law_622 (lv_at hl 0 rfl) ?_
  refine lv_iconst (v := (2 : Int32)) hx hb dL_law_624 (by decide +kernel) ?_
  refine lv_iadd hx hb dL_law_625 ?_
  refine va_sld hx hb hXs hbl hbB hS hin.2.1 dL_law_626 ?_
  refine z_runi (va_runV (As := [.int (xs (i + 1).toNatClampNeg), .int (xs (i + 2).toNatClampNeg)]) (rest := []) ⟨hx, hb, hml, hown, hg⟩ (c_X11_mark l D cy B hax h1) (z_cwV hg zw_469 zw_470 zw_471 zw_2 zw_472 zh_X11_mark ⟨(Nat.le_of_ble_eq_true rfl), (Nat.le_of_ble_eq_true rfl)⟩) (zPV hC hM hax (by decide) rfl) rfl rfl hl.1 rfl (lv_room (Nat.le_of_ble_eq_true rfl)) dL_law_627 ⟨Nat.le_trans (Nat.add_le_add_left (show 0 ≤ 1 by decide) _) hc1, Nat.le_trans (Nat.add_le_add_left (show 0 ≤ 6 by decide) _) hc2⟩) hS (fun H locs hM hX1 hS => ?_)
  have hax := hax.mo hX1
  have hay := hay.mo hX1
  refine lv_aload_n hx hb dL_law_630 rfl (lv_at hl 2 rfl) ?_
  refine lv_aload_n hx hb dL_law_631 rfl (lv_at hl 4 rfl) ?_
  refine lv_iload hx hb dL_law_632 (lv_at hl 0 rfl) ?_
  refine lv_iconst (v := (1 : Int32)) hx hb dL_law_634 (by decide +kernel) ?_
  refine lv_iadd hx hb dL_law_635 ?_
  refine va_sld hx hb hXs hbl hbB hS hin.1 dL_law_636 ?_
  refine lv_aload_n hx hb dL_law_637 rfl (lv_at hl 4 rfl) ?_
  refine lv_iload hx hb dL_law_638 (lv_at hl 0 rfl) ?_
  refine lv_iconst (v := (2 : Int32)) hx hb dL_law_640 (by decide +kernel) ?_
  refine lv_iadd hx hb dL_law_641 ?_
  refine va_sld hx hb hXs hbl hbB hS hin.2.1 dL_law_642 ?_
  refine z_runi (va_runV (As := [.int (xs (i + 1).toNatClampNeg), .int (xs (i + 2).toNatClampNeg)]) (rest := [.int r]) ⟨hx, hb, hml, hown, hg⟩ (c_X12_mark l D cy B hay h2) (z_cwV hg zw_1219 zw_1220 zw_1221 zw_13 zw_1222 zh_X12_mark ⟨(Nat.le_of_ble_eq_true rfl), (Nat.le_of_ble_eq_true rfl)⟩) (zPV hC hM hay (by decide) rfl) rfl rfl hl.1 rfl (lv_room (Nat.le_of_ble_eq_true rfl)) dL_law_643 ⟨(show cells + 0 + 0 ≤ 601024 by omega), (show slots + 0 + 0 ≤ 7293034 by omega)⟩) hS (fun H locs hM hX2 hS => ?_)
  refine lv_icmp_eq (tgt := 1621) hx hb dL_law_646 (by decide) (fun _ => ?_) (fun hn => absurd rfl hn)
  refine W.widen (k := cells + 1) (n := slots + 6) (by omega) (by omega) ?_
  exact kk ls _ _ hl hM (hX1.tr hX2) hS
set_option maxHeartbeats 4000000 in
set_option maxRecDepth 100000 in
theorem L_11 {p : Program} {e : Env} {s : State} {m : MethodId} {args : Array Value} {below : List Frame} {meth : Method} {c : Code} {H : Heap} {locs : List Loc} {cells slots : Nat} {Q : State → Prop} {ls : Array Slot} {D : va_G} {cy : Nat → ClassId} {B b L : Nat} {xs : Nat → Int32} {x y o : Nat} {S S' : zM} {i : Int32} (l : Launch) (hst : l.stackTraces = false) (hx : p.tables.exec = Jvm.exec) (hb : c.code = cL_law) (hml : c.maxLocals = 8) (hown : s.vm.findClass RL = some m.cls) (hg : ∀ w ∈ zGW, w.before args s = true) (hC : zC D cy s) (hT : zT B s s.heap) (hXs : va_X b L xs s s.heap) (hbl : b < s.heap.size) (hbB : ¬ B < b) (hin : vp_in (i + 1) L ∧ vp_in (i + 2) L ∧ vp_in (i + 3) L ∧ vp_in (i + 4) L ∧ vp_in (i + 5) L) (hax : zA S x 11) (hay : zA S y 12) (hao : zA S o 21) (hl : lv_has ls 8 [(4, .int i), (3, .ref (B + o)), (2, .ref (B + y)), (1, .ref (B + x)), (0, .ref b)]) (hM : zMR D cy B S H) (hS : va_S (fun q => B < q) s.heap H locs) (hc1 : cells + 1 ≤ 601024) (hc2 : slots + 6 ≤ 7293034) (h : zs_11 x y (xs (i + 1).toNatClampNeg) (xs (i + 2).toNatClampNeg) (xs (i + 3).toNatClampNeg) (xs (i + 4).toNatClampNeg) (xs (i + 5).toNatClampNeg) S S') (kk : ∀ (ls : Array Slot) (H : Heap) (locs : List Loc), lv_has ls 8 [(4, .int i), (3, .ref (B + o)), (2, .ref (B + y)), (1, .ref (B + x)), (0, .ref b)] → zMR D cy B S' H → zX S S' → va_S (fun q => B < q) s.heap H locs → W p l e room_1 s m args below meth c H locs (cells + 1) (slots + 6) Q (F0 m 1621 ls [])) : W p l e room_1 s m args below meth c H locs cells slots Q (F0 m 651 ls []) := by
  obtain ⟨r, n, S1, h1, h2⟩ := h
  refine lv_aload_n hx hb dL_law_651 rfl (lv_at hl 3 rfl) ?_
  refine lv_aload_n hx hb dL_law_652 rfl (lv_at hl 4 rfl) ?_
  refine lv_iload hx hb dL_law_653 (lv_at hl 0 rfl) ?_
  refine lv_iconst (v := (1 : Int32)) hx hb dL_law_655 (by decide +kernel) ?_
  refine lv_iadd hx hb dL_law_656 ?_
  refine va_sld hx hb hXs hbl hbB hS hin.1 dL_law_657 ?_
  refine z_runi (va_runV (As := [.int (xs (i + 1).toNatClampNeg)]) (rest := []) ⟨hx, hb, hml, hown, hg⟩ (c_X11_rule l D cy B hax h1) (z_cwV hg zw_477 zw_478 zw_479 zw_2 zw_480 zh_X11_rule ⟨(Nat.le_of_ble_eq_true rfl), (Nat.le_of_ble_eq_true rfl)⟩) (zPV hC hM hax (by decide) rfl) rfl rfl hl.1 rfl (lv_room (Nat.le_of_ble_eq_true rfl)) dL_law_658 ⟨Nat.le_trans (Nat.add_le_add_left (show 0 ≤ 1 by decide) _) hc1, Nat.le_trans (Nat.add_le_add_left (show 0 ≤ 6 by decide) _) hc2⟩) hS (fun H locs hM hX1 hS => ?_)
  have hax := hax.mo hX1
  have hay := hay.mo hX1
  refine lv_aload_n hx hb dL_law_661 rfl (lv_at hl 2 rfl) ?_
  refine lv_aload_n hx hb dL_law_662 rfl (lv_at hl 4 rfl) ?_
  refine lv_iload hx hb dL_law_663 (lv_at hl 0 rfl) ?_
  refine lv_iconst (v := (1 : Int32)) hx hb dL_law_665 (by decide +kernel) ?_
  refine lv_iadd hx hb dL_law_666 ?_
  refine va_sld hx hb hXs hbl hbB hS hin.1 dL_law_667 ?_
  refine z_runi (va_runV (As := [.int (xs (i + 1).toNatClampNeg)]) (rest := [.int r]) ⟨hx, hb, hml, hown, hg⟩ (c_X12_rule l D cy B hay h2) (z_cwV hg zw_1226 zw_1227 zw_1228 zw_13 zw_1229 zh_X12_rule ⟨(Nat.le_of_ble_eq_true rfl), (Nat.le_of_ble_eq_true rfl)⟩) (zPV hC hM hay (by decide) rfl) rfl rfl hl.1 rfl (lv_room (Nat.le_of_ble_eq_true rfl)) dL_law_668 ⟨(show cells + 0 + 0 ≤ 601024 by omega), (show slots + 0 + 0 ≤ 7293034 by omega)⟩) hS (fun H locs hM hX2 hS => ?_)
  refine lv_icmp_eq (tgt := 1621) hx hb dL_law_671 (by decide) (fun _ => ?_) (fun hn => absurd rfl hn)
  refine W.widen (k := cells + 1) (n := slots + 6) (by omega) (by omega) ?_
  exact kk ls _ _ hl hM (hX1.tr hX2) hS
set_option maxHeartbeats 4000000 in
set_option maxRecDepth 100000 in
theorem L_12 {p : Program} {e : Env} {s : State} {m : MethodId} {args : Array Value} {below : List Frame} {meth : Method} {c : Code} {H : Heap} {locs : List Loc} {cells slots : Nat} {Q : State → Prop} {ls : Array Slot} {D : va_G} {cy : Nat → ClassId} {B b L : Nat} {xs : Nat → Int32} {x y o : Nat} {S S' : zM} {i : Int32} (l : Launch) (hst : l.stackTraces = false) (hx : p.tables.exec = Jvm.exec) (hb : c.code = cL_law) (hml : c.maxLocals = 8) (hown : s.vm.findClass RL = some m.cls) (hg : ∀ w ∈ zGW, w.before args s = true) (hC : zC D cy s) (hT : zT B s s.heap) (hXs : va_X b L xs s s.heap) (hbl : b < s.heap.size) (hbB : ¬ B < b) (hin : vp_in (i + 1) L ∧ vp_in (i + 2) L ∧ vp_in (i + 3) L ∧ vp_in (i + 4) L ∧ vp_in (i + 5) L) (hax : zA S x 11) (hay : zA S y 12) (hao : zA S o 21) (hl : lv_has ls 8 [(4, .int i), (3, .ref (B + o)), (2, .ref (B + y)), (1, .ref (B + x)), (0, .ref b)]) (hM : zMR D cy B S H) (hS : va_S (fun q => B < q) s.heap H locs) (hc1 : cells + 1 ≤ 601024) (hc2 : slots + 6 ≤ 7293034) (h : zs_12 x y (xs (i + 1).toNatClampNeg) (xs (i + 2).toNatClampNeg) (xs (i + 3).toNatClampNeg) (xs (i + 4).toNatClampNeg) (xs (i + 5).toNatClampNeg) S S') (kk : ∀ (ls : Array Slot) (H : Heap) (locs : List Loc), lv_has ls 8 [(4, .int i), (3, .ref (B + o)), (2, .ref (B + y)), (1, .ref (B + x)), (0, .ref b)] → zMR D cy B S' H → zX S S' → va_S (fun q => B < q) s.heap H locs → W p l e room_1 s m args below meth c H locs (cells + 1) (slots + 6) Q (F0 m 1621 ls [])) : W p l e room_1 s m args below meth c H locs cells slots Q (F0 m 676 ls []) := by
  obtain ⟨r, n, S1, h1, h2⟩ := h
  refine lv_aload_n hx hb dL_law_676 rfl (lv_at hl 3 rfl) ?_
  refine lv_aload_n hx hb dL_law_677 rfl (lv_at hl 4 rfl) ?_
  refine lv_iload hx hb dL_law_678 (lv_at hl 0 rfl) ?_
  refine lv_iconst (v := (1 : Int32)) hx hb dL_law_680 (by decide +kernel) ?_
  refine lv_iadd hx hb dL_law_681 ?_
  refine va_sld hx hb hXs hbl hbB hS hin.1 dL_law_682 ?_
  refine z_runi (va_runV (As := [.int (xs (i + 1).toNatClampNeg)]) (rest := []) ⟨hx, hb, hml, hown, hg⟩ (c_X11_counts l D cy B hax h1) (z_cwV hg zw_536 zw_537 zw_538 zw_2 zw_539 zh_X11_counts ⟨(Nat.le_of_ble_eq_true rfl), (Nat.le_of_ble_eq_true rfl)⟩) (zPV hC hM hax (by decide) rfl) rfl rfl hl.1 rfl (lv_room (Nat.le_of_ble_eq_true rfl)) dL_law_683 ⟨Nat.le_trans (Nat.add_le_add_left (show 0 ≤ 1 by decide) _) hc1, Nat.le_trans (Nat.add_le_add_left (show 0 ≤ 6 by decide) _) hc2⟩) hS (fun H locs hM hX1 hS => ?_)
  have hax := hax.mo hX1
  have hay := hay.mo hX1
  refine lv_aload_n hx hb dL_law_686 rfl (lv_at hl 2 rfl) ?_
  refine lv_aload_n hx hb dL_law_687 rfl (lv_at hl 4 rfl) ?_
  refine lv_iload hx hb dL_law_688 (lv_at hl 0 rfl) ?_
  refine lv_iconst (v := (1 : Int32)) hx hb dL_law_690 (by decide +kernel) ?_
  refine lv_iadd hx hb dL_law_691 ?_
  refine va_sld hx hb hXs hbl hbB hS hin.1 dL_law_692 ?_
  refine z_runi (va_runV (As := [.int (xs (i + 1).toNatClampNeg)]) (rest := [.int r]) ⟨hx, hb, hml, hown, hg⟩ (c_X12_counts l D cy B hay h2) (z_cwV hg zw_1259 zw_1260 zw_1261 zw_13 zw_1262 zh_X12_counts ⟨(Nat.le_of_ble_eq_true rfl), (Nat.le_of_ble_eq_true rfl)⟩) (zPV hC hM hay (by decide) rfl) rfl rfl hl.1 rfl (lv_room (Nat.le_of_ble_eq_true rfl)) dL_law_693 ⟨(show cells + 0 + 0 ≤ 601024 by omega), (show slots + 0 + 0 ≤ 7293034 by omega)⟩) hS (fun H locs hM hX2 hS => ?_)
  refine lv_icmp_eq (tgt := 1621) hx hb dL_law_696 (by decide) (fun _ => ?_) (fun hn => absurd rfl hn)
  refine W.widen (k := cells + 1) (n := slots + 6) (by omega) (by omega) ?_
  exact kk ls _ _ hl hM (hX1.tr hX2) hS
set_option maxHeartbeats 4000000 in
set_option maxRecDepth 100000 in
theorem L_13 {p : Program} {e : Env} {s : State} {m : MethodId} {args : Array Value} {below : List Frame} {meth : Method} {c : Code} {H : Heap} {locs : List Loc} {cells slots : Nat} {Q : State → Prop} {ls : Array Slot} {D : va_G} {cy : Nat → ClassId} {B b L : Nat} {xs : Nat → Int32} {x y o : Nat} {S S' : zM} {i : Int32} (l : Launch) (hst : l.stackTraces = false) (hx : p.tables.exec = Jvm.exec) (hb : c.code = cL_law) (hml : c.maxLocals = 8) (hown : s.vm.findClass RL = some m.cls) (hg : ∀ w ∈ zGW, w.before args s = true) (hC : zC D cy s) (hT : zT B s s.heap) (hXs : va_X b L xs s s.heap) (hbl : b < s.heap.size) (hbB : ¬ B < b) (hin : vp_in (i + 1) L ∧ vp_in (i + 2) L ∧ vp_in (i + 3) L ∧ vp_in (i + 4) L ∧ vp_in (i + 5) L) (hax : zA S x 11) (hay : zA S y 12) (hao : zA S o 21) (hl : lv_has ls 8 [(4, .int i), (3, .ref (B + o)), (2, .ref (B + y)), (1, .ref (B + x)), (0, .ref b)]) (hM : zMR D cy B S H) (hS : va_S (fun q => B < q) s.heap H locs) (hc1 : cells + 1 ≤ 601024) (hc2 : slots + 6 ≤ 7293034) (h : zs_13 x y (xs (i + 1).toNatClampNeg) (xs (i + 2).toNatClampNeg) (xs (i + 3).toNatClampNeg) (xs (i + 4).toNatClampNeg) (xs (i + 5).toNatClampNeg) S S') (kk : ∀ (ls : Array Slot) (H : Heap) (locs : List Loc), lv_has ls 8 [(4, .int i), (3, .ref (B + o)), (2, .ref (B + y)), (1, .ref (B + x)), (0, .ref b)] → zMR D cy B S' H → zX S S' → va_S (fun q => B < q) s.heap H locs → W p l e room_1 s m args below meth c H locs (cells + 1) (slots + 6) Q (F0 m 1621 ls [])) : W p l e room_1 s m args below meth c H locs cells slots Q (F0 m 701 ls []) := by
  obtain ⟨r, n, S1, h1, h2⟩ := h
  refine lv_aload_n hx hb dL_law_701 rfl (lv_at hl 3 rfl) ?_
  refine lv_aload_n hx hb dL_law_702 rfl (lv_at hl 4 rfl) ?_
  refine lv_iload hx hb dL_law_703 (lv_at hl 0 rfl) ?_
  refine lv_iconst (v := (1 : Int32)) hx hb dL_law_705 (by decide +kernel) ?_
  refine lv_iadd hx hb dL_law_706 ?_
  refine va_sld hx hb hXs hbl hbB hS hin.1 dL_law_707 ?_
  refine lv_aload_n hx hb dL_law_708 rfl (lv_at hl 4 rfl) ?_
  refine lv_iload hx hb dL_law_709 (lv_at hl 0 rfl) ?_
  refine lv_iconst (v := (2 : Int32)) hx hb dL_law_711 (by decide +kernel) ?_
  refine lv_iadd hx hb dL_law_712 ?_
  refine va_sld hx hb hXs hbl hbB hS hin.2.1 dL_law_713 ?_
  refine z_runl (va_runV (As := [.int (xs (i + 1).toNatClampNeg), .int (xs (i + 2).toNatClampNeg)]) (rest := []) ⟨hx, hb, hml, hown, hg⟩ (c_X11_total l D cy B hax h1) (z_cwV hg zw_579 zw_580 zw_581 zw_2 zw_582 zh_X11_total ⟨(Nat.le_of_ble_eq_true rfl), (Nat.le_of_ble_eq_true rfl)⟩) (zPV hC hM hax (by decide) rfl) rfl rfl hl.1 rfl (lv_room (Nat.le_of_ble_eq_true rfl)) dL_law_714 ⟨Nat.le_trans (Nat.add_le_add_left (show 0 ≤ 1 by decide) _) hc1, Nat.le_trans (Nat.add_le_add_left (show 0 ≤ 6 by decide) _) hc2⟩) hS (fun H locs hM hX1 hS => ?_)
  have hax := hax.mo hX1
  have hay := hay.mo hX1
  refine lv_aload_n hx hb dL_law_717 rfl (lv_at hl 2 rfl) ?_
  refine lv_aload_n hx hb dL_law_718 rfl (lv_at hl 4 rfl) ?_
  refine lv_iload hx hb dL_law_719 (lv_at hl 0 rfl) ?_
  refine lv_iconst (v := (1 : Int32)) hx hb dL_law_721 (by decide +kernel) ?_
  refine lv_iadd hx hb dL_law_722 ?_
  refine va_sld hx hb hXs hbl hbB hS hin.1 dL_law_723 ?_
  refine lv_aload_n hx hb dL_law_724 rfl (lv_at hl 4 rfl) ?_
  refine lv_iload hx hb dL_law_725 (lv_at hl 0 rfl) ?_
  refine lv_iconst (v := (2 : Int32)) hx hb dL_law_727 (by decide +kernel) ?_
  refine lv_iadd hx hb dL_law_728 ?_
  refine va_sld hx hb hXs hbl hbB hS hin.2.1 dL_law_729 ?_
  refine z_runl (va_runV (As := [.int (xs (i + 1).toNatClampNeg), .int (xs (i + 2).toNatClampNeg)]) (rest := [.long r]) ⟨hx, hb, hml, hown, hg⟩ (c_X12_total l D cy B hay h2) (z_cwV hg zw_1285 zw_1286 zw_1287 zw_13 zw_1288 zh_X12_total ⟨(Nat.le_of_ble_eq_true rfl), (Nat.le_of_ble_eq_true rfl)⟩) (zPV hC hM hay (by decide) rfl) rfl rfl hl.1 rfl (lv_room (Nat.le_of_ble_eq_true rfl)) dL_law_730 ⟨(show cells + 0 + 0 ≤ 601024 by omega), (show slots + 0 + 0 ≤ 7293034 by omega)⟩) hS (fun H locs hM hX2 hS => ?_)
  refine W.lcmp hx hb dL_law_733 ?_
  refine lv_if_eq (tgt := 1621) hx hb dL_law_734 (by decide) (fun _ => ?_) (fun hn => absurd (zlcmp r) hn)
  refine W.widen (k := cells + 1) (n := slots + 6) (by omega) (by omega) ?_
  exact kk ls _ _ hl hM (hX1.tr hX2) hS
set_option maxHeartbeats 4000000 in
set_option maxRecDepth 100000 in
theorem L_14 {p : Program} {e : Env} {s : State} {m : MethodId} {args : Array Value} {below : List Frame} {meth : Method} {c : Code} {H : Heap} {locs : List Loc} {cells slots : Nat} {Q : State → Prop} {ls : Array Slot} {D : va_G} {cy : Nat → ClassId} {B b L : Nat} {xs : Nat → Int32} {x y o : Nat} {S S' : zM} {i : Int32} (l : Launch) (hst : l.stackTraces = false) (hx : p.tables.exec = Jvm.exec) (hb : c.code = cL_law) (hml : c.maxLocals = 8) (hown : s.vm.findClass RL = some m.cls) (hg : ∀ w ∈ zGW, w.before args s = true) (hC : zC D cy s) (hT : zT B s s.heap) (hXs : va_X b L xs s s.heap) (hbl : b < s.heap.size) (hbB : ¬ B < b) (hin : vp_in (i + 1) L ∧ vp_in (i + 2) L ∧ vp_in (i + 3) L ∧ vp_in (i + 4) L ∧ vp_in (i + 5) L) (hax : zA S x 11) (hay : zA S y 12) (hao : zA S o 21) (hl : lv_has ls 8 [(4, .int i), (3, .ref (B + o)), (2, .ref (B + y)), (1, .ref (B + x)), (0, .ref b)]) (hM : zMR D cy B S H) (hS : va_S (fun q => B < q) s.heap H locs) (hc1 : cells + 1 ≤ 601024) (hc2 : slots + 6 ≤ 7293034) (h : zs_14 x y (xs (i + 1).toNatClampNeg) (xs (i + 2).toNatClampNeg) (xs (i + 3).toNatClampNeg) (xs (i + 4).toNatClampNeg) (xs (i + 5).toNatClampNeg) S S') (kk : ∀ (ls : Array Slot) (H : Heap) (locs : List Loc), lv_has ls 8 [(4, .int i), (3, .ref (B + o)), (2, .ref (B + y)), (1, .ref (B + x)), (0, .ref b)] → zMR D cy B S' H → zX S S' → va_S (fun q => B < q) s.heap H locs → W p l e room_1 s m args below meth c H locs (cells + 1) (slots + 6) Q (F0 m 1621 ls [])) : W p l e room_1 s m args below meth c H locs cells slots Q (F0 m 739 ls []) := by
  obtain ⟨r, n, S1, h1, h2⟩ := h
  refine lv_aload_n hx hb dL_law_739 rfl (lv_at hl 3 rfl) ?_
  refine lv_aload_n hx hb dL_law_740 rfl (lv_at hl 4 rfl) ?_
  refine lv_iload hx hb dL_law_741 (lv_at hl 0 rfl) ?_
  refine lv_iconst (v := (1 : Int32)) hx hb dL_law_743 (by decide +kernel) ?_
  refine lv_iadd hx hb dL_law_744 ?_
  refine va_sld hx hb hXs hbl hbB hS hin.1 dL_law_745 ?_
  refine lv_aload_n hx hb dL_law_746 rfl (lv_at hl 4 rfl) ?_
  refine lv_iload hx hb dL_law_747 (lv_at hl 0 rfl) ?_
  refine lv_iconst (v := (2 : Int32)) hx hb dL_law_749 (by decide +kernel) ?_
  refine lv_iadd hx hb dL_law_750 ?_
  refine va_sld hx hb hXs hbl hbB hS hin.2.1 dL_law_751 ?_
  refine z_runi (va_runV (As := [.int (xs (i + 1).toNatClampNeg), .int (xs (i + 2).toNatClampNeg)]) (rest := []) ⟨hx, hb, hml, hown, hg⟩ (c_X11_place l D cy B hax h1) (z_cwV hg zw_593 zw_594 zw_595 zw_2 zw_596 zh_X11_place ⟨(Nat.le_of_ble_eq_true rfl), (Nat.le_of_ble_eq_true rfl)⟩) (zPV hC hM hax (by decide) rfl) rfl rfl hl.1 rfl (lv_room (Nat.le_of_ble_eq_true rfl)) dL_law_752 ⟨Nat.le_trans (Nat.add_le_add_left (show 0 ≤ 1 by decide) _) hc1, Nat.le_trans (Nat.add_le_add_left (show 0 ≤ 6 by decide) _) hc2⟩) hS (fun H locs hM hX1 hS => ?_)
  have hax := hax.mo hX1
  have hay := hay.mo hX1
  refine lv_aload_n hx hb dL_law_755 rfl (lv_at hl 2 rfl) ?_
  refine lv_aload_n hx hb dL_law_756 rfl (lv_at hl 4 rfl) ?_
  refine lv_iload hx hb dL_law_757 (lv_at hl 0 rfl) ?_
  refine lv_iconst (v := (1 : Int32)) hx hb dL_law_759 (by decide +kernel) ?_
  refine lv_iadd hx hb dL_law_760 ?_
  refine va_sld hx hb hXs hbl hbB hS hin.1 dL_law_761 ?_
  refine lv_aload_n hx hb dL_law_762 rfl (lv_at hl 4 rfl) ?_
  refine lv_iload hx hb dL_law_763 (lv_at hl 0 rfl) ?_
  refine lv_iconst (v := (2 : Int32)) hx hb dL_law_765 (by decide +kernel) ?_
  refine lv_iadd hx hb dL_law_766 ?_
  refine va_sld hx hb hXs hbl hbB hS hin.2.1 dL_law_767 ?_
  refine z_runi (va_runV (As := [.int (xs (i + 1).toNatClampNeg), .int (xs (i + 2).toNatClampNeg)]) (rest := [.int r]) ⟨hx, hb, hml, hown, hg⟩ (c_X12_place l D cy B hay h2) (z_cwV hg zw_1296 zw_1297 zw_1298 zw_13 zw_1299 zh_X12_place ⟨(Nat.le_of_ble_eq_true rfl), (Nat.le_of_ble_eq_true rfl)⟩) (zPV hC hM hay (by decide) rfl) rfl rfl hl.1 rfl (lv_room (Nat.le_of_ble_eq_true rfl)) dL_law_768 ⟨(show cells + 0 + 0 ≤ 601024 by omega), (show slots + 0 + 0 ≤ 7293034 by omega)⟩) hS (fun H locs hM hX2 hS => ?_)
  refine lv_icmp_eq (tgt := 1621) hx hb dL_law_771 (by decide) (fun _ => ?_) (fun hn => absurd rfl hn)
  refine W.widen (k := cells + 1) (n := slots + 6) (by omega) (by omega) ?_
  exact kk ls _ _ hl hM (hX1.tr hX2) hS
set_option maxHeartbeats 4000000 in
set_option maxRecDepth 100000 in
theorem L_15 {p : Program} {e : Env} {s : State} {m : MethodId} {args : Array Value} {below : List Frame} {meth : Method} {c : Code} {H : Heap} {locs : List Loc} {cells slots : Nat} {Q : State → Prop} {ls : Array Slot} {D : va_G} {cy : Nat → ClassId} {B b L : Nat} {xs : Nat → Int32} {x y o : Nat} {S S' : zM} {i : Int32} (l : Launch) (hst : l.stackTraces = false) (hx : p.tables.exec = Jvm.exec) (hb : c.code = cL_law) (hml : c.maxLocals = 8) (hown : s.vm.findClass RL = some m.cls) (hg : ∀ w ∈ zGW, w.before args s = true) (hC : zC D cy s) (hT : zT B s s.heap) (hXs : va_X b L xs s s.heap) (hbl : b < s.heap.size) (hbB : ¬ B < b) (hin : vp_in (i + 1) L ∧ vp_in (i + 2) L ∧ vp_in (i + 3) L ∧ vp_in (i + 4) L ∧ vp_in (i + 5) L) (hax : zA S x 11) (hay : zA S y 12) (hao : zA S o 21) (hl : lv_has ls 8 [(4, .int i), (3, .ref (B + o)), (2, .ref (B + y)), (1, .ref (B + x)), (0, .ref b)]) (hM : zMR D cy B S H) (hS : va_S (fun q => B < q) s.heap H locs) (hc1 : cells + 1 ≤ 601024) (hc2 : slots + 6 ≤ 7293034) (h : zs_15 x y (xs (i + 1).toNatClampNeg) (xs (i + 2).toNatClampNeg) (xs (i + 3).toNatClampNeg) (xs (i + 4).toNatClampNeg) (xs (i + 5).toNatClampNeg) S S') (kk : ∀ (ls : Array Slot) (H : Heap) (locs : List Loc), lv_has ls 8 [(4, .int i), (3, .ref (B + o)), (2, .ref (B + y)), (1, .ref (B + x)), (0, .ref b)] → zMR D cy B S' H → zX S S' → va_S (fun q => B < q) s.heap H locs → W p l e room_1 s m args below meth c H locs (cells + 1) (slots + 6) Q (F0 m 1621 ls [])) : W p l e room_1 s m args below meth c H locs cells slots Q (F0 m 776 ls []) := by
  obtain ⟨r, n, S1, h1, h2⟩ := h
  refine lv_aload_n hx hb dL_law_776 rfl (lv_at hl 3 rfl) ?_
  refine lv_aload_n hx hb dL_law_777 rfl (lv_at hl 4 rfl) ?_
  refine lv_iload hx hb dL_law_778 (lv_at hl 0 rfl) ?_
  refine lv_iconst (v := (1 : Int32)) hx hb dL_law_780 (by decide +kernel) ?_
  refine lv_iadd hx hb dL_law_781 ?_
  refine va_sld hx hb hXs hbl hbB hS hin.1 dL_law_782 ?_
  refine z_runi (va_runV (As := [.int (xs (i + 1).toNatClampNeg)]) (rest := []) ⟨hx, hb, hml, hown, hg⟩ (c_X11_won l D cy B hax h1) (z_cwV hg zw_603 zw_604 zw_605 zw_2 zw_606 zh_X11_won ⟨(Nat.le_of_ble_eq_true rfl), (Nat.le_of_ble_eq_true rfl)⟩) (zPV hC hM hax (by decide) rfl) rfl rfl hl.1 rfl (lv_room (Nat.le_of_ble_eq_true rfl)) dL_law_783 ⟨Nat.le_trans (Nat.add_le_add_left (show 0 ≤ 1 by decide) _) hc1, Nat.le_trans (Nat.add_le_add_left (show 0 ≤ 6 by decide) _) hc2⟩) hS (fun H locs hM hX1 hS => ?_)
  have hax := hax.mo hX1
  have hay := hay.mo hX1
  refine lv_aload_n hx hb dL_law_786 rfl (lv_at hl 2 rfl) ?_
  refine lv_aload_n hx hb dL_law_787 rfl (lv_at hl 4 rfl) ?_
  refine lv_iload hx hb dL_law_788 (lv_at hl 0 rfl) ?_
  refine lv_iconst (v := (1 : Int32)) hx hb dL_law_790 (by decide +kernel) ?_
  refine lv_iadd hx hb dL_law_791 ?_
  refine va_sld hx hb hXs hbl hbB hS hin.1 dL_law_792 ?_
  refine z_runi (va_runV (As := [.int (xs (i + 1).toNatClampNeg)]) (rest := [.int r]) ⟨hx, hb, hml, hown, hg⟩ (c_X12_won l D cy B hay h2) (z_cwV hg zw_1303 zw_1304 zw_1305 zw_13 zw_1306 zh_X12_won ⟨(Nat.le_of_ble_eq_true rfl), (Nat.le_of_ble_eq_true rfl)⟩) (zPV hC hM hay (by decide) rfl) rfl rfl hl.1 rfl (lv_room (Nat.le_of_ble_eq_true rfl)) dL_law_793 ⟨(show cells + 0 + 0 ≤ 601024 by omega), (show slots + 0 + 0 ≤ 7293034 by omega)⟩) hS (fun H locs hM hX2 hS => ?_)
  refine lv_icmp_eq (tgt := 1621) hx hb dL_law_796 (by decide) (fun _ => ?_) (fun hn => absurd rfl hn)
  refine W.widen (k := cells + 1) (n := slots + 6) (by omega) (by omega) ?_
  exact kk ls _ _ hl hM (hX1.tr hX2) hS
set_option maxHeartbeats 4000000 in
set_option maxRecDepth 100000 in
theorem L_16 {p : Program} {e : Env} {s : State} {m : MethodId} {args : Array Value} {below : List Frame} {meth : Method} {c : Code} {H : Heap} {locs : List Loc} {cells slots : Nat} {Q : State → Prop} {ls : Array Slot} {D : va_G} {cy : Nat → ClassId} {B b L : Nat} {xs : Nat → Int32} {x y o : Nat} {S S' : zM} {i : Int32} (l : Launch) (hst : l.stackTraces = false) (hx : p.tables.exec = Jvm.exec) (hb : c.code = cL_law) (hml : c.maxLocals = 8) (hown : s.vm.findClass RL = some m.cls) (hg : ∀ w ∈ zGW, w.before args s = true) (hC : zC D cy s) (hT : zT B s s.heap) (hXs : va_X b L xs s s.heap) (hbl : b < s.heap.size) (hbB : ¬ B < b) (hin : vp_in (i + 1) L ∧ vp_in (i + 2) L ∧ vp_in (i + 3) L ∧ vp_in (i + 4) L ∧ vp_in (i + 5) L) (hax : zA S x 11) (hay : zA S y 12) (hao : zA S o 21) (hl : lv_has ls 8 [(4, .int i), (3, .ref (B + o)), (2, .ref (B + y)), (1, .ref (B + x)), (0, .ref b)]) (hM : zMR D cy B S H) (hS : va_S (fun q => B < q) s.heap H locs) (hc1 : cells + 1 ≤ 601024) (hc2 : slots + 6 ≤ 7293034) (h : zs_16 x y (xs (i + 1).toNatClampNeg) (xs (i + 2).toNatClampNeg) (xs (i + 3).toNatClampNeg) (xs (i + 4).toNatClampNeg) (xs (i + 5).toNatClampNeg) S S') (kk : ∀ (ls : Array Slot) (H : Heap) (locs : List Loc), lv_has ls 8 [(4, .int i), (3, .ref (B + o)), (2, .ref (B + y)), (1, .ref (B + x)), (0, .ref b)] → zMR D cy B S' H → zX S S' → va_S (fun q => B < q) s.heap H locs → W p l e room_1 s m args below meth c H locs (cells + 1) (slots + 6) Q (F0 m 1621 ls [])) : W p l e room_1 s m args below meth c H locs cells slots Q (F0 m 801 ls []) := by
  obtain ⟨r, n, S1, h1, h2⟩ := h
  refine lv_aload_n hx hb dL_law_801 rfl (lv_at hl 3 rfl) ?_
  refine lv_aload_n hx hb dL_law_802 rfl (lv_at hl 4 rfl) ?_
  refine lv_iload hx hb dL_law_803 (lv_at hl 0 rfl) ?_
  refine lv_iconst (v := (1 : Int32)) hx hb dL_law_805 (by decide +kernel) ?_
  refine lv_iadd hx hb dL_law_806 ?_
  refine va_sld hx hb hXs hbl hbB hS hin.1 dL_law_807 ?_
  refine lv_aload_n hx hb dL_law_808 rfl (lv_at hl 4 rfl) ?_
  refine lv_iload hx hb dL_law_809 (lv_at hl 0 rfl) ?_
  refine lv_iconst (v := (2 : Int32)) hx hb dL_law_811 (by decide +kernel) ?_
  refine lv_iadd hx hb dL_law_812 ?_
  refine va_sld hx hb hXs hbl hbB hS hin.2.1 dL_law_813 ?_
  refine lv_aload_n hx hb dL_law_814 rfl (lv_at hl 4 rfl) ?_
  refine lv_iload hx hb dL_law_815 (lv_at hl 0 rfl) ?_
  refine lv_iconst (v := (3 : Int32)) hx hb dL_law_817 (by decide +kernel) ?_
  refine lv_iadd hx hb dL_law_818 ?_
  refine va_sld hx hb hXs hbl hbB hS hin.2.2.1 dL_law_819 ?_
  refine z_runi (va_runV (As := [.int (xs (i + 1).toNatClampNeg), .int (xs (i + 2).toNatClampNeg), .int (xs (i + 3).toNatClampNeg)]) (rest := []) ⟨hx, hb, hml, hown, hg⟩ (c_X11_wonIf l D cy B hax h1) (z_cwV hg zw_611 zw_612 zw_613 zw_2 zw_614 zh_X11_wonIf ⟨(Nat.le_of_ble_eq_true rfl), (Nat.le_of_ble_eq_true rfl)⟩) (zPV hC hM hax (by decide) rfl) rfl rfl hl.1 rfl (lv_room (Nat.le_of_ble_eq_true rfl)) dL_law_820 ⟨Nat.le_trans (Nat.add_le_add_left (show 0 ≤ 1 by decide) _) hc1, Nat.le_trans (Nat.add_le_add_left (show 0 ≤ 6 by decide) _) hc2⟩) hS (fun H locs hM hX1 hS => ?_)
  have hax := hax.mo hX1
  have hay := hay.mo hX1
  refine lv_aload_n hx hb dL_law_823 rfl (lv_at hl 2 rfl) ?_
  refine lv_aload_n hx hb dL_law_824 rfl (lv_at hl 4 rfl) ?_
  refine lv_iload hx hb dL_law_825 (lv_at hl 0 rfl) ?_
  refine lv_iconst (v := (1 : Int32)) hx hb dL_law_827 (by decide +kernel) ?_
  refine lv_iadd hx hb dL_law_828 ?_
  refine va_sld hx hb hXs hbl hbB hS hin.1 dL_law_829 ?_
  refine lv_aload_n hx hb dL_law_830 rfl (lv_at hl 4 rfl) ?_
  refine lv_iload hx hb dL_law_831 (lv_at hl 0 rfl) ?_
  refine lv_iconst (v := (2 : Int32)) hx hb dL_law_833 (by decide +kernel) ?_
  refine lv_iadd hx hb dL_law_834 ?_
  refine va_sld hx hb hXs hbl hbB hS hin.2.1 dL_law_835 ?_
  refine lv_aload_n hx hb dL_law_836 rfl (lv_at hl 4 rfl) ?_
  refine lv_iload hx hb dL_law_837 (lv_at hl 0 rfl) ?_
  refine lv_iconst (v := (3 : Int32)) hx hb dL_law_839 (by decide +kernel) ?_
  refine lv_iadd hx hb dL_law_840 ?_
  refine va_sld hx hb hXs hbl hbB hS hin.2.2.1 dL_law_841 ?_
  refine z_runi (va_runV (As := [.int (xs (i + 1).toNatClampNeg), .int (xs (i + 2).toNatClampNeg), .int (xs (i + 3).toNatClampNeg)]) (rest := [.int r]) ⟨hx, hb, hml, hown, hg⟩ (c_X12_wonIf l D cy B hay h2) (z_cwV hg zw_1310 zw_1311 zw_1312 zw_13 zw_1313 zh_X12_wonIf ⟨(Nat.le_of_ble_eq_true rfl), (Nat.le_of_ble_eq_true rfl)⟩) (zPV hC hM hay (by decide) rfl) rfl rfl hl.1 rfl (lv_room (Nat.le_of_ble_eq_true rfl)) dL_law_842 ⟨(show cells + 0 + 0 ≤ 601024 by omega), (show slots + 0 + 0 ≤ 7293034 by omega)⟩) hS (fun H locs hM hX2 hS => ?_)
  refine lv_icmp_eq (tgt := 1621) hx hb dL_law_845 (by decide) (fun _ => ?_) (fun hn => absurd rfl hn)
  refine W.widen (k := cells + 1) (n := slots + 6) (by omega) (by omega) ?_
  exact kk ls _ _ hl hM (hX1.tr hX2) hS
set_option maxHeartbeats 4000000 in
set_option maxRecDepth 100000 in
theorem L_17 {p : Program} {e : Env} {s : State} {m : MethodId} {args : Array Value} {below : List Frame} {meth : Method} {c : Code} {H : Heap} {locs : List Loc} {cells slots : Nat} {Q : State → Prop} {ls : Array Slot} {D : va_G} {cy : Nat → ClassId} {B b L : Nat} {xs : Nat → Int32} {x y o : Nat} {S S' : zM} {i : Int32} (l : Launch) (hst : l.stackTraces = false) (hx : p.tables.exec = Jvm.exec) (hb : c.code = cL_law) (hml : c.maxLocals = 8) (hown : s.vm.findClass RL = some m.cls) (hg : ∀ w ∈ zGW, w.before args s = true) (hC : zC D cy s) (hT : zT B s s.heap) (hXs : va_X b L xs s s.heap) (hbl : b < s.heap.size) (hbB : ¬ B < b) (hin : vp_in (i + 1) L ∧ vp_in (i + 2) L ∧ vp_in (i + 3) L ∧ vp_in (i + 4) L ∧ vp_in (i + 5) L) (hax : zA S x 11) (hay : zA S y 12) (hao : zA S o 21) (hl : lv_has ls 8 [(4, .int i), (3, .ref (B + o)), (2, .ref (B + y)), (1, .ref (B + x)), (0, .ref b)]) (hM : zMR D cy B S H) (hS : va_S (fun q => B < q) s.heap H locs) (hc1 : cells + 1 ≤ 601024) (hc2 : slots + 6 ≤ 7293034) (h : zs_17 x y (xs (i + 1).toNatClampNeg) (xs (i + 2).toNatClampNeg) (xs (i + 3).toNatClampNeg) (xs (i + 4).toNatClampNeg) (xs (i + 5).toNatClampNeg) S S') (kk : ∀ (ls : Array Slot) (H : Heap) (locs : List Loc), lv_has ls 8 [(4, .int i), (3, .ref (B + o)), (2, .ref (B + y)), (1, .ref (B + x)), (0, .ref b)] → zMR D cy B S' H → zX S S' → va_S (fun q => B < q) s.heap H locs → W p l e room_1 s m args below meth c H locs (cells + 1) (slots + 6) Q (F0 m 1621 ls [])) : W p l e room_1 s m args below meth c H locs cells slots Q (F0 m 850 ls []) := by
  obtain ⟨r, n, S1, h1, h2⟩ := h
  refine lv_aload_n hx hb dL_law_850 rfl (lv_at hl 3 rfl) ?_
  refine lv_aload_n hx hb dL_law_851 rfl (lv_at hl 4 rfl) ?_
  refine lv_iload hx hb dL_law_852 (lv_at hl 0 rfl) ?_
  refine lv_iconst (v := (1 : Int32)) hx hb dL_law_854 (by decide +kernel) ?_
  refine lv_iadd hx hb dL_law_855 ?_
  refine va_sld hx hb hXs hbl hbB hS hin.1 dL_law_856 ?_
  refine lv_aload_n hx hb dL_law_857 rfl (lv_at hl 4 rfl) ?_
  refine lv_iload hx hb dL_law_858 (lv_at hl 0 rfl) ?_
  refine lv_iconst (v := (2 : Int32)) hx hb dL_law_860 (by decide +kernel) ?_
  refine lv_iadd hx hb dL_law_861 ?_
  refine va_sld hx hb hXs hbl hbB hS hin.2.1 dL_law_862 ?_
  refine lv_aload_n hx hb dL_law_863 rfl (lv_at hl 4 rfl) ?_
  refine lv_iload hx hb dL_law_864 (lv_at hl 0 rfl) ?_
  refine lv_iconst (v := (3 : Int32)) hx hb dL_law_866 (by decide +kernel) ?_
  refine lv_iadd hx hb dL_law_867 ?_
  refine va_sld hx hb hXs hbl hbB hS hin.2.2.1 dL_law_868 ?_
  refine lv_aload_n hx hb dL_law_869 rfl (lv_at hl 4 rfl) ?_
  refine lv_iload hx hb dL_law_870 (lv_at hl 0 rfl) ?_
  refine lv_iconst (v := (4 : Int32)) hx hb dL_law_872 (by decide +kernel) ?_
  refine lv_iadd hx hb dL_law_873 ?_
  refine va_sld hx hb hXs hbl hbB hS hin.2.2.2.1 dL_law_874 ?_
  refine z_runi (va_runV (As := [.int (xs (i + 1).toNatClampNeg), .int (xs (i + 2).toNatClampNeg), .int (xs (i + 3).toNatClampNeg), .int (xs (i + 4).toNatClampNeg)]) (rest := []) ⟨hx, hb, hml, hown, hg⟩ (c_X11_moved l D cy B hax h1) (z_cwV hg zw_639 zw_640 zw_641 zw_2 zw_642 zh_X11_moved ⟨(Nat.le_of_ble_eq_true rfl), (Nat.le_of_ble_eq_true rfl)⟩) (zPV hC hM hax (by decide) rfl) rfl rfl hl.1 rfl (lv_room (Nat.le_of_ble_eq_true rfl)) dL_law_875 ⟨Nat.le_trans (Nat.add_le_add_left (show 0 ≤ 1 by decide) _) hc1, Nat.le_trans (Nat.add_le_add_left (show 0 ≤ 6 by decide) _) hc2⟩) hS (fun H locs hM hX1 hS => ?_)
  have hax := hax.mo hX1
  have hay := hay.mo hX1
  refine lv_aload_n hx hb dL_law_878 rfl (lv_at hl 2 rfl) ?_
  refine lv_aload_n hx hb dL_law_879 rfl (lv_at hl 4 rfl) ?_
  refine lv_iload hx hb dL_law_880 (lv_at hl 0 rfl) ?_
  refine lv_iconst (v := (1 : Int32)) hx hb dL_law_882 (by decide +kernel) ?_
  refine lv_iadd hx hb dL_law_883 ?_
  refine va_sld hx hb hXs hbl hbB hS hin.1 dL_law_884 ?_
  refine lv_aload_n hx hb dL_law_885 rfl (lv_at hl 4 rfl) ?_
  refine lv_iload hx hb dL_law_886 (lv_at hl 0 rfl) ?_
  refine lv_iconst (v := (2 : Int32)) hx hb dL_law_888 (by decide +kernel) ?_
  refine lv_iadd hx hb dL_law_889 ?_
  refine va_sld hx hb hXs hbl hbB hS hin.2.1 dL_law_890 ?_
  refine lv_aload_n hx hb dL_law_891 rfl (lv_at hl 4 rfl) ?_
  refine lv_iload hx hb dL_law_892 (lv_at hl 0 rfl) ?_
  refine lv_iconst (v := (3 : Int32)) hx hb dL_law_894 (by decide +kernel) ?_
  refine lv_iadd hx hb dL_law_895 ?_
  refine va_sld hx hb hXs hbl hbB hS hin.2.2.1 dL_law_896 ?_
  refine lv_aload_n hx hb dL_law_897 rfl (lv_at hl 4 rfl) ?_
  refine lv_iload hx hb dL_law_898 (lv_at hl 0 rfl) ?_
  refine lv_iconst (v := (4 : Int32)) hx hb dL_law_900 (by decide +kernel) ?_
  refine lv_iadd hx hb dL_law_901 ?_
  refine va_sld hx hb hXs hbl hbB hS hin.2.2.2.1 dL_law_902 ?_
  refine z_runi (va_runV (As := [.int (xs (i + 1).toNatClampNeg), .int (xs (i + 2).toNatClampNeg), .int (xs (i + 3).toNatClampNeg), .int (xs (i + 4).toNatClampNeg)]) (rest := [.int r]) ⟨hx, hb, hml, hown, hg⟩ (c_X12_moved l D cy B hay h2) (z_cwV hg zw_1316 zw_1317 zw_1318 zw_13 zw_1319 zh_X12_moved ⟨(Nat.le_of_ble_eq_true rfl), (Nat.le_of_ble_eq_true rfl)⟩) (zPV hC hM hay (by decide) rfl) rfl rfl hl.1 rfl (lv_room (Nat.le_of_ble_eq_true rfl)) dL_law_903 ⟨(show cells + 0 + 0 ≤ 601024 by omega), (show slots + 0 + 0 ≤ 7293034 by omega)⟩) hS (fun H locs hM hX2 hS => ?_)
  refine lv_icmp_eq (tgt := 1621) hx hb dL_law_906 (by decide) (fun _ => ?_) (fun hn => absurd rfl hn)
  refine W.widen (k := cells + 1) (n := slots + 6) (by omega) (by omega) ?_
  exact kk ls _ _ hl hM (hX1.tr hX2) hS
set_option maxHeartbeats 4000000 in
set_option maxRecDepth 100000 in
theorem L_18 {p : Program} {e : Env} {s : State} {m : MethodId} {args : Array Value} {below : List Frame} {meth : Method} {c : Code} {H : Heap} {locs : List Loc} {cells slots : Nat} {Q : State → Prop} {ls : Array Slot} {D : va_G} {cy : Nat → ClassId} {B b L : Nat} {xs : Nat → Int32} {x y o : Nat} {S S' : zM} {i : Int32} (l : Launch) (hst : l.stackTraces = false) (hx : p.tables.exec = Jvm.exec) (hb : c.code = cL_law) (hml : c.maxLocals = 8) (hown : s.vm.findClass RL = some m.cls) (hg : ∀ w ∈ zGW, w.before args s = true) (hC : zC D cy s) (hT : zT B s s.heap) (hXs : va_X b L xs s s.heap) (hbl : b < s.heap.size) (hbB : ¬ B < b) (hin : vp_in (i + 1) L ∧ vp_in (i + 2) L ∧ vp_in (i + 3) L ∧ vp_in (i + 4) L ∧ vp_in (i + 5) L) (hax : zA S x 11) (hay : zA S y 12) (hao : zA S o 21) (hl : lv_has ls 8 [(4, .int i), (3, .ref (B + o)), (2, .ref (B + y)), (1, .ref (B + x)), (0, .ref b)]) (hM : zMR D cy B S H) (hS : va_S (fun q => B < q) s.heap H locs) (hc1 : cells + 1 ≤ 601024) (hc2 : slots + 6 ≤ 7293034) (h : zs_18 x y (xs (i + 1).toNatClampNeg) (xs (i + 2).toNatClampNeg) (xs (i + 3).toNatClampNeg) (xs (i + 4).toNatClampNeg) (xs (i + 5).toNatClampNeg) S S') (kk : ∀ (ls : Array Slot) (H : Heap) (locs : List Loc), lv_has ls 8 [(4, .int i), (3, .ref (B + o)), (2, .ref (B + y)), (1, .ref (B + x)), (0, .ref b)] → zMR D cy B S' H → zX S S' → va_S (fun q => B < q) s.heap H locs → W p l e room_1 s m args below meth c H locs (cells + 1) (slots + 6) Q (F0 m 1621 ls [])) : W p l e room_1 s m args below meth c H locs cells slots Q (F0 m 911 ls []) := by
  obtain ⟨r, n, S1, h1, h2⟩ := h
  refine lv_aload_n hx hb dL_law_911 rfl (lv_at hl 3 rfl) ?_
  refine lv_aload_n hx hb dL_law_912 rfl (lv_at hl 4 rfl) ?_
  refine lv_iload hx hb dL_law_913 (lv_at hl 0 rfl) ?_
  refine lv_iconst (v := (1 : Int32)) hx hb dL_law_915 (by decide +kernel) ?_
  refine lv_iadd hx hb dL_law_916 ?_
  refine va_sld hx hb hXs hbl hbB hS hin.1 dL_law_917 ?_
  refine lv_aload_n hx hb dL_law_918 rfl (lv_at hl 4 rfl) ?_
  refine lv_iload hx hb dL_law_919 (lv_at hl 0 rfl) ?_
  refine lv_iconst (v := (2 : Int32)) hx hb dL_law_921 (by decide +kernel) ?_
  refine lv_iadd hx hb dL_law_922 ?_
  refine va_sld hx hb hXs hbl hbB hS hin.2.1 dL_law_923 ?_
  refine lv_aload_n hx hb dL_law_924 rfl (lv_at hl 4 rfl) ?_
  refine lv_iload hx hb dL_law_925 (lv_at hl 0 rfl) ?_
  refine lv_iconst (v := (3 : Int32)) hx hb dL_law_927 (by decide +kernel) ?_
  refine lv_iadd hx hb dL_law_928 ?_
  refine va_sld hx hb hXs hbl hbB hS hin.2.2.1 dL_law_929 ?_
  refine z_runi (va_runV (As := [.int (xs (i + 1).toNatClampNeg), .int (xs (i + 2).toNatClampNeg), .int (xs (i + 3).toNatClampNeg)]) (rest := []) ⟨hx, hb, hml, hown, hg⟩ (c_X11_lean l D cy B hax h1) (z_cwV hg zw_656 zw_657 zw_658 zw_2 zw_659 zh_X11_lean ⟨(Nat.le_of_ble_eq_true rfl), (Nat.le_of_ble_eq_true rfl)⟩) (zPV hC hM hax (by decide) rfl) rfl rfl hl.1 rfl (lv_room (Nat.le_of_ble_eq_true rfl)) dL_law_930 ⟨Nat.le_trans (Nat.add_le_add_left (show 0 ≤ 1 by decide) _) hc1, Nat.le_trans (Nat.add_le_add_left (show 0 ≤ 6 by decide) _) hc2⟩) hS (fun H locs hM hX1 hS => ?_)
  have hax := hax.mo hX1
  have hay := hay.mo hX1
  refine lv_aload_n hx hb dL_law_933 rfl (lv_at hl 2 rfl) ?_
  refine lv_aload_n hx hb dL_law_934 rfl (lv_at hl 4 rfl) ?_
  refine lv_iload hx hb dL_law_935 (lv_at hl 0 rfl) ?_
  refine lv_iconst (v := (1 : Int32)) hx hb dL_law_937 (by decide +kernel) ?_
  refine lv_iadd hx hb dL_law_938 ?_
  refine va_sld hx hb hXs hbl hbB hS hin.1 dL_law_939 ?_
  refine lv_aload_n hx hb dL_law_940 rfl (lv_at hl 4 rfl) ?_
  refine lv_iload hx hb dL_law_941 (lv_at hl 0 rfl) ?_
  refine lv_iconst (v := (2 : Int32)) hx hb dL_law_943 (by decide +kernel) ?_
  refine lv_iadd hx hb dL_law_944 ?_
  refine va_sld hx hb hXs hbl hbB hS hin.2.1 dL_law_945 ?_
  refine lv_aload_n hx hb dL_law_946 rfl (lv_at hl 4 rfl) ?_
  refine lv_iload hx hb dL_law_947 (lv_at hl 0 rfl) ?_
  refine lv_iconst (v := (3 : Int32)) hx hb dL_law_949 (by decide +kernel) ?_
  refine lv_iadd hx hb dL_law_950 ?_
  refine va_sld hx hb hXs hbl hbB hS hin.2.2.1 dL_law_951 ?_
  refine z_runi (va_runV (As := [.int (xs (i + 1).toNatClampNeg), .int (xs (i + 2).toNatClampNeg), .int (xs (i + 3).toNatClampNeg)]) (rest := [.int r]) ⟨hx, hb, hml, hown, hg⟩ (c_X12_lean l D cy B hay h2) (z_cwV hg zw_1324 zw_1325 zw_1326 zw_13 zw_1327 zh_X12_lean ⟨(Nat.le_of_ble_eq_true rfl), (Nat.le_of_ble_eq_true rfl)⟩) (zPV hC hM hay (by decide) rfl) rfl rfl hl.1 rfl (lv_room (Nat.le_of_ble_eq_true rfl)) dL_law_952 ⟨(show cells + 0 + 0 ≤ 601024 by omega), (show slots + 0 + 0 ≤ 7293034 by omega)⟩) hS (fun H locs hM hX2 hS => ?_)
  refine lv_icmp_eq (tgt := 1621) hx hb dL_law_955 (by decide) (fun _ => ?_) (fun hn => absurd rfl hn)
  refine W.widen (k := cells + 1) (n := slots + 6) (by omega) (by omega) ?_
  exact kk ls _ _ hl hM (hX1.tr hX2) hS
set_option maxHeartbeats 4000000 in
set_option maxRecDepth 100000 in
theorem L_19 {p : Program} {e : Env} {s : State} {m : MethodId} {args : Array Value} {below : List Frame} {meth : Method} {c : Code} {H : Heap} {locs : List Loc} {cells slots : Nat} {Q : State → Prop} {ls : Array Slot} {D : va_G} {cy : Nat → ClassId} {B b L : Nat} {xs : Nat → Int32} {x y o : Nat} {S S' : zM} {i : Int32} (l : Launch) (hst : l.stackTraces = false) (hx : p.tables.exec = Jvm.exec) (hb : c.code = cL_law) (hml : c.maxLocals = 8) (hown : s.vm.findClass RL = some m.cls) (hg : ∀ w ∈ zGW, w.before args s = true) (hC : zC D cy s) (hT : zT B s s.heap) (hXs : va_X b L xs s s.heap) (hbl : b < s.heap.size) (hbB : ¬ B < b) (hin : vp_in (i + 1) L ∧ vp_in (i + 2) L ∧ vp_in (i + 3) L ∧ vp_in (i + 4) L ∧ vp_in (i + 5) L) (hax : zA S x 11) (hay : zA S y 12) (hao : zA S o 21) (hl : lv_has ls 8 [(4, .int i), (3, .ref (B + o)), (2, .ref (B + y)), (1, .ref (B + x)), (0, .ref b)]) (hM : zMR D cy B S H) (hS : va_S (fun q => B < q) s.heap H locs) (hc1 : cells + 1 ≤ 601024) (hc2 : slots + 6 ≤ 7293034) (h : zs_19 x y (xs (i + 1).toNatClampNeg) (xs (i + 2).toNatClampNeg) (xs (i + 3).toNatClampNeg) (xs (i + 4).toNatClampNeg) (xs (i + 5).toNatClampNeg) S S') (kk : ∀ (ls : Array Slot) (H : Heap) (locs : List Loc), lv_has ls 8 [(4, .int i), (3, .ref (B + o)), (2, .ref (B + y)), (1, .ref (B + x)), (0, .ref b)] → zMR D cy B S' H → zX S S' → va_S (fun q => B < q) s.heap H locs → W p l e room_1 s m args below meth c H locs (cells + 1) (slots + 6) Q (F0 m 1621 ls [])) : W p l e room_1 s m args below meth c H locs cells slots Q (F0 m 960 ls []) := by
  obtain ⟨r, n, S1, h1, h2⟩ := h
  refine lv_aload_n hx hb dL_law_960 rfl (lv_at hl 3 rfl) ?_
  refine z_runi (va_runV (As := []) (rest := []) ⟨hx, hb, hml, hown, hg⟩ (c_X11_pairs l D cy B hax h1) (z_cwV hg zw_682 zw_683 zw_684 zw_2 zw_685 zh_X11_pairs ⟨(Nat.le_of_ble_eq_true rfl), (Nat.le_of_ble_eq_true rfl)⟩) (zPV hC hM hax (by decide) rfl) rfl rfl hl.1 rfl (lv_room (Nat.le_of_ble_eq_true rfl)) dL_law_961 ⟨Nat.le_trans (Nat.add_le_add_left (show 0 ≤ 1 by decide) _) hc1, Nat.le_trans (Nat.add_le_add_left (show 0 ≤ 6 by decide) _) hc2⟩) hS (fun H locs hM hX1 hS => ?_)
  have hax := hax.mo hX1
  have hay := hay.mo hX1
  refine lv_aload_n hx hb dL_law_964 rfl (lv_at hl 2 rfl) ?_
  refine z_runi (va_runV (As := []) (rest := [.int r]) ⟨hx, hb, hml, hown, hg⟩ (c_X12_pairs l D cy B hay h2) (z_cwV hg zw_1335 zw_1336 zw_1337 zw_13 zw_1338 zh_X12_pairs ⟨(Nat.le_of_ble_eq_true rfl), (Nat.le_of_ble_eq_true rfl)⟩) (zPV hC hM hay (by decide) rfl) rfl rfl hl.1 rfl (lv_room (Nat.le_of_ble_eq_true rfl)) dL_law_965 ⟨(show cells + 0 + 0 ≤ 601024 by omega), (show slots + 0 + 0 ≤ 7293034 by omega)⟩) hS (fun H locs hM hX2 hS => ?_)
  refine lv_icmp_eq (tgt := 1621) hx hb dL_law_968 (by decide) (fun _ => ?_) (fun hn => absurd rfl hn)
  refine W.widen (k := cells + 1) (n := slots + 6) (by omega) (by omega) ?_
  exact kk ls _ _ hl hM (hX1.tr hX2) hS
set_option maxHeartbeats 4000000 in
set_option maxRecDepth 100000 in
theorem L_20 {p : Program} {e : Env} {s : State} {m : MethodId} {args : Array Value} {below : List Frame} {meth : Method} {c : Code} {H : Heap} {locs : List Loc} {cells slots : Nat} {Q : State → Prop} {ls : Array Slot} {D : va_G} {cy : Nat → ClassId} {B b L : Nat} {xs : Nat → Int32} {x y o : Nat} {S S' : zM} {i : Int32} (l : Launch) (hst : l.stackTraces = false) (hx : p.tables.exec = Jvm.exec) (hb : c.code = cL_law) (hml : c.maxLocals = 8) (hown : s.vm.findClass RL = some m.cls) (hg : ∀ w ∈ zGW, w.before args s = true) (hC : zC D cy s) (hT : zT B s s.heap) (hXs : va_X b L xs s s.heap) (hbl : b < s.heap.size) (hbB : ¬ B < b) (hin : vp_in (i + 1) L ∧ vp_in (i + 2) L ∧ vp_in (i + 3) L ∧ vp_in (i + 4) L ∧ vp_in (i + 5) L) (hax : zA S x 11) (hay : zA S y 12) (hao : zA S o 21) (hl : lv_has ls 8 [(4, .int i), (3, .ref (B + o)), (2, .ref (B + y)), (1, .ref (B + x)), (0, .ref b)]) (hM : zMR D cy B S H) (hS : va_S (fun q => B < q) s.heap H locs) (hc1 : cells + 1 ≤ 601024) (hc2 : slots + 6 ≤ 7293034) (h : zs_20 x y (xs (i + 1).toNatClampNeg) (xs (i + 2).toNatClampNeg) (xs (i + 3).toNatClampNeg) (xs (i + 4).toNatClampNeg) (xs (i + 5).toNatClampNeg) S S') (kk : ∀ (ls : Array Slot) (H : Heap) (locs : List Loc), lv_has ls 8 [(4, .int i), (3, .ref (B + o)), (2, .ref (B + y)), (1, .ref (B + x)), (0, .ref b)] → zMR D cy B S' H → zX S S' → va_S (fun q => B < q) s.heap H locs → W p l e room_1 s m args below meth c H locs (cells + 1) (slots + 6) Q (F0 m 1621 ls [])) : W p l e room_1 s m args below meth c H locs cells slots Q (F0 m 973 ls []) := by
  obtain ⟨r, n, S1, h1, h2⟩ := h
  refine lv_aload_n hx hb dL_law_973 rfl (lv_at hl 3 rfl) ?_
  refine lv_aload_n hx hb dL_law_974 rfl (lv_at hl 4 rfl) ?_
  refine lv_iload hx hb dL_law_975 (lv_at hl 0 rfl) ?_
  refine lv_iconst (v := (1 : Int32)) hx hb dL_law_977 (by decide +kernel) ?_
  refine lv_iadd hx hb dL_law_978 ?_
  refine va_sld hx hb hXs hbl hbB hS hin.1 dL_law_979 ?_
  refine z_runi (va_runV (As := [.int (xs (i + 1).toNatClampNeg)]) (rest := []) ⟨hx, hb, hml, hown, hg⟩ (c_X11_pairOdds l D cy B hax h1) (z_cwV hg zw_722 zw_723 zw_724 zw_2 zw_725 zh_X11_pairOdds ⟨(Nat.le_of_ble_eq_true rfl), (Nat.le_of_ble_eq_true rfl)⟩) (zPV hC hM hax (by decide) rfl) rfl rfl hl.1 rfl (lv_room (Nat.le_of_ble_eq_true rfl)) dL_law_980 ⟨Nat.le_trans (Nat.add_le_add_left (show 0 ≤ 1 by decide) _) hc1, Nat.le_trans (Nat.add_le_add_left (show 0 ≤ 6 by decide) _) hc2⟩) hS (fun H locs hM hX1 hS => ?_)
  have hax := hax.mo hX1
  have hay := hay.mo hX1
  refine lv_aload_n hx hb dL_law_983 rfl (lv_at hl 2 rfl) ?_
  refine lv_aload_n hx hb dL_law_984 rfl (lv_at hl 4 rfl) ?_
  refine lv_iload hx hb dL_law_985 (lv_at hl 0 rfl) ?_
  refine lv_iconst (v := (1 : Int32)) hx hb dL_law_987 (by decide +kernel) ?_
  refine lv_iadd hx hb dL_law_988 ?_
  refine va_sld hx hb hXs hbl hbB hS hin.1 dL_law_989 ?_
  refine z_runi (va_runV (As := [.int (xs (i + 1).toNatClampNeg)]) (rest := [.int r]) ⟨hx, hb, hml, hown, hg⟩ (c_X12_pairOdds l D cy B hay h2) (z_cwV hg zw_1348 zw_1349 zw_1350 zw_13 zw_1351 zh_X12_pairOdds ⟨(Nat.le_of_ble_eq_true rfl), (Nat.le_of_ble_eq_true rfl)⟩) (zPV hC hM hay (by decide) rfl) rfl rfl hl.1 rfl (lv_room (Nat.le_of_ble_eq_true rfl)) dL_law_990 ⟨(show cells + 0 + 0 ≤ 601024 by omega), (show slots + 0 + 0 ≤ 7293034 by omega)⟩) hS (fun H locs hM hX2 hS => ?_)
  refine lv_icmp_eq (tgt := 1621) hx hb dL_law_993 (by decide) (fun _ => ?_) (fun hn => absurd rfl hn)
  refine W.widen (k := cells + 1) (n := slots + 6) (by omega) (by omega) ?_
  exact kk ls _ _ hl hM (hX1.tr hX2) hS
set_option maxHeartbeats 4000000 in
set_option maxRecDepth 100000 in
theorem L_21 {p : Program} {e : Env} {s : State} {m : MethodId} {args : Array Value} {below : List Frame} {meth : Method} {c : Code} {H : Heap} {locs : List Loc} {cells slots : Nat} {Q : State → Prop} {ls : Array Slot} {D : va_G} {cy : Nat → ClassId} {B b L : Nat} {xs : Nat → Int32} {x y o : Nat} {S S' : zM} {i : Int32} (l : Launch) (hst : l.stackTraces = false) (hx : p.tables.exec = Jvm.exec) (hb : c.code = cL_law) (hml : c.maxLocals = 8) (hown : s.vm.findClass RL = some m.cls) (hg : ∀ w ∈ zGW, w.before args s = true) (hC : zC D cy s) (hT : zT B s s.heap) (hXs : va_X b L xs s s.heap) (hbl : b < s.heap.size) (hbB : ¬ B < b) (hin : vp_in (i + 1) L ∧ vp_in (i + 2) L ∧ vp_in (i + 3) L ∧ vp_in (i + 4) L ∧ vp_in (i + 5) L) (hax : zA S x 11) (hay : zA S y 12) (hao : zA S o 21) (hl : lv_has ls 8 [(4, .int i), (3, .ref (B + o)), (2, .ref (B + y)), (1, .ref (B + x)), (0, .ref b)]) (hM : zMR D cy B S H) (hS : va_S (fun q => B < q) s.heap H locs) (hc1 : cells + 1 ≤ 601024) (hc2 : slots + 6 ≤ 7293034) (h : zs_21 x y (xs (i + 1).toNatClampNeg) (xs (i + 2).toNatClampNeg) (xs (i + 3).toNatClampNeg) (xs (i + 4).toNatClampNeg) (xs (i + 5).toNatClampNeg) S S') (kk : ∀ (ls : Array Slot) (H : Heap) (locs : List Loc), lv_has ls 8 [(4, .int i), (3, .ref (B + o)), (2, .ref (B + y)), (1, .ref (B + x)), (0, .ref b)] → zMR D cy B S' H → zX S S' → va_S (fun q => B < q) s.heap H locs → W p l e room_1 s m args below meth c H locs (cells + 1) (slots + 6) Q (F0 m 1621 ls [])) : W p l e room_1 s m args below meth c H locs cells slots Q (F0 m 998 ls []) := by
  obtain ⟨r, n, S1, h1, h2⟩ := h
  refine lv_aload_n hx hb dL_law_998 rfl (lv_at hl 3 rfl) ?_
  refine lv_aload_n hx hb dL_law_999 rfl (lv_at hl 4 rfl) ?_
  refine lv_iload hx hb dL_law_1000 (lv_at hl 0 rfl) ?_
  refine lv_iconst (v := (1 : Int32)) hx hb dL_law_1002 (by decide +kernel) ?_
  refine lv_iadd hx hb dL_law_1003 ?_
  refine va_sld hx hb hXs hbl hbB hS hin.1 dL_law_1004 ?_
  refine z_runi (va_runV (As := [.int (xs (i + 1).toNatClampNeg)]) (rest := []) ⟨hx, hb, hml, hown, hg⟩ (c_X11_order l D cy B hax h1) (z_cwV hg zw_747 zw_748 zw_749 zw_2 zw_750 zh_X11_order ⟨(Nat.le_of_ble_eq_true rfl), (Nat.le_of_ble_eq_true rfl)⟩) (zPV hC hM hax (by decide) rfl) rfl rfl hl.1 rfl (lv_room (Nat.le_of_ble_eq_true rfl)) dL_law_1005 ⟨Nat.le_trans (Nat.add_le_add_left (show 0 ≤ 1 by decide) _) hc1, Nat.le_trans (Nat.add_le_add_left (show 0 ≤ 6 by decide) _) hc2⟩) hS (fun H locs hM hX1 hS => ?_)
  have hax := hax.mo hX1
  have hay := hay.mo hX1
  refine lv_aload_n hx hb dL_law_1008 rfl (lv_at hl 2 rfl) ?_
  refine lv_aload_n hx hb dL_law_1009 rfl (lv_at hl 4 rfl) ?_
  refine lv_iload hx hb dL_law_1010 (lv_at hl 0 rfl) ?_
  refine lv_iconst (v := (1 : Int32)) hx hb dL_law_1012 (by decide +kernel) ?_
  refine lv_iadd hx hb dL_law_1013 ?_
  refine va_sld hx hb hXs hbl hbB hS hin.1 dL_law_1014 ?_
  refine z_runi (va_runV (As := [.int (xs (i + 1).toNatClampNeg)]) (rest := [.int r]) ⟨hx, hb, hml, hown, hg⟩ (c_X12_order l D cy B hay h2) (z_cwV hg zw_1355 zw_1356 zw_1357 zw_13 zw_1358 zh_X12_order ⟨(Nat.le_of_ble_eq_true rfl), (Nat.le_of_ble_eq_true rfl)⟩) (zPV hC hM hay (by decide) rfl) rfl rfl hl.1 rfl (lv_room (Nat.le_of_ble_eq_true rfl)) dL_law_1015 ⟨(show cells + 0 + 0 ≤ 601024 by omega), (show slots + 0 + 0 ≤ 7293034 by omega)⟩) hS (fun H locs hM hX2 hS => ?_)
  refine lv_icmp_eq (tgt := 1621) hx hb dL_law_1018 (by decide) (fun _ => ?_) (fun hn => absurd rfl hn)
  refine W.widen (k := cells + 1) (n := slots + 6) (by omega) (by omega) ?_
  exact kk ls _ _ hl hM (hX1.tr hX2) hS
set_option maxHeartbeats 4000000 in
set_option maxRecDepth 100000 in
theorem L_22 {p : Program} {e : Env} {s : State} {m : MethodId} {args : Array Value} {below : List Frame} {meth : Method} {c : Code} {H : Heap} {locs : List Loc} {cells slots : Nat} {Q : State → Prop} {ls : Array Slot} {D : va_G} {cy : Nat → ClassId} {B b L : Nat} {xs : Nat → Int32} {x y o : Nat} {S S' : zM} {i : Int32} (l : Launch) (hst : l.stackTraces = false) (hx : p.tables.exec = Jvm.exec) (hb : c.code = cL_law) (hml : c.maxLocals = 8) (hown : s.vm.findClass RL = some m.cls) (hg : ∀ w ∈ zGW, w.before args s = true) (hC : zC D cy s) (hT : zT B s s.heap) (hXs : va_X b L xs s s.heap) (hbl : b < s.heap.size) (hbB : ¬ B < b) (hin : vp_in (i + 1) L ∧ vp_in (i + 2) L ∧ vp_in (i + 3) L ∧ vp_in (i + 4) L ∧ vp_in (i + 5) L) (hax : zA S x 11) (hay : zA S y 12) (hao : zA S o 21) (hl : lv_has ls 8 [(4, .int i), (3, .ref (B + o)), (2, .ref (B + y)), (1, .ref (B + x)), (0, .ref b)]) (hM : zMR D cy B S H) (hS : va_S (fun q => B < q) s.heap H locs) (hc1 : cells + 1 ≤ 601024) (hc2 : slots + 6 ≤ 7293034) (h : zs_22 x y (xs (i + 1).toNatClampNeg) (xs (i + 2).toNatClampNeg) (xs (i + 3).toNatClampNeg) (xs (i + 4).toNatClampNeg) (xs (i + 5).toNatClampNeg) S S') (kk : ∀ (ls : Array Slot) (H : Heap) (locs : List Loc), lv_has ls 8 [(4, .int i), (3, .ref (B + o)), (2, .ref (B + y)), (1, .ref (B + x)), (0, .ref b)] → zMR D cy B S' H → zX S S' → va_S (fun q => B < q) s.heap H locs → W p l e room_1 s m args below meth c H locs (cells + 1) (slots + 6) Q (F0 m 1621 ls [])) : W p l e room_1 s m args below meth c H locs cells slots Q (F0 m 1023 ls []) := by
  obtain ⟨r, n, S1, h1, h2⟩ := h
  refine lv_aload_n hx hb dL_law_1023 rfl (lv_at hl 3 rfl) ?_
  refine lv_aload_n hx hb dL_law_1024 rfl (lv_at hl 4 rfl) ?_
  refine lv_iload hx hb dL_law_1025 (lv_at hl 0 rfl) ?_
  refine lv_iconst (v := (1 : Int32)) hx hb dL_law_1027 (by decide +kernel) ?_
  refine lv_iadd hx hb dL_law_1028 ?_
  refine va_sld hx hb hXs hbl hbB hS hin.1 dL_law_1029 ?_
  refine lv_aload_n hx hb dL_law_1030 rfl (lv_at hl 4 rfl) ?_
  refine lv_iload hx hb dL_law_1031 (lv_at hl 0 rfl) ?_
  refine lv_iconst (v := (2 : Int32)) hx hb dL_law_1033 (by decide +kernel) ?_
  refine lv_iadd hx hb dL_law_1034 ?_
  refine va_sld hx hb hXs hbl hbB hS hin.2.1 dL_law_1035 ?_
  refine z_runi (va_runV (As := [.int (xs (i + 1).toNatClampNeg), .int (xs (i + 2).toNatClampNeg)]) (rest := []) ⟨hx, hb, hml, hown, hg⟩ (c_X11_orderOdds l D cy B hax h1) (z_cwV hg zw_760 zw_761 zw_762 zw_2 zw_763 zh_X11_orderOdds ⟨(Nat.le_of_ble_eq_true rfl), (Nat.le_of_ble_eq_true rfl)⟩) (zPV hC hM hax (by decide) rfl) rfl rfl hl.1 rfl (lv_room (Nat.le_of_ble_eq_true rfl)) dL_law_1036 ⟨Nat.le_trans (Nat.add_le_add_left (show 0 ≤ 1 by decide) _) hc1, Nat.le_trans (Nat.add_le_add_left (show 0 ≤ 6 by decide) _) hc2⟩) hS (fun H locs hM hX1 hS => ?_)
  have hax := hax.mo hX1
  have hay := hay.mo hX1
  refine lv_aload_n hx hb dL_law_1039 rfl (lv_at hl 2 rfl) ?_
  refine lv_aload_n hx hb dL_law_1040 rfl (lv_at hl 4 rfl) ?_
  refine lv_iload hx hb dL_law_1041 (lv_at hl 0 rfl) ?_
  refine lv_iconst (v := (1 : Int32)) hx hb dL_law_1043 (by decide +kernel) ?_
  refine lv_iadd hx hb dL_law_1044 ?_
  refine va_sld hx hb hXs hbl hbB hS hin.1 dL_law_1045 ?_
  refine lv_aload_n hx hb dL_law_1046 rfl (lv_at hl 4 rfl) ?_
  refine lv_iload hx hb dL_law_1047 (lv_at hl 0 rfl) ?_
  refine lv_iconst (v := (2 : Int32)) hx hb dL_law_1049 (by decide +kernel) ?_
  refine lv_iadd hx hb dL_law_1050 ?_
  refine va_sld hx hb hXs hbl hbB hS hin.2.1 dL_law_1051 ?_
  refine z_runi (va_runV (As := [.int (xs (i + 1).toNatClampNeg), .int (xs (i + 2).toNatClampNeg)]) (rest := [.int r]) ⟨hx, hb, hml, hown, hg⟩ (c_X12_orderOdds l D cy B hay h2) (z_cwV hg zw_1365 zw_1366 zw_1367 zw_13 zw_1368 zh_X12_orderOdds ⟨(Nat.le_of_ble_eq_true rfl), (Nat.le_of_ble_eq_true rfl)⟩) (zPV hC hM hay (by decide) rfl) rfl rfl hl.1 rfl (lv_room (Nat.le_of_ble_eq_true rfl)) dL_law_1052 ⟨(show cells + 0 + 0 ≤ 601024 by omega), (show slots + 0 + 0 ≤ 7293034 by omega)⟩) hS (fun H locs hM hX2 hS => ?_)
  refine lv_icmp_eq (tgt := 1621) hx hb dL_law_1055 (by decide) (fun _ => ?_) (fun hn => absurd rfl hn)
  refine W.widen (k := cells + 1) (n := slots + 6) (by omega) (by omega) ?_
  exact kk ls _ _ hl hM (hX1.tr hX2) hS
set_option maxHeartbeats 4000000 in
set_option maxRecDepth 100000 in
theorem L_23 {p : Program} {e : Env} {s : State} {m : MethodId} {args : Array Value} {below : List Frame} {meth : Method} {c : Code} {H : Heap} {locs : List Loc} {cells slots : Nat} {Q : State → Prop} {ls : Array Slot} {D : va_G} {cy : Nat → ClassId} {B b L : Nat} {xs : Nat → Int32} {x y o : Nat} {S S' : zM} {i : Int32} (l : Launch) (hst : l.stackTraces = false) (hx : p.tables.exec = Jvm.exec) (hb : c.code = cL_law) (hml : c.maxLocals = 8) (hown : s.vm.findClass RL = some m.cls) (hg : ∀ w ∈ zGW, w.before args s = true) (hC : zC D cy s) (hT : zT B s s.heap) (hXs : va_X b L xs s s.heap) (hbl : b < s.heap.size) (hbB : ¬ B < b) (hin : vp_in (i + 1) L ∧ vp_in (i + 2) L ∧ vp_in (i + 3) L ∧ vp_in (i + 4) L ∧ vp_in (i + 5) L) (hax : zA S x 11) (hay : zA S y 12) (hao : zA S o 21) (hl : lv_has ls 8 [(4, .int i), (3, .ref (B + o)), (2, .ref (B + y)), (1, .ref (B + x)), (0, .ref b)]) (hM : zMR D cy B S H) (hS : va_S (fun q => B < q) s.heap H locs) (hc1 : cells + 1 ≤ 601024) (hc2 : slots + 6 ≤ 7293034) (h : zs_23 x y (xs (i + 1).toNatClampNeg) (xs (i + 2).toNatClampNeg) (xs (i + 3).toNatClampNeg) (xs (i + 4).toNatClampNeg) (xs (i + 5).toNatClampNeg) S S') (kk : ∀ (ls : Array Slot) (H : Heap) (locs : List Loc), lv_has ls 8 [(4, .int i), (3, .ref (B + o)), (2, .ref (B + y)), (1, .ref (B + x)), (0, .ref b)] → zMR D cy B S' H → zX S S' → va_S (fun q => B < q) s.heap H locs → W p l e room_1 s m args below meth c H locs (cells + 1) (slots + 6) Q (F0 m 1621 ls [])) : W p l e room_1 s m args below meth c H locs cells slots Q (F0 m 1060 ls []) := by
  obtain ⟨r, n, h1, h2, rfl⟩ := h
  refine lv_aload_n hx hb dL_law_1060 rfl (lv_at hl 3 rfl) ?_
  refine lv_aload_n hx hb dL_law_1061 rfl (lv_at hl 4 rfl) ?_
  refine lv_iload hx hb dL_law_1062 (lv_at hl 0 rfl) ?_
  refine lv_iconst (v := (1 : Int32)) hx hb dL_law_1064 (by decide +kernel) ?_
  refine lv_iadd hx hb dL_law_1065 ?_
  refine va_sld hx hb hXs hbl hbB hS hin.1 dL_law_1066 ?_
  refine lv_aload_n hx hb dL_law_1067 rfl (lv_at hl 4 rfl) ?_
  refine lv_iload hx hb dL_law_1068 (lv_at hl 0 rfl) ?_
  refine lv_iconst (v := (2 : Int32)) hx hb dL_law_1070 (by decide +kernel) ?_
  refine lv_iadd hx hb dL_law_1071 ?_
  refine va_sld hx hb hXs hbl hbB hS hin.2.1 dL_law_1072 ?_
  refine z_runi (va_runV (As := [.int (xs (i + 1).toNatClampNeg), .int (xs (i + 2).toNatClampNeg)]) (rest := []) ⟨hx, hb, hml, hown, hg⟩ (c_X11_creep l D cy B hax h1) (z_cwV hg zw_770 zw_771 zw_772 zw_2 zw_773 zh_X11_creep ⟨(Nat.le_of_ble_eq_true rfl), (Nat.le_of_ble_eq_true rfl)⟩) (zPV hC hM hax (by decide) rfl) rfl rfl hl.1 rfl (lv_room (Nat.le_of_ble_eq_true rfl)) dL_law_1073 ⟨Nat.le_trans (Nat.add_le_add_left (show 0 ≤ 1 by decide) _) hc1, Nat.le_trans (Nat.add_le_add_left (show 0 ≤ 6 by decide) _) hc2⟩) hS (fun H locs hM hX1 hS => ?_)
  have hax := hax.mo hX1
  have hay := hay.mo hX1
  refine lv_aload_n hx hb dL_law_1076 rfl (lv_at hl 2 rfl) ?_
  refine lv_aload_n hx hb dL_law_1077 rfl (lv_at hl 4 rfl) ?_
  refine lv_iload hx hb dL_law_1078 (lv_at hl 0 rfl) ?_
  refine lv_iconst (v := (1 : Int32)) hx hb dL_law_1080 (by decide +kernel) ?_
  refine lv_iadd hx hb dL_law_1081 ?_
  refine va_sld hx hb hXs hbl hbB hS hin.1 dL_law_1082 ?_
  refine lv_aload_n hx hb dL_law_1083 rfl (lv_at hl 4 rfl) ?_
  refine lv_iload hx hb dL_law_1084 (lv_at hl 0 rfl) ?_
  refine lv_iconst (v := (2 : Int32)) hx hb dL_law_1086 (by decide +kernel) ?_
  refine lv_iadd hx hb dL_law_1087 ?_
  refine va_sld hx hb hXs hbl hbB hS hin.2.1 dL_law_1088 ?_
  refine z_runi (va_runV (As := [.int (xs (i + 1).toNatClampNeg), .int (xs (i + 2).toNatClampNeg)]) (rest := [.int r]) ⟨hx, hb, hml, hown, hg⟩ (c_X12_creep l D cy B hay h2) (z_cwV hg zw_1372 zw_1373 zw_1374 zw_13 zw_1375 zh_X12_creep ⟨(Nat.le_of_ble_eq_true rfl), (Nat.le_of_ble_eq_true rfl)⟩) (zPV hC hM hay (by decide) rfl) rfl rfl hl.1 rfl (lv_room (Nat.le_of_ble_eq_true rfl)) dL_law_1089 ⟨(show cells + 0 + 0 ≤ 601024 by omega), (show slots + 0 + 0 ≤ 7293034 by omega)⟩) hS (fun H locs hM hX2 hS => ?_)
  refine lv_icmp_eq (tgt := 1621) hx hb dL_law_1092 (by decide) (fun _ => ?_) (fun hn => absurd rfl hn)
  refine W.widen (k := cells + 1) (n := slots + 6) (by omega) (by omega) ?_
  exact kk ls _ _ hl hM (hX1.tr hX2) hS
set_option maxHeartbeats 4000000 in
set_option maxRecDepth 100000 in
theorem L_24 {p : Program} {e : Env} {s : State} {m : MethodId} {args : Array Value} {below : List Frame} {meth : Method} {c : Code} {H : Heap} {locs : List Loc} {cells slots : Nat} {Q : State → Prop} {ls : Array Slot} {D : va_G} {cy : Nat → ClassId} {B b L : Nat} {xs : Nat → Int32} {x y o : Nat} {S S' : zM} {i : Int32} (l : Launch) (hst : l.stackTraces = false) (hx : p.tables.exec = Jvm.exec) (hb : c.code = cL_law) (hml : c.maxLocals = 8) (hown : s.vm.findClass RL = some m.cls) (hg : ∀ w ∈ zGW, w.before args s = true) (hC : zC D cy s) (hT : zT B s s.heap) (hXs : va_X b L xs s s.heap) (hbl : b < s.heap.size) (hbB : ¬ B < b) (hin : vp_in (i + 1) L ∧ vp_in (i + 2) L ∧ vp_in (i + 3) L ∧ vp_in (i + 4) L ∧ vp_in (i + 5) L) (hax : zA S x 11) (hay : zA S y 12) (hao : zA S o 21) (hl : lv_has ls 8 [(4, .int i), (3, .ref (B + o)), (2, .ref (B + y)), (1, .ref (B + x)), (0, .ref b)]) (hM : zMR D cy B S H) (hS : va_S (fun q => B < q) s.heap H locs) (hc1 : cells + 1 ≤ 601024) (hc2 : slots + 6 ≤ 7293034) (h : zs_24 x y (xs (i + 1).toNatClampNeg) (xs (i + 2).toNatClampNeg) (xs (i + 3).toNatClampNeg) (xs (i + 4).toNatClampNeg) (xs (i + 5).toNatClampNeg) S S') (kk : ∀ (ls : Array Slot) (H : Heap) (locs : List Loc), lv_has ls 8 [(4, .int i), (3, .ref (B + o)), (2, .ref (B + y)), (1, .ref (B + x)), (0, .ref b)] → zMR D cy B S' H → zX S S' → va_S (fun q => B < q) s.heap H locs → W p l e room_1 s m args below meth c H locs (cells + 1) (slots + 6) Q (F0 m 1621 ls [])) : W p l e room_1 s m args below meth c H locs cells slots Q (F0 m 1097 ls []) := by
  obtain ⟨r, n, S1, h1, h2⟩ := h
  refine lv_aload_n hx hb dL_law_1097 rfl (lv_at hl 3 rfl) ?_
  refine lv_aload_n hx hb dL_law_1098 rfl (lv_at hl 4 rfl) ?_
  refine lv_iload hx hb dL_law_1099 (lv_at hl 0 rfl) ?_
  refine lv_iconst (v := (1 : Int32)) hx hb dL_law_1101 (by decide +kernel) ?_
  refine lv_iadd hx hb dL_law_1102 ?_
  refine va_sld hx hb hXs hbl hbB hS hin.1 dL_law_1103 ?_
  refine z_runi (va_runV (As := [.int (xs (i + 1).toNatClampNeg)]) (rest := []) ⟨hx, hb, hml, hown, hg⟩ (c_X11_near l D cy B hax h1) (z_cwV hg zw_778 zw_779 zw_780 zw_2 zw_781 zh_X11_near ⟨(Nat.le_of_ble_eq_true rfl), (Nat.le_of_ble_eq_true rfl)⟩) (zPV hC hM hax (by decide) rfl) rfl rfl hl.1 rfl (lv_room (Nat.le_of_ble_eq_true rfl)) dL_law_1104 ⟨Nat.le_trans (Nat.add_le_add_left (show 0 ≤ 1 by decide) _) hc1, Nat.le_trans (Nat.add_le_add_left (show 0 ≤ 6 by decide) _) hc2⟩) hS (fun H locs hM hX1 hS => ?_)
  have hax := hax.mo hX1
  have hay := hay.mo hX1
  refine lv_aload_n hx hb dL_law_1107 rfl (lv_at hl 2 rfl) ?_
  refine lv_aload_n hx hb dL_law_1108 rfl (lv_at hl 4 rfl) ?_
  refine lv_iload hx hb dL_law_1109 (lv_at hl 0 rfl) ?_
  refine lv_iconst (v := (1 : Int32)) hx hb dL_law_1111 (by decide +kernel) ?_
  refine lv_iadd hx hb dL_law_1112 ?_
  refine va_sld hx hb hXs hbl hbB hS hin.1 dL_law_1113 ?_
  refine z_runi (va_runV (As := [.int (xs (i + 1).toNatClampNeg)]) (rest := [.int r]) ⟨hx, hb, hml, hown, hg⟩ (c_X12_near l D cy B hay h2) (z_cwV hg zw_1379 zw_1380 zw_1381 zw_13 zw_1382 zh_X12_near ⟨(Nat.le_of_ble_eq_true rfl), (Nat.le_of_ble_eq_true rfl)⟩) (zPV hC hM hay (by decide) rfl) rfl rfl hl.1 rfl (lv_room (Nat.le_of_ble_eq_true rfl)) dL_law_1114 ⟨(show cells + 0 + 0 ≤ 601024 by omega), (show slots + 0 + 0 ≤ 7293034 by omega)⟩) hS (fun H locs hM hX2 hS => ?_)
  refine lv_icmp_eq (tgt := 1621) hx hb dL_law_1117 (by decide) (fun _ => ?_) (fun hn => absurd rfl hn)
  refine W.widen (k := cells + 1) (n := slots + 6) (by omega) (by omega) ?_
  exact kk ls _ _ hl hM (hX1.tr hX2) hS
set_option maxHeartbeats 4000000 in
set_option maxRecDepth 100000 in
theorem L_25 {p : Program} {e : Env} {s : State} {m : MethodId} {args : Array Value} {below : List Frame} {meth : Method} {c : Code} {H : Heap} {locs : List Loc} {cells slots : Nat} {Q : State → Prop} {ls : Array Slot} {D : va_G} {cy : Nat → ClassId} {B b L : Nat} {xs : Nat → Int32} {x y o : Nat} {S S' : zM} {i : Int32} (l : Launch) (hst : l.stackTraces = false) (hx : p.tables.exec = Jvm.exec) (hb : c.code = cL_law) (hml : c.maxLocals = 8) (hown : s.vm.findClass RL = some m.cls) (hg : ∀ w ∈ zGW, w.before args s = true) (hC : zC D cy s) (hT : zT B s s.heap) (hXs : va_X b L xs s s.heap) (hbl : b < s.heap.size) (hbB : ¬ B < b) (hin : vp_in (i + 1) L ∧ vp_in (i + 2) L ∧ vp_in (i + 3) L ∧ vp_in (i + 4) L ∧ vp_in (i + 5) L) (hax : zA S x 11) (hay : zA S y 12) (hao : zA S o 21) (hl : lv_has ls 8 [(4, .int i), (3, .ref (B + o)), (2, .ref (B + y)), (1, .ref (B + x)), (0, .ref b)]) (hM : zMR D cy B S H) (hS : va_S (fun q => B < q) s.heap H locs) (hc1 : cells + 1 ≤ 601024) (hc2 : slots + 6 ≤ 7293034) (h : zs_25 x y (xs (i + 1).toNatClampNeg) (xs (i + 2).toNatClampNeg) (xs (i + 3).toNatClampNeg) (xs (i + 4).toNatClampNeg) (xs (i + 5).toNatClampNeg) S S') (kk : ∀ (ls : Array Slot) (H : Heap) (locs : List Loc), lv_has ls 8 [(4, .int i), (3, .ref (B + o)), (2, .ref (B + y)), (1, .ref (B + x)), (0, .ref b)] → zMR D cy B S' H → zX S S' → va_S (fun q => B < q) s.heap H locs → W p l e room_1 s m args below meth c H locs (cells + 1) (slots + 6) Q (F0 m 1621 ls [])) : W p l e room_1 s m args below meth c H locs cells slots Q (F0 m 1122 ls []) := by
  obtain ⟨r, n, S1, h1, h2⟩ := h
  refine lv_aload_n hx hb dL_law_1122 rfl (lv_at hl 3 rfl) ?_
  refine z_runi (va_runV (As := []) (rest := []) ⟨hx, hb, hml, hown, hg⟩ (c_X11_nearest l D cy B hax h1) (z_cwV hg zw_782 zw_783 zw_784 zw_2 zw_785 zh_X11_nearest ⟨(Nat.le_of_ble_eq_true rfl), (Nat.le_of_ble_eq_true rfl)⟩) (zPV hC hM hax (by decide) rfl) rfl rfl hl.1 rfl (lv_room (Nat.le_of_ble_eq_true rfl)) dL_law_1123 ⟨Nat.le_trans (Nat.add_le_add_left (show 0 ≤ 1 by decide) _) hc1, Nat.le_trans (Nat.add_le_add_left (show 0 ≤ 6 by decide) _) hc2⟩) hS (fun H locs hM hX1 hS => ?_)
  have hax := hax.mo hX1
  have hay := hay.mo hX1
  refine lv_aload_n hx hb dL_law_1126 rfl (lv_at hl 2 rfl) ?_
  refine z_runi (va_runV (As := []) (rest := [.int r]) ⟨hx, hb, hml, hown, hg⟩ (c_X12_nearest l D cy B hay h2) (z_cwV hg zw_1386 zw_1387 zw_1388 zw_13 zw_1389 zh_X12_nearest ⟨(Nat.le_of_ble_eq_true rfl), (Nat.le_of_ble_eq_true rfl)⟩) (zPV hC hM hay (by decide) rfl) rfl rfl hl.1 rfl (lv_room (Nat.le_of_ble_eq_true rfl)) dL_law_1127 ⟨(show cells + 0 + 0 ≤ 601024 by omega), (show slots + 0 + 0 ≤ 7293034 by omega)⟩) hS (fun H locs hM hX2 hS => ?_)
  refine lv_icmp_eq (tgt := 1621) hx hb dL_law_1130 (by decide) (fun _ => ?_) (fun hn => absurd rfl hn)
  refine W.widen (k := cells + 1) (n := slots + 6) (by omega) (by omega) ?_
  exact kk ls _ _ hl hM (hX1.tr hX2) hS
set_option maxHeartbeats 4000000 in
set_option maxRecDepth 100000 in
theorem L_26 {p : Program} {e : Env} {s : State} {m : MethodId} {args : Array Value} {below : List Frame} {meth : Method} {c : Code} {H : Heap} {locs : List Loc} {cells slots : Nat} {Q : State → Prop} {ls : Array Slot} {D : va_G} {cy : Nat → ClassId} {B b L : Nat} {xs : Nat → Int32} {x y o : Nat} {S S' : zM} {i : Int32} (l : Launch) (hst : l.stackTraces = false) (hx : p.tables.exec = Jvm.exec) (hb : c.code = cL_law) (hml : c.maxLocals = 8) (hown : s.vm.findClass RL = some m.cls) (hg : ∀ w ∈ zGW, w.before args s = true) (hC : zC D cy s) (hT : zT B s s.heap) (hXs : va_X b L xs s s.heap) (hbl : b < s.heap.size) (hbB : ¬ B < b) (hin : vp_in (i + 1) L ∧ vp_in (i + 2) L ∧ vp_in (i + 3) L ∧ vp_in (i + 4) L ∧ vp_in (i + 5) L) (hax : zA S x 11) (hay : zA S y 12) (hao : zA S o 21) (hl : lv_has ls 8 [(4, .int i), (3, .ref (B + o)), (2, .ref (B + y)), (1, .ref (B + x)), (0, .ref b)]) (hM : zMR D cy B S H) (hS : va_S (fun q => B < q) s.heap H locs) (hc1 : cells + 1 ≤ 601024) (hc2 : slots + 6 ≤ 7293034) (h : zs_26 x y (xs (i + 1).toNatClampNeg) (xs (i + 2).toNatClampNeg) (xs (i + 3).toNatClampNeg) (xs (i + 4).toNatClampNeg) (xs (i + 5).toNatClampNeg) S S') (kk : ∀ (ls : Array Slot) (H : Heap) (locs : List Loc), lv_has ls 8 [(4, .int i), (3, .ref (B + o)), (2, .ref (B + y)), (1, .ref (B + x)), (0, .ref b)] → zMR D cy B S' H → zX S S' → va_S (fun q => B < q) s.heap H locs → W p l e room_1 s m args below meth c H locs (cells + 1) (slots + 6) Q (F0 m 1621 ls [])) : W p l e room_1 s m args below meth c H locs cells slots Q (F0 m 1135 ls []) := by
  obtain ⟨r, n, h1, h2, rfl⟩ := h
  refine lv_aload_n hx hb dL_law_1135 rfl (lv_at hl 3 rfl) ?_
  refine lv_aload_n hx hb dL_law_1136 rfl (lv_at hl 4 rfl) ?_
  refine lv_iload hx hb dL_law_1137 (lv_at hl 0 rfl) ?_
  refine lv_iconst (v := (1 : Int32)) hx hb dL_law_1139 (by decide +kernel) ?_
  refine lv_iadd hx hb dL_law_1140 ?_
  refine va_sld hx hb hXs hbl hbB hS hin.1 dL_law_1141 ?_
  refine lv_aload_n hx hb dL_law_1142 rfl (lv_at hl 4 rfl) ?_
  refine lv_iload hx hb dL_law_1143 (lv_at hl 0 rfl) ?_
  refine lv_iconst (v := (2 : Int32)) hx hb dL_law_1145 (by decide +kernel) ?_
  refine lv_iadd hx hb dL_law_1146 ?_
  refine va_sld hx hb hXs hbl hbB hS hin.2.1 dL_law_1147 ?_
  refine lv_aload_n hx hb dL_law_1148 rfl (lv_at hl 4 rfl) ?_
  refine lv_iload hx hb dL_law_1149 (lv_at hl 0 rfl) ?_
  refine lv_iconst (v := (3 : Int32)) hx hb dL_law_1151 (by decide +kernel) ?_
  refine lv_iadd hx hb dL_law_1152 ?_
  refine va_sld hx hb hXs hbl hbB hS hin.2.2.1 dL_law_1153 ?_
  refine z_runi (va_runV (As := [.int (xs (i + 1).toNatClampNeg), .int (xs (i + 2).toNatClampNeg), .int (xs (i + 3).toNatClampNeg)]) (rest := []) ⟨hx, hb, hml, hown, hg⟩ (c_X11_seeing l D cy B hax h1) (z_cwV hg zw_786 zw_787 zw_788 zw_2 zw_789 zh_X11_seeing ⟨(Nat.le_of_ble_eq_true rfl), (Nat.le_of_ble_eq_true rfl)⟩) (zPV hC hM hax (by decide) rfl) rfl rfl hl.1 rfl (lv_room (Nat.le_of_ble_eq_true rfl)) dL_law_1154 ⟨Nat.le_trans (Nat.add_le_add_left (show 0 ≤ 1 by decide) _) hc1, Nat.le_trans (Nat.add_le_add_left (show 0 ≤ 6 by decide) _) hc2⟩) hS (fun H locs hM hX1 hS => ?_)
  have hax := hax.mo hX1
  have hay := hay.mo hX1
  refine lv_aload_n hx hb dL_law_1157 rfl (lv_at hl 2 rfl) ?_
  refine lv_aload_n hx hb dL_law_1158 rfl (lv_at hl 4 rfl) ?_
  refine lv_iload hx hb dL_law_1159 (lv_at hl 0 rfl) ?_
  refine lv_iconst (v := (1 : Int32)) hx hb dL_law_1161 (by decide +kernel) ?_
  refine lv_iadd hx hb dL_law_1162 ?_
  refine va_sld hx hb hXs hbl hbB hS hin.1 dL_law_1163 ?_
  refine lv_aload_n hx hb dL_law_1164 rfl (lv_at hl 4 rfl) ?_
  refine lv_iload hx hb dL_law_1165 (lv_at hl 0 rfl) ?_
  refine lv_iconst (v := (2 : Int32)) hx hb dL_law_1167 (by decide +kernel) ?_
  refine lv_iadd hx hb dL_law_1168 ?_
  refine va_sld hx hb hXs hbl hbB hS hin.2.1 dL_law_1169 ?_
  refine lv_aload_n hx hb dL_law_1170 rfl (lv_at hl 4 rfl) ?_
  refine lv_iload hx hb dL_law_1171 (lv_at hl 0 rfl) ?_
  refine lv_iconst (v := (3 : Int32)) hx hb dL_law_1173 (by decide +kernel) ?_
  refine lv_iadd hx hb dL_law_1174 ?_
  refine va_sld hx hb hXs hbl hbB hS hin.2.2.1 dL_law_1175 ?_
  refine z_runi (va_runV (As := [.int (xs (i + 1).toNatClampNeg), .int (xs (i + 2).toNatClampNeg), .int (xs (i + 3).toNatClampNeg)]) (rest := [.int r]) ⟨hx, hb, hml, hown, hg⟩ (c_X12_seeing l D cy B hay h2) (z_cwV hg zw_1390 zw_1391 zw_1392 zw_13 zw_1393 zh_X12_seeing ⟨(Nat.le_of_ble_eq_true rfl), (Nat.le_of_ble_eq_true rfl)⟩) (zPV hC hM hay (by decide) rfl) rfl rfl hl.1 rfl (lv_room (Nat.le_of_ble_eq_true rfl)) dL_law_1176 ⟨(show cells + 0 + 0 ≤ 601024 by omega), (show slots + 0 + 0 ≤ 7293034 by omega)⟩) hS (fun H locs hM hX2 hS => ?_)
  refine lv_icmp_eq (tgt := 1621) hx hb dL_law_1179 (by decide) (fun _ => ?_) (fun hn => absurd rfl hn)
  refine W.widen (k := cells + 1) (n := slots + 6) (by omega) (by omega) ?_
  exact kk ls _ _ hl hM (hX1.tr hX2) hS
set_option maxHeartbeats 4000000 in
set_option maxRecDepth 100000 in
theorem L_27 {p : Program} {e : Env} {s : State} {m : MethodId} {args : Array Value} {below : List Frame} {meth : Method} {c : Code} {H : Heap} {locs : List Loc} {cells slots : Nat} {Q : State → Prop} {ls : Array Slot} {D : va_G} {cy : Nat → ClassId} {B b L : Nat} {xs : Nat → Int32} {x y o : Nat} {S S' : zM} {i : Int32} (l : Launch) (hst : l.stackTraces = false) (hx : p.tables.exec = Jvm.exec) (hb : c.code = cL_law) (hml : c.maxLocals = 8) (hown : s.vm.findClass RL = some m.cls) (hg : ∀ w ∈ zGW, w.before args s = true) (hC : zC D cy s) (hT : zT B s s.heap) (hXs : va_X b L xs s s.heap) (hbl : b < s.heap.size) (hbB : ¬ B < b) (hin : vp_in (i + 1) L ∧ vp_in (i + 2) L ∧ vp_in (i + 3) L ∧ vp_in (i + 4) L ∧ vp_in (i + 5) L) (hax : zA S x 11) (hay : zA S y 12) (hao : zA S o 21) (hl : lv_has ls 8 [(4, .int i), (3, .ref (B + o)), (2, .ref (B + y)), (1, .ref (B + x)), (0, .ref b)]) (hM : zMR D cy B S H) (hS : va_S (fun q => B < q) s.heap H locs) (hc1 : cells + 1 ≤ 601024) (hc2 : slots + 6 ≤ 7293034) (h : zs_27 x y (xs (i + 1).toNatClampNeg) (xs (i + 2).toNatClampNeg) (xs (i + 3).toNatClampNeg) (xs (i + 4).toNatClampNeg) (xs (i + 5).toNatClampNeg) S S') (kk : ∀ (ls : Array Slot) (H : Heap) (locs : List Loc), lv_has ls 8 [(4, .int i), (3, .ref (B + o)), (2, .ref (B + y)), (1, .ref (B + x)), (0, .ref b)] → zMR D cy B S' H → zX S S' → va_S (fun q => B < q) s.heap H locs → W p l e room_1 s m args below meth c H locs (cells + 1) (slots + 6) Q (F0 m 1621 ls [])) : W p l e room_1 s m args below meth c H locs cells slots Q (F0 m 1184 ls []) := by
  obtain ⟨r, n, S1, h1, h2⟩ := h
  refine lv_aload_n hx hb dL_law_1184 rfl (lv_at hl 3 rfl) ?_
  refine lv_aload_n hx hb dL_law_1185 rfl (lv_at hl 4 rfl) ?_
  refine lv_iload hx hb dL_law_1186 (lv_at hl 0 rfl) ?_
  refine lv_iconst (v := (1 : Int32)) hx hb dL_law_1188 (by decide +kernel) ?_
  refine lv_iadd hx hb dL_law_1189 ?_
  refine va_sld hx hb hXs hbl hbB hS hin.1 dL_law_1190 ?_
  refine lv_aload_n hx hb dL_law_1191 rfl (lv_at hl 4 rfl) ?_
  refine lv_iload hx hb dL_law_1192 (lv_at hl 0 rfl) ?_
  refine lv_iconst (v := (2 : Int32)) hx hb dL_law_1194 (by decide +kernel) ?_
  refine lv_iadd hx hb dL_law_1195 ?_
  refine va_sld hx hb hXs hbl hbB hS hin.2.1 dL_law_1196 ?_
  refine lv_aload_n hx hb dL_law_1197 rfl (lv_at hl 4 rfl) ?_
  refine lv_iload hx hb dL_law_1198 (lv_at hl 0 rfl) ?_
  refine lv_iconst (v := (3 : Int32)) hx hb dL_law_1200 (by decide +kernel) ?_
  refine lv_iadd hx hb dL_law_1201 ?_
  refine va_sld hx hb hXs hbl hbB hS hin.2.2.1 dL_law_1202 ?_
  refine z_runi (va_runV (As := [.int (xs (i + 1).toNatClampNeg), .int (xs (i + 2).toNatClampNeg), .int (xs (i + 3).toNatClampNeg)]) (rest := []) ⟨hx, hb, hml, hown, hg⟩ (c_X11_worlds l D cy B hax h1) (z_cwV hg zw_793 zw_794 zw_795 zw_2 zw_796 zh_X11_worlds ⟨(Nat.le_of_ble_eq_true rfl), (Nat.le_of_ble_eq_true rfl)⟩) (zPV hC hM hax (by decide) rfl) rfl rfl hl.1 rfl (lv_room (Nat.le_of_ble_eq_true rfl)) dL_law_1203 ⟨Nat.le_trans (Nat.add_le_add_left (show 0 ≤ 1 by decide) _) hc1, Nat.le_trans (Nat.add_le_add_left (show 0 ≤ 6 by decide) _) hc2⟩) hS (fun H locs hM hX1 hS => ?_)
  have hax := hax.mo hX1
  have hay := hay.mo hX1
  refine lv_aload_n hx hb dL_law_1206 rfl (lv_at hl 2 rfl) ?_
  refine lv_aload_n hx hb dL_law_1207 rfl (lv_at hl 4 rfl) ?_
  refine lv_iload hx hb dL_law_1208 (lv_at hl 0 rfl) ?_
  refine lv_iconst (v := (1 : Int32)) hx hb dL_law_1210 (by decide +kernel) ?_
  refine lv_iadd hx hb dL_law_1211 ?_
  refine va_sld hx hb hXs hbl hbB hS hin.1 dL_law_1212 ?_
  refine lv_aload_n hx hb dL_law_1213 rfl (lv_at hl 4 rfl) ?_
  refine lv_iload hx hb dL_law_1214 (lv_at hl 0 rfl) ?_
  refine lv_iconst (v := (2 : Int32)) hx hb dL_law_1216 (by decide +kernel) ?_
  refine lv_iadd hx hb dL_law_1217 ?_
  refine va_sld hx hb hXs hbl hbB hS hin.2.1 dL_law_1218 ?_
  refine lv_aload_n hx hb dL_law_1219 rfl (lv_at hl 4 rfl) ?_
  refine lv_iload hx hb dL_law_1220 (lv_at hl 0 rfl) ?_
  refine lv_iconst (v := (3 : Int32)) hx hb dL_law_1222 (by decide +kernel) ?_
  refine lv_iadd hx hb dL_law_1223 ?_
  refine va_sld hx hb hXs hbl hbB hS hin.2.2.1 dL_law_1224 ?_
  refine z_runi (va_runV (As := [.int (xs (i + 1).toNatClampNeg), .int (xs (i + 2).toNatClampNeg), .int (xs (i + 3).toNatClampNeg)]) (rest := [.int r]) ⟨hx, hb, hml, hown, hg⟩ (c_X12_worlds l D cy B hay h2) (z_cwV hg zw_1394 zw_1395 zw_1396 zw_13 zw_1397 zh_X12_worlds ⟨(Nat.le_of_ble_eq_true rfl), (Nat.le_of_ble_eq_true rfl)⟩) (zPV hC hM hay (by decide) rfl) rfl rfl hl.1 rfl (lv_room (Nat.le_of_ble_eq_true rfl)) dL_law_1225 ⟨(show cells + 0 + 0 ≤ 601024 by omega), (show slots + 0 + 0 ≤ 7293034 by omega)⟩) hS (fun H locs hM hX2 hS => ?_)
  refine lv_icmp_eq (tgt := 1621) hx hb dL_law_1228 (by decide) (fun _ => ?_) (fun hn => absurd rfl hn)
  refine W.widen (k := cells + 1) (n := slots + 6) (by omega) (by omega) ?_
  exact kk ls _ _ hl hM (hX1.tr hX2) hS
set_option maxHeartbeats 4000000 in
set_option maxRecDepth 100000 in
theorem L_28 {p : Program} {e : Env} {s : State} {m : MethodId} {args : Array Value} {below : List Frame} {meth : Method} {c : Code} {H : Heap} {locs : List Loc} {cells slots : Nat} {Q : State → Prop} {ls : Array Slot} {D : va_G} {cy : Nat → ClassId} {B b L : Nat} {xs : Nat → Int32} {x y o : Nat} {S S' : zM} {i : Int32} (l : Launch) (hst : l.stackTraces = false) (hx : p.tables.exec = Jvm.exec) (hb : c.code = cL_law) (hml : c.maxLocals = 8) (hown : s.vm.findClass RL = some m.cls) (hg : ∀ w ∈ zGW, w.before args s = true) (hC : zC D cy s) (hT : zT B s s.heap) (hXs : va_X b L xs s s.heap) (hbl : b < s.heap.size) (hbB : ¬ B < b) (hin : vp_in (i + 1) L ∧ vp_in (i + 2) L ∧ vp_in (i + 3) L ∧ vp_in (i + 4) L ∧ vp_in (i + 5) L) (hax : zA S x 11) (hay : zA S y 12) (hao : zA S o 21) (hl : lv_has ls 8 [(4, .int i), (3, .ref (B + o)), (2, .ref (B + y)), (1, .ref (B + x)), (0, .ref b)]) (hM : zMR D cy B S H) (hS : va_S (fun q => B < q) s.heap H locs) (hc1 : cells + 1 ≤ 601024) (hc2 : slots + 6 ≤ 7293034) (h : zs_28 x y (xs (i + 1).toNatClampNeg) (xs (i + 2).toNatClampNeg) (xs (i + 3).toNatClampNeg) (xs (i + 4).toNatClampNeg) (xs (i + 5).toNatClampNeg) S S') (kk : ∀ (ls : Array Slot) (H : Heap) (locs : List Loc), lv_has ls 8 [(4, .int i), (3, .ref (B + o)), (2, .ref (B + y)), (1, .ref (B + x)), (0, .ref b)] → zMR D cy B S' H → zX S S' → va_S (fun q => B < q) s.heap H locs → W p l e room_1 s m args below meth c H locs (cells + 1) (slots + 6) Q (F0 m 1621 ls [])) : W p l e room_1 s m args below meth c H locs cells slots Q (F0 m 1233 ls []) := by
  obtain ⟨r, n, S1, h1, h2⟩ := h
  refine lv_aload_n hx hb dL_law_1233 rfl (lv_at hl 3 rfl) ?_
  refine z_runi (va_runV (As := []) (rest := []) ⟨hx, hb, hml, hown, hg⟩ (c_X11_image l D cy B hax h1) (z_cwV hg zw_811 zw_812 zw_813 zw_2 zw_814 zh_X11_image ⟨(Nat.le_of_ble_eq_true rfl), (Nat.le_of_ble_eq_true rfl)⟩) (zPV hC hM hax (by decide) rfl) rfl rfl hl.1 rfl (lv_room (Nat.le_of_ble_eq_true rfl)) dL_law_1234 ⟨Nat.le_trans (Nat.add_le_add_left (show 0 ≤ 1 by decide) _) hc1, Nat.le_trans (Nat.add_le_add_left (show 0 ≤ 6 by decide) _) hc2⟩) hS (fun H locs hM hX1 hS => ?_)
  have hax := hax.mo hX1
  have hay := hay.mo hX1
  refine lv_aload_n hx hb dL_law_1237 rfl (lv_at hl 2 rfl) ?_
  refine z_runi (va_runV (As := []) (rest := [.int r]) ⟨hx, hb, hml, hown, hg⟩ (c_X12_image l D cy B hay h2) (z_cwV hg zw_1408 zw_1409 zw_1410 zw_13 zw_1411 zh_X12_image ⟨(Nat.le_of_ble_eq_true rfl), (Nat.le_of_ble_eq_true rfl)⟩) (zPV hC hM hay (by decide) rfl) rfl rfl hl.1 rfl (lv_room (Nat.le_of_ble_eq_true rfl)) dL_law_1238 ⟨(show cells + 0 + 0 ≤ 601024 by omega), (show slots + 0 + 0 ≤ 7293034 by omega)⟩) hS (fun H locs hM hX2 hS => ?_)
  refine lv_icmp_eq (tgt := 1621) hx hb dL_law_1241 (by decide) (fun _ => ?_) (fun hn => absurd rfl hn)
  refine W.widen (k := cells + 1) (n := slots + 6) (by omega) (by omega) ?_
  exact kk ls _ _ hl hM (hX1.tr hX2) hS
set_option maxHeartbeats 4000000 in
set_option maxRecDepth 100000 in
theorem L_29 {p : Program} {e : Env} {s : State} {m : MethodId} {args : Array Value} {below : List Frame} {meth : Method} {c : Code} {H : Heap} {locs : List Loc} {cells slots : Nat} {Q : State → Prop} {ls : Array Slot} {D : va_G} {cy : Nat → ClassId} {B b L : Nat} {xs : Nat → Int32} {x y o : Nat} {S S' : zM} {i : Int32} (l : Launch) (hst : l.stackTraces = false) (hx : p.tables.exec = Jvm.exec) (hb : c.code = cL_law) (hml : c.maxLocals = 8) (hown : s.vm.findClass RL = some m.cls) (hg : ∀ w ∈ zGW, w.before args s = true) (hC : zC D cy s) (hT : zT B s s.heap) (hXs : va_X b L xs s s.heap) (hbl : b < s.heap.size) (hbB : ¬ B < b) (hin : vp_in (i + 1) L ∧ vp_in (i + 2) L ∧ vp_in (i + 3) L ∧ vp_in (i + 4) L ∧ vp_in (i + 5) L) (hax : zA S x 11) (hay : zA S y 12) (hao : zA S o 21) (hl : lv_has ls 8 [(4, .int i), (3, .ref (B + o)), (2, .ref (B + y)), (1, .ref (B + x)), (0, .ref b)]) (hM : zMR D cy B S H) (hS : va_S (fun q => B < q) s.heap H locs) (hc1 : cells + 1 ≤ 601024) (hc2 : slots + 6 ≤ 7293034) (h : zs_29 x y (xs (i + 1).toNatClampNeg) (xs (i + 2).toNatClampNeg) (xs (i + 3).toNatClampNeg) (xs (i + 4).toNatClampNeg) (xs (i + 5).toNatClampNeg) S S') (kk : ∀ (ls : Array Slot) (H : Heap) (locs : List Loc), lv_has ls 8 [(4, .int i), (3, .ref (B + o)), (2, .ref (B + y)), (1, .ref (B + x)), (0, .ref b)] → zMR D cy B S' H → zX S S' → va_S (fun q => B < q) s.heap H locs → W p l e room_1 s m args below meth c H locs (cells + 1) (slots + 6) Q (F0 m 1621 ls [])) : W p l e room_1 s m args below meth c H locs cells slots Q (F0 m 1246 ls []) := by
  obtain ⟨r, n, S1, h1, h2⟩ := h
  refine lv_aload_n hx hb dL_law_1246 rfl (lv_at hl 3 rfl) ?_
  refine z_runi (va_runV (As := []) (rest := []) ⟨hx, hb, hml, hown, hg⟩ (c_X11_restore l D cy B hax h1) (z_cwV hg zw_815 zw_816 zw_817 zw_2 zw_818 zh_X11_restore ⟨(Nat.le_of_ble_eq_true rfl), (Nat.le_of_ble_eq_true rfl)⟩) (zPV hC hM hax (by decide) rfl) rfl rfl hl.1 rfl (lv_room (Nat.le_of_ble_eq_true rfl)) dL_law_1247 ⟨Nat.le_trans (Nat.add_le_add_left (show 0 ≤ 1 by decide) _) hc1, Nat.le_trans (Nat.add_le_add_left (show 0 ≤ 6 by decide) _) hc2⟩) hS (fun H locs hM hX1 hS => ?_)
  have hax := hax.mo hX1
  have hay := hay.mo hX1
  refine lv_aload_n hx hb dL_law_1250 rfl (lv_at hl 2 rfl) ?_
  refine z_runi (va_runV (As := []) (rest := [.int r]) ⟨hx, hb, hml, hown, hg⟩ (c_X12_restore l D cy B hay h2) (z_cwV hg zw_1412 zw_1413 zw_1414 zw_13 zw_1415 zh_X12_restore ⟨(Nat.le_of_ble_eq_true rfl), (Nat.le_of_ble_eq_true rfl)⟩) (zPV hC hM hay (by decide) rfl) rfl rfl hl.1 rfl (lv_room (Nat.le_of_ble_eq_true rfl)) dL_law_1251 ⟨(show cells + 0 + 0 ≤ 601024 by omega), (show slots + 0 + 0 ≤ 7293034 by omega)⟩) hS (fun H locs hM hX2 hS => ?_)
  refine lv_icmp_eq (tgt := 1621) hx hb dL_law_1254 (by decide) (fun _ => ?_) (fun hn => absurd rfl hn)
  refine W.widen (k := cells + 1) (n := slots + 6) (by omega) (by omega) ?_
  exact kk ls _ _ hl hM (hX1.tr hX2) hS
set_option maxHeartbeats 4000000 in
set_option maxRecDepth 100000 in
theorem L_30 {p : Program} {e : Env} {s : State} {m : MethodId} {args : Array Value} {below : List Frame} {meth : Method} {c : Code} {H : Heap} {locs : List Loc} {cells slots : Nat} {Q : State → Prop} {ls : Array Slot} {D : va_G} {cy : Nat → ClassId} {B b L : Nat} {xs : Nat → Int32} {x y o : Nat} {S S' : zM} {i : Int32} (l : Launch) (hst : l.stackTraces = false) (hx : p.tables.exec = Jvm.exec) (hb : c.code = cL_law) (hml : c.maxLocals = 8) (hown : s.vm.findClass RL = some m.cls) (hg : ∀ w ∈ zGW, w.before args s = true) (hC : zC D cy s) (hT : zT B s s.heap) (hXs : va_X b L xs s s.heap) (hbl : b < s.heap.size) (hbB : ¬ B < b) (hin : vp_in (i + 1) L ∧ vp_in (i + 2) L ∧ vp_in (i + 3) L ∧ vp_in (i + 4) L ∧ vp_in (i + 5) L) (hax : zA S x 11) (hay : zA S y 12) (hao : zA S o 21) (hl : lv_has ls 8 [(4, .int i), (3, .ref (B + o)), (2, .ref (B + y)), (1, .ref (B + x)), (0, .ref b)]) (hM : zMR D cy B S H) (hS : va_S (fun q => B < q) s.heap H locs) (hc1 : cells + 1 ≤ 601024) (hc2 : slots + 6 ≤ 7293034) (h : zs_30 x y (xs (i + 1).toNatClampNeg) (xs (i + 2).toNatClampNeg) (xs (i + 3).toNatClampNeg) (xs (i + 4).toNatClampNeg) (xs (i + 5).toNatClampNeg) S S') (kk : ∀ (ls : Array Slot) (H : Heap) (locs : List Loc), lv_has ls 8 [(4, .int i), (3, .ref (B + o)), (2, .ref (B + y)), (1, .ref (B + x)), (0, .ref b)] → zMR D cy B S' H → zX S S' → va_S (fun q => B < q) s.heap H locs → W p l e room_1 s m args below meth c H locs (cells + 1) (slots + 6) Q (F0 m 1621 ls [])) : W p l e room_1 s m args below meth c H locs cells slots Q (F0 m 1259 ls []) := by
  obtain ⟨r, n, h1, h2⟩ := h
  refine lv_aload_n hx hb dL_law_1259 rfl (lv_at hl 3 rfl) ?_
  refine lv_aload_n hx hb dL_law_1260 rfl (lv_at hl 4 rfl) ?_
  refine lv_iload hx hb dL_law_1261 (lv_at hl 0 rfl) ?_
  refine lv_iconst (v := (1 : Int32)) hx hb dL_law_1263 (by decide +kernel) ?_
  refine lv_iadd hx hb dL_law_1264 ?_
  refine va_sld hx hb hXs hbl hbB hS hin.1 dL_law_1265 ?_
  refine z_runi (va_runV (As := [.int (xs (i + 1).toNatClampNeg)]) (rest := []) ⟨hx, hb, hml, hown, hg⟩ (c_X11_count l D cy B hax h1) (z_cwV hg zw_819 zw_820 zw_821 zw_2 zw_822 zh_X11_count ⟨(Nat.le_of_ble_eq_true rfl), (Nat.le_of_ble_eq_true rfl)⟩) (zPV hC hM hax (by decide) rfl) rfl rfl hl.1 rfl (lv_room (Nat.le_of_ble_eq_true rfl)) dL_law_1266 ⟨Nat.le_trans (Nat.add_le_add_left (show 0 ≤ 1 by decide) _) hc1, Nat.le_trans (Nat.add_le_add_left (show 0 ≤ 6 by decide) _) hc2⟩) hS (fun H locs hM hX1 hS => ?_)
  have hax := hax.mo hX1
  have hay := hay.mo hX1
  refine lv_aload_n hx hb dL_law_1269 rfl (lv_at hl 2 rfl) ?_
  refine lv_aload_n hx hb dL_law_1270 rfl (lv_at hl 4 rfl) ?_
  refine lv_iload hx hb dL_law_1271 (lv_at hl 0 rfl) ?_
  refine lv_iconst (v := (1 : Int32)) hx hb dL_law_1273 (by decide +kernel) ?_
  refine lv_iadd hx hb dL_law_1274 ?_
  refine va_sld hx hb hXs hbl hbB hS hin.1 dL_law_1275 ?_
  refine z_runi (va_runV (As := [.int (xs (i + 1).toNatClampNeg)]) (rest := [.int r]) ⟨hx, hb, hml, hown, hg⟩ (c_X12_count l D cy B hay h2) (z_cwV hg zw_1416 zw_1417 zw_1418 zw_13 zw_1419 zh_X12_count ⟨(Nat.le_of_ble_eq_true rfl), (Nat.le_of_ble_eq_true rfl)⟩) (zPV hC hM hay (by decide) rfl) rfl rfl hl.1 rfl (lv_room (Nat.le_of_ble_eq_true rfl)) dL_law_1276 ⟨(show cells + 0 + 0 ≤ 601024 by omega), (show slots + 0 + 0 ≤ 7293034 by omega)⟩) hS (fun H locs hM hX2 hS => ?_)
  refine lv_icmp_eq (tgt := 1621) hx hb dL_law_1279 (by decide) (fun _ => ?_) (fun hn => absurd rfl hn)
  refine W.widen (k := cells + 1) (n := slots + 6) (by omega) (by omega) ?_
  exact kk ls _ _ hl hM (hX1.tr hX2) hS
set_option maxHeartbeats 4000000 in
set_option maxRecDepth 100000 in
theorem L_31 {p : Program} {e : Env} {s : State} {m : MethodId} {args : Array Value} {below : List Frame} {meth : Method} {c : Code} {H : Heap} {locs : List Loc} {cells slots : Nat} {Q : State → Prop} {ls : Array Slot} {D : va_G} {cy : Nat → ClassId} {B b L : Nat} {xs : Nat → Int32} {x y o : Nat} {S S' : zM} {i : Int32} (l : Launch) (hst : l.stackTraces = false) (hx : p.tables.exec = Jvm.exec) (hb : c.code = cL_law) (hml : c.maxLocals = 8) (hown : s.vm.findClass RL = some m.cls) (hg : ∀ w ∈ zGW, w.before args s = true) (hC : zC D cy s) (hT : zT B s s.heap) (hXs : va_X b L xs s s.heap) (hbl : b < s.heap.size) (hbB : ¬ B < b) (hin : vp_in (i + 1) L ∧ vp_in (i + 2) L ∧ vp_in (i + 3) L ∧ vp_in (i + 4) L ∧ vp_in (i + 5) L) (hax : zA S x 11) (hay : zA S y 12) (hao : zA S o 21) (hl : lv_has ls 8 [(4, .int i), (3, .ref (B + o)), (2, .ref (B + y)), (1, .ref (B + x)), (0, .ref b)]) (hM : zMR D cy B S H) (hS : va_S (fun q => B < q) s.heap H locs) (hc1 : cells + 1 ≤ 601024) (hc2 : slots + 6 ≤ 7293034) (h : zs_31 x y (xs (i + 1).toNatClampNeg) (xs (i + 2).toNatClampNeg) (xs (i + 3).toNatClampNeg) (xs (i + 4).toNatClampNeg) (xs (i + 5).toNatClampNeg) S S') (kk : ∀ (ls : Array Slot) (H : Heap) (locs : List Loc), lv_has ls 8 [(4, .int i), (3, .ref (B + o)), (2, .ref (B + y)), (1, .ref (B + x)), (0, .ref b)] → zMR D cy B S' H → zX S S' → va_S (fun q => B < q) s.heap H locs → W p l e room_1 s m args below meth c H locs (cells + 1) (slots + 6) Q (F0 m 1621 ls [])) : W p l e room_1 s m args below meth c H locs cells slots Q (F0 m 1284 ls []) := by
  obtain ⟨r, S1, h1, h2⟩ := h
  refine lv_aload_n hx hb dL_law_1284 rfl (lv_at hl 3 rfl) ?_
  refine lv_aload_n hx hb dL_law_1285 rfl (lv_at hl 4 rfl) ?_
  refine lv_iload hx hb dL_law_1286 (lv_at hl 0 rfl) ?_
  refine lv_iconst (v := (1 : Int32)) hx hb dL_law_1288 (by decide +kernel) ?_
  refine lv_iadd hx hb dL_law_1289 ?_
  refine va_sld hx hb hXs hbl hbB hS hin.1 dL_law_1290 ?_
  refine lv_aload_n hx hb dL_law_1291 rfl (lv_at hl 4 rfl) ?_
  refine lv_iload hx hb dL_law_1292 (lv_at hl 0 rfl) ?_
  refine lv_iconst (v := (2 : Int32)) hx hb dL_law_1294 (by decide +kernel) ?_
  refine lv_iadd hx hb dL_law_1295 ?_
  refine va_sld hx hb hXs hbl hbB hS hin.2.1 dL_law_1296 ?_
  refine lv_aload_n hx hb dL_law_1297 rfl (lv_at hl 4 rfl) ?_
  refine lv_iload hx hb dL_law_1298 (lv_at hl 0 rfl) ?_
  refine lv_iconst (v := (3 : Int32)) hx hb dL_law_1300 (by decide +kernel) ?_
  refine lv_iadd hx hb dL_law_1301 ?_
  refine va_sld hx hb hXs hbl hbB hS hin.2.2.1 dL_law_1302 ?_
  refine z_runi (va_runV (As := [.int (xs (i + 1).toNatClampNeg), .int (xs (i + 2).toNatClampNeg), .int (xs (i + 3).toNatClampNeg)]) (rest := []) ⟨hx, hb, hml, hown, hg⟩ (c_X11_keep l D cy B hax h1) (z_cwV hg zw_836 zw_837 zw_838 zw_2 zw_839 zh_X11_keep ⟨(Nat.le_of_ble_eq_true rfl), (Nat.le_of_ble_eq_true rfl)⟩) (zPV hC hM hax (by decide) rfl) rfl rfl hl.1 rfl (lv_room (Nat.le_of_ble_eq_true rfl)) dL_law_1303 ⟨Nat.le_trans (Nat.add_le_add_left (show 0 ≤ 1 by decide) _) hc1, Nat.le_trans (Nat.add_le_add_left (show 0 ≤ 6 by decide) _) hc2⟩) hS (fun H locs hM hX1 hS => ?_)
  have hax := hax.mo hX1
  have hay := hay.mo hX1
  refine lv_aload_n hx hb dL_law_1306 rfl (lv_at hl 2 rfl) ?_
  refine lv_aload_n hx hb dL_law_1307 rfl (lv_at hl 4 rfl) ?_
  refine lv_iload hx hb dL_law_1308 (lv_at hl 0 rfl) ?_
  refine lv_iconst (v := (1 : Int32)) hx hb dL_law_1310 (by decide +kernel) ?_
  refine lv_iadd hx hb dL_law_1311 ?_
  refine va_sld hx hb hXs hbl hbB hS hin.1 dL_law_1312 ?_
  refine lv_aload_n hx hb dL_law_1313 rfl (lv_at hl 4 rfl) ?_
  refine lv_iload hx hb dL_law_1314 (lv_at hl 0 rfl) ?_
  refine lv_iconst (v := (2 : Int32)) hx hb dL_law_1316 (by decide +kernel) ?_
  refine lv_iadd hx hb dL_law_1317 ?_
  refine va_sld hx hb hXs hbl hbB hS hin.2.1 dL_law_1318 ?_
  refine lv_aload_n hx hb dL_law_1319 rfl (lv_at hl 4 rfl) ?_
  refine lv_iload hx hb dL_law_1320 (lv_at hl 0 rfl) ?_
  refine lv_iconst (v := (3 : Int32)) hx hb dL_law_1322 (by decide +kernel) ?_
  refine lv_iadd hx hb dL_law_1323 ?_
  refine va_sld hx hb hXs hbl hbB hS hin.2.2.1 dL_law_1324 ?_
  refine z_runi (va_runV (As := [.int (xs (i + 1).toNatClampNeg), .int (xs (i + 2).toNatClampNeg), .int (xs (i + 3).toNatClampNeg)]) (rest := [.int r]) ⟨hx, hb, hml, hown, hg⟩ (c_X12_keep l D cy B hay h2) (z_cwV hg zw_1421 zw_1422 zw_1423 zw_13 zw_1424 zh_X12_keep ⟨(Nat.le_of_ble_eq_true rfl), (Nat.le_of_ble_eq_true rfl)⟩) (zPV hC hM hay (by decide) rfl) rfl rfl hl.1 rfl (lv_room (Nat.le_of_ble_eq_true rfl)) dL_law_1325 ⟨(show cells + 0 + 0 ≤ 601024 by omega), (show slots + 0 + 0 ≤ 7293034 by omega)⟩) hS (fun H locs hM hX2 hS => ?_)
  refine lv_icmp_eq (tgt := 1621) hx hb dL_law_1328 (by decide) (fun _ => ?_) (fun hn => absurd rfl hn)
  refine W.widen (k := cells + 1) (n := slots + 6) (by omega) (by omega) ?_
  exact kk ls _ _ hl hM (hX1.tr hX2) hS
set_option maxHeartbeats 4000000 in
set_option maxRecDepth 100000 in
theorem L_32 {p : Program} {e : Env} {s : State} {m : MethodId} {args : Array Value} {below : List Frame} {meth : Method} {c : Code} {H : Heap} {locs : List Loc} {cells slots : Nat} {Q : State → Prop} {ls : Array Slot} {D : va_G} {cy : Nat → ClassId} {B b L : Nat} {xs : Nat → Int32} {x y o : Nat} {S S' : zM} {i : Int32} (l : Launch) (hst : l.stackTraces = false) (hx : p.tables.exec = Jvm.exec) (hb : c.code = cL_law) (hml : c.maxLocals = 8) (hown : s.vm.findClass RL = some m.cls) (hg : ∀ w ∈ zGW, w.before args s = true) (hC : zC D cy s) (hT : zT B s s.heap) (hXs : va_X b L xs s s.heap) (hbl : b < s.heap.size) (hbB : ¬ B < b) (hin : vp_in (i + 1) L ∧ vp_in (i + 2) L ∧ vp_in (i + 3) L ∧ vp_in (i + 4) L ∧ vp_in (i + 5) L) (hax : zA S x 11) (hay : zA S y 12) (hao : zA S o 21) (hl : lv_has ls 8 [(4, .int i), (3, .ref (B + o)), (2, .ref (B + y)), (1, .ref (B + x)), (0, .ref b)]) (hM : zMR D cy B S H) (hS : va_S (fun q => B < q) s.heap H locs) (hc1 : cells + 1 ≤ 601024) (hc2 : slots + 6 ≤ 7293034) (h : zs_32 x y (xs (i + 1).toNatClampNeg) (xs (i + 2).toNatClampNeg) (xs (i + 3).toNatClampNeg) (xs (i + 4).toNatClampNeg) (xs (i + 5).toNatClampNeg) S S') (kk : ∀ (ls : Array Slot) (H : Heap) (locs : List Loc), lv_has ls 8 [(4, .int i), (3, .ref (B + o)), (2, .ref (B + y)), (1, .ref (B + x)), (0, .ref b)] → zMR D cy B S' H → zX S S' → va_S (fun q => B < q) s.heap H locs → W p l e room_1 s m args below meth c H locs (cells + 1) (slots + 6) Q (F0 m 1621 ls [])) : W p l e room_1 s m args below meth c H locs cells slots Q (F0 m 1333 ls []) := by
  obtain ⟨r, n, S1, h1, h2⟩ := h
  refine lv_aload_n hx hb dL_law_1333 rfl (lv_at hl 3 rfl) ?_
  refine lv_aload_n hx hb dL_law_1334 rfl (lv_at hl 4 rfl) ?_
  refine lv_iload hx hb dL_law_1335 (lv_at hl 0 rfl) ?_
  refine lv_iconst (v := (1 : Int32)) hx hb dL_law_1337 (by decide +kernel) ?_
  refine lv_iadd hx hb dL_law_1338 ?_
  refine va_sld hx hb hXs hbl hbB hS hin.1 dL_law_1339 ?_
  refine lv_aload_n hx hb dL_law_1340 rfl (lv_at hl 4 rfl) ?_
  refine lv_iload hx hb dL_law_1341 (lv_at hl 0 rfl) ?_
  refine lv_iconst (v := (2 : Int32)) hx hb dL_law_1343 (by decide +kernel) ?_
  refine lv_iadd hx hb dL_law_1344 ?_
  refine va_sld hx hb hXs hbl hbB hS hin.2.1 dL_law_1345 ?_
  refine lv_aload_n hx hb dL_law_1346 rfl (lv_at hl 4 rfl) ?_
  refine lv_iload hx hb dL_law_1347 (lv_at hl 0 rfl) ?_
  refine lv_iconst (v := (3 : Int32)) hx hb dL_law_1349 (by decide +kernel) ?_
  refine lv_iadd hx hb dL_law_1350 ?_
  refine va_sld hx hb hXs hbl hbB hS hin.2.2.1 dL_law_1351 ?_
  refine z_runi (va_runV (As := [.int (xs (i + 1).toNatClampNeg), .int (xs (i + 2).toNatClampNeg), .int (xs (i + 3).toNatClampNeg)]) (rest := []) ⟨hx, hb, hml, hown, hg⟩ (c_X11_row l D cy B hax h1) (z_cwV hg zw_850 zw_851 zw_852 zw_2 zw_853 zh_X11_row ⟨(Nat.le_of_ble_eq_true rfl), (Nat.le_of_ble_eq_true rfl)⟩) (zPV hC hM hax (by decide) rfl) rfl rfl hl.1 rfl (lv_room (Nat.le_of_ble_eq_true rfl)) dL_law_1352 ⟨Nat.le_trans (Nat.add_le_add_left (show 0 ≤ 1 by decide) _) hc1, Nat.le_trans (Nat.add_le_add_left (show 0 ≤ 6 by decide) _) hc2⟩) hS (fun H locs hM hX1 hS => ?_)
  have hax := hax.mo hX1
  have hay := hay.mo hX1
  refine lv_aload_n hx hb dL_law_1355 rfl (lv_at hl 2 rfl) ?_
  refine lv_aload_n hx hb dL_law_1356 rfl (lv_at hl 4 rfl) ?_
  refine lv_iload hx hb dL_law_1357 (lv_at hl 0 rfl) ?_
  refine lv_iconst (v := (1 : Int32)) hx hb dL_law_1359 (by decide +kernel) ?_
  refine lv_iadd hx hb dL_law_1360 ?_
  refine va_sld hx hb hXs hbl hbB hS hin.1 dL_law_1361 ?_
  refine lv_aload_n hx hb dL_law_1362 rfl (lv_at hl 4 rfl) ?_
  refine lv_iload hx hb dL_law_1363 (lv_at hl 0 rfl) ?_
  refine lv_iconst (v := (2 : Int32)) hx hb dL_law_1365 (by decide +kernel) ?_
  refine lv_iadd hx hb dL_law_1366 ?_
  refine va_sld hx hb hXs hbl hbB hS hin.2.1 dL_law_1367 ?_
  refine lv_aload_n hx hb dL_law_1368 rfl (lv_at hl 4 rfl) ?_
  refine lv_iload hx hb dL_law_1369 (lv_at hl 0 rfl) ?_
  refine lv_iconst (v := (3 : Int32)) hx hb dL_law_1371 (by decide +kernel) ?_
  refine lv_iadd hx hb dL_law_1372 ?_
  refine va_sld hx hb hXs hbl hbB hS hin.2.2.1 dL_law_1373 ?_
  refine z_runi (va_runV (As := [.int (xs (i + 1).toNatClampNeg), .int (xs (i + 2).toNatClampNeg), .int (xs (i + 3).toNatClampNeg)]) (rest := [.int r]) ⟨hx, hb, hml, hown, hg⟩ (c_X12_row l D cy B hay h2) (z_cwV hg zw_1428 zw_1429 zw_1430 zw_13 zw_1431 zh_X12_row ⟨(Nat.le_of_ble_eq_true rfl), (Nat.le_of_ble_eq_true rfl)⟩) (zPV hC hM hay (by decide) rfl) rfl rfl hl.1 rfl (lv_room (Nat.le_of_ble_eq_true rfl)) dL_law_1374 ⟨(show cells + 0 + 0 ≤ 601024 by omega), (show slots + 0 + 0 ≤ 7293034 by omega)⟩) hS (fun H locs hM hX2 hS => ?_)
  refine lv_icmp_eq (tgt := 1621) hx hb dL_law_1377 (by decide) (fun _ => ?_) (fun hn => absurd rfl hn)
  refine W.widen (k := cells + 1) (n := slots + 6) (by omega) (by omega) ?_
  exact kk ls _ _ hl hM (hX1.tr hX2) hS
set_option maxHeartbeats 4000000 in
set_option maxRecDepth 100000 in
theorem L_33 {p : Program} {e : Env} {s : State} {m : MethodId} {args : Array Value} {below : List Frame} {meth : Method} {c : Code} {H : Heap} {locs : List Loc} {cells slots : Nat} {Q : State → Prop} {ls : Array Slot} {D : va_G} {cy : Nat → ClassId} {B b L : Nat} {xs : Nat → Int32} {x y o : Nat} {S S' : zM} {i : Int32} (l : Launch) (hst : l.stackTraces = false) (hx : p.tables.exec = Jvm.exec) (hb : c.code = cL_law) (hml : c.maxLocals = 8) (hown : s.vm.findClass RL = some m.cls) (hg : ∀ w ∈ zGW, w.before args s = true) (hC : zC D cy s) (hT : zT B s s.heap) (hXs : va_X b L xs s s.heap) (hbl : b < s.heap.size) (hbB : ¬ B < b) (hin : vp_in (i + 1) L ∧ vp_in (i + 2) L ∧ vp_in (i + 3) L ∧ vp_in (i + 4) L ∧ vp_in (i + 5) L) (hax : zA S x 11) (hay : zA S y 12) (hao : zA S o 21) (hl : lv_has ls 8 [(4, .int i), (3, .ref (B + o)), (2, .ref (B + y)), (1, .ref (B + x)), (0, .ref b)]) (hM : zMR D cy B S H) (hS : va_S (fun q => B < q) s.heap H locs) (hc1 : cells + 1 ≤ 601024) (hc2 : slots + 6 ≤ 7293034) (h : zs_33 x y (xs (i + 1).toNatClampNeg) (xs (i + 2).toNatClampNeg) (xs (i + 3).toNatClampNeg) (xs (i + 4).toNatClampNeg) (xs (i + 5).toNatClampNeg) S S') (kk : ∀ (ls : Array Slot) (H : Heap) (locs : List Loc), lv_has ls 8 [(4, .int i), (3, .ref (B + o)), (2, .ref (B + y)), (1, .ref (B + x)), (0, .ref b)] → zMR D cy B S' H → zX S S' → va_S (fun q => B < q) s.heap H locs → W p l e room_1 s m args below meth c H locs (cells + 1) (slots + 6) Q (F0 m 1621 ls [])) : W p l e room_1 s m args below meth c H locs cells slots Q (F0 m 1382 ls []) := by
  obtain ⟨r, S1, h1, h2⟩ := h
  refine lv_aload_n hx hb dL_law_1382 rfl (lv_at hl 3 rfl) ?_
  refine lv_aload_n hx hb dL_law_1383 rfl (lv_at hl 4 rfl) ?_
  refine lv_iload hx hb dL_law_1384 (lv_at hl 0 rfl) ?_
  refine lv_iconst (v := (1 : Int32)) hx hb dL_law_1386 (by decide +kernel) ?_
  refine lv_iadd hx hb dL_law_1387 ?_
  refine va_sld hx hb hXs hbl hbB hS hin.1 dL_law_1388 ?_
  refine lv_aload_n hx hb dL_law_1389 rfl (lv_at hl 4 rfl) ?_
  refine lv_iload hx hb dL_law_1390 (lv_at hl 0 rfl) ?_
  refine lv_iconst (v := (2 : Int32)) hx hb dL_law_1392 (by decide +kernel) ?_
  refine lv_iadd hx hb dL_law_1393 ?_
  refine va_sld hx hb hXs hbl hbB hS hin.2.1 dL_law_1394 ?_
  refine lv_aload_n hx hb dL_law_1395 rfl (lv_at hl 4 rfl) ?_
  refine lv_iload hx hb dL_law_1396 (lv_at hl 0 rfl) ?_
  refine lv_iconst (v := (3 : Int32)) hx hb dL_law_1398 (by decide +kernel) ?_
  refine lv_iadd hx hb dL_law_1399 ?_
  refine va_sld hx hb hXs hbl hbB hS hin.2.2.1 dL_law_1400 ?_
  refine z_runi (va_runV (As := [.int (xs (i + 1).toNatClampNeg), .int (xs (i + 2).toNatClampNeg), .int (xs (i + 3).toNatClampNeg)]) (rest := []) ⟨hx, hb, hml, hown, hg⟩ (c_X11_put l D cy B hax h1) (z_cwV hg zw_858 zw_859 zw_860 zw_2 zw_861 zh_X11_put ⟨(Nat.le_of_ble_eq_true rfl), (Nat.le_of_ble_eq_true rfl)⟩) (zPV hC hM hax (by decide) rfl) rfl rfl hl.1 rfl (lv_room (Nat.le_of_ble_eq_true rfl)) dL_law_1401 ⟨Nat.le_trans (Nat.add_le_add_left (show 0 ≤ 1 by decide) _) hc1, Nat.le_trans (Nat.add_le_add_left (show 0 ≤ 6 by decide) _) hc2⟩) hS (fun H locs hM hX1 hS => ?_)
  have hax := hax.mo hX1
  have hay := hay.mo hX1
  refine lv_aload_n hx hb dL_law_1404 rfl (lv_at hl 2 rfl) ?_
  refine lv_aload_n hx hb dL_law_1405 rfl (lv_at hl 4 rfl) ?_
  refine lv_iload hx hb dL_law_1406 (lv_at hl 0 rfl) ?_
  refine lv_iconst (v := (1 : Int32)) hx hb dL_law_1408 (by decide +kernel) ?_
  refine lv_iadd hx hb dL_law_1409 ?_
  refine va_sld hx hb hXs hbl hbB hS hin.1 dL_law_1410 ?_
  refine lv_aload_n hx hb dL_law_1411 rfl (lv_at hl 4 rfl) ?_
  refine lv_iload hx hb dL_law_1412 (lv_at hl 0 rfl) ?_
  refine lv_iconst (v := (2 : Int32)) hx hb dL_law_1414 (by decide +kernel) ?_
  refine lv_iadd hx hb dL_law_1415 ?_
  refine va_sld hx hb hXs hbl hbB hS hin.2.1 dL_law_1416 ?_
  refine lv_aload_n hx hb dL_law_1417 rfl (lv_at hl 4 rfl) ?_
  refine lv_iload hx hb dL_law_1418 (lv_at hl 0 rfl) ?_
  refine lv_iconst (v := (3 : Int32)) hx hb dL_law_1420 (by decide +kernel) ?_
  refine lv_iadd hx hb dL_law_1421 ?_
  refine va_sld hx hb hXs hbl hbB hS hin.2.2.1 dL_law_1422 ?_
  refine z_runi (va_runV (As := [.int (xs (i + 1).toNatClampNeg), .int (xs (i + 2).toNatClampNeg), .int (xs (i + 3).toNatClampNeg)]) (rest := [.int r]) ⟨hx, hb, hml, hown, hg⟩ (c_X12_put l D cy B hay h2) (z_cwV hg zw_1432 zw_1433 zw_1434 zw_13 zw_1435 zh_X12_put ⟨(Nat.le_of_ble_eq_true rfl), (Nat.le_of_ble_eq_true rfl)⟩) (zPV hC hM hay (by decide) rfl) rfl rfl hl.1 rfl (lv_room (Nat.le_of_ble_eq_true rfl)) dL_law_1423 ⟨(show cells + 0 + 0 ≤ 601024 by omega), (show slots + 0 + 0 ≤ 7293034 by omega)⟩) hS (fun H locs hM hX2 hS => ?_)
  refine lv_icmp_eq (tgt := 1621) hx hb dL_law_1426 (by decide) (fun _ => ?_) (fun hn => absurd rfl hn)
  refine W.widen (k := cells + 1) (n := slots + 6) (by omega) (by omega) ?_
  exact kk ls _ _ hl hM (hX1.tr hX2) hS
set_option maxHeartbeats 4000000 in
set_option maxRecDepth 100000 in
theorem L_35 {p : Program} {e : Env} {s : State} {m : MethodId} {args : Array Value} {below : List Frame} {meth : Method} {c : Code} {H : Heap} {locs : List Loc} {cells slots : Nat} {Q : State → Prop} {ls : Array Slot} {D : va_G} {cy : Nat → ClassId} {B b L : Nat} {xs : Nat → Int32} {x y o : Nat} {S S' : zM} {i : Int32} (l : Launch) (hst : l.stackTraces = false) (hx : p.tables.exec = Jvm.exec) (hb : c.code = cL_law) (hml : c.maxLocals = 8) (hown : s.vm.findClass RL = some m.cls) (hg : ∀ w ∈ zGW, w.before args s = true) (hC : zC D cy s) (hT : zT B s s.heap) (hXs : va_X b L xs s s.heap) (hbl : b < s.heap.size) (hbB : ¬ B < b) (hin : vp_in (i + 1) L ∧ vp_in (i + 2) L ∧ vp_in (i + 3) L ∧ vp_in (i + 4) L ∧ vp_in (i + 5) L) (hax : zA S x 11) (hay : zA S y 12) (hao : zA S o 21) (hl : lv_has ls 8 [(4, .int i), (3, .ref (B + o)), (2, .ref (B + y)), (1, .ref (B + x)), (0, .ref b)]) (hM : zMR D cy B S H) (hS : va_S (fun q => B < q) s.heap H locs) (hc1 : cells + 1 ≤ 601024) (hc2 : slots + 6 ≤ 7293034) (h : zs_35 x y (xs (i + 1).toNatClampNeg) (xs (i + 2).toNatClampNeg) (xs (i + 3).toNatClampNeg) (xs (i + 4).toNatClampNeg) (xs (i + 5).toNatClampNeg) S S') (kk : ∀ (ls : Array Slot) (H : Heap) (locs : List Loc), lv_has ls 8 [(4, .int i), (3, .ref (B + o)), (2, .ref (B + y)), (1, .ref (B + x)), (0, .ref b)] → zMR D cy B S' H → zX S S' → va_S (fun q => B < q) s.heap H locs → W p l e room_1 s m args below meth c H locs (cells + 1) (slots + 6) Q (F0 m 1621 ls [])) : W p l e room_1 s m args below meth c H locs cells slots Q (F0 m 1498 ls []) := by
  obtain ⟨r, n, S1, h1, h2⟩ := h
  refine lv_aload_n hx hb dL_law_1498 rfl (lv_at hl 3 rfl) ?_
  refine lv_aload_n hx hb dL_law_1499 rfl (lv_at hl 4 rfl) ?_
  refine lv_iload hx hb dL_law_1500 (lv_at hl 0 rfl) ?_
  refine lv_iconst (v := (1 : Int32)) hx hb dL_law_1502 (by decide +kernel) ?_
  refine lv_iadd hx hb dL_law_1503 ?_
  refine va_sld hx hb hXs hbl hbB hS hin.1 dL_law_1504 ?_
  refine lv_aload_n hx hb dL_law_1505 rfl (lv_at hl 4 rfl) ?_
  refine lv_iload hx hb dL_law_1506 (lv_at hl 0 rfl) ?_
  refine lv_iconst (v := (2 : Int32)) hx hb dL_law_1508 (by decide +kernel) ?_
  refine lv_iadd hx hb dL_law_1509 ?_
  refine va_sld hx hb hXs hbl hbB hS hin.2.1 dL_law_1510 ?_
  refine lv_aload_n hx hb dL_law_1511 rfl (lv_at hl 4 rfl) ?_
  refine lv_iload hx hb dL_law_1512 (lv_at hl 0 rfl) ?_
  refine lv_iconst (v := (3 : Int32)) hx hb dL_law_1514 (by decide +kernel) ?_
  refine lv_iadd hx hb dL_law_1515 ?_
  refine va_sld hx hb hXs hbl hbB hS hin.2.2.1 dL_law_1516 ?_
  refine lv_aload_n hx hb dL_law_1517 rfl (lv_at hl 4 rfl) ?_
  refine lv_iload hx hb dL_law_1518 (lv_at hl 0 rfl) ?_
  refine lv_iconst (v := (4 : Int32)) hx hb dL_law_1520 (by decide +kernel) ?_
  refine lv_iadd hx hb dL_law_1521 ?_
  refine va_sld hx hb hXs hbl hbB hS hin.2.2.2.1 dL_law_1522 ?_
  refine lv_aload_n hx hb dL_law_1523 rfl (lv_at hl 4 rfl) ?_
  refine lv_iload hx hb dL_law_1524 (lv_at hl 0 rfl) ?_
  refine lv_iconst (v := (5 : Int32)) hx hb dL_law_1526 (by decide +kernel) ?_
  refine lv_iadd hx hb dL_law_1527 ?_
  refine va_sld hx hb hXs hbl hbB hS hin.2.2.2.2 dL_law_1528 ?_
  refine z_runi (va_runV (As := [.int (xs (i + 1).toNatClampNeg), .int (xs (i + 2).toNatClampNeg), .int (xs (i + 3).toNatClampNeg), .int (xs (i + 4).toNatClampNeg), .int (xs (i + 5).toNatClampNeg)]) (rest := []) ⟨hx, hb, hml, hown, hg⟩ (c_X11_copy l D cy B hax h1) (z_cwV hg zw_867 zw_868 zw_869 zw_2 zw_870 zh_X11_copy ⟨(Nat.le_of_ble_eq_true rfl), (Nat.le_of_ble_eq_true rfl)⟩) (zPV hC hM hax (by decide) rfl) rfl rfl hl.1 rfl (lv_room (Nat.le_of_ble_eq_true rfl)) dL_law_1529 ⟨Nat.le_trans (Nat.add_le_add_left (show 0 ≤ 1 by decide) _) hc1, Nat.le_trans (Nat.add_le_add_left (show 0 ≤ 6 by decide) _) hc2⟩) hS (fun H locs hM hX1 hS => ?_)
  have hax := hax.mo hX1
  have hay := hay.mo hX1
  refine lv_aload_n hx hb dL_law_1532 rfl (lv_at hl 2 rfl) ?_
  refine lv_aload_n hx hb dL_law_1533 rfl (lv_at hl 4 rfl) ?_
  refine lv_iload hx hb dL_law_1534 (lv_at hl 0 rfl) ?_
  refine lv_iconst (v := (1 : Int32)) hx hb dL_law_1536 (by decide +kernel) ?_
  refine lv_iadd hx hb dL_law_1537 ?_
  refine va_sld hx hb hXs hbl hbB hS hin.1 dL_law_1538 ?_
  refine lv_aload_n hx hb dL_law_1539 rfl (lv_at hl 4 rfl) ?_
  refine lv_iload hx hb dL_law_1540 (lv_at hl 0 rfl) ?_
  refine lv_iconst (v := (2 : Int32)) hx hb dL_law_1542 (by decide +kernel) ?_
  refine lv_iadd hx hb dL_law_1543 ?_
  refine va_sld hx hb hXs hbl hbB hS hin.2.1 dL_law_1544 ?_
  refine lv_aload_n hx hb dL_law_1545 rfl (lv_at hl 4 rfl) ?_
  refine lv_iload hx hb dL_law_1546 (lv_at hl 0 rfl) ?_
  refine lv_iconst (v := (3 : Int32)) hx hb dL_law_1548 (by decide +kernel) ?_
  refine lv_iadd hx hb dL_law_1549 ?_
  refine va_sld hx hb hXs hbl hbB hS hin.2.2.1 dL_law_1550 ?_
  refine lv_aload_n hx hb dL_law_1551 rfl (lv_at hl 4 rfl) ?_
  refine lv_iload hx hb dL_law_1552 (lv_at hl 0 rfl) ?_
  refine lv_iconst (v := (4 : Int32)) hx hb dL_law_1554 (by decide +kernel) ?_
  refine lv_iadd hx hb dL_law_1555 ?_
  refine va_sld hx hb hXs hbl hbB hS hin.2.2.2.1 dL_law_1556 ?_
  refine lv_aload_n hx hb dL_law_1557 rfl (lv_at hl 4 rfl) ?_
  refine lv_iload hx hb dL_law_1558 (lv_at hl 0 rfl) ?_
  refine lv_iconst (v := (5 : Int32)) hx hb dL_law_1560 (by decide +kernel) ?_
  refine lv_iadd hx hb dL_law_1561 ?_
  refine va_sld hx hb hXs hbl hbB hS hin.2.2.2.2 dL_law_1562 ?_
  refine z_runi (va_runV (As := [.int (xs (i + 1).toNatClampNeg), .int (xs (i + 2).toNatClampNeg), .int (xs (i + 3).toNatClampNeg), .int (xs (i + 4).toNatClampNeg), .int (xs (i + 5).toNatClampNeg)]) (rest := [.int r]) ⟨hx, hb, hml, hown, hg⟩ (c_X12_copy l D cy B hay h2) (z_cwV hg zw_1440 zw_1441 zw_1442 zw_13 zw_1443 zh_X12_copy ⟨(Nat.le_of_ble_eq_true rfl), (Nat.le_of_ble_eq_true rfl)⟩) (zPV hC hM hay (by decide) rfl) rfl rfl hl.1 rfl (lv_room (Nat.le_of_ble_eq_true rfl)) dL_law_1563 ⟨(show cells + 0 + 0 ≤ 601024 by omega), (show slots + 0 + 0 ≤ 7293034 by omega)⟩) hS (fun H locs hM hX2 hS => ?_)
  refine lv_icmp_eq (tgt := 1621) hx hb dL_law_1566 (by decide) (fun _ => ?_) (fun hn => absurd rfl hn)
  refine W.widen (k := cells + 1) (n := slots + 6) (by omega) (by omega) ?_
  exact kk ls _ _ hl hM (hX1.tr hX2) hS
set_option maxHeartbeats 4000000 in
set_option maxRecDepth 100000 in
theorem L_36 {p : Program} {e : Env} {s : State} {m : MethodId} {args : Array Value} {below : List Frame} {meth : Method} {c : Code} {H : Heap} {locs : List Loc} {cells slots : Nat} {Q : State → Prop} {ls : Array Slot} {D : va_G} {cy : Nat → ClassId} {B b L : Nat} {xs : Nat → Int32} {x y o : Nat} {S S' : zM} {i : Int32} (l : Launch) (hst : l.stackTraces = false) (hx : p.tables.exec = Jvm.exec) (hb : c.code = cL_law) (hml : c.maxLocals = 8) (hown : s.vm.findClass RL = some m.cls) (hg : ∀ w ∈ zGW, w.before args s = true) (hC : zC D cy s) (hT : zT B s s.heap) (hXs : va_X b L xs s s.heap) (hbl : b < s.heap.size) (hbB : ¬ B < b) (hin : vp_in (i + 1) L ∧ vp_in (i + 2) L ∧ vp_in (i + 3) L ∧ vp_in (i + 4) L ∧ vp_in (i + 5) L) (hax : zA S x 11) (hay : zA S y 12) (hao : zA S o 21) (hl : lv_has ls 8 [(4, .int i), (3, .ref (B + o)), (2, .ref (B + y)), (1, .ref (B + x)), (0, .ref b)]) (hM : zMR D cy B S H) (hS : va_S (fun q => B < q) s.heap H locs) (hc1 : cells + 1 ≤ 601024) (hc2 : slots + 6 ≤ 7293034) (h : zs_36 x y (xs (i + 1).toNatClampNeg) (xs (i + 2).toNatClampNeg) (xs (i + 3).toNatClampNeg) (xs (i + 4).toNatClampNeg) (xs (i + 5).toNatClampNeg) S S') (kk : ∀ (ls : Array Slot) (H : Heap) (locs : List Loc), lv_has ls 8 [(4, .int i), (3, .ref (B + o)), (2, .ref (B + y)), (1, .ref (B + x)), (0, .ref b)] → zMR D cy B S' H → zX S S' → va_S (fun q => B < q) s.heap H locs → W p l e room_1 s m args below meth c H locs (cells + 1) (slots + 6) Q (F0 m 1621 ls [])) : W p l e room_1 s m args below meth c H locs cells slots Q (F0 m 1571 ls []) := by
  obtain ⟨r, h1, h2, rfl⟩ := h
  refine lv_aload_n hx hb dL_law_1571 rfl (lv_at hl 3 rfl) ?_
  refine lv_aload_n hx hb dL_law_1572 rfl (lv_at hl 4 rfl) ?_
  refine lv_iload hx hb dL_law_1573 (lv_at hl 0 rfl) ?_
  refine lv_iconst (v := (1 : Int32)) hx hb dL_law_1575 (by decide +kernel) ?_
  refine lv_iadd hx hb dL_law_1576 ?_
  refine va_sld hx hb hXs hbl hbB hS hin.1 dL_law_1577 ?_
  refine z_runi (va_runV (As := [.int (xs (i + 1).toNatClampNeg)]) (rest := []) ⟨hx, hb, hml, hown, hg⟩ (c_X11_weight l D cy B hax h1) (z_cwV hg zw_880 zw_881 zw_882 zw_2 zw_883 zh_X11_weight ⟨(Nat.le_of_ble_eq_true rfl), (Nat.le_of_ble_eq_true rfl)⟩) (zPV hC hM hax (by decide) rfl) rfl rfl hl.1 rfl (lv_room (Nat.le_of_ble_eq_true rfl)) dL_law_1578 ⟨Nat.le_trans (Nat.add_le_add_left (show 0 ≤ 1 by decide) _) hc1, Nat.le_trans (Nat.add_le_add_left (show 0 ≤ 6 by decide) _) hc2⟩) hS (fun H locs hM hX1 hS => ?_)
  have hax := hax.mo hX1
  have hay := hay.mo hX1
  refine lv_aload_n hx hb dL_law_1581 rfl (lv_at hl 2 rfl) ?_
  refine lv_aload_n hx hb dL_law_1582 rfl (lv_at hl 4 rfl) ?_
  refine lv_iload hx hb dL_law_1583 (lv_at hl 0 rfl) ?_
  refine lv_iconst (v := (1 : Int32)) hx hb dL_law_1585 (by decide +kernel) ?_
  refine lv_iadd hx hb dL_law_1586 ?_
  refine va_sld hx hb hXs hbl hbB hS hin.1 dL_law_1587 ?_
  refine z_runi (va_runV (As := [.int (xs (i + 1).toNatClampNeg)]) (rest := [.int r]) ⟨hx, hb, hml, hown, hg⟩ (c_X12_weight l D cy B hay h2) (z_cwV hg zw_1444 zw_1445 zw_1446 zw_13 zw_1447 zh_X12_weight ⟨(Nat.le_of_ble_eq_true rfl), (Nat.le_of_ble_eq_true rfl)⟩) (zPV hC hM hay (by decide) rfl) rfl rfl hl.1 rfl (lv_room (Nat.le_of_ble_eq_true rfl)) dL_law_1588 ⟨(show cells + 0 + 0 ≤ 601024 by omega), (show slots + 0 + 0 ≤ 7293034 by omega)⟩) hS (fun H locs hM hX2 hS => ?_)
  refine lv_icmp_eq (tgt := 1621) hx hb dL_law_1591 (by decide) (fun _ => ?_) (fun hn => absurd rfl hn)
  refine W.widen (k := cells + 1) (n := slots + 6) (by omega) (by omega) ?_
  exact kk ls _ _ hl hM (hX1.tr hX2) hS
set_option maxHeartbeats 4000000 in
set_option maxRecDepth 100000 in
theorem L_37 {p : Program} {e : Env} {s : State} {m : MethodId} {args : Array Value} {below : List Frame} {meth : Method} {c : Code} {H : Heap} {locs : List Loc} {cells slots : Nat} {Q : State → Prop} {ls : Array Slot} {D : va_G} {cy : Nat → ClassId} {B b L : Nat} {xs : Nat → Int32} {x y o : Nat} {S S' : zM} {i : Int32} (l : Launch) (hst : l.stackTraces = false) (hx : p.tables.exec = Jvm.exec) (hb : c.code = cL_law) (hml : c.maxLocals = 8) (hown : s.vm.findClass RL = some m.cls) (hg : ∀ w ∈ zGW, w.before args s = true) (hC : zC D cy s) (hT : zT B s s.heap) (hXs : va_X b L xs s s.heap) (hbl : b < s.heap.size) (hbB : ¬ B < b) (hin : vp_in (i + 1) L ∧ vp_in (i + 2) L ∧ vp_in (i + 3) L ∧ vp_in (i + 4) L ∧ vp_in (i + 5) L) (hax : zA S x 11) (hay : zA S y 12) (hao : zA S o 21) (hl : lv_has ls 8 [(4, .int i), (3, .ref (B + o)), (2, .ref (B + y)), (1, .ref (B + x)), (0, .ref b)]) (hM : zMR D cy B S H) (hS : va_S (fun q => B < q) s.heap H locs) (hc1 : cells + 1 ≤ 601024) (hc2 : slots + 6 ≤ 7293034) (h : zs_37 x y (xs (i + 1).toNatClampNeg) (xs (i + 2).toNatClampNeg) (xs (i + 3).toNatClampNeg) (xs (i + 4).toNatClampNeg) (xs (i + 5).toNatClampNeg) S S') (kk : ∀ (ls : Array Slot) (H : Heap) (locs : List Loc), lv_has ls 8 [(4, .int i), (3, .ref (B + o)), (2, .ref (B + y)), (1, .ref (B + x)), (0, .ref b)] → zMR D cy B S' H → zX S S' → va_S (fun q => B < q) s.heap H locs → W p l e room_1 s m args below meth c H locs (cells + 1) (slots + 6) Q (F0 m 1621 ls [])) : W p l e room_1 s m args below meth c H locs cells slots Q (F0 m 1596 ls []) := by
  obtain ⟨r, h1, h2⟩ := h
  refine lv_aload_n hx hb dL_law_1596 rfl (lv_at hl 3 rfl) ?_
  refine lv_aload_n hx hb dL_law_1597 rfl (lv_at hl 4 rfl) ?_
  refine lv_iload hx hb dL_law_1598 (lv_at hl 0 rfl) ?_
  refine lv_iconst (v := (1 : Int32)) hx hb dL_law_1600 (by decide +kernel) ?_
  refine lv_iadd hx hb dL_law_1601 ?_
  refine va_sld hx hb hXs hbl hbB hS hin.1 dL_law_1602 ?_
  refine z_runi (va_runV (As := [.int (xs (i + 1).toNatClampNeg)]) (rest := []) ⟨hx, hb, hml, hown, hg⟩ (c_X11_toss l hst D cy B hax h1) (z_cwV hg zw_892 zw_893 zw_894 zw_2 zw_895 zh_X11_toss ⟨(Nat.le_of_ble_eq_true rfl), (Nat.le_of_ble_eq_true rfl)⟩) (zPVt hC hM (hT.kp hS.2.1) hax (by decide) rfl) rfl rfl hl.1 rfl (lv_room (Nat.le_of_ble_eq_true rfl)) dL_law_1603 ⟨Nat.le_trans (Nat.add_le_add_left (show 1 ≤ 1 by decide) _) hc1, Nat.le_trans (Nat.add_le_add_left (show 6 ≤ 6 by decide) _) hc2⟩) hS (fun H locs hM hX1 hS => ?_)
  have hax := hax.mo hX1
  have hay := hay.mo hX1
  refine lv_aload_n hx hb dL_law_1606 rfl (lv_at hl 2 rfl) ?_
  refine lv_aload_n hx hb dL_law_1607 rfl (lv_at hl 4 rfl) ?_
  refine lv_iload hx hb dL_law_1608 (lv_at hl 0 rfl) ?_
  refine lv_iconst (v := (1 : Int32)) hx hb dL_law_1610 (by decide +kernel) ?_
  refine lv_iadd hx hb dL_law_1611 ?_
  refine va_sld hx hb hXs hbl hbB hS hin.1 dL_law_1612 ?_
  refine z_runi (va_runV (As := [.int (xs (i + 1).toNatClampNeg)]) (rest := [.int r]) ⟨hx, hb, hml, hown, hg⟩ (c_X12_toss l D cy B hay h2) (z_cwV hg zw_1451 zw_1452 zw_1453 zw_13 zw_1454 zh_X12_toss ⟨(Nat.le_of_ble_eq_true rfl), (Nat.le_of_ble_eq_true rfl)⟩) (zPV hC hM hay (by decide) rfl) rfl rfl hl.1 rfl (lv_room (Nat.le_of_ble_eq_true rfl)) dL_law_1613 ⟨(show cells + 1 + 0 ≤ 601024 by omega), (show slots + 6 + 0 ≤ 7293034 by omega)⟩) hS (fun H locs hM hX2 hS => ?_)
  refine lv_icmp_eq (tgt := 1621) hx hb dL_law_1616 (by decide) (fun _ => ?_) (fun hn => absurd rfl hn)
  refine W.widen (k := cells + 1) (n := slots + 6) (by omega) (by omega) ?_
  exact kk ls _ _ hl hM (hX1.tr hX2) hS
set_option maxHeartbeats 4000000 in
set_option maxRecDepth 100000 in
theorem L_34 {p : Program} {e : Env} {s : State} {m : MethodId} {args : Array Value} {below : List Frame} {meth : Method} {c : Code} {H : Heap} {locs : List Loc} {cells slots : Nat} {Q : State → Prop} {ls : Array Slot} {D : va_G} {cy : Nat → ClassId} {B b L : Nat} {xs : Nat → Int32} {x y o : Nat} {S S' : zM} {i : Int32} (l : Launch) (hst : l.stackTraces = false) (hx : p.tables.exec = Jvm.exec) (hb : c.code = cL_law) (hml : c.maxLocals = 8) (hown : s.vm.findClass RL = some m.cls) (hg : ∀ w ∈ zGW, w.before args s = true) (hC : zC D cy s) (hT : zT B s s.heap) (hXs : va_X b L xs s s.heap) (hbl : b < s.heap.size) (hbB : ¬ B < b) (hin : vp_in (i + 1) L ∧ vp_in (i + 2) L ∧ vp_in (i + 3) L ∧ vp_in (i + 4) L ∧ vp_in (i + 5) L) (hax : zA S x 11) (hay : zA S y 12) (hao : zA S o 21) (hl : lv_has ls 8 [(4, .int i), (3, .ref (B + o)), (2, .ref (B + y)), (1, .ref (B + x)), (0, .ref b)]) (hM : zMR D cy B S H) (hS : va_S (fun q => B < q) s.heap H locs) (hc1 : cells + 1 ≤ 601024) (hc2 : slots + 6 ≤ 7293034) (h : zs_34 x y o (xs (i + 1).toNatClampNeg) (xs (i + 2).toNatClampNeg) (xs (i + 3).toNatClampNeg) (xs (i + 4).toNatClampNeg) (xs (i + 5).toNatClampNeg) S S') (kk : ∀ (ls : Array Slot) (H : Heap) (locs : List Loc), lv_has ls 8 [(4, .int i), (3, .ref (B + o)), (2, .ref (B + y)), (1, .ref (B + x)), (0, .ref b)] → zMR D cy B S' H → zX S S' → va_S (fun q => B < q) s.heap H locs → W p l e room_1 s m args below meth c H locs (cells + 1) (slots + 6) Q (F0 m 1621 ls [])) : W p l e room_1 s m args below meth c H locs cells slots Q (F0 m 1431 ls []) := by
  obtain ⟨w, q, S1, h1, h2, h3, h4⟩ := h
  refine lv_aload_n hx hb dL_law_1431 rfl (lv_at hl 3 rfl) ?_
  refine lv_aload_n hx hb dL_law_1432 rfl (lv_at hl 4 rfl) ?_
  refine lv_iload hx hb dL_law_1433 (lv_at hl 0 rfl) ?_
  refine lv_iconst (v := (1 : Int32)) hx hb dL_law_1435 (by decide +kernel) ?_
  refine lv_iadd hx hb dL_law_1436 ?_
  refine va_sld hx hb hXs hbl hbB hS hin.1 dL_law_1437 ?_
  refine lv_aload_n hx hb dL_law_1438 rfl (lv_at hl 4 rfl) ?_
  refine lv_iload hx hb dL_law_1439 (lv_at hl 0 rfl) ?_
  refine lv_iconst (v := (2 : Int32)) hx hb dL_law_1441 (by decide +kernel) ?_
  refine lv_iadd hx hb dL_law_1442 ?_
  refine va_sld hx hb hXs hbl hbB hS hin.2.1 dL_law_1443 ?_
  refine lv_aload_n hx hb dL_law_1444 rfl (lv_at hl 1 rfl) ?_
  refine z_runi (zrunX (vx_runSX (As := [.ref (B + x), .int (xs (i + 1).toNatClampNeg), .int (xs (i + 2).toNatClampNeg), .ref (B + o)]) (rest := []) ⟨hx, hb, hml, hown, hg⟩ (c_L_element l hst D cy B hax hao h1) (z_cwSW hg zw_967 zw_968 zw_1 zw_969 zh_L_element.2 ⟨(Nat.le_of_ble_eq_true rfl), (Nat.le_of_ble_eq_true rfl)⟩) (zPSt hC hM (hT.kp hS.2.1)) rfl rfl hl.1 rfl (lv_room (Nat.le_of_ble_eq_true rfl)) dL_law_1445 ⟨Nat.le_trans (Nat.add_le_add_left (show 1 ≤ 1 by decide) _) hc1, Nat.le_trans (Nat.add_le_add_left (show 6 ≤ 6 by decide) _) hc2⟩)) hS (fun H locs hM hX1 hS => ?_)
  have hax := hax.mo hX1
  have hay := hay.mo hX1
  have hao := hao.mo hX1
  refine lv_istore (i := 5) (lv' := [(5, .int w), (4, .int i), (3, .ref (B + o)), (2, .ref (B + y)), (1, .ref (B + x)), (0, .ref b)]) hx hb dL_law_1448 hl (by decide) rfl (fun ls hl => ?_)
  refine lv_aload_n hx hb dL_law_1450 rfl (lv_at hl 3 rfl) ?_
  refine lv_aload_n hx hb dL_law_1451 rfl (lv_at hl 5 rfl) ?_
  refine lv_iload hx hb dL_law_1452 (lv_at hl 1 rfl) ?_
  refine lv_iconst (v := (1 : Int32)) hx hb dL_law_1454 (by decide +kernel) ?_
  refine lv_iadd hx hb dL_law_1455 ?_
  refine va_sld hx hb hXs hbl hbB hS hin.1 dL_law_1456 ?_
  refine lv_aload_n hx hb dL_law_1457 rfl (lv_at hl 5 rfl) ?_
  refine lv_iload hx hb dL_law_1458 (lv_at hl 1 rfl) ?_
  refine lv_iconst (v := (2 : Int32)) hx hb dL_law_1460 (by decide +kernel) ?_
  refine lv_iadd hx hb dL_law_1461 ?_
  refine va_sld hx hb hXs hbl hbB hS hin.2.1 dL_law_1462 ?_
  refine z_runl (va_runV (As := [.int (xs (i + 1).toNatClampNeg), .int (xs (i + 2).toNatClampNeg)]) (rest := []) ⟨hx, hb, hml, hown, hg⟩ (c_X12_element l D cy B hay h2) (z_cwV hg zw_1436 zw_1437 zw_1438 zw_13 zw_1439 zh_X12_element ⟨(Nat.le_of_ble_eq_true rfl), (Nat.le_of_ble_eq_true rfl)⟩) (zPV hC hM hay (by decide) rfl) rfl rfl hl.1 rfl (lv_room (Nat.le_of_ble_eq_true rfl)) dL_law_1463 ⟨show cells + 1 + 0 ≤ 601024 from hc1, show slots + 6 + 0 ≤ 7293034 from hc2⟩) hS (fun H locs hM hX2 hS => ?_)
  have hay := hay.mo hX2
  have hao := hao.mo hX2
  refine lv_lstore (i := 6) (lv' := [(6, .long q), (5, .int w), (4, .int i), (3, .ref (B + o)), (2, .ref (B + y)), (1, .ref (B + x)), (0, .ref b)]) hx hb dL_law_1466 hl (by decide) rfl (fun ls hl => ?_)
  refine lv_aload_n hx hb dL_law_1468 rfl (lv_at hl 4 rfl) ?_
  refine z_runi (va_runV (As := []) (rest := []) ⟨hx, hb, hml, hown, hg⟩ (c_X12_thrown l D cy B hay h3) (z_cwV hg zw_1102 zw_1103 zw_1104 zw_13 zw_1105 zh_X12_thrown ⟨(Nat.le_of_ble_eq_true rfl), (Nat.le_of_ble_eq_true rfl)⟩) (zPV hC hM hay (by decide) rfl) rfl rfl hl.1 rfl (lv_room (Nat.le_of_ble_eq_true rfl)) dL_law_1469 ⟨show cells + 1 + 0 ≤ 601024 from hc1, show slots + 6 + 0 ≤ 7293034 from hc2⟩) hS (fun H locs hM hX3 hS => ?_)
  refine lv_iload hx hb dL_law_1472 (lv_at hl 1 rfl) ?_
  refine lv_icmp_eq (tgt := 1479) hx hb dL_law_1474 (by decide) (fun _ => ?_) (fun hn => absurd rfl hn)
  refine lv_iload hx hb dL_law_1479 (lv_at hl 1 rfl) ?_
  refine lv_if_ne (tgt := 1495) hx hb dL_law_1481 (by decide) (fun hw => ?_) (fun hw => ?_)
  · refine lv_goto (tgt := 1621) hx hb dL_law_1495 (by decide) ?_
    exact kk ls _ _ (lv_sub hl [2, 3, 4, 5, 6] rfl) hM (hX1.tr hX2) hS
  · obtain ⟨h5, h6⟩ := h4 hw
    refine lv_aload_n hx hb dL_law_1484 rfl (lv_at hl 3 rfl) ?_
    refine lv_iconst (v := (0 : Int32)) hx hb dL_law_1485 (by decide +kernel) ?_
    refine z_lald hx hb hC.1 hM hao (i := 0) (fun h => h.elim (by decide) h6) dL_law_1486 ?_
    refine lv_lload hx hb dL_law_1487 (lv_at hl 0 rfl) ?_
    refine W.lcmp hx hb dL_law_1489 ?_
    refine lv_if_eq (tgt := 1495) hx hb dL_law_1490 (by decide) (fun _ => ?_) (fun hn => absurd (by rw [show zl S' o (Int32.toNatClampNeg 0) = q from h5]; exact zlcmp q) hn)
    refine lv_goto (tgt := 1621) hx hb dL_law_1495 (by decide) ?_
    exact kk ls _ _ (lv_sub hl [2, 3, 4, 5, 6] rfl) hM (hX1.tr hX2) hS
