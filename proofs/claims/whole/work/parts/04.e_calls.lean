/-! a method's start and end, calls, over that memory -/
/-- private methods of an abstract class of ours, on an object of a class below it (the tables have no 'selects' of them) -/
def zSel : List (String × MethodName) := [(RX3, yX0_gainAt), (RX4, yX0_gainAt), (RX3, yX0_waysFrom), (RX4, yX0_waysFrom)]
theorem zselp {args : Array Value} {s : State} {C : String} {x' y' y : MethodName} (hy : y.cls ≠ "java/lang/invoke/MethodHandle" ∧ y.cls ≠ "java/lang/invoke/VarHandle") (hpriv : (Cond.privateMethod y).before args s = true) (hinst : (Cond.instanceMethod y).before args s = true) (hsel : (Cond.selects C x' y').before args s = true) (hcl : y'.cls = y.cls) : (Cond.selects C y y).before args s = true := by
  obtain ⟨c, r2, m2, hc, -, hm2, -, k, hk, hni⟩ := Cond.selects_spec hsel
  obtain ⟨mk, methM, hnamed, hmethM, -, -⟩ := Cond.instanceMethod_spec hinst
  have hfound : s.methodFound? y.cls y.name y.desc = some mk := State.methodFound?_of_named hnamed hy
  have hcls : mk.cls = m2.cls := by
    have h1 := findClass_of_methodNamed hnamed
    have h2 := findClass_of_methodNamed hm2
    rw [hcl] at h2
    exact Option.some.inj (h1.symm.trans h2)
  have hs : selectMethod {} s.vm c mk = .method mk := selectMethod_private hmethM (Cond.privateMethod_at hpriv mk methM hnamed hmethM)
  simp only [Cond.before, Cond.holds, Cond.value, hc, hfound, hnamed, hs, hcls, hk]
  simp; exact hni
def zC (D : va_G) (cy : Nat → ClassId) (U : State) : Prop := va_K D vwCl (ztys cy) U ∧ (∀ w ∈ zNM, va_Nw (.methodLinkNest w.1 w.2.1 w.2.2.1 w.2.2.2) U) ∧ (∀ x ∈ zDc, va_Nw (.declares x) U) ∧ (∀ C ∈ zAO, va_AO C U) ∧ ∀ q ∈ zSel, va_Nw (.selects q.1 q.2 q.2) U
theorem zC.mo {D : va_G} {cy : Nat → ClassId} {s U : State} (h : zC D cy s) (hW : s.WarmedH U.vm) : zC D cy U := ⟨va_K.moved hW.alike h.1, fun w hw => va_Nw.warmM hW (h.2.1 w hw), fun x hx => va_Nw.warmD hW (h.2.2.1 x hx), fun C hC => (h.2.2.2.1 C hC).moved hW.alike, fun q hq => word_at hW (Or.inl rfl) (h.2.2.2.2 q hq)⟩
theorem zC.call {D : va_G} {cy : Nat → ClassId} {U : State} (h : zC D cy U) (g : JFrame) (mk : MethodId) (a : Array Value) : zC D cy (U.calling g mk a) :=
  ⟨va_K.moved (u := U) (U := U.calling g mk a) (Vm.Alike.refl U.vm) h.1, fun w hw => va_Nw.same rfl rfl (h.2.1 w hw), fun x hx => va_Nw.same rfl rfl (h.2.2.1 x hx), fun C hC => (h.2.2.2.1 C hC).moved (U := U.calling g mk a) (Vm.Alike.refl U.vm), fun q hq => va_Nw.same rfl rfl (h.2.2.2.2 q hq)⟩
def zPc (D : va_G) (cy : Nat → ClassId) (B : Nat) (S : zM) (av : List Value) : Array Value → State → Prop := va_Pc av (fun U => zC D cy U ∧ zMR D cy B S U.heap)
theorem zblind {D : va_G} {cy : Nat → ClassId} {B : Nat} {S : zM} {av : List Value} : FrameBlind (zPc D cy B S av) := fun a U g mk q => ⟨q.1, q.2.1.call g mk a, q.2.2⟩
abbrev zQi (D : va_G) (cy : Nat → ClassId) (B : Nat) (S : zM) (r : Int32) (S1 : zM) : Array Value → State → Outcome → State → Prop := va_Qi (fun (q : Int32) (u : zM) => q = r ∧ u = S1 ∧ zX S S1) (fun u t => zMR D cy B u t.heap) (fun q => B < q)
abbrev zQl (D : va_G) (cy : Nat → ClassId) (B : Nat) (S : zM) (r : Int64) (S1 : zM) : Array Value → State → Outcome → State → Prop := va_Ql (fun (q : Int64) (u : zM) => q = r ∧ u = S1 ∧ zX S S1) (fun u t => zMR D cy B u t.heap) (fun q => B < q)
abbrev zQv (D : va_G) (cy : Nat → ClassId) (B : Nat) (S : zM) (S1 : zM) : Array Value → State → Outcome → State → Prop := va_Qv (fun (u : zM) => u = S1 ∧ zX S S1) (fun u t => zMR D cy B u t.heap) (fun q => B < q)
abbrev zQr (D : va_G) (cy : Nat → ClassId) (B : Nat) (S : zM) (k : Nat) (r : Nat) (S1 : zM) : Array Value → State → Outcome → State → Prop := va_Qq (fun (q : Option Nat) (u : zM) => q = zgO B r ∧ u = S1 ∧ zX S S1 ∧ zQ S1 r k) (fun u t => zMR D cy B u t.heap) (fun q => B < q)
/-- a method's words: its own code, and all good words of the tables -/
abbrev zws (y : MethodName) (b : ByteArray) (n : Nat) (r : Option FieldType) : List Cond := Cond.code y b n r :: zGW
theorem zGood {ws : List Cond} (h : ∀ w ∈ ws, w ∈ zGW) : GoodIn zGW ws := fun w hw => ⟨h w hw, good_of_word (zGW_good w (h w hw))⟩
theorem zws_in {y : MethodName} {b : ByteArray} {n : Nat} {r : Option FieldType} (h : Cond.code y b n r ∈ zGW) : ∀ w ∈ zws y b n r, w ∈ zGW := fun w hw => (List.mem_cons.mp hw).elim (fun e => e ▸ h) id
section ZC
variable {p : Program} {l : Launch} {e : Env} {R : Room} {s : State} {m : MethodId} {args : Array Value} {below : List Frame} {meth : Method} {c : Code} {H : Heap} {locs : List Loc} {cells slots : Nat} {Q : State → Prop}
variable {cc : ByteArray} {pc : Nat} {ls : Array Slot} {rest st0 : List Value} {D : va_G} {cy : Nat → ClassId} {B : Nat} {S S0 S1 : zM} {H0 : Heap} {mc ms : Nat} {aa : Array Value}
theorem z_cwV {own C : String} {index maxL n : Nat} {y : MethodName} {bytes : ByteArray} {ret : Option FieldType} {rm : Room} (ht : ∀ w ∈ zGW, w.before args s = true) (h1 : Cond.methodLink own index y ∈ zGW) (h2 : Cond.instanceMethod y ∈ zGW) (h3 : Cond.selects C y y ∈ zGW) (h4 : Cond.initialized C ∈ zGW) (h5 : Cond.code y bytes maxL ret ∈ zGW)
    (hd : y.cls = C ∧ y.cls ≠ "java/lang/invoke/MethodHandle" ∧ y.cls ≠ "java/lang/invoke/VarHandle" ∧ (parseMethodDescriptor y.desc).map (fun d => d.parameters.length) = some n) (hR : rm.frames + 1 ≤ R.frames ∧ 8 + (maxL + 11) + rm.locals ≤ R.locals) : CallW R s args own C index y bytes maxL ret (zws y bytes maxL ret) rm rm.cells rm.slots n :=
  cwV n ht (zGood fun w hw => by
    unfold wsV at hw
    simp only [List.mem_append, List.mem_cons, List.not_mem_nil, or_false] at hw
    rcases hw with (h | h | h | h) | h | h
    · rw [h]; exact h1
    · rw [h]; exact h2
    · rw [h]; exact h3
    · rw [h]; exact h4
    · rw [h]; exact h5
    · exact h) rfl rfl rfl hd hR
theorem z_cwS {own : String} {index maxL n : Nat} {y : MethodName} {bytes : ByteArray} {ret : Option FieldType} {rm : Room} (ht : ∀ w ∈ zGW, w.before args s = true) (h1 : Cond.methodLink own index y ∈ zGW) (h2 : Cond.static y ∈ zGW) (h4 : Cond.initialized y.cls ∈ zGW) (h5 : Cond.code y bytes maxL ret ∈ zGW)
    (hd : y.cls ≠ "java/lang/invoke/MethodHandle" ∧ y.cls ≠ "java/lang/invoke/VarHandle" ∧ (parseMethodDescriptor y.desc).map (fun d => d.parameters.length) = some n) (hR : rm.frames + 1 ≤ R.frames ∧ 8 + (maxL + 11) + rm.locals ≤ R.locals) : CallB R s args own index y bytes maxL ret (zws y bytes maxL ret) rm rm.cells rm.slots n ∧ (Cond.static y).before args s = true :=
  va_cwS n ht (zGood fun w hw => by
    unfold va_wsS at hw
    simp only [List.mem_append, List.mem_cons, List.not_mem_nil, or_false] at hw
    rcases hw with (h | h | h) | h | h
    · rw [h]; exact h1
    · rw [h]; exact h2
    · rw [h]; exact h4
    · rw [h]; exact h5
    · exact h) rfl rfl rfl hd hR
theorem z_cwI {own : String} {index maxL n : Nat} {y : MethodName} {bytes : ByteArray} {rm : Room} (ht : ∀ w ∈ zGW, w.before args s = true) (h1 : Cond.methodLink own index y ∈ zGW) (h2 : Cond.instanceMethod y ∈ zGW) (h4 : Cond.initialized y.cls ∈ zGW) (h5 : Cond.code y bytes maxL none ∈ zGW) (hy1 : y.name = "<init>")
    (hd : y.cls ≠ "java/lang/invoke/MethodHandle" ∧ y.cls ≠ "java/lang/invoke/VarHandle" ∧ (parseMethodDescriptor y.desc).map (fun d => d.parameters.length) = some n) (hR : rm.frames + 1 ≤ R.frames ∧ 8 + (maxL + 11) + rm.locals ≤ R.locals) : CallB R s args own index y bytes maxL none (zws y bytes maxL none) rm rm.cells rm.slots n ∧ y.name = "<init>" ∧ (Cond.instanceMethod y).before args s = true :=
  cwI n ht (zGood (zws_in h5)) rfl rfl rfl (ht _ h4) (ht _ h1) (ht _ h2) hy1 hd hR
theorem z_cnB {own host : String} {index maxL n : Nat} {y : MethodName} {bytes : ByteArray} {ret : Option FieldType} {rm : Room} (ht : ∀ w ∈ zGW, w.before args s = true) (hC : zC D cy s) (hl : (own, index, y, host) ∈ zNM) (h4 : Cond.initialized y.cls ∈ zGW) (h5 : Cond.code y bytes maxL ret ∈ zGW)
    (hd : y.cls ≠ "java/lang/invoke/MethodHandle" ∧ y.cls ≠ "java/lang/invoke/VarHandle" ∧ (parseMethodDescriptor y.desc).map (fun d => d.parameters.length) = some n) (hR : rm.frames + 1 ≤ R.frames ∧ 8 + (maxL + 11) + rm.locals ≤ R.locals) : va_CN R s args own index y host bytes maxL ret (zws y bytes maxL ret) rm rm.cells rm.slots n :=
  va_cnB n ht (zGood (zws_in h5)) rfl rfl rfl (hC.2.1 _ hl) (ht _ h4) hd hR
theorem z_cwU {own C owner : String} {index maxL n : Nat} {x y : MethodName} {bytes : ByteArray} {ret : Option FieldType} {rm : Room} (ht : ∀ w ∈ zGW, w.before args s = true) (h1 : Cond.methodLink own index x ∈ zGW) (h2 : Cond.sameMethod x.cls owner x.name x.desc ∈ zGW) (h3 : Cond.selects C x y ∈ zGW) (h4 : Cond.instanceMethod y ∈ zGW) (h5 : Cond.initialized y.cls ∈ zGW) (h6 : Cond.code y bytes maxL ret ∈ zGW) (hyx : y = ⟨owner, x.name, x.desc⟩)
    (hd : owner ≠ "java/lang/invoke/MethodHandle" ∧ owner ≠ "java/lang/invoke/VarHandle" ∧ (parseMethodDescriptor x.desc).map (fun d => d.parameters.length) = some n) (hR : rm.frames + 1 ≤ R.frames ∧ 8 + (maxL + 11) + rm.locals ≤ R.locals) : va_CU R s args own C owner index x y bytes maxL ret (zws y bytes maxL ret) rm rm.cells rm.slots n :=
  va_cwU n ht (zGood fun w hw => by
    unfold va_wsU at hw
    simp only [List.mem_append, List.mem_cons, List.not_mem_nil, or_false] at hw
    rcases hw with (h | h | h | h | h) | h | h
    · rw [h]; exact h1
    · rw [h]; exact h2
    · rw [h]; exact h3
    · rw [h]; exact h4
    · rw [h]; exact h5
    · rw [h]; exact h6
    · exact h) rfl rfl rfl hyx hd hR
theorem z_cwP {own C owner : String} {index maxL n : Nat} {x y : MethodName} {bytes : ByteArray} {ret : Option FieldType} {rm : Room} (ht : ∀ w ∈ zGW, w.before args s = true) (hC : zC D cy s) (hs : (C, y) ∈ zSel) (h1 : Cond.methodLink own index x ∈ zGW) (h2 : Cond.sameMethod x.cls owner x.name x.desc ∈ zGW) (hxy : x = y) (h4 : Cond.instanceMethod y ∈ zGW) (h5 : Cond.initialized y.cls ∈ zGW) (h6 : Cond.code y bytes maxL ret ∈ zGW) (hyx : y = ⟨owner, x.name, x.desc⟩)
    (hd : owner ≠ "java/lang/invoke/MethodHandle" ∧ owner ≠ "java/lang/invoke/VarHandle" ∧ (parseMethodDescriptor x.desc).map (fun d => d.parameters.length) = some n) (hR : rm.frames + 1 ≤ R.frames ∧ 8 + (maxL + 11) + rm.locals ≤ R.locals) : va_CU R s args own C owner index x y bytes maxL ret (zws y bytes maxL ret) rm rm.cells rm.slots n := by
  refine ⟨⟨rfl, rfl, hR.1, hR.2, pay_in ht (zGood (zws_in h6)), List.mem_cons_self⟩, ht _ h6, ht _ h5, ⟨hd.1, hd.2.1⟩, fun sig h => ?_, ht _ h1, ht _ h2, by rw [← hyx]; exact va_Decl.of (ht _ h4) (ht _ h6), by rw [hxy]; exact va_Nw.use rfl (hC.2.2.2.2 _ hs), ht _ h4⟩
  have h2 := hd.2.2
  rw [h] at h2
  exact (Option.some.inj h2).symm
theorem z_cwA {own C owner : String} {index maxL n : Nat} {x y : MethodName} {bytes : ByteArray} {ret : Option FieldType} {rm : Room} (ht : ∀ w ∈ zGW, w.before args s = true) (hC : zC D cy s) (hz : (⟨owner, x.name, x.desc⟩ : MethodName) ∈ zDc) (h1 : Cond.methodLink own index x ∈ zGW) (h2 : Cond.sameMethod x.cls owner x.name x.desc ∈ zGW) (h3 : Cond.selects C x y ∈ zGW) (h4 : Cond.instanceMethod y ∈ zGW) (h5 : Cond.initialized y.cls ∈ zGW) (h6 : Cond.code y bytes maxL ret ∈ zGW)
    (hd : owner ≠ "java/lang/invoke/MethodHandle" ∧ owner ≠ "java/lang/invoke/VarHandle" ∧ (parseMethodDescriptor x.desc).map (fun d => d.parameters.length) = some n) (hR : rm.frames + 1 ≤ R.frames ∧ 8 + (maxL + 11) + rm.locals ≤ R.locals) : va_CU R s args own C owner index x y bytes maxL ret (zws y bytes maxL ret) rm rm.cells rm.slots n :=
  va_cwA n ht (zGood fun w hw => by
    unfold va_wsU at hw
    simp only [List.mem_append, List.mem_cons, List.not_mem_nil, or_false] at hw
    rcases hw with (h | h | h | h | h) | h | h
    · rw [h]; exact h1
    · rw [h]; exact h2
    · rw [h]; exact h3
    · rw [h]; exact h4
    · rw [h]; exact h5
    · rw [h]; exact h6
    · exact h) rfl rfl rfl (hC.2.2.1 _ hz) hd hR
/-- the start of a call on an object of ours, of a static method -/
theorem zPV {C : String} {T : u_T} {N a t : Nat} {As : List Value} (hC : zC D cy s) (hM : zMR D cy B S H) (ha : zA S a t) (hz : t ≠ 0 ∧ t ≤ 12) (hc : vwCl[t - 1]? = some (C, T, N)) : PreV s H C (B + a) (zPc D cy B S (.ref (B + a) :: As)) As :=
  ⟨zblind, va_recv hC.1 (hM.obj ha hz.1 hz.2) (q0 := 0) hc rfl, fun U hU hW => ⟨rfl, hC.mo hW, by rw [hU]; exact hM⟩⟩
theorem zPS {As : List Value} (hC : zC D cy s) (hM : zMR D cy B S H) : PreS s H (zPc D cy B S As) As :=
  ⟨zblind, fun U hU hW => ⟨rfl, hC.mo hW, by rw [hU]; exact hM⟩⟩
theorem z_runi {r : Int32} (hr : va_Run p l e R s m args below meth c H locs cells slots mc ms (F0 m pc ls st0) rest (zQi D cy B S r S1 aa) (fun q => B < q)) (hS : va_S (fun q => B < q) H0 H locs)
    (kk : ∀ (H1 : Heap) (locs1 : List Loc), zMR D cy B S1 H1 → zX S S1 → va_S (fun q => B < q) H0 H1 locs1 → W p l e R s m args below meth c H1 locs1 (cells + mc) (slots + ms) Q (F0 m (pc + 3) ls (.int r :: rest))) : W p l e R s m args below meth c H locs cells slots Q (F0 m pc ls st0) :=
  va_calli hr hS (fun q _ h => h) (fun q h => h) (fun r' u t H1 locs1 ht _ hp hB _ _ hS => by
    obtain ⟨rfl, rfl, hX⟩ := hp
    rw [ht] at hB
    exact kk H1 locs1 hB hX hS)
theorem z_runl {r : Int64} (hr : va_Run p l e R s m args below meth c H locs cells slots mc ms (F0 m pc ls st0) rest (zQl D cy B S r S1 aa) (fun q => B < q)) (hS : va_S (fun q => B < q) H0 H locs)
    (kk : ∀ (H1 : Heap) (locs1 : List Loc), zMR D cy B S1 H1 → zX S S1 → va_S (fun q => B < q) H0 H1 locs1 → W p l e R s m args below meth c H1 locs1 (cells + mc) (slots + ms) Q (F0 m (pc + 3) ls (.long r :: rest))) : W p l e R s m args below meth c H locs cells slots Q (F0 m pc ls st0) :=
  va_calll hr hS (fun q _ h => h) (fun q h => h) (fun r' u t H1 locs1 ht _ hp hB _ _ hS => by
    obtain ⟨rfl, rfl, hX⟩ := hp
    rw [ht] at hB
    exact kk H1 locs1 hB hX hS)
theorem z_runv (hr : va_Run p l e R s m args below meth c H locs cells slots mc ms (F0 m pc ls st0) rest (zQv D cy B S S1 aa) (fun q => B < q)) (hS : va_S (fun q => B < q) H0 H locs)
    (kk : ∀ (H1 : Heap) (locs1 : List Loc), zMR D cy B S1 H1 → zX S S1 → va_S (fun q => B < q) H0 H1 locs1 → W p l e R s m args below meth c H1 locs1 (cells + mc) (slots + ms) Q (F0 m (pc + 3) ls rest)) : W p l e R s m args below meth c H locs cells slots Q (F0 m pc ls st0) :=
  va_callv hr hS (fun q _ h => h) (fun q h => h) (fun u t H1 locs1 ht _ hp hB _ _ hS => by
    obtain ⟨rfl, hX⟩ := hp
    rw [ht] at hB
    exact kk H1 locs1 hB hX hS)
theorem z_runr {r k : Nat} (hr : va_Run p l e R s m args below meth c H locs cells slots mc ms (F0 m pc ls st0) rest (zQr D cy B S k r S1 aa) (fun q => B < q)) (hS : va_S (fun q => B < q) H0 H locs)
    (kk : ∀ (H1 : Heap) (locs1 : List Loc), zMR D cy B S1 H1 → zX S S1 → zQ S1 r k → va_S (fun q => B < q) H0 H1 locs1 → W p l e R s m args below meth c H1 locs1 (cells + mc) (slots + ms) Q (F0 m (pc + 3) ls (zv B r :: rest))) : W p l e R s m args below meth c H locs cells slots Q (F0 m pc ls st0) :=
  va_callq hr hS (fun q _ h => h) (fun q h => h) (fun r' u t H1 locs1 ht _ hp hB _ _ hS => by
    obtain ⟨rfl, rfl, hX, hq⟩ := hp
    rw [ht] at hB
    exact kk H1 locs1 hB hX hq hS)
theorem z_iret {v r : Int32} (hexec : p.tables.exec = Jvm.exec) (hb : c.code = cc) (hr : meth.sig.returnType = some .int) (hlk : meth.locks = false) (hM : zMR D cy B S H) (hX : zX S0 S) (hS : va_S (fun q => B < q) s.heap H locs) (hv : v = r ∧ S = S1) (hdg : decode cc pc = .ok (.ireturn, 1)) : W p l e R s m args below meth c H locs cells slots (MQ below (zQi D cy B S0 r S1) args s cells slots (fun q => B < q)) (F0 m pc ls [.int v]) := by
  obtain ⟨rfl, rfl⟩ := hv
  exact W.iret hexec hb hr (fun t ht hW => ⟨⟨v, S, rfl, ⟨rfl, rfl, hX⟩, by show zMR D cy B S t.heap; rw [ht]; exact hM⟩, hS.F ht⟩) hS.2.2 hdg hlk
theorem z_zret {v r : Int32} {ty : FieldType} (hn : narrow ty (.int v) = .int v) (hexec : p.tables.exec = Jvm.exec) (hb : c.code = cc) (hr : meth.sig.returnType = some ty) (hlk : meth.locks = false) (hM : zMR D cy B S H) (hX : zX S0 S) (hS : va_S (fun q => B < q) s.heap H locs) (hv : v = r ∧ S = S1) (hdg : decode cc pc = .ok (.ireturn, 1)) : W p l e R s m args below meth c H locs cells slots (MQ below (zQi D cy B S0 r S1) args s cells slots (fun q => B < q)) (F0 m pc ls [.int v]) := by
  obtain ⟨rfl, rfl⟩ := hv
  exact W.zret hexec hb hr hn (fun t ht hW => ⟨⟨v, S, rfl, ⟨rfl, rfl, hX⟩, by show zMR D cy B S t.heap; rw [ht]; exact hM⟩, hS.F ht⟩) hS.2.2 hdg hlk
theorem z_lret {v r : Int64} (hexec : p.tables.exec = Jvm.exec) (hb : c.code = cc) (hr : meth.sig.returnType = some .long) (hlk : meth.locks = false) (hM : zMR D cy B S H) (hX : zX S0 S) (hS : va_S (fun q => B < q) s.heap H locs) (hv : v = r ∧ S = S1) (hdg : decode cc pc = .ok (.lreturn, 1)) : W p l e R s m args below meth c H locs cells slots (MQ below (zQl D cy B S0 r S1) args s cells slots (fun q => B < q)) (F0 m pc ls [.long v]) := by
  obtain ⟨rfl, rfl⟩ := hv
  exact W.lret hexec hb hr (fun t ht hW => ⟨⟨v, S, rfl, ⟨rfl, rfl, hX⟩, by show zMR D cy B S t.heap; rw [ht]; exact hM⟩, hS.F ht⟩) hS.2.2 hdg hlk
theorem z_vret (hexec : p.tables.exec = Jvm.exec) (hb : c.code = cc) (hr : meth.sig.returnType = none) (hlk : meth.locks = false) (hM : zMR D cy B S H) (hX : zX S0 S) (hS : va_S (fun q => B < q) s.heap H locs) (hv : S = S1) (hdg : decode cc pc = .ok (.return_, 1)) : W p l e R s m args below meth c H locs cells slots (MQ below (zQv D cy B S0 S1) args s cells slots (fun q => B < q)) (F0 m pc ls []) := by
  subst hv
  exact W.vret hexec hb hr (fun t ht hW => ⟨⟨S, rfl, ⟨rfl, hX⟩, by show zMR D cy B S t.heap; rw [ht]; exact hM⟩, hS.F ht⟩) hS.2.2 hdg hlk
theorem z_aret {v : Value} {r k q : Nat} {rt : FieldType} (hexec : p.tables.exec = Jvm.exec) (hb : c.code = cc) (hr : meth.sig.returnType = some rt) (hrt : (∃ n, rt = .object n) ∨ ∃ t, rt = .array t) (hlk : meth.locks = false) (hM : zMR D cy B S H) (hX : zX S0 S) (hS : va_S (fun q => B < q) s.heap H locs) (hvr : v = zv B r) (hq : zQ S r k) (hv : r = q ∧ S = S1) (hdg : decode cc pc = .ok (.areturn, 1)) : W p l e R s m args below meth c H locs cells slots (MQ below (zQr D cy B S0 k q S1) args s cells slots (fun q => B < q)) (F0 m pc ls [v]) := by
  obtain ⟨rfl, rfl⟩ := hv
  subst hvr
  have hrf : zv B r = .null ∨ ∃ q, zv B r = .ref q := by
    rcases Nat.eq_zero_or_pos r with h | h
    · subst h; exact Or.inl rfl
    · exact Or.inr ⟨_, zv_ref h⟩
  exact W.aret hexec hb hr hrt hrf (fun t ht hW => ⟨⟨zgO B r, S, rfl, ⟨rfl, rfl, hX, hq⟩, by show zMR D cy B S t.heap; rw [ht]; exact hM⟩, hS.F ht⟩) hS.2.2 hdg hlk
theorem z_open {y : MethodName} {cc : ByteArray} {maxL : Nat} {ret : Option FieldType} {rm : Room} {s₁ : State} (Bd : BodyLoose p l y (headSpec (zws y cc maxL ret) rm) cc maxL ret e s m args below meth c s₁) :
    p.tables.exec = Jvm.exec ∧ c.code = cc ∧ meth.sig.returnType = ret ∧ (∀ w ∈ zGW, w.before args s = true) ∧ s.vm.findClass y.cls = some m.cls ∧ meth.locks = false :=
  ⟨Bd.exec, Bd.bytes, Bd.returns, fun w hw => atoms_spec (ws := zws y cc maxL ret) Bd.pre w (List.mem_cons_of_mem _ hw), findClass_of_methodNamed Bd.named, Bd.notSynchronized⟩
theorem z_entry {vs : List Value} {n : Nat} (h : (lg_sl vs).length ≤ n) (k : ∀ ls : Array Slot, lv_has ls n (lv_args 0 vs) → W p l e R s m args below meth c H locs cells slots Q (F0 m 0 ls [])) : W p l e R s m args below meth c H locs cells slots Q (entryFrame m vs.toArray n) := by
  rw [lg_entry_eq]
  exact k _ (lv_entry vs h)
theorem z_aload_n {k : Fin 4} {i r : Nat} (hexec : p.tables.exec = Jvm.exec) (hb : c.code = cc) (hdg : decode cc pc = .ok (.aload_n k, 1)) (hi : (k : Nat) = i) (hl : ls[i]? = some (.val (zv B r)))
    (kk : W p l e R s m args below meth c H locs cells slots Q (F0 m (pc + 1) ls (zv B r :: rest))) : W p l e R s m args below meth c H locs cells slots Q (F0 m pc ls rest) := by
  rcases Nat.eq_zero_or_pos r with h | h
  · subst h; exact lv_aload_nN hexec hb hdg hi hl kk
  · rw [zv_ref h] at hl kk; exact lv_aload_n hexec hb hdg hi hl kk
theorem z_aload {i r : Nat} (hexec : p.tables.exec = Jvm.exec) (hb : c.code = cc) (hdg : decode cc pc = .ok (.aload i, 2)) (hl : ls[i]? = some (.val (zv B r)))
    (kk : W p l e R s m args below meth c H locs cells slots Q (F0 m (pc + 2) ls (zv B r :: rest))) : W p l e R s m args below meth c H locs cells slots Q (F0 m pc ls rest) := by
  rcases Nat.eq_zero_or_pos r with h | h
  · subst h; exact lv_aloadN hexec hb hdg hl kk
  · rw [zv_ref h] at hl kk; exact lv_aload hexec hb hdg hl kk
/-- a reference known not to be null -/
theorem z_aloadR_n {k : Fin 4} {i r : Nat} (hexec : p.tables.exec = Jvm.exec) (hb : c.code = cc) (hdg : decode cc pc = .ok (.aload_n k, 1)) (hi : (k : Nat) = i) (hl : ls[i]? = some (.val (zv B r))) (h : 0 < r)
    (kk : W p l e R s m args below meth c H locs cells slots Q (F0 m (pc + 1) ls (.ref (B + r) :: rest))) : W p l e R s m args below meth c H locs cells slots Q (F0 m pc ls rest) := by
  rw [zv_ref h] at hl; exact lv_aload_n hexec hb hdg hi hl kk
theorem z_aloadR {i r : Nat} (hexec : p.tables.exec = Jvm.exec) (hb : c.code = cc) (hdg : decode cc pc = .ok (.aload i, 2)) (hl : ls[i]? = some (.val (zv B r))) (h : 0 < r)
    (kk : W p l e R s m args below meth c H locs cells slots Q (F0 m (pc + 2) ls (.ref (B + r) :: rest))) : W p l e R s m args below meth c H locs cells slots Q (F0 m pc ls rest) := by
  rw [zv_ref h] at hl; exact lv_aload hexec hb hdg hl kk
theorem z_astore_n {k : Fin 4} {i nL r : Nat} {lv lv' : List (Nat × Value)} (hexec : p.tables.exec = Jvm.exec) (hb : c.code = cc) (hdg : decode cc pc = .ok (.astore_n k, 1)) (hi : (k : Nat) = i) (h : lv_has ls nL lv) (hn : i < nL) (hl : (i, zv B r) :: lv.filter (fun q => !(q.1 == i) && !(q.1 + 1 == i && q.2.category == 2)) = lv')
    (kk : ∀ ls' : Array Slot, lv_has ls' nL lv' → W p l e R s m args below meth c H locs cells slots Q (F0 m (pc + 1) ls' rest)) : W p l e R s m args below meth c H locs cells slots Q (F0 m pc ls (zv B r :: rest)) := by
  rcases Nat.eq_zero_or_pos r with h0 | h0
  · subst h0; exact lv_astore_nN hexec hb hdg hi h hn hl kk
  · rw [zv_ref h0] at hl ⊢; exact lv_astore_n hexec hb hdg hi h hn hl kk
theorem z_astore {i nL r : Nat} {lv lv' : List (Nat × Value)} (hexec : p.tables.exec = Jvm.exec) (hb : c.code = cc) (hdg : decode cc pc = .ok (.astore i, 2)) (h : lv_has ls nL lv) (hn : i < nL) (hl : (i, zv B r) :: lv.filter (fun q => !(q.1 == i) && !(q.1 + 1 == i && q.2.category == 2)) = lv')
    (kk : ∀ ls' : Array Slot, lv_has ls' nL lv' → W p l e R s m args below meth c H locs cells slots Q (F0 m (pc + 2) ls' rest)) : W p l e R s m args below meth c H locs cells slots Q (F0 m pc ls (zv B r :: rest)) := by
  rcases Nat.eq_zero_or_pos r with h0 | h0
  · subst h0; exact lv_astoreN hexec hb hdg h hn hl kk
  · rw [zv_ref h0] at hl ⊢; exact lv_astore hexec hb hdg h hn hl kk
theorem z_ifnull {r : Nat} {off : Int} {tgt : Nat} (hexec : p.tables.exec = Jvm.exec) (hb : c.code = cc) (hdg : decode cc pc = .ok (.ifnull off, 3)) (ht : (pc : Int) + off = (tgt : Int))
    (kt : r = 0 → W p l e R s m args below meth c H locs cells slots Q (F0 m tgt ls rest)) (kf : ¬ r = 0 → W p l e R s m args below meth c H locs cells slots Q (F0 m (pc + 3) ls rest)) : W p l e R s m args below meth c H locs cells slots Q (F0 m pc ls (zv B r :: rest)) := by
  rcases Nat.eq_zero_or_pos r with h | h
  · subst h; exact lv_ifnullN hexec hb hdg ht (kt rfl)
  · rw [zv_ref h]; exact lv_ifnull hexec hb hdg (kf (by omega))
theorem z_ifnonnull {r : Nat} {off : Int} {tgt : Nat} (hexec : p.tables.exec = Jvm.exec) (hb : c.code = cc) (hdg : decode cc pc = .ok (.ifnonnull off, 3)) (ht : (pc : Int) + off = (tgt : Int))
    (kt : ¬ r = 0 → W p l e R s m args below meth c H locs cells slots Q (F0 m tgt ls rest)) (kf : r = 0 → W p l e R s m args below meth c H locs cells slots Q (F0 m (pc + 3) ls rest)) : W p l e R s m args below meth c H locs cells slots Q (F0 m pc ls (zv B r :: rest)) := by
  rcases Nat.eq_zero_or_pos r with h | h
  · subst h; exact lv_ifnonnullN hexec hb hdg (kf rfl)
  · rw [zv_ref h]; exact lv_ifnonnull hexec hb hdg ht (kt (by omega))
/-- a reference on the stack that isn't null -/
theorem z_nn {r : Nat} (h : 0 < r) (kk : W p l e R s m args below meth c H locs cells slots Q (F0 m pc ls (.ref (B + r) :: rest))) : W p l e R s m args below meth c H locs cells slots Q (F0 m pc ls (zv B r :: rest)) := by rw [zv_ref h]; exact kk
theorem z_bit {v : Int32} (h : v = 0 ∨ v = 1) : narrow .boolean (.int v) = .int v ∧ fits .boolean (.int v) = true := by
  rcases h with rfl | rfl <;> exact ⟨by decide +kernel, by decide +kernel⟩
end ZC
