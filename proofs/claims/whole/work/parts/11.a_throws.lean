/-! throws: the printed rows' proofs, with the size of the heap behind the throw; then the methods that throw or catch -/
section ZTH
variable {p : Program} {l : Launch} {e : Env} {R : Room} {s : State} {m : MethodId} {args : Array Value} {below : List Frame} {meth : Method} {c : Code} {H : Heap} {locs : List Loc} {cells slots : Nat} {Q : State → Prop}
variable {mc ms : Nat} {free : Addr → Prop} {A0 A1 : Nat → Prop} {H0 : Heap} {a : Array Value} {ls : Array Slot} {st0 rest : List Value}
variable {Qc : Array Value → State → Outcome → State → Prop} {XC : String → State → State → Prop}
theorem zthrS {cc : ByteArray} {pc : Nat} (hexec : p.tables.exec = Jvm.exec) (hb : c.code = cc) (hl : l.stackTraces = false) {own cls text : String} {names : List String} {ik is ic mc ms sa : Nat} {A : Nat → Prop}
    (hown : s.vm.findClass own = some m.cls) (hcls : Bundle.fit cls = true) (hnames : ∀ n ∈ names, Bundle.fit n = true)
    (hk : (Cond.classLink own ik cls).before args s = true) (hini : (Cond.initialized cls).before args s = true) (hstr : vk_R own is text sa s) (hat : ∀ w ∈ vx_atS own ic cls names, w.before args s = true)
    (hgood : ∀ w ∈ Cond.classLink own ik cls :: Cond.initialized cls :: vx_atS own ic cls names, vx_ot w = true)
    (hU : vx_Zq Bundle.tN "UNASSIGNED_STACK" Bundle.steD A s s.heap) (hN : vx_Zq Bundle.tN "SUPPRESSED_SENTINEL" Bundle.listD A s s.heap) (hS : va_S A s.heap H locs) (hsize : ls.size = c.maxLocals)
    (d0 : decode cc pc = .ok (.new ik, 3)) (d3 : decode cc (pc + 3) = .ok (.dup, 1)) (d4 : decode cc (pc + 4) = .ok (.ldc is, 2)) (d6 : decode cc (pc + 6) = .ok (.invokespecial ic, 3)) (d9 : decode cc (pc + 9) = .ok (.athrow, 1))
    (hout : ∀ x ∈ c.exceptionTable.toList, covers x (pc + 9) = false)
    (hRframes : names.length + 3 < R.frames) (hRlocals : (rest.map fun v => v.category).sum + (13 * (names.length + 1) + 43) ≤ R.locals) (hRcells : cells + 1 ≤ R.cells) (hRslots : slots + 6 ≤ R.slots) (hlocks : meth.locks = false)
    (hx : ∀ t : State, s.vm.Alike t.vm → t.heap.size = H.size + 1 → (∀ q : Nat, q < H.size → t.heap[q]? = H[q]?) → XC cls s t)
    (hf : ∀ z ∈ locs, free z.base) (hc : cells + 1 ≤ mc) (hs : slots + 6 ≤ ms) :
    W p l e R s m args below meth c H locs cells slots (vx_MQ below Qc XC args s mc ms free) (F0 m pc ls rest) := by
  intro T hT X
  have htr : e.platform.stackTraces = false := (show e.platform.stackTraces = l.stackTraces by rw [X.admits.platform]).trans hl
  have Y := vx_rebase X (R' := { frames := R.frames, locals := R.locals, cells := 1, slots := 6 }) (Nat.le_refl _) (Nat.le_refl _) hRcells hRslots
  obtain ⟨s', hA⟩ : ∃ z, z = (T.setVm s.vm).setFrames (.invoking m args :: below) := ⟨_, rfl⟩
  rw [← hA] at Y
  have hvm : s'.vm = s.vm := by rw [hA]; rfl
  have hhp : s'.heap = H := by rw [hA]; exact hT
  have hW0 : s.WarmedH s'.vm := by rw [hvm]; exact State.WarmedH.refl s
  have hat' : ∀ w ∈ vx_atS own ic cls names, w.before args s' = true := fun w hw => vx_ot_at hW0 hvm.symm (hgood w (List.mem_cons_of_mem _ (List.mem_cons_of_mem _ hw))) (hat w hw)
  have hk' : (Cond.classLink own ik cls).before args s' = true := vx_ot_at hW0 hvm.symm (hgood _ List.mem_cons_self) hk
  have hini' : (Cond.initialized cls).before args s' = true := vx_ot_at hW0 hvm.symm (hgood _ (List.mem_cons_of_mem _ List.mem_cons_self)) hini
  have hU' : vx_Zq Bundle.tN "UNASSIGNED_STACK" Bundle.steD A s' s'.heap := by rw [hhp]; exact vx_Zq.moved hW0.alike (hU.kept hS.2.1)
  have hN' : vx_Zq Bundle.tN "SUPPRESSED_SENTINEL" Bundle.listD A s' s'.heap := by rw [hhp]; exact vx_Zq.moved hW0.alike (hN.kept hS.2.1)
  have h : ∀ w ∈ Bundle.ownAtoms own ic cls names, w.before args s' = true := vx_own hat' (vx_isRefq hU'.1) (vx_isRefq hN'.1) hU'.2.word hN'.2.word
  have hown' : s'.vm.findClass own = some m.cls := by rw [hvm]; exact hown
  have hins : (Cond.instantiable cls 6).before args s' = true := h _ (by simp [Bundle.ownAtoms])
  obtain ⟨vm₁, cX, kX, hfX, hkX, -, -, X₁, st1⟩ := Y.newCold hexec (own := own) (C := cls) (index := ik) (n := 6) hown' hk' hins hini'
    (g := F0 m pc ls rest) rfl (by rw [hb]; exact d0) (Nat.le_refl _) (Nat.le_refl _)
  generalize hT1 : (T.setVm vm₁).pushCell { cls := cX, slots := kX.instanceTypes.map defaultValue, vm := .none } = T1 at X₁ st1
  have hcat : (Value.ref T.heap.size).category = 1 := rfl
  have hcellA : T1.heap[T.heap.size]? = some (freshCell cX kX) := by rw [← hT1]; exact State.heap_pushCell_size _ _
  have d3' : decode c.code (pc + 3) = .ok (.dup, 1) := by rw [hb]; exact d3
  have d4' : decode c.code (pc + 4) = .ok (.ldc is, 2) := by rw [hb]; exact d4
  have hstr' : vk_R own is text sa s' := vk_R.warm hW0 hstr
  obtain ⟨U, hsteps, hrun, hend, hW, hsame, ce, hce, hO⟩ := X₁.ctorThrowS hexec htr (own := own) (cls := cls) (names := names) (ic := ic) hown' hcls hnames h (fun x hx => nomatch hx) hfX hkX hcellA (by rw [hhp, hT]; exact Nat.le_refl _) (msg := .ref sa) rfl
    (g := { method := m, pc := pc + 6, locals := ls, stack := .ref sa :: .ref T.heap.size :: .ref T.heap.size :: rest, locked := none }) rfl hsize rfl rfl (rest := rest) rfl
    (by rw [hb]; exact d6) (by rw [hb]; exact d9) hout hRframes (by simp only [List.map_cons, List.sum_cons, hcat]; omega) hlocks
  have hup : U.heap.size ≤ H.size + 1 := by
    have h9 : U.heap.size ≤ s'.heap.size + (0 + 1) := hsame.2.2.1
    rw [hhp] at h9
    omega
  have hlo : H.size < U.heap.size := by
    have h9 := (Array.getElem?_eq_some_iff.mp hce).1
    rw [hT] at h9
    exact h9
  obtain ⟨f1, f2⟩ := vx_frame hsame
  rw [hhp] at f1 f2
  have hWs : s.WarmedH U.vm := State.WarmedH.trans hW0 hW
  have hcl : s.vm.findClass cls = some ce.cls := by
    have h9 := hO.cls
    rw [hvm] at h9
    exact h9
  have hall : s.sameButNew ({ U with vm := s.vm } : State) locs mc ms := by
    subst hA
    obtain ⟨e1, e2⟩ := hsame
    rw [State.setFrames_setFrames] at e1
    have h2 : (T.setVm s.vm).sameButNew ({ U with vm := s.vm } : State) [] (0 + 1) (0 + 6) := ⟨e1, e2⟩
    have h3 := X.same.trans h2
    rw [List.append_nil] at h3
    exact h3.mono hc hs
  refine ⟨U, ?_, .threw T.heap.size, hrun, hend, Or.inr ⟨T.heap.size, rfl, cls, ce, locs, hx U hWs.alike (by omega) (fun q hq => f2 q hq (fun z hz => nomatch hz)), hce, hO.vm, hcl, hWs, hall, hf⟩⟩
  refine st1 _ ?_
  show Steps p.tables e below (T1.setTop { method := m, pc := pc + 3, locals := ls, stack := .ref T.heap.size :: rest, locked := none }) _
  jvm_step X₁.here [X₁.here.top, hexec, d3', Value.category]
  exact X₁.ldcString hexec (own := own) (text := text) (index := is) (a := sa) hown' hstr'.1 hstr'.2
    (g := { method := m, pc := pc + 4, locals := ls, stack := .ref T.heap.size :: .ref T.heap.size :: rest, locked := none }) rfl d4' _ hsteps
theorem zthrSW {cc : ByteArray} {pc : Nat} (hexec : p.tables.exec = Jvm.exec) (hb : c.code = cc) (hl : l.stackTraces = false) {own cls text : String} {names : List String} {ik is ic mc ms sa : Nat} {A : Nat → Prop}
    (hown : s.vm.findClass own = some m.cls) (hcls : Bundle.fit cls = true) (hnames : ∀ n ∈ names, Bundle.fit n = true)
    (hk : (Cond.classLink own ik cls).before args s = true) (hini : (Cond.initialized cls).before args s = true) (hstr : vk_R own is text sa s) (hat : ∀ w ∈ vx_atS own ic cls names, w.before args s = true)
    (hgood : ∀ w ∈ Cond.classLink own ik cls :: Cond.initialized cls :: vx_atS own ic cls names, vx_ot w = true)
    (hU : vx_Zq Bundle.tN "UNASSIGNED_STACK" Bundle.steD A s s.heap) (hN : vx_Zq Bundle.tN "SUPPRESSED_SENTINEL" Bundle.listD A s s.heap) (hS : va_S A s.heap H locs) (hsize : ls.size = c.maxLocals)
    (d0 : decode cc pc = .ok (.new ik, 3)) (d3 : decode cc (pc + 3) = .ok (.dup, 1)) (d4 : decode cc (pc + 4) = .ok (.ldc_w is, 3)) (d7 : decode cc (pc + 7) = .ok (.invokespecial ic, 3)) (d10 : decode cc (pc + 10) = .ok (.athrow, 1))
    (hout : ∀ x ∈ c.exceptionTable.toList, covers x (pc + 10) = false)
    (hRframes : names.length + 3 < R.frames) (hRlocals : (rest.map fun v => v.category).sum + (13 * (names.length + 1) + 43) ≤ R.locals) (hRcells : cells + 1 ≤ R.cells) (hRslots : slots + 6 ≤ R.slots) (hlocks : meth.locks = false)
    (hx : ∀ t : State, s.vm.Alike t.vm → t.heap.size = H.size + 1 → (∀ q : Nat, q < H.size → t.heap[q]? = H[q]?) → XC cls s t)
    (hf : ∀ z ∈ locs, free z.base) (hc : cells + 1 ≤ mc) (hs : slots + 6 ≤ ms) :
    W p l e R s m args below meth c H locs cells slots (vx_MQ below Qc XC args s mc ms free) (F0 m pc ls rest) := by
  intro T hT X
  have htr : e.platform.stackTraces = false := (show e.platform.stackTraces = l.stackTraces by rw [X.admits.platform]).trans hl
  have Y := vx_rebase X (R' := { frames := R.frames, locals := R.locals, cells := 1, slots := 6 }) (Nat.le_refl _) (Nat.le_refl _) hRcells hRslots
  obtain ⟨s', hA⟩ : ∃ z, z = (T.setVm s.vm).setFrames (.invoking m args :: below) := ⟨_, rfl⟩
  rw [← hA] at Y
  have hvm : s'.vm = s.vm := by rw [hA]; rfl
  have hhp : s'.heap = H := by rw [hA]; exact hT
  have hW0 : s.WarmedH s'.vm := by rw [hvm]; exact State.WarmedH.refl s
  have hat' : ∀ w ∈ vx_atS own ic cls names, w.before args s' = true := fun w hw => vx_ot_at hW0 hvm.symm (hgood w (List.mem_cons_of_mem _ (List.mem_cons_of_mem _ hw))) (hat w hw)
  have hk' : (Cond.classLink own ik cls).before args s' = true := vx_ot_at hW0 hvm.symm (hgood _ List.mem_cons_self) hk
  have hini' : (Cond.initialized cls).before args s' = true := vx_ot_at hW0 hvm.symm (hgood _ (List.mem_cons_of_mem _ List.mem_cons_self)) hini
  have hU' : vx_Zq Bundle.tN "UNASSIGNED_STACK" Bundle.steD A s' s'.heap := by rw [hhp]; exact vx_Zq.moved hW0.alike (hU.kept hS.2.1)
  have hN' : vx_Zq Bundle.tN "SUPPRESSED_SENTINEL" Bundle.listD A s' s'.heap := by rw [hhp]; exact vx_Zq.moved hW0.alike (hN.kept hS.2.1)
  have h : ∀ w ∈ Bundle.ownAtoms own ic cls names, w.before args s' = true := vx_own hat' (vx_isRefq hU'.1) (vx_isRefq hN'.1) hU'.2.word hN'.2.word
  have hown' : s'.vm.findClass own = some m.cls := by rw [hvm]; exact hown
  have hins : (Cond.instantiable cls 6).before args s' = true := h _ (by simp [Bundle.ownAtoms])
  obtain ⟨vm₁, cX, kX, hfX, hkX, -, -, X₁, st1⟩ := Y.newCold hexec (own := own) (C := cls) (index := ik) (n := 6) hown' hk' hins hini'
    (g := F0 m pc ls rest) rfl (by rw [hb]; exact d0) (Nat.le_refl _) (Nat.le_refl _)
  generalize hT1 : (T.setVm vm₁).pushCell { cls := cX, slots := kX.instanceTypes.map defaultValue, vm := .none } = T1 at X₁ st1
  have hcat : (Value.ref T.heap.size).category = 1 := rfl
  have hcellA : T1.heap[T.heap.size]? = some (freshCell cX kX) := by rw [← hT1]; exact State.heap_pushCell_size _ _
  have d3' : decode c.code (pc + 3) = .ok (.dup, 1) := by rw [hb]; exact d3
  have d4' : decode c.code (pc + 4) = .ok (.ldc_w is, 3) := by rw [hb]; exact d4
  have hstr' : vk_R own is text sa s' := vk_R.warm hW0 hstr
  obtain ⟨U, hsteps, hrun, hend, hW, hsame, ce, hce, hO⟩ := X₁.ctorThrowS hexec htr (own := own) (cls := cls) (names := names) (ic := ic) hown' hcls hnames h (fun x hx => nomatch hx) hfX hkX hcellA (by rw [hhp, hT]; exact Nat.le_refl _) (msg := .ref sa) rfl
    (g := { method := m, pc := pc + 7, locals := ls, stack := .ref sa :: .ref T.heap.size :: .ref T.heap.size :: rest, locked := none }) rfl hsize rfl rfl (rest := rest) rfl
    (by rw [hb]; exact d7) (by rw [hb]; exact d10) hout hRframes (by simp only [List.map_cons, List.sum_cons, hcat]; omega) hlocks
  have hup : U.heap.size ≤ H.size + 1 := by
    have h9 : U.heap.size ≤ s'.heap.size + (0 + 1) := hsame.2.2.1
    rw [hhp] at h9
    omega
  have hlo : H.size < U.heap.size := by
    have h9 := (Array.getElem?_eq_some_iff.mp hce).1
    rw [hT] at h9
    exact h9
  obtain ⟨f1, f2⟩ := vx_frame hsame
  rw [hhp] at f1 f2
  have hWs : s.WarmedH U.vm := State.WarmedH.trans hW0 hW
  have hcl : s.vm.findClass cls = some ce.cls := by
    have h9 := hO.cls
    rw [hvm] at h9
    exact h9
  have hall : s.sameButNew ({ U with vm := s.vm } : State) locs mc ms := by
    subst hA
    obtain ⟨e1, e2⟩ := hsame
    rw [State.setFrames_setFrames] at e1
    have h2 : (T.setVm s.vm).sameButNew ({ U with vm := s.vm } : State) [] (0 + 1) (0 + 6) := ⟨e1, e2⟩
    have h3 := X.same.trans h2
    rw [List.append_nil] at h3
    exact h3.mono hc hs
  refine ⟨U, ?_, .threw T.heap.size, hrun, hend, Or.inr ⟨T.heap.size, rfl, cls, ce, locs, hx U hWs.alike (by omega) (fun q hq => f2 q hq (fun z hz => nomatch hz)), hce, hO.vm, hcl, hWs, hall, hf⟩⟩
  refine st1 _ ?_
  show Steps p.tables e below (T1.setTop { method := m, pc := pc + 3, locals := ls, stack := .ref T.heap.size :: rest, locked := none }) _
  jvm_step X₁.here [X₁.here.top, hexec, d3', Value.category]
  exact X₁.ldcStringW hexec (own := own) (text := text) (index := is) (a := sa) hown' hstr'.1 hstr'.2
    (g := { method := m, pc := pc + 4, locals := ls, stack := .ref T.heap.size :: .ref T.heap.size :: rest, locked := none }) rfl d4' _ hsteps
end ZTH
def zISE : String := "java/lang/IllegalStateException"
def zIAE : String := "java/lang/IllegalArgumentException"
def zRTE : List String := ["java/lang/RuntimeException", "java/lang/Exception"]
/-- the words of our throws that the good ones leave out -/
def zTw : List Cond := [.castable "java/lang/IllegalStateException" "java/lang/IllegalStateException", .castable "java/lang/IllegalArgumentException" "java/lang/IllegalArgumentException", .declares ⟨"java/lang/RuntimeException", "<init>", "(Ljava/lang/String;)V"⟩, .declares ⟨"java/lang/Exception", "<init>", "(Ljava/lang/String;)V"⟩, .declares ⟨"java/lang/Throwable", "<init>", "(Ljava/lang/String;)V"⟩]
set_option maxHeartbeats 4000000 in
set_option maxRecDepth 100000 in
theorem zat1 : ∀ w ∈ vx_atS "DiveChairs$Judge" 38 "java/lang/IllegalStateException" ["java/lang/RuntimeException", "java/lang/Exception"], w ∈ zGW ∨ w ∈ zTw := by
  intro w hw
  have hn := (List.mem_filter.mp hw).2
  have h := (List.mem_filter.mp hw).1
  simp only [Bundle.ownAtoms, Bundle.throwableAtoms, Bundle.throwableSAtoms, Bundle.chainSAtoms, Bundle.passSAtoms, List.mem_append, List.mem_cons, List.not_mem_nil, or_false, or_assoc] at h
  repeat (rcases h with rfl | h; (first | exact Or.inl zw_18 | exact Or.inl zw_19 | exact Or.inl zw_20 | exact Or.inl zw_21 | exact Or.inl zw_22 | exact Or.inl zw_29 | exact Or.inl zw_30 | exact Or.inl zw_903 | exact Or.inl zw_904 | exact Or.inl zw_905 | exact Or.inl zw_913 | exact Or.inl zw_914 | exact Or.inl zw_915 | exact Or.inl zw_916 | exact Or.inl zw_917 | exact Or.inl zw_918 | exact Or.inl zw_919 | exact Or.inl zw_920 | exact Or.inl zw_921 | exact Or.inl zw_922 | exact Or.inl zw_923 | exact Or.inl zw_924 | exact Or.inl zw_925 | exact Or.inl zw_926 | exact Or.inl zw_927 | exact Or.inl zw_928 | exact Or.inl zw_929 | exact Or.inl zw_930 | exact Or.inl zw_932 | exact Or.inl zw_934 | exact Or.inl zw_935 | exact Or.inl zw_936 | exact Or.inl zw_937 | exact Or.inl zw_938 | exact Or.inl zw_939 | exact Or.inl zw_940 | exact Or.inl zw_941 | exact Or.inl zw_942 | exact Or.inl zw_944 | exact Or.inl zw_945 | exact Or.inl zw_946 | exact Or.inl zw_947 | exact Or.inl zw_948 | exact Or.inl zw_949 | exact Or.inl zw_950 | exact Or.inl zw_951 | exact Or.inl zw_952 | exact Or.inl zw_953 | exact Or.inl zw_954 | exact Or.inl zw_955 | exact Or.inl zw_956 | exact Or.inl zw_957 | exact Or.inl zw_958 | exact Or.inl zw_959 | exact Or.inl zw_960 | exact Or.inl zw_961 | exact Or.inl zw_962 | exact Or.inl zw_963 | exact Or.inl zw_964 | exact Or.inl zw_965 | exact Or.inl zw_966 | exact Or.inl zw_967 | exact Or.inl zw_968 | exact Or.inl zw_969 | exact Or.inl zw_970 | exact Or.inl zw_971 | exact Or.inl zw_972 | exact Or.inl zw_973 | exact Or.inl zw_974 | exact Or.inl zw_975 | exact Or.inl zw_976 | exact Or.inl zw_977 | exact Or.inl zw_979 | exact Or.inl zw_980 | exact Or.inl zw_981 | exact Or.inl zw_982 | exact Or.inl zw_983 | exact Or.inl zw_984 | exact Or.inl zw_986 | exact Or.inl zw_987 | exact Or.inl zw_988 | exact Or.inl zw_989 | exact Or.inl zw_990 | exact Or.inl zw_991 | exact Or.inl zw_993 | exact Or.inl zw_994 | exact Or.inl zw_995 | exact Or.inl zw_996 | exact Or.inl zw_997 | exact Or.inl zw_998 | exact Or.inl zw_999 | exact Or.inl zw_1000 | (exfalso; revert hn; decide +kernel) | (refine Or.inr ?_; simp [zTw, Bundle.initS, Bundle.tN])))
  all_goals (subst h; (first | exact Or.inl zw_18 | exact Or.inl zw_19 | exact Or.inl zw_20 | exact Or.inl zw_21 | exact Or.inl zw_22 | exact Or.inl zw_29 | exact Or.inl zw_30 | exact Or.inl zw_903 | exact Or.inl zw_904 | exact Or.inl zw_905 | exact Or.inl zw_913 | exact Or.inl zw_914 | exact Or.inl zw_915 | exact Or.inl zw_916 | exact Or.inl zw_917 | exact Or.inl zw_918 | exact Or.inl zw_919 | exact Or.inl zw_920 | exact Or.inl zw_921 | exact Or.inl zw_922 | exact Or.inl zw_923 | exact Or.inl zw_924 | exact Or.inl zw_925 | exact Or.inl zw_926 | exact Or.inl zw_927 | exact Or.inl zw_928 | exact Or.inl zw_929 | exact Or.inl zw_930 | exact Or.inl zw_932 | exact Or.inl zw_934 | exact Or.inl zw_935 | exact Or.inl zw_936 | exact Or.inl zw_937 | exact Or.inl zw_938 | exact Or.inl zw_939 | exact Or.inl zw_940 | exact Or.inl zw_941 | exact Or.inl zw_942 | exact Or.inl zw_944 | exact Or.inl zw_945 | exact Or.inl zw_946 | exact Or.inl zw_947 | exact Or.inl zw_948 | exact Or.inl zw_949 | exact Or.inl zw_950 | exact Or.inl zw_951 | exact Or.inl zw_952 | exact Or.inl zw_953 | exact Or.inl zw_954 | exact Or.inl zw_955 | exact Or.inl zw_956 | exact Or.inl zw_957 | exact Or.inl zw_958 | exact Or.inl zw_959 | exact Or.inl zw_960 | exact Or.inl zw_961 | exact Or.inl zw_962 | exact Or.inl zw_963 | exact Or.inl zw_964 | exact Or.inl zw_965 | exact Or.inl zw_966 | exact Or.inl zw_967 | exact Or.inl zw_968 | exact Or.inl zw_969 | exact Or.inl zw_970 | exact Or.inl zw_971 | exact Or.inl zw_972 | exact Or.inl zw_973 | exact Or.inl zw_974 | exact Or.inl zw_975 | exact Or.inl zw_976 | exact Or.inl zw_977 | exact Or.inl zw_979 | exact Or.inl zw_980 | exact Or.inl zw_981 | exact Or.inl zw_982 | exact Or.inl zw_983 | exact Or.inl zw_984 | exact Or.inl zw_986 | exact Or.inl zw_987 | exact Or.inl zw_988 | exact Or.inl zw_989 | exact Or.inl zw_990 | exact Or.inl zw_991 | exact Or.inl zw_993 | exact Or.inl zw_994 | exact Or.inl zw_995 | exact Or.inl zw_996 | exact Or.inl zw_997 | exact Or.inl zw_998 | exact Or.inl zw_999 | exact Or.inl zw_1000 | (exfalso; revert hn; decide +kernel) | (refine Or.inr ?_; simp [zTw, Bundle.initS, Bundle.tN])))
theorem zat1g : ∀ w ∈ Cond.classLink "DiveChairs$Judge" 34 "java/lang/IllegalStateException" :: Cond.initialized "java/lang/IllegalStateException" :: vx_atS "DiveChairs$Judge" 38 "java/lang/IllegalStateException" ["java/lang/RuntimeException", "java/lang/Exception"], vx_ot w = true := by decide +kernel
set_option maxHeartbeats 4000000 in
set_option maxRecDepth 100000 in
theorem zat2 : ∀ w ∈ vx_atS "DiveChairs" 322 "java/lang/IllegalArgumentException" ["java/lang/RuntimeException", "java/lang/Exception"], w ∈ zGW ∨ w ∈ zTw := by
  intro w hw
  have hn := (List.mem_filter.mp hw).2
  have h := (List.mem_filter.mp hw).1
  simp only [Bundle.ownAtoms, Bundle.throwableAtoms, Bundle.throwableSAtoms, Bundle.chainSAtoms, Bundle.passSAtoms, List.mem_append, List.mem_cons, List.not_mem_nil, or_false, or_assoc] at h
  repeat (rcases h with rfl | h; (first | exact Or.inl zw_18 | exact Or.inl zw_19 | exact Or.inl zw_20 | exact Or.inl zw_21 | exact Or.inl zw_22 | exact Or.inl zw_29 | exact Or.inl zw_30 | exact Or.inl zw_903 | exact Or.inl zw_904 | exact Or.inl zw_905 | exact Or.inl zw_913 | exact Or.inl zw_914 | exact Or.inl zw_915 | exact Or.inl zw_916 | exact Or.inl zw_917 | exact Or.inl zw_918 | exact Or.inl zw_919 | exact Or.inl zw_920 | exact Or.inl zw_921 | exact Or.inl zw_922 | exact Or.inl zw_923 | exact Or.inl zw_924 | exact Or.inl zw_925 | exact Or.inl zw_926 | exact Or.inl zw_927 | exact Or.inl zw_928 | exact Or.inl zw_929 | exact Or.inl zw_930 | exact Or.inl zw_932 | exact Or.inl zw_934 | exact Or.inl zw_935 | exact Or.inl zw_936 | exact Or.inl zw_937 | exact Or.inl zw_938 | exact Or.inl zw_939 | exact Or.inl zw_940 | exact Or.inl zw_941 | exact Or.inl zw_942 | exact Or.inl zw_944 | exact Or.inl zw_945 | exact Or.inl zw_946 | exact Or.inl zw_947 | exact Or.inl zw_948 | exact Or.inl zw_949 | exact Or.inl zw_950 | exact Or.inl zw_951 | exact Or.inl zw_952 | exact Or.inl zw_953 | exact Or.inl zw_954 | exact Or.inl zw_955 | exact Or.inl zw_956 | exact Or.inl zw_957 | exact Or.inl zw_958 | exact Or.inl zw_959 | exact Or.inl zw_960 | exact Or.inl zw_961 | exact Or.inl zw_962 | exact Or.inl zw_963 | exact Or.inl zw_964 | exact Or.inl zw_965 | exact Or.inl zw_966 | exact Or.inl zw_967 | exact Or.inl zw_968 | exact Or.inl zw_969 | exact Or.inl zw_970 | exact Or.inl zw_971 | exact Or.inl zw_972 | exact Or.inl zw_973 | exact Or.inl zw_974 | exact Or.inl zw_975 | exact Or.inl zw_976 | exact Or.inl zw_977 | exact Or.inl zw_979 | exact Or.inl zw_980 | exact Or.inl zw_981 | exact Or.inl zw_982 | exact Or.inl zw_983 | exact Or.inl zw_984 | exact Or.inl zw_986 | exact Or.inl zw_987 | exact Or.inl zw_988 | exact Or.inl zw_989 | exact Or.inl zw_990 | exact Or.inl zw_991 | exact Or.inl zw_993 | exact Or.inl zw_994 | exact Or.inl zw_995 | exact Or.inl zw_996 | exact Or.inl zw_997 | exact Or.inl zw_998 | exact Or.inl zw_999 | exact Or.inl zw_1000 | (exfalso; revert hn; decide +kernel) | (refine Or.inr ?_; simp [zTw, Bundle.initS, Bundle.tN])))
  all_goals (subst h; (first | exact Or.inl zw_18 | exact Or.inl zw_19 | exact Or.inl zw_20 | exact Or.inl zw_21 | exact Or.inl zw_22 | exact Or.inl zw_29 | exact Or.inl zw_30 | exact Or.inl zw_903 | exact Or.inl zw_904 | exact Or.inl zw_905 | exact Or.inl zw_913 | exact Or.inl zw_914 | exact Or.inl zw_915 | exact Or.inl zw_916 | exact Or.inl zw_917 | exact Or.inl zw_918 | exact Or.inl zw_919 | exact Or.inl zw_920 | exact Or.inl zw_921 | exact Or.inl zw_922 | exact Or.inl zw_923 | exact Or.inl zw_924 | exact Or.inl zw_925 | exact Or.inl zw_926 | exact Or.inl zw_927 | exact Or.inl zw_928 | exact Or.inl zw_929 | exact Or.inl zw_930 | exact Or.inl zw_932 | exact Or.inl zw_934 | exact Or.inl zw_935 | exact Or.inl zw_936 | exact Or.inl zw_937 | exact Or.inl zw_938 | exact Or.inl zw_939 | exact Or.inl zw_940 | exact Or.inl zw_941 | exact Or.inl zw_942 | exact Or.inl zw_944 | exact Or.inl zw_945 | exact Or.inl zw_946 | exact Or.inl zw_947 | exact Or.inl zw_948 | exact Or.inl zw_949 | exact Or.inl zw_950 | exact Or.inl zw_951 | exact Or.inl zw_952 | exact Or.inl zw_953 | exact Or.inl zw_954 | exact Or.inl zw_955 | exact Or.inl zw_956 | exact Or.inl zw_957 | exact Or.inl zw_958 | exact Or.inl zw_959 | exact Or.inl zw_960 | exact Or.inl zw_961 | exact Or.inl zw_962 | exact Or.inl zw_963 | exact Or.inl zw_964 | exact Or.inl zw_965 | exact Or.inl zw_966 | exact Or.inl zw_967 | exact Or.inl zw_968 | exact Or.inl zw_969 | exact Or.inl zw_970 | exact Or.inl zw_971 | exact Or.inl zw_972 | exact Or.inl zw_973 | exact Or.inl zw_974 | exact Or.inl zw_975 | exact Or.inl zw_976 | exact Or.inl zw_977 | exact Or.inl zw_979 | exact Or.inl zw_980 | exact Or.inl zw_981 | exact Or.inl zw_982 | exact Or.inl zw_983 | exact Or.inl zw_984 | exact Or.inl zw_986 | exact Or.inl zw_987 | exact Or.inl zw_988 | exact Or.inl zw_989 | exact Or.inl zw_990 | exact Or.inl zw_991 | exact Or.inl zw_993 | exact Or.inl zw_994 | exact Or.inl zw_995 | exact Or.inl zw_996 | exact Or.inl zw_997 | exact Or.inl zw_998 | exact Or.inl zw_999 | exact Or.inl zw_1000 | (exfalso; revert hn; decide +kernel) | (refine Or.inr ?_; simp [zTw, Bundle.initS, Bundle.tN])))
theorem zat2g : ∀ w ∈ Cond.classLink "DiveChairs" 318 "java/lang/IllegalArgumentException" :: Cond.initialized "java/lang/IllegalArgumentException" :: vx_atS "DiveChairs" 322 "java/lang/IllegalArgumentException" ["java/lang/RuntimeException", "java/lang/Exception"], vx_ot w = true := by decide +kernel
set_option maxHeartbeats 4000000 in
set_option maxRecDepth 100000 in
theorem zat3 : ∀ w ∈ vx_atS "DiveChairs" 329 "java/lang/IllegalStateException" ["java/lang/RuntimeException", "java/lang/Exception"], w ∈ zGW ∨ w ∈ zTw := by
  intro w hw
  have hn := (List.mem_filter.mp hw).2
  have h := (List.mem_filter.mp hw).1
  simp only [Bundle.ownAtoms, Bundle.throwableAtoms, Bundle.throwableSAtoms, Bundle.chainSAtoms, Bundle.passSAtoms, List.mem_append, List.mem_cons, List.not_mem_nil, or_false, or_assoc] at h
  repeat (rcases h with rfl | h; (first | exact Or.inl zw_18 | exact Or.inl zw_19 | exact Or.inl zw_20 | exact Or.inl zw_21 | exact Or.inl zw_22 | exact Or.inl zw_29 | exact Or.inl zw_30 | exact Or.inl zw_903 | exact Or.inl zw_904 | exact Or.inl zw_905 | exact Or.inl zw_913 | exact Or.inl zw_914 | exact Or.inl zw_915 | exact Or.inl zw_916 | exact Or.inl zw_917 | exact Or.inl zw_918 | exact Or.inl zw_919 | exact Or.inl zw_920 | exact Or.inl zw_921 | exact Or.inl zw_922 | exact Or.inl zw_923 | exact Or.inl zw_924 | exact Or.inl zw_925 | exact Or.inl zw_926 | exact Or.inl zw_927 | exact Or.inl zw_928 | exact Or.inl zw_929 | exact Or.inl zw_930 | exact Or.inl zw_932 | exact Or.inl zw_934 | exact Or.inl zw_935 | exact Or.inl zw_936 | exact Or.inl zw_937 | exact Or.inl zw_938 | exact Or.inl zw_939 | exact Or.inl zw_940 | exact Or.inl zw_941 | exact Or.inl zw_942 | exact Or.inl zw_944 | exact Or.inl zw_945 | exact Or.inl zw_946 | exact Or.inl zw_947 | exact Or.inl zw_948 | exact Or.inl zw_949 | exact Or.inl zw_950 | exact Or.inl zw_951 | exact Or.inl zw_952 | exact Or.inl zw_953 | exact Or.inl zw_954 | exact Or.inl zw_955 | exact Or.inl zw_956 | exact Or.inl zw_957 | exact Or.inl zw_958 | exact Or.inl zw_959 | exact Or.inl zw_960 | exact Or.inl zw_961 | exact Or.inl zw_962 | exact Or.inl zw_963 | exact Or.inl zw_964 | exact Or.inl zw_965 | exact Or.inl zw_966 | exact Or.inl zw_967 | exact Or.inl zw_968 | exact Or.inl zw_969 | exact Or.inl zw_970 | exact Or.inl zw_971 | exact Or.inl zw_972 | exact Or.inl zw_973 | exact Or.inl zw_974 | exact Or.inl zw_975 | exact Or.inl zw_976 | exact Or.inl zw_977 | exact Or.inl zw_979 | exact Or.inl zw_980 | exact Or.inl zw_981 | exact Or.inl zw_982 | exact Or.inl zw_983 | exact Or.inl zw_984 | exact Or.inl zw_986 | exact Or.inl zw_987 | exact Or.inl zw_988 | exact Or.inl zw_989 | exact Or.inl zw_990 | exact Or.inl zw_991 | exact Or.inl zw_993 | exact Or.inl zw_994 | exact Or.inl zw_995 | exact Or.inl zw_996 | exact Or.inl zw_997 | exact Or.inl zw_998 | exact Or.inl zw_999 | exact Or.inl zw_1000 | (exfalso; revert hn; decide +kernel) | (refine Or.inr ?_; simp [zTw, Bundle.initS, Bundle.tN])))
  all_goals (subst h; (first | exact Or.inl zw_18 | exact Or.inl zw_19 | exact Or.inl zw_20 | exact Or.inl zw_21 | exact Or.inl zw_22 | exact Or.inl zw_29 | exact Or.inl zw_30 | exact Or.inl zw_903 | exact Or.inl zw_904 | exact Or.inl zw_905 | exact Or.inl zw_913 | exact Or.inl zw_914 | exact Or.inl zw_915 | exact Or.inl zw_916 | exact Or.inl zw_917 | exact Or.inl zw_918 | exact Or.inl zw_919 | exact Or.inl zw_920 | exact Or.inl zw_921 | exact Or.inl zw_922 | exact Or.inl zw_923 | exact Or.inl zw_924 | exact Or.inl zw_925 | exact Or.inl zw_926 | exact Or.inl zw_927 | exact Or.inl zw_928 | exact Or.inl zw_929 | exact Or.inl zw_930 | exact Or.inl zw_932 | exact Or.inl zw_934 | exact Or.inl zw_935 | exact Or.inl zw_936 | exact Or.inl zw_937 | exact Or.inl zw_938 | exact Or.inl zw_939 | exact Or.inl zw_940 | exact Or.inl zw_941 | exact Or.inl zw_942 | exact Or.inl zw_944 | exact Or.inl zw_945 | exact Or.inl zw_946 | exact Or.inl zw_947 | exact Or.inl zw_948 | exact Or.inl zw_949 | exact Or.inl zw_950 | exact Or.inl zw_951 | exact Or.inl zw_952 | exact Or.inl zw_953 | exact Or.inl zw_954 | exact Or.inl zw_955 | exact Or.inl zw_956 | exact Or.inl zw_957 | exact Or.inl zw_958 | exact Or.inl zw_959 | exact Or.inl zw_960 | exact Or.inl zw_961 | exact Or.inl zw_962 | exact Or.inl zw_963 | exact Or.inl zw_964 | exact Or.inl zw_965 | exact Or.inl zw_966 | exact Or.inl zw_967 | exact Or.inl zw_968 | exact Or.inl zw_969 | exact Or.inl zw_970 | exact Or.inl zw_971 | exact Or.inl zw_972 | exact Or.inl zw_973 | exact Or.inl zw_974 | exact Or.inl zw_975 | exact Or.inl zw_976 | exact Or.inl zw_977 | exact Or.inl zw_979 | exact Or.inl zw_980 | exact Or.inl zw_981 | exact Or.inl zw_982 | exact Or.inl zw_983 | exact Or.inl zw_984 | exact Or.inl zw_986 | exact Or.inl zw_987 | exact Or.inl zw_988 | exact Or.inl zw_989 | exact Or.inl zw_990 | exact Or.inl zw_991 | exact Or.inl zw_993 | exact Or.inl zw_994 | exact Or.inl zw_995 | exact Or.inl zw_996 | exact Or.inl zw_997 | exact Or.inl zw_998 | exact Or.inl zw_999 | exact Or.inl zw_1000 | (exfalso; revert hn; decide +kernel) | (refine Or.inr ?_; simp [zTw, Bundle.initS, Bundle.tN])))
theorem zat3g : ∀ w ∈ Cond.classLink "DiveChairs" 325 "java/lang/IllegalStateException" :: Cond.initialized "java/lang/IllegalStateException" :: vx_atS "DiveChairs" 329 "java/lang/IllegalStateException" ["java/lang/RuntimeException", "java/lang/Exception"], vx_ot w = true := by decide +kernel
/-- what a throw needs of the start: the two statics of Throwable, the texts, the casts -/
def zT (B : Nat) (U : State) (H : Heap) : Prop :=
  vx_Zq Bundle.tN "UNASSIGNED_STACK" Bundle.steD (fun q => B < q) U H ∧ vx_Zq Bundle.tN "SUPPRESSED_SENTINEL" Bundle.listD (fun q => B < q) U H ∧
  (∃ a : Nat, vk_R "DiveChairs$Judge" 36 "the judge fails" a U) ∧ (∃ a : Nat, vk_R "DiveChairs" 320 "no such shelf" a U) ∧ (∃ a : Nat, vk_R "DiveChairs" 327 "no row or no such place" a U) ∧
  va_Nw (.castable "java/lang/IllegalStateException" "java/lang/IllegalStateException") U ∧ va_Nw (.castable "java/lang/IllegalArgumentException" "java/lang/IllegalArgumentException") U ∧
  (va_Nw (.declares ⟨"java/lang/RuntimeException", "<init>", "(Ljava/lang/String;)V"⟩) U ∧ va_Nw (.declares ⟨"java/lang/Exception", "<init>", "(Ljava/lang/String;)V"⟩) U ∧ va_Nw (.declares ⟨"java/lang/Throwable", "<init>", "(Ljava/lang/String;)V"⟩) U) ∧
  va_Nc "java/lang/IllegalStateException" "java/lang/IllegalArgumentException" U
theorem zT.mo {B : Nat} {s U : State} {H : Heap} (h : zT B s H) (hW : s.WarmedH U.vm) : zT B U H :=
  ⟨vx_Zq.moved hW.alike h.1, vx_Zq.moved hW.alike h.2.1, h.2.2.1.imp fun _ => vk_R.warm hW, h.2.2.2.1.imp fun _ => vk_R.warm hW, h.2.2.2.2.1.imp fun _ => vk_R.warm hW, va_Nw.warmC hW h.2.2.2.2.2.1, va_Nw.warmC hW h.2.2.2.2.2.2.1,
    ⟨va_Nw.warmD hW h.2.2.2.2.2.2.2.1.1, va_Nw.warmD hW h.2.2.2.2.2.2.2.1.2.1, va_Nw.warmD hW h.2.2.2.2.2.2.2.1.2.2⟩, va_Nc.moved hW.alike h.2.2.2.2.2.2.2.2⟩
theorem zT.same {B : Nat} {s U : State} {H : Heap} (h : zT B s H) (e : U.vm = s.vm) : zT B U H :=
  ⟨vx_Zq.moved (by rw [e]; exact Vm.Alike.refl _) h.1, vx_Zq.moved (by rw [e]; exact Vm.Alike.refl _) h.2.1, h.2.2.1.imp fun _ => vk_R.same e, h.2.2.2.1.imp fun _ => vk_R.same e, h.2.2.2.2.1.imp fun _ => vk_R.same e, va_Nw.same rfl e.symm h.2.2.2.2.2.1, va_Nw.same rfl e.symm h.2.2.2.2.2.2.1,
    ⟨va_Nw.same rfl e.symm h.2.2.2.2.2.2.2.1.1, va_Nw.same rfl e.symm h.2.2.2.2.2.2.2.1.2.1, va_Nw.same rfl e.symm h.2.2.2.2.2.2.2.1.2.2⟩, va_Nc.moved (by rw [e]; exact Vm.Alike.refl _) h.2.2.2.2.2.2.2.2⟩
theorem zT.kp {B : Nat} {s : State} {H H1 : Heap} (h : zT B s H) (hq : ∀ q : Nat, q < H.size → ¬ B < q → H1[q]? = H[q]?) : zT B s H1 := ⟨vx_Zq.kept h.1 hq, vx_Zq.kept h.2.1 hq, h.2.2⟩
theorem zT.tw {B : Nat} {s : State} {H : Heap} (h : zT B s H) {args : Array Value} : ∀ w ∈ zTw, w.before args s = true := by
  obtain ⟨-, -, -, -, -, h1, h2, ⟨h3, h4, h5⟩, -⟩ := h
  intro w hw
  simp only [zTw, List.mem_cons, List.not_mem_nil, or_false] at hw
  rcases hw with rfl | rfl | rfl | rfl | rfl
  · exact va_Nw.use rfl h1
  · exact va_Nw.use rfl h2
  · exact va_Nw.use rfl h3
  · exact va_Nw.use rfl h4
  · exact va_Nw.use rfl h5
def zPt (D : va_G) (cy : Nat → ClassId) (B : Nat) (S : zM) (av : List Value) : Array Value → State → Prop := va_Pc av (fun U => zC D cy U ∧ zMR D cy B S U.heap ∧ zT B U U.heap)
theorem ztblind {D : va_G} {cy : Nat → ClassId} {B : Nat} {S : zM} {av : List Value} : FrameBlind (zPt D cy B S av) := fun a U g mk q => ⟨q.1, q.2.1.call g mk a, q.2.2.1, q.2.2.2.same rfl⟩
abbrev zXt (D : va_G) (cy : Nat → ClassId) (B : Nat) (S : zM) (P : String → Prop) : String → State → State → Prop := vx_X (fun u : zM => u = znw S 0 0) (fun E u t => zMR D cy B u t.heap ∧ P E) (fun q => B < q)
section ZTU
variable {p : Program} {l : Launch} {e : Env} {R : Room} {s : State} {m : MethodId} {args : Array Value} {below : List Frame} {meth : Method} {c : Code} {H : Heap} {locs : List Loc} {cells slots : Nat} {Q : State → Prop}
variable {cc : ByteArray} {pc : Nat} {ls : Array Slot} {rest st0 : List Value} {D : va_G} {cy : Nat → ClassId} {B : Nat} {S S0 S1 : zM} {H0 : Heap} {mc ms : Nat} {aa : Array Value}
theorem zPVt {C : String} {T : u_T} {N a t : Nat} {As : List Value} (hC : zC D cy s) (hM : zMR D cy B S H) (hT : zT B s H) (ha : zA S a t) (hz : t ≠ 0 ∧ t ≤ 12) (hc : vwCl[t - 1]? = some (C, T, N)) : PreV s H C (B + a) (zPt D cy B S (.ref (B + a) :: As)) As :=
  ⟨ztblind, va_recv hC.1 (hM.obj ha hz.1 hz.2) (q0 := 0) hc rfl, fun U hU hW => ⟨rfl, hC.mo hW, by rw [hU]; exact hM, by rw [hU]; exact hT.mo hW⟩⟩
theorem zPSt {As : List Value} (hC : zC D cy s) (hM : zMR D cy B S H) (hT : zT B s H) : PreS s H (zPt D cy B S As) As :=
  ⟨ztblind, fun U hU hW => ⟨rfl, hC.mo hW, by rw [hU]; exact hM, by rw [hU]; exact hT.mo hW⟩⟩
theorem zwid {g : JFrame} {k n : Nat} (h1 : cells ≤ k) (h2 : slots ≤ n) (kk : W p l e R s m args below meth c H locs k n Q g) : W p l e R s m args below meth c H locs cells slots Q g := fun T hT X => kk T hT (stand_widen X h1 h2)
/-- the memory behind a throw -/
theorem zXof {P : String → Prop} {E : String} (hM : zMR D cy B S H) (hS : va_S (fun q => B < q) s.heap H locs) (hP : P E) {t : State} (hz : t.heap.size = H.size + 1) (ho : ∀ q : Nat, q < H.size → t.heap[q]? = H[q]?) : zXt D cy B S P E s t :=
  ⟨znw S 0 0, rfl, ⟨hM.new hz ho (fun h => absurd rfl h), hP⟩, ⟨by have := hS.1; omega, fun q h1 h2 => by rw [ho q (Nat.lt_of_lt_of_le h1 hS.1)]; exact hS.2.1 q h1 h2⟩⟩
end ZTU
def zthr (S : zM) (a : Nat) : Bool := decide (¬ zi S a 1 = 1 ∧ ¬ ((zi S a 1 = 2 ∨ zi S a 1 = 3) ∧ zi S a 3 = 0))
set_option maxHeartbeats 4000000 in
set_option maxRecDepth 100000 in
theorem c_X2_throwFailure (l : Launch) (hst : l.stackTraces = false) (D : va_G) (cy : Nat → ClassId) (B : Nat) {S0 : zM} {a0 : Nat} (ha0 : zA S0 a0 2) : vx_Met l yX2_throwFailure (zws yX2_throwFailure cX2_throwFailure 2 none) { frames := 6, cells := 1, slots := 6, locals := 82 } (zPt D cy B S0 [.ref (B + a0)]) (va_Qv (fun u : zM => u = S0 ∧ zthr S0 a0 = false) (fun u t => zMR D cy B u t.heap) (fun q => B < q)) (zXt D cy B S0 (fun E => E = "java/lang/IllegalStateException" ∧ zthr S0 a0 = true)) 1 6 (fun q => B < q) := by
  refine vx_ofW (cc := cX2_throwFailure) (maxL := 2) (ret := none) (by decide) rfl ?_
  intro p e s m args below meth c s₁ Bd hml hno hv
  obtain ⟨rfl, hC, hM, hT⟩ := hv
  obtain ⟨hx, hb, hr, hg, hown, hlk⟩ := z_open Bd
  have hK := hC.1
  have hS : va_S (fun q => B < q) s.heap s.heap [] := va_S.rf
  obtain ⟨sa, hsa⟩ := hT.2.2.1
  refine z_entry (vs := [.ref (B + a0)]) (Nat.le_of_ble_eq_true rfl) (fun ls hl => ?_)
  have hl : lv_has ls 2 [(0, .ref (B + a0))] := hl
  have kret : ∀ (ls : Array Slot), zthr S0 a0 = false → W p l e { frames := 6, cells := 1, slots := 6, locals := 82 } s m (Array.mk [Value.ref (B + a0)]) below meth c s.heap [] 0 0 (vx_MQ below (va_Qv (fun u : zM => u = S0 ∧ zthr S0 a0 = false) (fun u t => zMR D cy B u t.heap) (fun q => B < q)) (zXt D cy B S0 (fun E => E = "java/lang/IllegalStateException" ∧ zthr S0 a0 = true)) (Array.mk [Value.ref (B + a0)]) s 1 6 (fun q => B < q)) (F0 m 51 ls []) := fun ls ht =>
    zwid (k := 1) (n := 6) (by decide) (by decide) (vx_ret (W.vret hx hb hr (fun t ht' hW => ⟨⟨S0, rfl, ⟨rfl, ht⟩, by show zMR D cy B S0 t.heap; rw [ht']; exact hM⟩, hS.F ht'⟩) hS.2.2 dX2_throwFailure_51 hlk))
  have kthr : ∀ (ls : Array Slot), ls.size = 2 → zthr S0 a0 = true → W p l e { frames := 6, cells := 1, slots := 6, locals := 82 } s m (Array.mk [Value.ref (B + a0)]) below meth c s.heap [] 0 0 (vx_MQ below (va_Qv (fun u : zM => u = S0 ∧ zthr S0 a0 = false) (fun u t => zMR D cy B u t.heap) (fun q => B < q)) (zXt D cy B S0 (fun E => E = "java/lang/IllegalStateException" ∧ zthr S0 a0 = true)) (Array.mk [Value.ref (B + a0)]) s 1 6 (fun q => B < q)) (F0 m 41 ls []) := fun ls hsz ht =>
    zthrS (own := "DiveChairs$Judge") (cls := "java/lang/IllegalStateException") (text := "the judge fails") (names := ["java/lang/RuntimeException", "java/lang/Exception"]) (ik := 34) (is := 36) (ic := 38) (A := fun q => B < q) hx hb hst hown (by decide +kernel) (by decide +kernel) (hg _ zw_904) (hg _ zw_22) hsa
      (fun w hw => (zat1 w hw).elim (fun h => hg w h) (fun h => hT.tw w h)) zat1g hT.1 hT.2.1 hS (hsz.trans hml.symm) dX2_throwFailure_41 dX2_throwFailure_44 dX2_throwFailure_45 dX2_throwFailure_47 dX2_throwFailure_50 (fun x h => (hno x h).elim) (by decide) (by decide) (by decide) (by decide) hlk
      (fun t _ hz ho => zXof hM hS ⟨rfl, ht⟩ hz ho) (fun z hz => nomatch hz) (by decide) (by decide)
  have k28 : ∀ (v : Int32) (ls : Array Slot), lv_has ls 2 [(0, .ref (B + a0))] → (zthr S0 a0 = decide (¬ zi S0 a0 1 = 1 ∧ v = 0)) → W p l e { frames := 6, cells := 1, slots := 6, locals := 82 } s m (Array.mk [Value.ref (B + a0)]) below meth c s.heap [] 0 0 (vx_MQ below (va_Qv (fun u : zM => u = S0 ∧ zthr S0 a0 = false) (fun u t => zMR D cy B u t.heap) (fun q => B < q)) (zXt D cy B S0 (fun E => E = "java/lang/IllegalStateException" ∧ zthr S0 a0 = true)) (Array.mk [Value.ref (B + a0)]) s 1 6 (fun q => B < q)) (F0 m 28 ls [.int v]) := by
    intro v ls hl ht
    refine lv_istore_n (i := 1) (lv' := [(1, .int v), (0, .ref (B + a0))]) hx hb dX2_throwFailure_28 rfl hl (by decide) rfl (fun ls hl => ?_)
    refine lv_aload_n hx hb dX2_throwFailure_29 rfl (lv_at hl 1 rfl) ?_
    refine z_getI hx hb hg zin_2 hown hK hM ha0 1 rfl (by decide) (hg _ zw_312) (fun _ h9 => h9) dX2_throwFailure_30 ?_
    refine lv_iconst (v := (1 : Int32)) hx hb dX2_throwFailure_33 (by decide +kernel) ?_
    refine lv_icmp_eq (tgt := 51) hx hb dX2_throwFailure_34 (by decide) (fun hc => ?_) (fun hc => ?_)
    · exact kret ls (by rw [ht]; simp [hc])
    · refine lv_iload_n hx hb dX2_throwFailure_37 rfl (lv_at hl 0 rfl) ?_
      refine lv_if_ne (tgt := 51) hx hb dX2_throwFailure_38 (by decide) (fun hc2 => ?_) (fun hc2 => ?_)
      · exact kret ls (by rw [ht]; simp [hc2])
      · exact kthr ls hl.1 (by rw [ht]; simp [hc, hc2])
  have k27 : ∀ (ls : Array Slot), lv_has ls 2 [(0, .ref (B + a0))] → ¬ ((zi S0 a0 1 = 2 ∨ zi S0 a0 1 = 3) ∧ zi S0 a0 3 = 0) → W p l e { frames := 6, cells := 1, slots := 6, locals := 82 } s m (Array.mk [Value.ref (B + a0)]) below meth c s.heap [] 0 0 (vx_MQ below (va_Qv (fun u : zM => u = S0 ∧ zthr S0 a0 = false) (fun u t => zMR D cy B u t.heap) (fun q => B < q)) (zXt D cy B S0 (fun E => E = "java/lang/IllegalStateException" ∧ zthr S0 a0 = true)) (Array.mk [Value.ref (B + a0)]) s 1 6 (fun q => B < q)) (F0 m 27 ls []) := by
    intro ls hl hn
    refine lv_iconst (v := (0 : Int32)) hx hb dX2_throwFailure_27 (by decide +kernel) ?_
    exact k28 0 ls hl (by unfold zthr; simp [hn])
  have k16 : ∀ (ls : Array Slot), lv_has ls 2 [(0, .ref (B + a0))] → (zi S0 a0 1 = 2 ∨ zi S0 a0 1 = 3) → W p l e { frames := 6, cells := 1, slots := 6, locals := 82 } s m (Array.mk [Value.ref (B + a0)]) below meth c s.heap [] 0 0 (vx_MQ below (va_Qv (fun u : zM => u = S0 ∧ zthr S0 a0 = false) (fun u t => zMR D cy B u t.heap) (fun q => B < q)) (zXt D cy B S0 (fun E => E = "java/lang/IllegalStateException" ∧ zthr S0 a0 = true)) (Array.mk [Value.ref (B + a0)]) s 1 6 (fun q => B < q)) (F0 m 16 ls []) := by
    intro ls hl hk
    refine lv_aload_n hx hb dX2_throwFailure_16 rfl (lv_at hl 0 rfl) ?_
    refine z_getI hx hb hg zin_2 hown hK hM ha0 3 rfl (by decide) (hg _ zw_316) (fun _ h9 => h9) dX2_throwFailure_17 ?_
    refine lv_if_ne (tgt := 27) hx hb dX2_throwFailure_20 (by decide) (fun hc => ?_) (fun hc => ?_)
    · exact k27 ls hl (fun h => hc h.2)
    · refine lv_iconst (v := (1 : Int32)) hx hb dX2_throwFailure_23 (by decide +kernel) ?_
      refine lv_goto (tgt := 28) hx hb dX2_throwFailure_24 (by decide) ?_
      refine k28 1 ls hl ?_
      unfold zthr
      simp [hk, hc]
  refine lv_aload_n hx hb dX2_throwFailure_0 rfl (lv_at hl 0 rfl) ?_
  refine z_getI hx hb hg zin_2 hown hK hM ha0 1 rfl (by decide) (hg _ zw_312) (fun _ h9 => h9) dX2_throwFailure_1 ?_
  refine lv_iconst (v := (2 : Int32)) hx hb dX2_throwFailure_4 (by decide +kernel) ?_
  refine lv_icmp_eq (tgt := 16) hx hb dX2_throwFailure_5 (by decide) (fun hc => ?_) (fun hc => ?_)
  · exact k16 ls hl (Or.inl hc)
  · refine lv_aload_n hx hb dX2_throwFailure_8 rfl (lv_at hl 0 rfl) ?_
    refine z_getI hx hb hg zin_2 hown hK hM ha0 1 rfl (by decide) (hg _ zw_312) (fun _ h9 => h9) dX2_throwFailure_9 ?_
    refine lv_iconst (v := (3 : Int32)) hx hb dX2_throwFailure_12 (by decide +kernel) ?_
    refine lv_icmp_ne (tgt := 27) hx hb dX2_throwFailure_13 (by decide) (fun hc3 => ?_) (fun hc3 => ?_)
    · exact k27 ls hl (fun h => h.1.elim hc hc3)
    · exact k16 ls hl (Or.inr hc3)
/-- a static method with a table of its own, all its throws caught within -/
abbrev zwsW (y : MethodName) (b : ByteArray) (n : Nat) (r : Option FieldType) (hh : List (Nat × Nat × Nat × Nat)) : List Cond := Cond.codeWith y b n r hh :: zGW
section ZTV
variable {p : Program} {l : Launch} {e : Env} {R : Room} {s : State} {m : MethodId} {args : Array Value} {below : List Frame} {meth : Method} {c : Code} {H : Heap} {locs : List Loc} {cells slots : Nat} {Q : State → Prop}
variable {cc : ByteArray} {pc : Nat} {ls : Array Slot} {rest st0 : List Value} {D : va_G} {cy : Nat → ClassId} {B : Nat} {S S0 S1 : zM} {H0 : Heap} {mc ms : Nat} {aa : Array Value}
theorem zopenW {y : MethodName} {cc : ByteArray} {maxL : Nat} {ret : Option FieldType} {hh : List (Nat × Nat × Nat × Nat)} {rm : Room} {s₁ : State} (Bd : BodyLoose p l y (headSpec (zwsW y cc maxL ret hh) rm) cc maxL ret e s m args below meth c s₁) :
    p.tables.exec = Jvm.exec ∧ c.code = cc ∧ meth.sig.returnType = ret ∧ (∀ w ∈ zGW, w.before args s = true) ∧ s.vm.findClass y.cls = some m.cls ∧ meth.locks = false ∧ (Cond.codeWith y cc maxL ret hh).before args s = true :=
  ⟨Bd.exec, Bd.bytes, Bd.returns, fun w hw => atoms_spec (ws := zwsW y cc maxL ret hh) Bd.pre w (List.mem_cons_of_mem _ hw), findClass_of_methodNamed Bd.named, Bd.notSynchronized, atoms_spec (ws := zwsW y cc maxL ret hh) Bd.pre _ List.mem_cons_self⟩
theorem z_cwSW {own : String} {index maxL n : Nat} {y : MethodName} {bytes : ByteArray} {ret : Option FieldType} {hh : List (Nat × Nat × Nat × Nat)} {rm : Room} (ht : ∀ w ∈ zGW, w.before args s = true) (h1 : Cond.methodLink own index y ∈ zGW) (h2 : Cond.static y ∈ zGW) (h4 : Cond.initialized y.cls ∈ zGW) (h5 : Cond.codeWith y bytes maxL ret hh ∈ zGW)
    (hd : y.cls ≠ "java/lang/invoke/MethodHandle" ∧ y.cls ≠ "java/lang/invoke/VarHandle" ∧ (parseMethodDescriptor y.desc).map (fun d => d.parameters.length) = some n) (hR : rm.frames + 1 ≤ R.frames ∧ 8 + (maxL + 11) + rm.locals ≤ R.locals) : vx_CSW R s args own index y bytes maxL ret hh (zwsW y bytes maxL ret hh) rm rm.cells rm.slots n :=
  vx_cwSW n ht (zGood fun w hw => by
    unfold va_wsS at hw
    simp only [List.mem_append, List.mem_cons, List.not_mem_nil, or_false] at hw
    rcases hw with (h | h | h) | h | h
    · rw [h]; exact h1
    · rw [h]; exact h2
    · rw [h]; exact h4
    · rw [h]; exact h5
    · exact h) rfl rfl rfl hd hR
theorem zrunX {g : JFrame} {Qa : State → Outcome → State → Prop} {free : Addr → Prop} (h : vx_Run p l e R s m args below meth c H locs cells slots mc ms g rest Qa (fun _ _ _ => False) free) : va_Run p l e R s m args below meth c H locs cells slots mc ms g rest Qa free := by
  intro T hT X
  rcases h T hT X with h | ⟨q, st₀, t, T', L, E, ce, h0, X', hL, e1, e2, hf, -⟩
  · exact h
  · exact hf.elim
end ZTV
def f_X11_fails (S : zM) (a : Nat) : Int32 × zM := if zthr S a = true then (1, znw S 0 0) else (0, S)
set_option maxHeartbeats 4000000 in
set_option maxRecDepth 100000 in
theorem c_X11_fails (l : Launch) (hst : l.stackTraces = false) (D : va_G) (cy : Nat → ClassId) (B : Nat) {S0 : zM} {a0 : Nat} {r : Int32} {S' : zM} (ha0 : zA S0 a0 2) (h : f_X11_fails S0 a0 = (r, S')) : vx_Met l yX11_fails (zwsW yX11_fails cX11_fails 2 (some .boolean) [(0, 5, 6, 325)]) { frames := 7, cells := 1, slots := 6, locals := 103 } (zPt D cy B S0 [.ref (B + a0)]) (zQi D cy B S0 r S') (fun _ _ _ => False) 1 6 (fun q => B < q) := by
  refine vx_ofWH (cc := cX11_fails) (maxL := 2) (ret := some .boolean) (hh := [(0, 5, 6, 325)]) (by decide) rfl ?_
  intro p e s m args below meth c s₁ Bd hml hv
  obtain ⟨rfl, hC, hM, hT⟩ := hv
  obtain ⟨hx, hb, hr, hg, hown, hlk, hcw⟩ := zopenW Bd
  have htab := vx_table (x := yX11_fails) Bd hcw
  have hK := hC.1
  have hS : va_S (fun q => B < q) s.heap s.heap [] := va_S.rf
  refine z_entry (vs := [.ref (B + a0)]) (Nat.le_of_ble_eq_true rfl) (fun ls hl => ?_)
  have hl : lv_has ls 2 [(0, .ref (B + a0))] := hl
  refine lv_aload_n hx hb dX11_fails_0 rfl (lv_at hl 0 rfl) ?_
  refine vx_callv (vx_runV (As := []) (rest := []) ⟨hx, hb, hml, hown, hg⟩ (c_X2_throwFailure l hst D cy B ha0) (z_cwV hg zw_900 zw_901 zw_902 zw_14 zw_903 zh_X2_throwFailure ⟨(Nat.le_of_ble_eq_true rfl), (Nat.le_of_ble_eq_true rfl)⟩) (zPVt hC hM hT ha0 (by decide) rfl) rfl rfl hl.1 rfl (lv_room (Nat.le_of_ble_eq_true rfl)) dX11_fails_1 ⟨(Nat.le_of_ble_eq_true rfl), (Nat.le_of_ble_eq_true rfl)⟩) hS (fun q _ h => h) (fun q h => h) (fun q _ h => h) ?_ ?_
  · intro E ce q u t H1 locs1 ht hal hu hB _ _ hS hce hcv hcl
    subst hu
    obtain ⟨hM1, rfl, hthr⟩ := hB
    rw [ht] at hM1
    refine vx_catch (own := RX11) (name := "java/lang/IllegalStateException") hown [] ⟨0, 5, 6, 325⟩ [] (by rw [htab]; rfl) (fun z hz => nomatch hz) rfl (by decide) (hg _ zw_899) (va_Nw.use rfl hT.2.2.2.2.2.1) hce hcv hcl ?_
    refine lv_astore_n (i := 1) (lv' := [(1, .ref q), (0, .ref (B + a0))]) hx hb dX11_fails_6 rfl hl (by decide) rfl (fun ls hl => ?_)
    refine lv_iconst (v := (1 : Int32)) hx hb dX11_fails_7 (by decide +kernel) ?_
    have h := zt h hthr
    exact vx_ret (z_zret (z_bit (Or.inr rfl)).1 hx hb hr hlk hM1 zX_new hS (zpp h) dX11_fails_8)
  · intro u t H1 locs1 ht hal hu hB _ _ hS
    obtain ⟨rfl, hthr⟩ := hu
    rw [ht] at hB
    refine lv_iconst (v := (0 : Int32)) hx hb dX11_fails_4 (by decide +kernel) ?_
    have h := zf h (by rw [hthr]; decide)
    exact vx_ret (z_zret (z_bit (Or.inl rfl)).1 hx hb hr hlk hB zX.rf hS (zpp h) dX11_fails_5)
/-- 0 and the element; 1: no such shelf; 2: no row or no such place -/
def f_X11_element (S0 : zM) (a0 : Nat) (v1 v2 : Int32) : Option (Int32 × Int64) :=
  zB1 (f_X11_shelfAt S0 a0 v1) (fun r2 => if r2 = 0 then some ((1 : Int32), (0 : Int64)) else zB1 (f_X8_refusalAsRow S0 r2) (fun r8 => if r8 = 0 then zLet (f_X11_within v2 (zi S0 r2 3)) (fun r13 => if r13 = 0 then some ((2 : Int32), (0 : Int64)) else zChk (¬ (zr S0 r2 0) = 0) (zChk (¬ (v2 < 0 ∨ zln S0 (zr S0 r2 0) ≤ (v2).toNatClampNeg)) (some ((0 : Int32), Int32.toInt64 (zi S0 (zr S0 r2 0) (Int32.toNatClampNeg v2)))))) else some ((2 : Int32), (0 : Int64))))
set_option maxHeartbeats 4000000 in
set_option maxRecDepth 100000 in
theorem c_X11_element (l : Launch) (hst : l.stackTraces = false) (D : va_G) (cy : Nat → ClassId) (B : Nat) {S0 : zM} {a0 : Nat} {v1 v2 w : Int32} {r : Int64} (ha0 : zA S0 a0 11) (h : f_X11_element S0 a0 v1 v2 = some (w, r)) : vx_Met l yX11_element (zws yX11_element cX11_element 4 (some .long)) { frames := 6, cells := 1, slots := 6, locals := 90 } (zPt D cy B S0 [.ref (B + a0), .int v1, .int v2]) (va_Ql (fun (q : Int64) (u : zM) => q = r ∧ u = S0 ∧ w = 0) (fun u t => zMR D cy B u t.heap) (fun q => B < q)) (zXt D cy B S0 (fun E => (w = 1 ∧ E = "java/lang/IllegalArgumentException") ∨ (w = 2 ∧ E = "java/lang/IllegalStateException"))) 1 6 (fun q => B < q) := by
  refine vx_ofW (cc := cX11_element) (maxL := 4) (ret := some .long) (by decide) rfl ?_
  intro p e s m args below meth c s₁ Bd hml hno hv
  obtain ⟨rfl, hC, hM, hT⟩ := hv
  obtain ⟨hx, hb, hr, hg, hown, hlk⟩ := z_open Bd
  have hK := hC.1
  have hS : va_S (fun q => B < q) s.heap s.heap [] := va_S.rf
  obtain ⟨sa, hsa⟩ := hT.2.2.2.1
  obtain ⟨sb, hsb⟩ := hT.2.2.2.2.1
  refine z_entry (vs := [.ref (B + a0), .int v1, .int v2]) (Nat.le_of_ble_eq_true rfl) (fun ls hl => ?_)
  have hl : lv_has ls 4 [(0, .ref (B + a0)), (1, .int v1), (2, .int v2)] := hl
  have k39 : ∀ (ls : Array Slot) (H : Heap) (locs : List Loc), ls.size = 4 → zMR D cy B S0 H → va_S (fun q => B < q) s.heap H locs → w = 2 → W p l e { frames := 6, cells := 1, slots := 6, locals := 90 } s m (Array.mk [Value.ref (B + a0), Value.int v1, Value.int v2]) below meth c H locs 0 0 (vx_MQ below (va_Ql (fun (q : Int64) (u : zM) => q = r ∧ u = S0 ∧ w = 0) (fun u t => zMR D cy B u t.heap) (fun q => B < q)) (zXt D cy B S0 (fun E => (w = 1 ∧ E = "java/lang/IllegalArgumentException") ∨ (w = 2 ∧ E = "java/lang/IllegalStateException"))) (Array.mk [Value.ref (B + a0), Value.int v1, Value.int v2]) s 1 6 (fun q => B < q)) (F0 m 39 ls []) := fun ls H locs hsz hM hS hw =>
    zthrSW (own := "DiveChairs") (cls := "java/lang/IllegalStateException") (text := "no row or no such place") (names := ["java/lang/RuntimeException", "java/lang/Exception"]) (ik := 325) (is := 327) (ic := 329) (A := fun q => B < q) hx hb hst hown (by decide +kernel) (by decide +kernel) (hg _ zw_899) (hg _ zw_22) hsb
      (fun w hw => (zat3 w hw).elim (fun h => hg w h) (fun h => hT.tw w h)) zat3g hT.1 hT.2.1 hS (hsz.trans hml.symm) dX11_element_39 dX11_element_42 dX11_element_43 dX11_element_46 dX11_element_49 (fun x h => (hno x h).elim) (by decide) (by decide) (by decide) (by decide) hlk
      (fun t _ hz ho => zXof hM hS (Or.inr ⟨hw, rfl⟩) hz ho) (fun z hz => hS.2.2 z hz) (by decide) (by decide)
  unfold f_X11_element at h
  refine lv_aload_n hx hb dX11_element_0 rfl (lv_at hl 0 rfl) ?_
  refine lv_iload_n hx hb dX11_element_1 rfl (lv_at hl 1 rfl) ?_
  obtain ⟨r2, hr1, h⟩ := zb1 h
  refine z_runr (va_runV (As := [.int v1]) (rest := []) ⟨hx, hb, hml, hown, hg⟩ (c_X11_shelfAt l D cy B ha0 hr1) (z_cwV hg zw_452 zw_453 zw_1464 zw_2 zw_454 zh_X11_shelfAt ⟨(Nat.le_of_ble_eq_true rfl), (Nat.le_of_ble_eq_true rfl)⟩) (zPV hC hM ha0 (by decide) rfl) rfl rfl hl.1 rfl (lv_room (Nat.le_of_ble_eq_true rfl)) dX11_element_2 ⟨(Nat.le_of_ble_eq_true rfl), (Nat.le_of_ble_eq_true rfl)⟩) hS (fun H locs hM hX3 h4 hS => ?_)
  refine z_astore_n (i := 3) (lv' := [(3, zv B r2), (0, .ref (B + a0)), (1, .int v1), (2, .int v2)]) hx hb dX11_element_5 rfl hl (by decide) rfl (fun ls hl => ?_)
  refine z_aload_n hx hb dX11_element_6 rfl (lv_at hl 0 rfl) ?_
  refine z_ifnonnull (tgt := 21) hx hb dX11_element_7 (by decide) (fun hc5 => ?_) (fun hc5 => ?_)
  · have h6 := h4.nn hc5
    have h := zf h hc5
    refine z_aloadR_n hx hb dX11_element_21 rfl (lv_at hl 0 rfl) h6.1 ?_
    obtain ⟨r8, hr7, h⟩ := zb1 h
    refine z_runi (va_runV (As := []) (rest := []) ⟨hx, hb, hml, hown, hg⟩ (c_X8_refusalAsRow l D cy B h6 hr7) (z_cwV hg zw_862 zw_460 zw_461 zw_12 zw_462 zh_X8_refusalAsRow ⟨(Nat.le_of_ble_eq_true rfl), (Nat.le_of_ble_eq_true rfl)⟩) (zPV hC hM h6 (by decide) rfl) rfl rfl hl.1 rfl (lv_room (Nat.le_of_ble_eq_true rfl)) dX11_element_22 ⟨(Nat.le_of_ble_eq_true rfl), (Nat.le_of_ble_eq_true rfl)⟩) hS (fun H locs hM hX9 hS => ?_)
    refine lv_if_ne (tgt := 39) hx hb dX11_element_25 (by decide) (fun hc11 => ?_) (fun hc11 => ?_)
    · have h := zf h hc11
      exact k39 ls H locs hl.1 hM hS (zsp h).1.symm
    · have h := zt h hc11
      refine lv_iload_n hx hb dX11_element_28 rfl (lv_at hl 3 rfl) ?_
      refine z_aloadR_n hx hb dX11_element_29 rfl (lv_at hl 0 rfl) h6.1 ?_
      refine z_getI hx hb hg zin_8 hown hK hM h6 3 rfl (by decide) (hg _ zw_259) (fun _ h9 => h9) dX11_element_30 ?_
      obtain ⟨r13, hr12, h⟩ := zlg h
      have hr12 := hr12.symm
      refine z_runi (va_runS (As := [.int v2, .int (zi S0 r2 3)]) (rest := []) ⟨hx, hb, hml, hown, hg⟩ (c_X11_within l D cy B hr12) (z_cwS hg zw_290 zw_291 zw_2 zw_292 zh_X11_within.2 ⟨(Nat.le_of_ble_eq_true rfl), (Nat.le_of_ble_eq_true rfl)⟩) (zPS hC hM) rfl rfl hl.1 rfl (lv_room (Nat.le_of_ble_eq_true rfl)) dX11_element_33 ⟨(Nat.le_of_ble_eq_true rfl), (Nat.le_of_ble_eq_true rfl)⟩) hS (fun H locs hM hX14 hS => ?_)
      refine lv_if_ne (tgt := 50) hx hb dX11_element_36 (by decide) (fun hc16 => ?_) (fun hc16 => ?_)
      · have h := zf h hc16
        refine z_aloadR_n hx hb dX11_element_50 rfl (lv_at hl 0 rfl) h6.1 ?_
        obtain ⟨hq18, h⟩ := zk h
        refine z_getN hx hb hg zin_8 hown hK hM h6 0 rfl (by decide) (hg _ zw_252) (fun _ h9 => h9) hq18 dX11_element_51 (fun h17 => ?_)
        refine lv_iload_n hx hb dX11_element_54 rfl (lv_at hl 3 rfl) ?_
        obtain ⟨hq23, h⟩ := zk h
        refine z_iald hx hb hK hM h17 hq23 dX11_element_55 ?_
        refine lv_i2l hx hb dX11_element_56 rfl ?_
        obtain ⟨h8, h9⟩ := zsp h
        exact zwid (k := 1) (n := 6) (by decide) (by decide) (vx_ret (W.lret hx hb hr (fun t ht' hW => ⟨⟨_, S0, rfl, ⟨h9, rfl, h8.symm⟩, by show zMR D cy B S0 t.heap; rw [ht']; exact hM⟩, hS.F ht'⟩) hS.2.2 dX11_element_57 hlk))
      · have h := zt h hc16
        exact k39 ls H locs hl.1 hM hS (zsp h).1.symm
  · have h := zt h hc5
    exact zthrSW (own := "DiveChairs") (cls := "java/lang/IllegalArgumentException") (text := "no such shelf") (names := ["java/lang/RuntimeException", "java/lang/Exception"]) (ik := 318) (is := 320) (ic := 322) (A := fun q => B < q) hx hb hst hown (by decide +kernel) (by decide +kernel) (hg _ zw_976) (hg _ zw_21) hsa
      (fun w hw => (zat2 w hw).elim (fun h => hg w h) (fun h => hT.tw w h)) zat2g hT.1 hT.2.1 hS (hl.1.trans hml.symm) dX11_element_10 dX11_element_13 dX11_element_14 dX11_element_17 dX11_element_20 (fun x h => (hno x h).elim) (by decide) (by decide) (by decide) (by decide) hlk
      (fun t _ hz ho => zXof hM hS (Or.inl ⟨(zsp h).1.symm, rfl⟩) hz ho) (fun z hz => hS.2.2 z hz) (by decide) (by decide)
def f_L_element (S0 : zM) (a0 : Nat) (v1 v2 : Int32) (a3 : Nat) : Option (Int32 × zM) :=
  zB2 (f_X11_element S0 a0 v1 v2) (fun w r => if w = 0 then zChk (¬ ((0 : Int32) < 0 ∨ zln S0 a3 ≤ ((0 : Int32)).toNatClampNeg)) (some ((0 : Int32), zpL S0 a3 (Int32.toNatClampNeg (0 : Int32)) r)) else some (w, znw S0 0 0))
set_option maxHeartbeats 4000000 in
set_option maxRecDepth 100000 in
theorem c_L_element (l : Launch) (hst : l.stackTraces = false) (D : va_G) (cy : Nat → ClassId) (B : Nat) {S0 : zM} {a0 a3 : Nat} {v1 v2 r : Int32} {S' : zM} (ha0 : zA S0 a0 11) (ha3 : zA S0 a3 21) (h : f_L_element S0 a0 v1 v2 a3 = some (r, S')) : vx_Met l yL_element (zwsW yL_element cL_element 5 (some .int) [(0, 9, 12, 13), (0, 9, 16, 15)]) { frames := 7, cells := 1, slots := 6, locals := 120 } (zPt D cy B S0 [.ref (B + a0), .int v1, .int v2, .ref (B + a3)]) (zQi D cy B S0 r S') (fun _ _ _ => False) 1 6 (fun q => B < q) := by
  refine vx_ofWH (cc := cL_element) (maxL := 5) (ret := some .int) (hh := [(0, 9, 12, 13), (0, 9, 16, 15)]) (by decide) rfl ?_
  intro p e s m args below meth c s₁ Bd hml hv
  obtain ⟨rfl, hC, hM, hT⟩ := hv
  obtain ⟨hx, hb, hr, hg, hown, hlk, hcw⟩ := zopenW Bd
  have htab := vx_table (x := yL_element) Bd hcw
  have hK := hC.1
  have hS : va_S (fun q => B < q) s.heap s.heap [] := va_S.rf
  refine z_entry (vs := [.ref (B + a0), .int v1, .int v2, .ref (B + a3)]) (Nat.le_of_ble_eq_true rfl) (fun ls hl => ?_)
  have hl : lv_has ls 5 [(0, .ref (B + a0)), (1, .int v1), (2, .int v2), (3, .ref (B + a3))] := hl
  unfold f_L_element at h
  obtain ⟨w, q, hw, h⟩ := zb2 h
  refine lv_aload_n hx hb dL_element_0 rfl (lv_at hl 3 rfl) ?_
  refine lv_iconst (v := (0 : Int32)) hx hb dL_element_1 (by decide +kernel) ?_
  refine lv_aload_n hx hb dL_element_2 rfl (lv_at hl 0 rfl) ?_
  refine lv_iload_n hx hb dL_element_3 rfl (lv_at hl 1 rfl) ?_
  refine lv_iload_n hx hb dL_element_4 rfl (lv_at hl 2 rfl) ?_
  refine vx_calll (vx_runV (As := [.int v1, .int v2]) (rest := [.int 0, .ref (B + a3)]) ⟨hx, hb, hml, hown, hg⟩ (c_X11_element l hst D cy B ha0 hw) (z_cwV hg zw_972 zw_973 zw_974 zw_2 zw_975 zh_X11_element ⟨(Nat.le_of_ble_eq_true rfl), (Nat.le_of_ble_eq_true rfl)⟩) (zPVt hC hM hT ha0 (by decide) rfl) rfl rfl hl.1 rfl (lv_room (Nat.le_of_ble_eq_true rfl)) dL_element_5 ⟨(Nat.le_of_ble_eq_true rfl), (Nat.le_of_ble_eq_true rfl)⟩) hS (fun q _ h => h) (fun q h => h) (fun q _ h => h) ?_ ?_
  · intro E ce q9 u t H1 locs1 ht hal hu hB _ _ hS hce hcv hcl
    subst hu
    obtain ⟨hM1, hE⟩ := hB
    rw [ht] at hM1
    rcases hE with ⟨rfl, rfl⟩ | ⟨rfl, rfl⟩
    · refine vx_catch (own := RL) (name := "java/lang/IllegalArgumentException") hown [] ⟨0, 9, 12, 13⟩ [⟨0, 9, 16, 15⟩] (by rw [htab]; rfl) (fun z hz => nomatch hz) rfl (by decide) (hg _ zw_970) (va_Nw.use rfl hT.2.2.2.2.2.2.1) hce hcv hcl ?_
      refine lv_astore (i := 4) (lv' := [(4, .ref q9), (0, .ref (B + a0)), (1, .int v1), (2, .int v2), (3, .ref (B + a3))]) hx hb dL_element_12 hl (by decide) rfl (fun ls hl => ?_)
      refine lv_iconst (v := (1 : Int32)) hx hb dL_element_14 (by decide +kernel) ?_
      exact vx_ret (z_iret hx hb hr hlk hM1 zX_new hS (zsp h) dL_element_15)
    · refine vx_catch (own := RL) (name := "java/lang/IllegalStateException") hown [⟨0, 9, 12, 13⟩] ⟨0, 9, 16, 15⟩ [] (by rw [htab]; rfl) (fun z hz => by
        rw [List.mem_singleton] at hz
        subst hz
        exact Or.inr ⟨by decide, "java/lang/IllegalArgumentException", hg _ zw_970, hT.2.2.2.2.2.2.2.2⟩) rfl (by decide) (hg _ zw_971) (va_Nw.use rfl hT.2.2.2.2.2.1) hce hcv hcl ?_
      refine lv_astore (i := 4) (lv' := [(4, .ref q9), (0, .ref (B + a0)), (1, .int v1), (2, .int v2), (3, .ref (B + a3))]) hx hb dL_element_16 hl (by decide) rfl (fun ls hl => ?_)
      refine lv_iconst (v := (2 : Int32)) hx hb dL_element_18 (by decide +kernel) ?_
      exact vx_ret (z_iret hx hb hr hlk hM1 zX_new hS (zsp h) dL_element_19)
  · intro q' u t H1 locs1 ht hal hu hB _ _ hS
    obtain ⟨rfl, rfl, rfl⟩ := hu
    rw [ht] at hB
    obtain ⟨hq, h⟩ := zk (show zChk _ _ = _ from zt h rfl)
    refine z_last hx hb hK hB hS ha3 hq dL_element_8 (fun H locs hM hS => ?_)
    refine lv_goto (tgt := 20) hx hb dL_element_9 (by decide) ?_
    refine lv_iconst (v := (0 : Int32)) hx hb dL_element_20 (by decide +kernel) ?_
    exact vx_ret (z_iret hx hb hr hlk hM zX_pL hS (zsp h) dL_element_21)
def f_X11_toss (S0 : zM) (a0 : Nat) (v1 : Int32) : Option (Int32 × zM) :=
  zB1 (f_X11_shelfAt S0 a0 v1) (fun r2 => if r2 = 0 then some (((-1 : Int32), S0)) else if (zr S0 r2 1) = 0 then zLet (f_X8_refusalAsJudge S0 r2) (fun r27 => some ((r27, S0))) else zL2 (f_X11_fails S0 (zr S0 r2 1)) (fun r13 S14 => if r13 = 0 then some (((-15 : Int32), S14)) else zChk (¬ (zr S14 r2 1) = 0) (zLet (f_X2_failureNumber S14 (zr S14 r2 1)) (fun r23 => some ((r23, S14))))))
set_option maxHeartbeats 4000000 in
set_option maxRecDepth 100000 in
theorem c_X11_toss (l : Launch) (hst : l.stackTraces = false) (D : va_G) (cy : Nat → ClassId) (B : Nat) {S0 : zM} {a0 : Nat} {v1 : Int32} {r : Int32} {S' : zM} (ha0 : zA S0 a0 11) (h : f_X11_toss S0 a0 v1 = some (r, S')) : Met l yX11_toss (zws yX11_toss cX11_toss 3 ((some .int))) { frames := 8, cells := 1, slots := 6, locals := 124 } (zPt D cy B S0 [.ref (B + a0), .int v1]) (zQi D cy B S0 r S') 1 6 (fun q => B < q) := by
  refine Met.ofW (cc := cX11_toss) (maxL := 3) (ret := ((some .int))) (by decide) rfl ?_
  intro p e s m args below meth c s₁ Bd hml hv
  obtain ⟨rfl, hC, hM, hT⟩ := hv
  obtain ⟨hx, hb, hr, hg, hown, hlk⟩ := z_open Bd
  have hK := hC.1
  have hS : va_S (fun q => B < q) s.heap s.heap [] := va_S.rf
  have hX0 : zX S0 S0 := zX.rf
  refine z_entry (vs := [.ref (B + a0), .int v1]) (Nat.le_of_ble_eq_true rfl) (fun ls hl => ?_)
  have hl : lv_has ls 3 [(0, .ref (B + a0)), (1, .int v1)] := hl
  unfold f_X11_toss at h
  refine lv_aload_n hx hb dX11_toss_0 rfl (lv_at hl 0 rfl) ?_
  refine lv_iload_n hx hb dX11_toss_1 rfl (lv_at hl 1 rfl) ?_
  obtain ⟨r2, hr1, h⟩ := zb1 h
  refine z_runr (va_runV (As := [.int v1]) (rest := []) ⟨hx, hb, hml, hown, hg⟩ (c_X11_shelfAt l D cy B ha0 hr1) (z_cwV hg zw_452 zw_453 zw_1464 zw_2 zw_454 zh_X11_shelfAt ⟨(Nat.le_of_ble_eq_true rfl), (Nat.le_of_ble_eq_true rfl)⟩) (zPV hC hM ha0 (by decide) rfl) rfl rfl hl.1 rfl (lv_room (Nat.le_of_ble_eq_true rfl)) dX11_toss_2 ⟨(Nat.le_of_ble_eq_true rfl), (Nat.le_of_ble_eq_true rfl)⟩) hS (fun H locs hM hX3 h4 hS => ?_)
  refine z_astore_n (i := 2) (lv' := [(2, zv B r2), (0, .ref (B + a0)), (1, .int v1)]) hx hb dX11_toss_5 rfl hl (by decide) rfl (fun ls hl => ?_)
  refine z_aload_n hx hb dX11_toss_6 rfl (lv_at hl 0 rfl) ?_
  refine z_ifnonnull (tgt := 12) hx hb dX11_toss_7 (by decide) (fun hc5 => ?_) (fun hc5 => ?_)
  · have h6 := h4.nn hc5
    have h := zf h hc5
    refine z_aloadR_n hx hb dX11_toss_12 rfl (lv_at hl 0 rfl) h6.1 ?_
    refine z_getR hx hb hg zin_8 hown hK hM h6 1 rfl (by decide) (hg _ zw_254) (fun _ h9 => h9) dX11_toss_13 (fun h7 => ?_)
    refine z_ifnonnull (tgt := 24) hx hb dX11_toss_16 (by decide) (fun hc8 => ?_) (fun hc8 => ?_)
    · have h9 := h7.nn hc8
      have h := zf h hc8
      refine z_aloadR_n hx hb dX11_toss_24 rfl (lv_at hl 0 rfl) h6.1 ?_
      refine z_getN hx hb hg zin_8 hown hK hM h6 1 rfl (by decide) (hg _ zw_254) (fun _ h9 => h9) h9.ne dX11_toss_25 (fun h10 => ?_)
      obtain ⟨r13, S14, hr11, h⟩ := zl2 h
      refine z_runi (zrunX (vx_runSX (As := [.ref (B + (zr S0 r2 1))]) (rest := []) ⟨hx, hb, hml, hown, hg⟩ (c_X11_fails l hst D cy B h10 hr11) (z_cwSW hg zw_896 zw_897 zw_2 zw_898 zh_X11_fails.2 ⟨(Nat.le_of_ble_eq_true rfl), (Nat.le_of_ble_eq_true rfl)⟩) (zPSt hC hM (hT.kp hS.2.1)) rfl rfl hl.1 rfl (lv_room (Nat.le_of_ble_eq_true rfl)) dX11_toss_28 ⟨(Nat.le_of_ble_eq_true rfl), (Nat.le_of_ble_eq_true rfl)⟩)) hS (fun H locs hM hX15 hS => ?_)
      refine W.widen (k := 1) (n := 6) (Nat.le_refl _) (Nat.le_refl _) ?_
      have h17 := h6.mo hX15
      have hX18 := hX0.tr hX15
      refine lv_if_eq (tgt := 44) hx hb dX11_toss_31 (by decide) (fun hc19 => ?_) (fun hc19 => ?_)
      · have h := zt h hc19
        refine lv_bipush (v := (-15 : Int32)) hx hb dX11_toss_44 (by decide +kernel) ?_
        refine W.widen (k := 1) (n := 6) (by omega) (by omega) ?_
        exact z_iret hx hb hr hlk hM hX18 hS (zsp h) dX11_toss_46
      · have h := zf h hc19
        refine z_aloadR_n hx hb dX11_toss_34 rfl (lv_at hl 0 rfl) h17.1 ?_
        obtain ⟨hq21, h⟩ := zk h
        refine z_getN hx hb hg zin_8 hown hK hM h17 1 rfl (by decide) (hg _ zw_254) (fun _ h9 => h9) hq21 dX11_toss_35 (fun h20 => ?_)
        obtain ⟨r23, hr22, h⟩ := zlg h
        have hr22 := hr22.symm
        refine z_runi (va_runV (As := []) (rest := []) ⟨hx, hb, hml, hown, hg⟩ (c_X2_failureNumber l D cy B h20 hr22) (z_cwV hg zw_963 zw_964 zw_965 zw_14 zw_966 zh_X2_failureNumber ⟨(Nat.le_of_ble_eq_true rfl), (Nat.le_of_ble_eq_true rfl)⟩) (zPV hC hM h20 (by decide) rfl) rfl rfl hl.1 rfl (lv_room (Nat.le_of_ble_eq_true rfl)) dX11_toss_38 ⟨(Nat.le_of_ble_eq_true rfl), (Nat.le_of_ble_eq_true rfl)⟩) hS (fun H locs hM hX24 hS => ?_)
        refine lv_goto (tgt := 46) hx hb dX11_toss_41 (by decide) ?_
        refine W.widen (k := 1) (n := 6) (by omega) (by omega) ?_
        exact z_iret hx hb hr hlk hM hX18 hS (zsp h) dX11_toss_46
    · have h := zt h hc8
      refine z_aloadR_n hx hb dX11_toss_19 rfl (lv_at hl 0 rfl) h6.1 ?_
      obtain ⟨r27, hr26, h⟩ := zlg h
      have hr26 := hr26.symm
      refine z_runi (va_runV (As := []) (rest := []) ⟨hx, hb, hml, hown, hg⟩ (c_X8_refusalAsJudge l D cy B h6 hr26) (z_cwV hg zw_884 zw_885 zw_886 zw_12 zw_887 zh_X8_refusalAsJudge ⟨(Nat.le_of_ble_eq_true rfl), (Nat.le_of_ble_eq_true rfl)⟩) (zPV hC hM h6 (by decide) rfl) rfl rfl hl.1 rfl (lv_room (Nat.le_of_ble_eq_true rfl)) dX11_toss_20 ⟨(Nat.le_of_ble_eq_true rfl), (Nat.le_of_ble_eq_true rfl)⟩) hS (fun H locs hM hX28 hS => ?_)
      refine W.widen (k := 1) (n := 6) (by omega) (by omega) ?_
      exact z_iret hx hb hr hlk hM hX0 hS (zsp h) dX11_toss_23
  · have h := zt h hc5
    refine lv_iconst (v := (-1 : Int32)) hx hb dX11_toss_10 (by decide +kernel) ?_
    refine W.widen (k := 1) (n := 6) (by omega) (by omega) ?_
    exact z_iret hx hb hr hlk hM hX0 hS (zsp h) dX11_toss_11
