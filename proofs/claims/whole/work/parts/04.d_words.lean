/-! the words of the tables by their places (written by wip/whole/mk_words.py) -/
def zGW : List Cond := lw_tbl.filter goodWord
theorem zGW_good : ∀ w ∈ zGW, goodWord w = true := fun w h => (List.mem_filter.mp h).2
theorem zGW_tbl : ∀ w ∈ zGW, w ∈ lw_tbl := fun w h => (List.mem_filter.mp h).1
theorem zt1 {w : Cond} (j : Nat) (h : tables_1_1[j]? = some w) (hg : goodWord w = true) : w ∈ zGW := List.mem_filter.mpr ⟨List.mem_append_right _ (List.mem_append_left _ (List.mem_of_getElem? h)), hg⟩
theorem zn1 {w : Cond} (j : Nat) (h : tables_1_1[j]? = some w) : w ∈ lw_tbl := List.mem_append_right _ (List.mem_append_left _ (List.mem_of_getElem? h))
theorem zt2 {w : Cond} (j : Nat) (h : tables_1_2[j]? = some w) (hg : goodWord w = true) : w ∈ zGW := List.mem_filter.mpr ⟨List.mem_append_right _ (List.mem_append_right _ (List.mem_append_left _ (List.mem_of_getElem? h))), hg⟩
theorem zn2 {w : Cond} (j : Nat) (h : tables_1_2[j]? = some w) : w ∈ lw_tbl := List.mem_append_right _ (List.mem_append_right _ (List.mem_append_left _ (List.mem_of_getElem? h)))
theorem zt3 {w : Cond} (j : Nat) (h : tables_1_3[j]? = some w) (hg : goodWord w = true) : w ∈ zGW := List.mem_filter.mpr ⟨List.mem_append_right _ (List.mem_append_right _ (List.mem_append_right _ (List.mem_append_left _ (List.mem_of_getElem? h)))), hg⟩
theorem zn3 {w : Cond} (j : Nat) (h : tables_1_3[j]? = some w) : w ∈ lw_tbl := List.mem_append_right _ (List.mem_append_right _ (List.mem_append_right _ (List.mem_append_left _ (List.mem_of_getElem? h))))
theorem zt4 {w : Cond} (j : Nat) (h : tables_1_4[j]? = some w) (hg : goodWord w = true) : w ∈ zGW := List.mem_filter.mpr ⟨List.mem_append_right _ (List.mem_append_right _ (List.mem_append_right _ (List.mem_append_right _ (List.mem_append_left _ (List.mem_of_getElem? h))))), hg⟩
theorem zn4 {w : Cond} (j : Nat) (h : tables_1_4[j]? = some w) : w ∈ lw_tbl := List.mem_append_right _ (List.mem_append_right _ (List.mem_append_right _ (List.mem_append_right _ (List.mem_append_left _ (List.mem_of_getElem? h)))))
theorem zt5 {w : Cond} (j : Nat) (h : tables_1_5[j]? = some w) (hg : goodWord w = true) : w ∈ zGW := List.mem_filter.mpr ⟨List.mem_append_right _ (List.mem_append_right _ (List.mem_append_right _ (List.mem_append_right _ (List.mem_append_right _ (List.mem_append_left _ (List.mem_of_getElem? h)))))), hg⟩
theorem zn5 {w : Cond} (j : Nat) (h : tables_1_5[j]? = some w) : w ∈ lw_tbl := List.mem_append_right _ (List.mem_append_right _ (List.mem_append_right _ (List.mem_append_right _ (List.mem_append_right _ (List.mem_append_left _ (List.mem_of_getElem? h))))))
theorem zt6 {w : Cond} (j : Nat) (h : tables_1_6[j]? = some w) (hg : goodWord w = true) : w ∈ zGW := List.mem_filter.mpr ⟨List.mem_append_right _ (List.mem_append_right _ (List.mem_append_right _ (List.mem_append_right _ (List.mem_append_right _ (List.mem_append_right _ (List.mem_append_left _ (List.mem_of_getElem? h))))))), hg⟩
theorem zn6 {w : Cond} (j : Nat) (h : tables_1_6[j]? = some w) : w ∈ lw_tbl := List.mem_append_right _ (List.mem_append_right _ (List.mem_append_right _ (List.mem_append_right _ (List.mem_append_right _ (List.mem_append_right _ (List.mem_append_left _ (List.mem_of_getElem? h)))))))
theorem zt7 {w : Cond} (j : Nat) (h : tables_1_7[j]? = some w) (hg : goodWord w = true) : w ∈ zGW := List.mem_filter.mpr ⟨List.mem_append_right _ (List.mem_append_right _ (List.mem_append_right _ (List.mem_append_right _ (List.mem_append_right _ (List.mem_append_right _ (List.mem_append_right _ (List.mem_of_getElem? h))))))), hg⟩
theorem zn7 {w : Cond} (j : Nat) (h : tables_1_7[j]? = some w) : w ∈ lw_tbl := List.mem_append_right _ (List.mem_append_right _ (List.mem_append_right _ (List.mem_append_right _ (List.mem_append_right _ (List.mem_append_right _ (List.mem_append_right _ (List.mem_of_getElem? h)))))))
theorem zp1 {q : MethodName × Nat} (j : Nat) (h : lw_privs_1[j]? = some q) : Cond.selects q.1.cls q.1 q.1 ∈ zGW := List.mem_filter.mpr ⟨List.mem_append_left _ (List.mem_map.mpr ⟨q, (List.mem_append_left _ (List.mem_of_getElem? h)), rfl⟩), rfl⟩
theorem zp2 {q : MethodName × Nat} (j : Nat) (h : lw_privs_2[j]? = some q) : Cond.selects q.1.cls q.1 q.1 ∈ zGW := List.mem_filter.mpr ⟨List.mem_append_left _ (List.mem_map.mpr ⟨q, (List.mem_append_right _ (List.mem_append_left _ (List.mem_of_getElem? h))), rfl⟩), rfl⟩
theorem zp3 {q : MethodName × Nat} (j : Nat) (h : lw_privs_3[j]? = some q) : Cond.selects q.1.cls q.1 q.1 ∈ zGW := List.mem_filter.mpr ⟨List.mem_append_left _ (List.mem_map.mpr ⟨q, (List.mem_append_right _ (List.mem_append_right _ (List.mem_append_left _ (List.mem_of_getElem? h)))), rfl⟩), rfl⟩
theorem zp4 {q : MethodName × Nat} (j : Nat) (h : lw_privs_4[j]? = some q) : Cond.selects q.1.cls q.1 q.1 ∈ zGW := List.mem_filter.mpr ⟨List.mem_append_left _ (List.mem_map.mpr ⟨q, (List.mem_append_right _ (List.mem_append_right _ (List.mem_append_right _ (List.mem_append_left _ (List.mem_of_getElem? h))))), rfl⟩), rfl⟩
theorem zp5 {q : MethodName × Nat} (j : Nat) (h : lw_privs_5[j]? = some q) : Cond.selects q.1.cls q.1 q.1 ∈ zGW := List.mem_filter.mpr ⟨List.mem_append_left _ (List.mem_map.mpr ⟨q, (List.mem_append_right _ (List.mem_append_right _ (List.mem_append_right _ (List.mem_append_right _ (List.mem_of_getElem? h))))), rfl⟩), rfl⟩
theorem zw_1 : (Jvm.Cond.initialized "DiveChairsLaw") ∈ zGW := zt1 0 (by decide +kernel) rfl
theorem zw_2 : (Jvm.Cond.initialized "DiveChairs") ∈ zGW := zt1 1 (by decide +kernel) rfl
theorem zw_3 : (Jvm.Cond.initialized "DiveChairs$State") ∈ zGW := zt1 2 (by decide +kernel) rfl
theorem zw_4 : (Jvm.Cond.initialized "DiveChairs$Rule") ∈ zGW := zt1 3 (by decide +kernel) rfl
theorem zw_5 : (Jvm.Cond.initialized "DiveChairs$Panel") ∈ zGW := zt1 4 (by decide +kernel) rfl
theorem zw_6 : (Jvm.Cond.initialized "DiveChairs$Dive") ∈ zGW := zt1 5 (by decide +kernel) rfl
theorem zw_7 : (Jvm.Cond.initialized "DiveChairs$RuleReader") ∈ zGW := zt1 6 (by decide +kernel) rfl
theorem zw_8 : (Jvm.Cond.initialized "DiveChairs$Dealing") ∈ zGW := zt1 7 (by decide +kernel) rfl
theorem zw_9 : (Jvm.Cond.initialized "DiveChairs$OrderDealing") ∈ zGW := zt1 8 (by decide +kernel) rfl
theorem zw_10 : (Jvm.Cond.initialized "DiveChairs$LandDealing") ∈ zGW := zt1 9 (by decide +kernel) rfl
theorem zw_11 : (Jvm.Cond.initialized "DiveChairs$Tally") ∈ zGW := zt1 10 (by decide +kernel) rfl
theorem zw_12 : (Jvm.Cond.initialized "DiveChairs$Shelf") ∈ zGW := zt1 11 (by decide +kernel) rfl
theorem zw_13 : (Jvm.Cond.initialized "DiveChairsModel") ∈ zGW := zt1 12 (by decide +kernel) rfl
theorem zw_14 : (Jvm.Cond.initialized "DiveChairs$Judge") ∈ zGW := zt1 13 (by decide +kernel) rfl
theorem zw_15 : (Jvm.Cond.initialized "java/lang/Math") ∈ zGW := zt1 14 (by decide +kernel) rfl
theorem zw_16 : (Jvm.Cond.initialized "java/lang/System") ∈ zGW := zt1 15 (by decide +kernel) rfl
theorem zw_17 : (Jvm.Cond.initialized "java/lang/Integer") ∈ zGW := zt1 16 (by decide +kernel) rfl
theorem zw_18 : (Jvm.Cond.initialized "java/lang/Throwable") ∈ zGW := zt1 17 (by decide +kernel) rfl
theorem zw_19 : (Jvm.Cond.initialized "java/lang/Exception") ∈ zGW := zt1 18 (by decide +kernel) rfl
theorem zw_20 : (Jvm.Cond.initialized "java/lang/RuntimeException") ∈ zGW := zt1 19 (by decide +kernel) rfl
theorem zw_21 : (Jvm.Cond.initialized "java/lang/IllegalArgumentException") ∈ zGW := zt1 20 (by decide +kernel) rfl
theorem zw_22 : (Jvm.Cond.initialized "java/lang/IllegalStateException") ∈ zGW := zt1 21 (by decide +kernel) rfl
theorem zw_23 : (Jvm.Cond.classLink "DiveChairsLaw" (8 : Nat) "DiveChairs") ∈ zGW := zt1 22 (by decide +kernel) rfl
theorem zw_24 : (Jvm.Cond.instantiable "DiveChairs" (9 : Nat)) ∈ zGW := zt1 23 (by decide +kernel) rfl
theorem zw_25 : (Jvm.Cond.methodLink "DiveChairsLaw" (17 : Nat) ({ cls := "DiveChairs", name := "<init>", desc := "()V" } : Jvm.MethodName)) ∈ zGW := zt1 24 (by decide +kernel) rfl
theorem zw_26 : (Jvm.Cond.instanceMethod ({ cls := "DiveChairs", name := "<init>", desc := "()V" } : Jvm.MethodName)) ∈ zGW := zt1 25 (by decide +kernel) rfl
theorem zw_27 : (Jvm.Cond.code ({ cls := "DiveChairs", name := "<init>", desc := "()V" } : Jvm.MethodName) prog_1_method_1_code (2 : Nat) (Option.none : Option Jvm.ClassFile.FieldType)) ∈ zGW := zt1 26 (by decide +kernel) rfl
theorem zw_28 : (Jvm.Cond.methodLink "DiveChairs" (1 : Nat) ({ cls := "java/lang/Object", name := "<init>", desc := "()V" } : Jvm.MethodName)) ∈ zGW := zt1 27 (by decide +kernel) rfl
theorem zw_29 : (Jvm.Cond.instanceMethod ({ cls := "java/lang/Object", name := "<init>", desc := "()V" } : Jvm.MethodName)) ∈ zGW := zt1 28 (by decide +kernel) rfl
theorem zw_30 : (Jvm.Cond.code ({ cls := "java/lang/Object", name := "<init>", desc := "()V" } : Jvm.MethodName) object_method_1_code (1 : Nat) (Option.none : Option Jvm.ClassFile.FieldType)) ∈ zGW := zt1 29 (by decide +kernel) rfl
theorem zw_31 : (Jvm.Cond.classLink "DiveChairs" (7 : Nat) "DiveChairs$State") ∈ zGW := zt1 30 (by decide +kernel) rfl
theorem zw_32 : (Jvm.Cond.instantiable "DiveChairs$State" (12 : Nat)) ∈ zGW := zt1 31 (by decide +kernel) rfl
theorem zw_33 : (Jvm.Cond.methodLink "DiveChairs" (9 : Nat) ({ cls := "DiveChairs$State", name := "<init>", desc := "()V" } : Jvm.MethodName)) ∈ zGW := zt1 32 (by decide +kernel) rfl
theorem zw_34 : (Jvm.Cond.instanceMethod ({ cls := "DiveChairs$State", name := "<init>", desc := "()V" } : Jvm.MethodName)) ∈ zGW := zt1 33 (by decide +kernel) rfl
theorem zw_35 : (Jvm.Cond.code ({ cls := "DiveChairs$State", name := "<init>", desc := "()V" } : Jvm.MethodName) prog_11_method_1_code (2 : Nat) (Option.none : Option Jvm.ClassFile.FieldType)) ∈ zGW := zt1 34 (by decide +kernel) rfl
theorem zw_36 : (Jvm.Cond.methodLink "DiveChairs$State" (3 : Nat) ({ cls := "java/lang/Object", name := "<init>", desc := "()V" } : Jvm.MethodName)) ∈ zGW := zt1 35 (by decide +kernel) rfl
theorem zw_37 : (Jvm.Cond.classLink "DiveChairs$State" (24 : Nat) "DiveChairs$Rule") ∈ zGW := zt1 36 (by decide +kernel) rfl
theorem zw_38 : (Jvm.Cond.instantiable "DiveChairs$Rule" (6 : Nat)) ∈ zGW := zt1 37 (by decide +kernel) rfl
theorem zw_39 : (Jvm.Cond.methodLink "DiveChairs$State" (26 : Nat) ({ cls := "DiveChairs$Rule", name := "<init>", desc := "()V" } : Jvm.MethodName)) ∈ zGW := zt1 38 (by decide +kernel) rfl
theorem zw_40 : (Jvm.Cond.instanceMethod ({ cls := "DiveChairs$Rule", name := "<init>", desc := "()V" } : Jvm.MethodName)) ∈ zGW := zt1 39 (by decide +kernel) rfl
theorem zw_41 : (Jvm.Cond.code ({ cls := "DiveChairs$Rule", name := "<init>", desc := "()V" } : Jvm.MethodName) prog_8_method_1_code (2 : Nat) (Option.none : Option Jvm.ClassFile.FieldType)) ∈ zGW := zt1 40 (by decide +kernel) rfl
theorem zw_42 : (Jvm.Cond.methodLink "DiveChairs$Rule" (3 : Nat) ({ cls := "java/lang/Object", name := "<init>", desc := "()V" } : Jvm.MethodName)) ∈ zGW := zt1 41 (by decide +kernel) rfl
theorem zw_43 : (Jvm.Cond.methodLink "DiveChairs$Rule" (28 : Nat) ({ cls := "DiveChairs$Rule", name := "append", desc := "(I)V" } : Jvm.MethodName)) ∈ zGW := zt1 42 (by decide +kernel) rfl
theorem zw_44 : (Jvm.Cond.instanceMethod ({ cls := "DiveChairs$Rule", name := "append", desc := "(I)V" } : Jvm.MethodName)) ∈ zGW := zt1 43 (by decide +kernel) rfl
theorem zw_45 : (Jvm.Cond.selects "DiveChairs$Rule" ({ cls := "DiveChairs$Rule", name := "append", desc := "(I)V" } : Jvm.MethodName) ({ cls := "DiveChairs$Rule", name := "append", desc := "(I)V" } : Jvm.MethodName)) ∈ zGW := zt1 44 (by decide +kernel) rfl
theorem zw_46 : (Jvm.Cond.code ({ cls := "DiveChairs$Rule", name := "append", desc := "(I)V" } : Jvm.MethodName) prog_8_method_4_code (2 : Nat) (Option.none : Option Jvm.ClassFile.FieldType)) ∈ zGW := zt1 45 (by decide +kernel) rfl
theorem zw_47 : (Jvm.Cond.fieldLink "DiveChairs$Rule" (9 : Nat) "DiveChairs$Rule" "off" "[I") ∈ zGW := zt1 46 (by decide +kernel) rfl
theorem zw_48 : (Jvm.Cond.fieldLink "DiveChairs$RuleReader" (82 : Nat) "DiveChairs$Rule" "off" "[I") ∈ zGW := zt1 47 (by decide +kernel) rfl
theorem zw_49 : (Jvm.Cond.fieldLink "DiveChairs" (294 : Nat) "DiveChairs$Rule" "off" "[I") ∈ zGW := zt1 48 (by decide +kernel) rfl
theorem zw_50 : (Jvm.Cond.fieldLink "DiveChairs$Rule" (15 : Nat) "DiveChairs$Rule" "dropHighest" "I") ∈ zGW := zt1 49 (by decide +kernel) rfl
theorem zw_51 : (Jvm.Cond.fieldLink "DiveChairs$RuleReader" (88 : Nat) "DiveChairs$Rule" "dropHighest" "I") ∈ zGW := zt1 50 (by decide +kernel) rfl
theorem zw_52 : (Jvm.Cond.fieldLink "DiveChairs" (214 : Nat) "DiveChairs$Rule" "dropHighest" "I") ∈ zGW := zt1 51 (by decide +kernel) rfl
theorem zw_53 : (Jvm.Cond.fieldLink "DiveChairs$Rule" (19 : Nat) "DiveChairs$Rule" "dropLowest" "I") ∈ zGW := zt1 52 (by decide +kernel) rfl
theorem zw_54 : (Jvm.Cond.fieldLink "DiveChairs$RuleReader" (91 : Nat) "DiveChairs$Rule" "dropLowest" "I") ∈ zGW := zt1 53 (by decide +kernel) rfl
theorem zw_55 : (Jvm.Cond.fieldLink "DiveChairs" (217 : Nat) "DiveChairs$Rule" "dropLowest" "I") ∈ zGW := zt1 54 (by decide +kernel) rfl
theorem zw_56 : (Jvm.Cond.fieldLink "DiveChairs$Rule" (22 : Nat) "DiveChairs$Rule" "code" "[I") ∈ zGW := zt1 55 (by decide +kernel) rfl
theorem zw_57 : (Jvm.Cond.fieldLink "DiveChairs$Rule" (38 : Nat) "DiveChairs$Rule" "length" "I") ∈ zGW := zt1 56 (by decide +kernel) rfl
theorem zw_58 : (Jvm.Cond.fieldLink "DiveChairs$Rule" (25 : Nat) "DiveChairs$Rule" "stack" "[I") ∈ zGW := zt1 57 (by decide +kernel) rfl
theorem zw_59 : (Jvm.Cond.laysFinal "DiveChairs$Rule" "DiveChairs$Rule" "off" "[I") ∈ zGW := zt1 58 (by decide +kernel) rfl
theorem zw_60 : (Jvm.Cond.lays "DiveChairs$Rule" "DiveChairs$Rule" "dropHighest" "I") ∈ zGW := zt1 60 (by decide +kernel) rfl
theorem zw_61 : (Jvm.Cond.lays "DiveChairs$Rule" "DiveChairs$Rule" "dropLowest" "I") ∈ zGW := zt1 62 (by decide +kernel) rfl
theorem zw_62 : (Jvm.Cond.laysFinal "DiveChairs$Rule" "DiveChairs$Rule" "code" "[I") ∈ zGW := zt1 64 (by decide +kernel) rfl
theorem zw_63 : (Jvm.Cond.lays "DiveChairs$Rule" "DiveChairs$Rule" "length" "I") ∈ zGW := zt1 66 (by decide +kernel) rfl
theorem zw_64 : (Jvm.Cond.laysFinal "DiveChairs$Rule" "DiveChairs$Rule" "stack" "[I") ∈ zGW := zt1 68 (by decide +kernel) rfl
theorem zw_65 : (Jvm.Cond.superclass "DiveChairs$Rule" "java/lang/Object") ∈ zGW := zt1 70 (by decide +kernel) rfl
theorem zw_66 : (Jvm.Cond.arrayClass Jvm.ClassFile.FieldType.int) ∈ zGW := zt1 71 (by decide +kernel) rfl
theorem zw_67 : (Jvm.Cond.classLink "DiveChairs$State" (31 : Nat) "DiveChairs$Judge") ∈ zGW := zt1 72 (by decide +kernel) rfl
theorem zx_68 : (Jvm.Cond.arrayOver (Jvm.ClassFile.FieldType.object "DiveChairs$Judge")) ∈ lw_tbl := zn1 73 (by decide +kernel)
theorem zw_69 : (Jvm.Cond.classLink "DiveChairs$State" (37 : Nat) "DiveChairs$Dive") ∈ zGW := zt1 74 (by decide +kernel) rfl
theorem zx_70 : (Jvm.Cond.arrayOver (Jvm.ClassFile.FieldType.object "DiveChairs$Dive")) ∈ lw_tbl := zn1 75 (by decide +kernel)
theorem zw_71 : (Jvm.Cond.classLink "DiveChairs$State" (47 : Nat) "DiveChairs$Panel") ∈ zGW := zt1 76 (by decide +kernel) rfl
theorem zw_72 : (Jvm.Cond.instantiable "DiveChairs$Panel" (2 : Nat)) ∈ zGW := zt1 77 (by decide +kernel) rfl
theorem zx_73 : (Jvm.Cond.methodLinkNest "DiveChairs$State" (49 : Nat) ({ cls := "DiveChairs$Panel", name := "<init>", desc := "()V" } : Jvm.MethodName) "DiveChairs") ∈ lw_tbl := zn1 78 (by decide +kernel)
theorem zw_74 : (Jvm.Cond.instanceMethod ({ cls := "DiveChairs$Panel", name := "<init>", desc := "()V" } : Jvm.MethodName)) ∈ zGW := zt1 79 (by decide +kernel) rfl
theorem zw_75 : (Jvm.Cond.code ({ cls := "DiveChairs$Panel", name := "<init>", desc := "()V" } : Jvm.MethodName) prog_7_method_1_code (1 : Nat) (Option.none : Option Jvm.ClassFile.FieldType)) ∈ zGW := zt1 80 (by decide +kernel) rfl
theorem zw_76 : (Jvm.Cond.methodLink "DiveChairs$Panel" (3 : Nat) ({ cls := "java/lang/Object", name := "<init>", desc := "()V" } : Jvm.MethodName)) ∈ zGW := zt1 81 (by decide +kernel) rfl
theorem zw_77 : (Jvm.Cond.fieldLink "DiveChairs$Panel" (9 : Nat) "DiveChairs$Panel" "sorted" "[I") ∈ zGW := zt1 82 (by decide +kernel) rfl
theorem zw_78 : (Jvm.Cond.fieldLink "DiveChairs$Panel" (15 : Nat) "DiveChairs$Panel" "size" "I") ∈ zGW := zt1 83 (by decide +kernel) rfl
theorem zw_79 : (Jvm.Cond.fieldLink "DiveChairs$Rule" (41 : Nat) "DiveChairs$Panel" "size" "I") ∈ zGW := zt1 84 (by decide +kernel) rfl
theorem zw_80 : (Jvm.Cond.fieldLink "DiveChairs$State" (140 : Nat) "DiveChairs$Panel" "size" "I") ∈ zGW := zt1 85 (by decide +kernel) rfl
theorem zw_81 : (Jvm.Cond.laysFinal "DiveChairs$Panel" "DiveChairs$Panel" "sorted" "[I") ∈ zGW := zt1 86 (by decide +kernel) rfl
theorem zw_82 : (Jvm.Cond.lays "DiveChairs$Panel" "DiveChairs$Panel" "size" "I") ∈ zGW := zt1 88 (by decide +kernel) rfl
theorem zw_83 : (Jvm.Cond.superclass "DiveChairs$Panel" "java/lang/Object") ∈ zGW := zt1 90 (by decide +kernel) rfl
theorem zw_84 : (Jvm.Cond.arrayClass Jvm.ClassFile.FieldType.long) ∈ zGW := zt1 91 (by decide +kernel) rfl
theorem zw_85 : (Jvm.Cond.instantiable "DiveChairs$Dive" (7 : Nat)) ∈ zGW := zt1 92 (by decide +kernel) rfl
theorem zx_86 : (Jvm.Cond.methodLinkNest "DiveChairs$State" (54 : Nat) ({ cls := "DiveChairs$Dive", name := "<init>", desc := "()V" } : Jvm.MethodName) "DiveChairs") ∈ lw_tbl := zn1 93 (by decide +kernel)
theorem zw_87 : (Jvm.Cond.instanceMethod ({ cls := "DiveChairs$Dive", name := "<init>", desc := "()V" } : Jvm.MethodName)) ∈ zGW := zt1 94 (by decide +kernel) rfl
theorem zw_88 : (Jvm.Cond.code ({ cls := "DiveChairs$Dive", name := "<init>", desc := "()V" } : Jvm.MethodName) prog_3_method_1_code (1 : Nat) (Option.none : Option Jvm.ClassFile.FieldType)) ∈ zGW := zt1 95 (by decide +kernel) rfl
theorem zw_89 : (Jvm.Cond.methodLink "DiveChairs$Dive" (3 : Nat) ({ cls := "java/lang/Object", name := "<init>", desc := "()V" } : Jvm.MethodName)) ∈ zGW := zt1 96 (by decide +kernel) rfl
theorem zw_90 : (Jvm.Cond.fieldLink "DiveChairs$Dive" (9 : Nat) "DiveChairs$Dive" "marks" "[I") ∈ zGW := zt1 97 (by decide +kernel) rfl
theorem zw_91 : (Jvm.Cond.fieldLink "DiveChairs$Panel" (25 : Nat) "DiveChairs$Dive" "marks" "[I") ∈ zGW := zt1 98 (by decide +kernel) rfl
theorem zw_92 : (Jvm.Cond.fieldLink "DiveChairs$LandDealing" (81 : Nat) "DiveChairs$Dive" "marks" "[I") ∈ zGW := zt1 99 (by decide +kernel) rfl
theorem zw_93 : (Jvm.Cond.fieldLink "DiveChairs" (160 : Nat) "DiveChairs$Dive" "marks" "[I") ∈ zGW := zt1 100 (by decide +kernel) rfl
theorem zw_94 : (Jvm.Cond.fieldLink "DiveChairs$State" (204 : Nat) "DiveChairs$Dive" "marks" "[I") ∈ zGW := zt1 101 (by decide +kernel) rfl
theorem zw_95 : (Jvm.Cond.fieldLink "DiveChairs$Dive" (15 : Nat) "DiveChairs$Dive" "markers" "[I") ∈ zGW := zt1 102 (by decide +kernel) rfl
theorem zw_96 : (Jvm.Cond.fieldLink "DiveChairs$LandDealing" (72 : Nat) "DiveChairs$Dive" "markers" "[I") ∈ zGW := zt1 103 (by decide +kernel) rfl
theorem zw_97 : (Jvm.Cond.fieldLink "DiveChairs$State" (197 : Nat) "DiveChairs$Dive" "markers" "[I") ∈ zGW := zt1 104 (by decide +kernel) rfl
theorem zw_98 : (Jvm.Cond.fieldLink "DiveChairs$Dive" (18 : Nat) "DiveChairs$Dive" "hall" "I") ∈ zGW := zt1 105 (by decide +kernel) rfl
theorem zw_99 : (Jvm.Cond.fieldLink "DiveChairs$OrderDealing" (28 : Nat) "DiveChairs$Dive" "hall" "I") ∈ zGW := zt1 106 (by decide +kernel) rfl
theorem zw_100 : (Jvm.Cond.fieldLink "DiveChairs" (97 : Nat) "DiveChairs$Dive" "hall" "I") ∈ zGW := zt1 107 (by decide +kernel) rfl
theorem zw_101 : (Jvm.Cond.fieldLink "DiveChairs$State" (126 : Nat) "DiveChairs$Dive" "hall" "I") ∈ zGW := zt1 108 (by decide +kernel) rfl
theorem zw_102 : (Jvm.Cond.fieldLink "DiveChairs$Dive" (22 : Nat) "DiveChairs$Dive" "diver" "I") ∈ zGW := zt1 109 (by decide +kernel) rfl
theorem zw_103 : (Jvm.Cond.fieldLink "DiveChairs" (102 : Nat) "DiveChairs$Dive" "diver" "I") ∈ zGW := zt1 110 (by decide +kernel) rfl
theorem zw_104 : (Jvm.Cond.fieldLink "DiveChairs$State" (89 : Nat) "DiveChairs$Dive" "diver" "I") ∈ zGW := zt1 111 (by decide +kernel) rfl
theorem zw_105 : (Jvm.Cond.fieldLink "DiveChairs$Dive" (25 : Nat) "DiveChairs$Dive" "flaws" "I") ∈ zGW := zt1 112 (by decide +kernel) rfl
theorem zw_106 : (Jvm.Cond.fieldLink "DiveChairs" (105 : Nat) "DiveChairs$Dive" "flaws" "I") ∈ zGW := zt1 113 (by decide +kernel) rfl
theorem zw_107 : (Jvm.Cond.fieldLink "DiveChairs$State" (106 : Nat) "DiveChairs$Dive" "flaws" "I") ∈ zGW := zt1 114 (by decide +kernel) rfl
theorem zw_108 : (Jvm.Cond.fieldLink "DiveChairs$Dive" (28 : Nat) "DiveChairs$Dive" "splash" "I") ∈ zGW := zt1 115 (by decide +kernel) rfl
theorem zw_109 : (Jvm.Cond.fieldLink "DiveChairs" (108 : Nat) "DiveChairs$Dive" "splash" "I") ∈ zGW := zt1 116 (by decide +kernel) rfl
theorem zw_110 : (Jvm.Cond.fieldLink "DiveChairs$Rule" (85 : Nat) "DiveChairs$Dive" "splash" "I") ∈ zGW := zt1 117 (by decide +kernel) rfl
theorem zw_111 : (Jvm.Cond.fieldLink "DiveChairs$State" (154 : Nat) "DiveChairs$Dive" "splash" "I") ∈ zGW := zt1 118 (by decide +kernel) rfl
theorem zw_112 : (Jvm.Cond.fieldLink "DiveChairs$Dive" (31 : Nat) "DiveChairs$Dive" "hard" "I") ∈ zGW := zt1 119 (by decide +kernel) rfl
theorem zw_113 : (Jvm.Cond.fieldLink "DiveChairs" (111 : Nat) "DiveChairs$Dive" "hard" "I") ∈ zGW := zt1 120 (by decide +kernel) rfl
theorem zw_114 : (Jvm.Cond.fieldLink "DiveChairs$Rule" (70 : Nat) "DiveChairs$Dive" "hard" "I") ∈ zGW := zt1 121 (by decide +kernel) rfl
theorem zw_115 : (Jvm.Cond.fieldLink "DiveChairs$State" (184 : Nat) "DiveChairs$Dive" "hard" "I") ∈ zGW := zt1 122 (by decide +kernel) rfl
theorem zw_116 : (Jvm.Cond.laysFinal "DiveChairs$Dive" "DiveChairs$Dive" "marks" "[I") ∈ zGW := zt1 123 (by decide +kernel) rfl
theorem zw_117 : (Jvm.Cond.laysFinal "DiveChairs$Dive" "DiveChairs$Dive" "markers" "[I") ∈ zGW := zt1 125 (by decide +kernel) rfl
theorem zw_118 : (Jvm.Cond.lays "DiveChairs$Dive" "DiveChairs$Dive" "hall" "I") ∈ zGW := zt1 127 (by decide +kernel) rfl
theorem zw_119 : (Jvm.Cond.lays "DiveChairs$Dive" "DiveChairs$Dive" "diver" "I") ∈ zGW := zt1 129 (by decide +kernel) rfl
theorem zw_120 : (Jvm.Cond.lays "DiveChairs$Dive" "DiveChairs$Dive" "flaws" "I") ∈ zGW := zt1 131 (by decide +kernel) rfl
theorem zw_121 : (Jvm.Cond.lays "DiveChairs$Dive" "DiveChairs$Dive" "splash" "I") ∈ zGW := zt1 133 (by decide +kernel) rfl
theorem zw_122 : (Jvm.Cond.lays "DiveChairs$Dive" "DiveChairs$Dive" "hard" "I") ∈ zGW := zt1 135 (by decide +kernel) rfl
theorem zw_123 : (Jvm.Cond.superclass "DiveChairs$Dive" "java/lang/Object") ∈ zGW := zt1 137 (by decide +kernel) rfl
theorem zw_124 : (Jvm.Cond.fieldLink "DiveChairs$State" (9 : Nat) "DiveChairs$State" "lands" "[I") ∈ zGW := zt1 138 (by decide +kernel) rfl
theorem zw_125 : (Jvm.Cond.fieldLink "DiveChairs$State" (15 : Nat) "DiveChairs$State" "names" "[I") ∈ zGW := zt1 139 (by decide +kernel) rfl
theorem zw_126 : (Jvm.Cond.fieldLink "DiveChairs$State" (18 : Nat) "DiveChairs$State" "years" "[I") ∈ zGW := zt1 140 (by decide +kernel) rfl
theorem zw_127 : (Jvm.Cond.fieldLink "DiveChairs" (68 : Nat) "DiveChairs$State" "years" "[I") ∈ zGW := zt1 141 (by decide +kernel) rfl
theorem zw_128 : (Jvm.Cond.fieldLink "DiveChairs$State" (21 : Nat) "DiveChairs$State" "seats" "[I") ∈ zGW := zt1 142 (by decide +kernel) rfl
theorem zw_129 : (Jvm.Cond.fieldLink "DiveChairs" (83 : Nat) "DiveChairs$State" "seats" "[I") ∈ zGW := zt1 143 (by decide +kernel) rfl
theorem zw_130 : (Jvm.Cond.fieldLink "DiveChairs$State" (27 : Nat) "DiveChairs$State" "rule" "LDiveChairs$Rule;") ∈ zGW := zt1 144 (by decide +kernel) rfl
theorem zw_131 : (Jvm.Cond.fieldLink "DiveChairs" (163 : Nat) "DiveChairs$State" "rule" "LDiveChairs$Rule;") ∈ zGW := zt1 145 (by decide +kernel) rfl
theorem zw_132 : (Jvm.Cond.fieldLink "DiveChairs$State" (65 : Nat) "DiveChairs$State" "divers" "I") ∈ zGW := zt1 146 (by decide +kernel) rfl
theorem zw_133 : (Jvm.Cond.fieldLink "DiveChairs" (86 : Nat) "DiveChairs$State" "divers" "I") ∈ zGW := zt1 147 (by decide +kernel) rfl
theorem zw_134 : (Jvm.Cond.fieldLink "DiveChairs$LandDealing" (21 : Nat) "DiveChairs$State" "judges" "I") ∈ zGW := zt1 148 (by decide +kernel) rfl
theorem zw_135 : (Jvm.Cond.fieldLink "DiveChairs$State" (69 : Nat) "DiveChairs$State" "judges" "I") ∈ zGW := zt1 149 (by decide +kernel) rfl
theorem zw_136 : (Jvm.Cond.fieldLink "DiveChairs" (72 : Nat) "DiveChairs$State" "judges" "I") ∈ zGW := zt1 150 (by decide +kernel) rfl
theorem zw_137 : (Jvm.Cond.fieldLink "DiveChairs$OrderDealing" (19 : Nat) "DiveChairs$State" "dives" "I") ∈ zGW := zt1 151 (by decide +kernel) rfl
theorem zw_138 : (Jvm.Cond.fieldLink "DiveChairs$LandDealing" (43 : Nat) "DiveChairs$State" "dives" "I") ∈ zGW := zt1 152 (by decide +kernel) rfl
theorem zw_139 : (Jvm.Cond.fieldLink "DiveChairs$State" (72 : Nat) "DiveChairs$State" "dives" "I") ∈ zGW := zt1 153 (by decide +kernel) rfl
theorem zw_140 : (Jvm.Cond.fieldLink "DiveChairs" (125 : Nat) "DiveChairs$State" "dives" "I") ∈ zGW := zt1 154 (by decide +kernel) rfl
theorem zw_141 : (Jvm.Cond.fieldLink "DiveChairs$State" (33 : Nat) "DiveChairs$State" "judgesMade" "[LDiveChairs$Judge;") ∈ zGW := zt1 155 (by decide +kernel) rfl
theorem zw_142 : (Jvm.Cond.fieldLink "DiveChairs$State" (39 : Nat) "DiveChairs$State" "divesMade" "[LDiveChairs$Dive;") ∈ zGW := zt1 156 (by decide +kernel) rfl
theorem zw_143 : (Jvm.Cond.fieldLink "DiveChairs$State" (43 : Nat) "DiveChairs$State" "totals" "[J") ∈ zGW := zt1 157 (by decide +kernel) rfl
theorem zw_144 : (Jvm.Cond.fieldLink "DiveChairs" (193 : Nat) "DiveChairs$State" "totals" "[J") ∈ zGW := zt1 158 (by decide +kernel) rfl
theorem zw_145 : (Jvm.Cond.fieldLink "DiveChairs$State" (50 : Nat) "DiveChairs$State" "panel" "LDiveChairs$Panel;") ∈ zGW := zt1 159 (by decide +kernel) rfl
theorem zw_146 : (Jvm.Cond.fieldLink "DiveChairs$LandDealing" (50 : Nat) "DiveChairs$State" "panel" "LDiveChairs$Panel;") ∈ zGW := zt1 160 (by decide +kernel) rfl
theorem zw_147 : (Jvm.Cond.laysFinal "DiveChairs$State" "DiveChairs$State" "lands" "[I") ∈ zGW := zt1 161 (by decide +kernel) rfl
theorem zw_148 : (Jvm.Cond.laysFinal "DiveChairs$State" "DiveChairs$State" "names" "[I") ∈ zGW := zt1 163 (by decide +kernel) rfl
theorem zw_149 : (Jvm.Cond.laysFinal "DiveChairs$State" "DiveChairs$State" "years" "[I") ∈ zGW := zt1 165 (by decide +kernel) rfl
theorem zw_150 : (Jvm.Cond.laysFinal "DiveChairs$State" "DiveChairs$State" "seats" "[I") ∈ zGW := zt1 167 (by decide +kernel) rfl
theorem zw_151 : (Jvm.Cond.laysFinal "DiveChairs$State" "DiveChairs$State" "rule" "LDiveChairs$Rule;") ∈ zGW := zt1 169 (by decide +kernel) rfl
theorem zw_152 : (Jvm.Cond.lays "DiveChairs$State" "DiveChairs$State" "divers" "I") ∈ zGW := zt1 171 (by decide +kernel) rfl
theorem zw_153 : (Jvm.Cond.lays "DiveChairs$State" "DiveChairs$State" "judges" "I") ∈ zGW := zt1 173 (by decide +kernel) rfl
theorem zw_154 : (Jvm.Cond.lays "DiveChairs$State" "DiveChairs$State" "dives" "I") ∈ zGW := zt1 175 (by decide +kernel) rfl
theorem zw_155 : (Jvm.Cond.laysFinal "DiveChairs$State" "DiveChairs$State" "judgesMade" "[LDiveChairs$Judge;") ∈ zGW := zt1 177 (by decide +kernel) rfl
theorem zw_156 : (Jvm.Cond.laysFinal "DiveChairs$State" "DiveChairs$State" "divesMade" "[LDiveChairs$Dive;") ∈ zGW := zt1 179 (by decide +kernel) rfl
theorem zw_157 : (Jvm.Cond.laysFinal "DiveChairs$State" "DiveChairs$State" "totals" "[J") ∈ zGW := zt1 181 (by decide +kernel) rfl
theorem zw_158 : (Jvm.Cond.laysFinal "DiveChairs$State" "DiveChairs$State" "panel" "LDiveChairs$Panel;") ∈ zGW := zt1 183 (by decide +kernel) rfl
theorem zw_159 : (Jvm.Cond.superclass "DiveChairs$State" "java/lang/Object") ∈ zGW := zt1 185 (by decide +kernel) rfl
theorem zw_160 : (Jvm.Cond.classLink "DiveChairs" (22 : Nat) "DiveChairs$Shelf") ∈ zGW := zt1 186 (by decide +kernel) rfl
theorem zx_161 : (Jvm.Cond.arrayOver (Jvm.ClassFile.FieldType.object "DiveChairs$Shelf")) ∈ lw_tbl := zn1 187 (by decide +kernel)
theorem zw_162 : (Jvm.Cond.classLink "DiveChairs" (28 : Nat) "DiveChairs$RuleReader") ∈ zGW := zt1 188 (by decide +kernel) rfl
theorem zw_163 : (Jvm.Cond.instantiable "DiveChairs$RuleReader" (6 : Nat)) ∈ zGW := zt1 189 (by decide +kernel) rfl
theorem zx_164 : (Jvm.Cond.methodLinkNest "DiveChairs" (30 : Nat) ({ cls := "DiveChairs$RuleReader", name := "<init>", desc := "()V" } : Jvm.MethodName) "DiveChairs") ∈ lw_tbl := zn1 190 (by decide +kernel)
theorem zw_165 : (Jvm.Cond.instanceMethod ({ cls := "DiveChairs$RuleReader", name := "<init>", desc := "()V" } : Jvm.MethodName)) ∈ zGW := zt1 191 (by decide +kernel) rfl
theorem zw_166 : (Jvm.Cond.code ({ cls := "DiveChairs$RuleReader", name := "<init>", desc := "()V" } : Jvm.MethodName) prog_9_method_1_code (1 : Nat) (Option.none : Option Jvm.ClassFile.FieldType)) ∈ zGW := zt1 192 (by decide +kernel) rfl
theorem zw_167 : (Jvm.Cond.methodLink "DiveChairs$RuleReader" (3 : Nat) ({ cls := "java/lang/Object", name := "<init>", desc := "()V" } : Jvm.MethodName)) ∈ zGW := zt1 193 (by decide +kernel) rfl
theorem zw_168 : (Jvm.Cond.classLink "DiveChairs$RuleReader" (9 : Nat) "DiveChairs$Rule") ∈ zGW := zt1 194 (by decide +kernel) rfl
theorem zw_169 : (Jvm.Cond.methodLink "DiveChairs$RuleReader" (11 : Nat) ({ cls := "DiveChairs$Rule", name := "<init>", desc := "()V" } : Jvm.MethodName)) ∈ zGW := zt1 195 (by decide +kernel) rfl
theorem zw_170 : (Jvm.Cond.fieldLink "DiveChairs$RuleReader" (12 : Nat) "DiveChairs$RuleReader" "draft" "LDiveChairs$Rule;") ∈ zGW := zt1 196 (by decide +kernel) rfl
theorem zw_171 : (Jvm.Cond.fieldLink "DiveChairs" (171 : Nat) "DiveChairs$RuleReader" "draft" "LDiveChairs$Rule;") ∈ zGW := zt1 197 (by decide +kernel) rfl
theorem zw_172 : (Jvm.Cond.fieldLink "DiveChairs$RuleReader" (18 : Nat) "DiveChairs$RuleReader" "text" "[I") ∈ zGW := zt1 198 (by decide +kernel) rfl
theorem zw_173 : (Jvm.Cond.fieldLink "DiveChairs$RuleReader" (41 : Nat) "DiveChairs$RuleReader" "size" "I") ∈ zGW := zt1 199 (by decide +kernel) rfl
theorem zw_174 : (Jvm.Cond.fieldLink "DiveChairs$RuleReader" (42 : Nat) "DiveChairs$RuleReader" "at" "I") ∈ zGW := zt1 200 (by decide +kernel) rfl
theorem zw_175 : (Jvm.Cond.fieldLink "DiveChairs$RuleReader" (45 : Nat) "DiveChairs$RuleReader" "stopped" "Z") ∈ zGW := zt1 201 (by decide +kernel) rfl
theorem zw_176 : (Jvm.Cond.fieldLink "DiveChairs$RuleReader" (49 : Nat) "DiveChairs$RuleReader" "firstWrong" "I") ∈ zGW := zt1 202 (by decide +kernel) rfl
theorem zw_177 : (Jvm.Cond.laysFinal "DiveChairs$RuleReader" "DiveChairs$RuleReader" "draft" "LDiveChairs$Rule;") ∈ zGW := zt1 203 (by decide +kernel) rfl
theorem zw_178 : (Jvm.Cond.lays "DiveChairs$RuleReader" "DiveChairs$RuleReader" "text" "[I") ∈ zGW := zt1 205 (by decide +kernel) rfl
theorem zw_179 : (Jvm.Cond.lays "DiveChairs$RuleReader" "DiveChairs$RuleReader" "size" "I") ∈ zGW := zt1 207 (by decide +kernel) rfl
theorem zw_180 : (Jvm.Cond.lays "DiveChairs$RuleReader" "DiveChairs$RuleReader" "at" "I") ∈ zGW := zt1 209 (by decide +kernel) rfl
theorem zw_181 : (Jvm.Cond.lays "DiveChairs$RuleReader" "DiveChairs$RuleReader" "stopped" "Z") ∈ zGW := zt1 211 (by decide +kernel) rfl
theorem zw_182 : (Jvm.Cond.lays "DiveChairs$RuleReader" "DiveChairs$RuleReader" "firstWrong" "I") ∈ zGW := zt1 213 (by decide +kernel) rfl
theorem zw_183 : (Jvm.Cond.superclass "DiveChairs$RuleReader" "java/lang/Object") ∈ zGW := zt1 215 (by decide +kernel) rfl
theorem zw_184 : (Jvm.Cond.classLink "DiveChairs" (35 : Nat) "DiveChairs$OrderDealing") ∈ zGW := zt1 216 (by decide +kernel) rfl
theorem zw_185 : (Jvm.Cond.instantiable "DiveChairs$OrderDealing" (4 : Nat)) ∈ zGW := zt1 217 (by decide +kernel) rfl
theorem zx_186 : (Jvm.Cond.methodLinkNest "DiveChairs" (37 : Nat) ({ cls := "DiveChairs$OrderDealing", name := "<init>", desc := "()V" } : Jvm.MethodName) "DiveChairs") ∈ lw_tbl := zn1 218 (by decide +kernel)
theorem zw_187 : (Jvm.Cond.instanceMethod ({ cls := "DiveChairs$OrderDealing", name := "<init>", desc := "()V" } : Jvm.MethodName)) ∈ zGW := zt1 219 (by decide +kernel) rfl
theorem zw_188 : (Jvm.Cond.code ({ cls := "DiveChairs$OrderDealing", name := "<init>", desc := "()V" } : Jvm.MethodName) prog_6_method_1_code (1 : Nat) (Option.none : Option Jvm.ClassFile.FieldType)) ∈ zGW := zt1 220 (by decide +kernel) rfl
theorem zx_189 : (Jvm.Cond.methodLinkNest "DiveChairs$OrderDealing" (3 : Nat) ({ cls := "DiveChairs$Dealing", name := "<init>", desc := "()V" } : Jvm.MethodName) "DiveChairs") ∈ lw_tbl := zn1 221 (by decide +kernel)
theorem zw_190 : (Jvm.Cond.instanceMethod ({ cls := "DiveChairs$Dealing", name := "<init>", desc := "()V" } : Jvm.MethodName)) ∈ zGW := zt1 222 (by decide +kernel) rfl
theorem zw_191 : (Jvm.Cond.code ({ cls := "DiveChairs$Dealing", name := "<init>", desc := "()V" } : Jvm.MethodName) prog_2_method_1_code (1 : Nat) (Option.none : Option Jvm.ClassFile.FieldType)) ∈ zGW := zt1 223 (by decide +kernel) rfl
theorem zw_192 : (Jvm.Cond.methodLink "DiveChairs$Dealing" (3 : Nat) ({ cls := "java/lang/Object", name := "<init>", desc := "()V" } : Jvm.MethodName)) ∈ zGW := zt1 224 (by decide +kernel) rfl
theorem zw_193 : (Jvm.Cond.fieldLink "DiveChairs$OrderDealing" (9 : Nat) "DiveChairs$OrderDealing" "counted" "[I") ∈ zGW := zt1 225 (by decide +kernel) rfl
theorem zw_194 : (Jvm.Cond.fieldLink "DiveChairs$Dealing" (9 : Nat) "DiveChairs$Dealing" "dealt" "[I") ∈ zGW := zt1 226 (by decide +kernel) rfl
theorem zw_195 : (Jvm.Cond.fieldLink "DiveChairs$Dealing" (27 : Nat) "DiveChairs$Dealing" "wanted" "I") ∈ zGW := zt1 227 (by decide +kernel) rfl
theorem zw_196 : (Jvm.Cond.fieldLink "DiveChairs$OrderDealing" (15 : Nat) "DiveChairs$OrderDealing" "size" "I") ∈ zGW := zt1 228 (by decide +kernel) rfl
theorem zw_197 : (Jvm.Cond.sameField "DiveChairs$OrderDealing" "DiveChairs$Dealing" "size" "I") ∈ zGW := zt1 229 (by decide +kernel) rfl
theorem zw_198 : (Jvm.Cond.fieldLink "DiveChairs$LandDealing" (27 : Nat) "DiveChairs$LandDealing" "size" "I") ∈ zGW := zt1 230 (by decide +kernel) rfl
theorem zw_199 : (Jvm.Cond.sameField "DiveChairs$LandDealing" "DiveChairs$Dealing" "size" "I") ∈ zGW := zt1 231 (by decide +kernel) rfl
theorem zw_200 : (Jvm.Cond.fieldLink "DiveChairs$Dealing" (15 : Nat) "DiveChairs$Dealing" "size" "I") ∈ zGW := zt1 232 (by decide +kernel) rfl
theorem zw_201 : (Jvm.Cond.fieldLink "DiveChairs" (265 : Nat) "DiveChairs$OrderDealing" "size" "I") ∈ zGW := zt1 233 (by decide +kernel) rfl
theorem zw_202 : (Jvm.Cond.laysFinal "DiveChairs$OrderDealing" "DiveChairs$OrderDealing" "counted" "[I") ∈ zGW := zt1 234 (by decide +kernel) rfl
theorem zw_203 : (Jvm.Cond.laysFinal "DiveChairs$OrderDealing" "DiveChairs$Dealing" "dealt" "[I") ∈ zGW := zt1 236 (by decide +kernel) rfl
theorem zw_204 : (Jvm.Cond.lays "DiveChairs$OrderDealing" "DiveChairs$Dealing" "wanted" "I") ∈ zGW := zt1 238 (by decide +kernel) rfl
theorem zw_205 : (Jvm.Cond.lays "DiveChairs$OrderDealing" "DiveChairs$Dealing" "size" "I") ∈ zGW := zt2 0 (by decide +kernel) rfl
theorem zw_206 : (Jvm.Cond.superclass "DiveChairs$OrderDealing" "DiveChairs$Dealing") ∈ zGW := zt2 2 (by decide +kernel) rfl
theorem zw_207 : (Jvm.Cond.classLink "DiveChairs" (42 : Nat) "DiveChairs$LandDealing") ∈ zGW := zt2 3 (by decide +kernel) rfl
theorem zw_208 : (Jvm.Cond.instantiable "DiveChairs$LandDealing" (6 : Nat)) ∈ zGW := zt2 4 (by decide +kernel) rfl
theorem zx_209 : (Jvm.Cond.methodLinkNest "DiveChairs" (44 : Nat) ({ cls := "DiveChairs$LandDealing", name := "<init>", desc := "()V" } : Jvm.MethodName) "DiveChairs") ∈ lw_tbl := zn2 5 (by decide +kernel)
theorem zw_210 : (Jvm.Cond.instanceMethod ({ cls := "DiveChairs$LandDealing", name := "<init>", desc := "()V" } : Jvm.MethodName)) ∈ zGW := zt2 6 (by decide +kernel) rfl
theorem zw_211 : (Jvm.Cond.code ({ cls := "DiveChairs$LandDealing", name := "<init>", desc := "()V" } : Jvm.MethodName) prog_5_method_1_code (1 : Nat) (Option.none : Option Jvm.ClassFile.FieldType)) ∈ zGW := zt2 7 (by decide +kernel) rfl
theorem zx_212 : (Jvm.Cond.methodLinkNest "DiveChairs$LandDealing" (3 : Nat) ({ cls := "DiveChairs$Dealing", name := "<init>", desc := "()V" } : Jvm.MethodName) "DiveChairs") ∈ lw_tbl := zn2 8 (by decide +kernel)
theorem zw_213 : (Jvm.Cond.fieldLink "DiveChairs$LandDealing" (9 : Nat) "DiveChairs$LandDealing" "lands" "[I") ∈ zGW := zt2 9 (by decide +kernel) rfl
theorem zw_214 : (Jvm.Cond.fieldLink "DiveChairs$LandDealing" (15 : Nat) "DiveChairs$LandDealing" "halls" "[I") ∈ zGW := zt2 10 (by decide +kernel) rfl
theorem zw_215 : (Jvm.Cond.fieldLink "DiveChairs$LandDealing" (18 : Nat) "DiveChairs$LandDealing" "leans" "[I") ∈ zGW := zt2 11 (by decide +kernel) rfl
theorem zw_216 : (Jvm.Cond.laysFinal "DiveChairs$LandDealing" "DiveChairs$LandDealing" "lands" "[I") ∈ zGW := zt2 12 (by decide +kernel) rfl
theorem zw_217 : (Jvm.Cond.laysFinal "DiveChairs$LandDealing" "DiveChairs$LandDealing" "halls" "[I") ∈ zGW := zt2 14 (by decide +kernel) rfl
theorem zw_218 : (Jvm.Cond.laysFinal "DiveChairs$LandDealing" "DiveChairs$LandDealing" "leans" "[I") ∈ zGW := zt2 16 (by decide +kernel) rfl
theorem zw_219 : (Jvm.Cond.laysFinal "DiveChairs$LandDealing" "DiveChairs$Dealing" "dealt" "[I") ∈ zGW := zt2 18 (by decide +kernel) rfl
theorem zw_220 : (Jvm.Cond.lays "DiveChairs$LandDealing" "DiveChairs$Dealing" "wanted" "I") ∈ zGW := zt2 19 (by decide +kernel) rfl
theorem zw_221 : (Jvm.Cond.lays "DiveChairs$LandDealing" "DiveChairs$Dealing" "size" "I") ∈ zGW := zt2 20 (by decide +kernel) rfl
theorem zw_222 : (Jvm.Cond.superclass "DiveChairs$LandDealing" "DiveChairs$Dealing") ∈ zGW := zt2 21 (by decide +kernel) rfl
theorem zw_223 : (Jvm.Cond.classLink "DiveChairs" (49 : Nat) "DiveChairs$Tally") ∈ zGW := zt2 22 (by decide +kernel) rfl
theorem zw_224 : (Jvm.Cond.instantiable "DiveChairs$Tally" (5 : Nat)) ∈ zGW := zt2 23 (by decide +kernel) rfl
theorem zx_225 : (Jvm.Cond.methodLinkNest "DiveChairs" (51 : Nat) ({ cls := "DiveChairs$Tally", name := "<init>", desc := "()V" } : Jvm.MethodName) "DiveChairs") ∈ lw_tbl := zn2 24 (by decide +kernel)
theorem zw_226 : (Jvm.Cond.instanceMethod ({ cls := "DiveChairs$Tally", name := "<init>", desc := "()V" } : Jvm.MethodName)) ∈ zGW := zt2 25 (by decide +kernel) rfl
theorem zw_227 : (Jvm.Cond.code ({ cls := "DiveChairs$Tally", name := "<init>", desc := "()V" } : Jvm.MethodName) prog_12_method_1_code (1 : Nat) (Option.none : Option Jvm.ClassFile.FieldType)) ∈ zGW := zt2 26 (by decide +kernel) rfl
theorem zw_228 : (Jvm.Cond.methodLink "DiveChairs$Tally" (1 : Nat) ({ cls := "java/lang/Object", name := "<init>", desc := "()V" } : Jvm.MethodName)) ∈ zGW := zt2 27 (by decide +kernel) rfl
theorem zw_229 : (Jvm.Cond.fieldLink "DiveChairs$Tally" (7 : Nat) "DiveChairs$Tally" "sum" "I") ∈ zGW := zt2 28 (by decide +kernel) rfl
theorem zw_230 : (Jvm.Cond.fieldLink "DiveChairs" (236 : Nat) "DiveChairs$Tally" "sum" "I") ∈ zGW := zt2 29 (by decide +kernel) rfl
theorem zw_231 : (Jvm.Cond.fieldLink "DiveChairs$Tally" (13 : Nat) "DiveChairs$Tally" "many" "I") ∈ zGW := zt2 30 (by decide +kernel) rfl
theorem zw_232 : (Jvm.Cond.fieldLink "DiveChairs" (239 : Nat) "DiveChairs$Tally" "many" "I") ∈ zGW := zt2 31 (by decide +kernel) rfl
theorem zw_233 : (Jvm.Cond.fieldLink "DiveChairs$Tally" (16 : Nat) "DiveChairs$Tally" "least" "I") ∈ zGW := zt2 32 (by decide +kernel) rfl
theorem zw_234 : (Jvm.Cond.fieldLink "DiveChairs" (243 : Nat) "DiveChairs$Tally" "least" "I") ∈ zGW := zt2 33 (by decide +kernel) rfl
theorem zw_235 : (Jvm.Cond.fieldLink "DiveChairs$Tally" (19 : Nat) "DiveChairs$Tally" "greatest" "I") ∈ zGW := zt2 34 (by decide +kernel) rfl
theorem zw_236 : (Jvm.Cond.fieldLink "DiveChairs" (246 : Nat) "DiveChairs$Tally" "greatest" "I") ∈ zGW := zt2 35 (by decide +kernel) rfl
theorem zw_237 : (Jvm.Cond.fieldLink "DiveChairs$Tally" (22 : Nat) "DiveChairs$Tally" "distance" "I") ∈ zGW := zt2 36 (by decide +kernel) rfl
theorem zw_238 : (Jvm.Cond.fieldLink "DiveChairs" (271 : Nat) "DiveChairs$Tally" "distance" "I") ∈ zGW := zt2 37 (by decide +kernel) rfl
theorem zw_239 : (Jvm.Cond.lays "DiveChairs$Tally" "DiveChairs$Tally" "sum" "I") ∈ zGW := zt2 38 (by decide +kernel) rfl
theorem zw_240 : (Jvm.Cond.lays "DiveChairs$Tally" "DiveChairs$Tally" "many" "I") ∈ zGW := zt2 40 (by decide +kernel) rfl
theorem zw_241 : (Jvm.Cond.lays "DiveChairs$Tally" "DiveChairs$Tally" "least" "I") ∈ zGW := zt2 42 (by decide +kernel) rfl
theorem zw_242 : (Jvm.Cond.lays "DiveChairs$Tally" "DiveChairs$Tally" "greatest" "I") ∈ zGW := zt2 44 (by decide +kernel) rfl
theorem zw_243 : (Jvm.Cond.lays "DiveChairs$Tally" "DiveChairs$Tally" "distance" "I") ∈ zGW := zt2 46 (by decide +kernel) rfl
theorem zw_244 : (Jvm.Cond.superclass "DiveChairs$Tally" "java/lang/Object") ∈ zGW := zt2 48 (by decide +kernel) rfl
theorem zw_245 : (Jvm.Cond.instantiable "DiveChairs$Shelf" (5 : Nat)) ∈ zGW := zt2 49 (by decide +kernel) rfl
theorem zx_246 : (Jvm.Cond.methodLinkNest "DiveChairs" (56 : Nat) ({ cls := "DiveChairs$Shelf", name := "<init>", desc := "()V" } : Jvm.MethodName) "DiveChairs") ∈ lw_tbl := zn2 50 (by decide +kernel)
theorem zw_247 : (Jvm.Cond.instanceMethod ({ cls := "DiveChairs$Shelf", name := "<init>", desc := "()V" } : Jvm.MethodName)) ∈ zGW := zt2 51 (by decide +kernel) rfl
theorem zw_248 : (Jvm.Cond.code ({ cls := "DiveChairs$Shelf", name := "<init>", desc := "()V" } : Jvm.MethodName) prog_10_method_1_code (1 : Nat) (Option.none : Option Jvm.ClassFile.FieldType)) ∈ zGW := zt2 52 (by decide +kernel) rfl
theorem zw_249 : (Jvm.Cond.methodLink "DiveChairs$Shelf" (3 : Nat) ({ cls := "java/lang/Object", name := "<init>", desc := "()V" } : Jvm.MethodName)) ∈ zGW := zt2 53 (by decide +kernel) rfl
theorem zw_250 : (Jvm.Cond.fieldLink "DiveChairs$Shelf" (9 : Nat) "DiveChairs$Shelf" "elements" "[I") ∈ zGW := zt2 54 (by decide +kernel) rfl
theorem zw_251 : (Jvm.Cond.fieldLink "DiveChairs$RuleReader" (26 : Nat) "DiveChairs$Shelf" "elements" "[I") ∈ zGW := zt2 55 (by decide +kernel) rfl
theorem zw_252 : (Jvm.Cond.fieldLink "DiveChairs" (149 : Nat) "DiveChairs$Shelf" "elements" "[I") ∈ zGW := zt2 56 (by decide +kernel) rfl
theorem zw_253 : (Jvm.Cond.fieldLink "DiveChairs$Shelf" (15 : Nat) "DiveChairs$Shelf" "judge" "LDiveChairs$Judge;") ∈ zGW := zt2 57 (by decide +kernel) rfl
theorem zw_254 : (Jvm.Cond.fieldLink "DiveChairs" (345 : Nat) "DiveChairs$Shelf" "judge" "LDiveChairs$Judge;") ∈ zGW := zt2 58 (by decide +kernel) rfl
theorem zw_255 : (Jvm.Cond.fieldLink "DiveChairs$Shelf" (30 : Nat) "DiveChairs$Shelf" "sort" "I") ∈ zGW := zt2 59 (by decide +kernel) rfl
theorem zw_256 : (Jvm.Cond.fieldLink "DiveChairs" (333 : Nat) "DiveChairs$Shelf" "sort" "I") ∈ zGW := zt2 60 (by decide +kernel) rfl
theorem zw_257 : (Jvm.Cond.fieldLink "DiveChairs$Shelf" (23 : Nat) "DiveChairs$Shelf" "size" "I") ∈ zGW := zt2 61 (by decide +kernel) rfl
theorem zw_258 : (Jvm.Cond.fieldLink "DiveChairs$RuleReader" (31 : Nat) "DiveChairs$Shelf" "size" "I") ∈ zGW := zt2 62 (by decide +kernel) rfl
theorem zw_259 : (Jvm.Cond.fieldLink "DiveChairs" (146 : Nat) "DiveChairs$Shelf" "size" "I") ∈ zGW := zt2 63 (by decide +kernel) rfl
theorem zw_260 : (Jvm.Cond.fieldLink "DiveChairs$Shelf" (19 : Nat) "DiveChairs$Shelf" "isRow" "Z") ∈ zGW := zt2 64 (by decide +kernel) rfl
theorem zw_261 : (Jvm.Cond.laysFinal "DiveChairs$Shelf" "DiveChairs$Shelf" "elements" "[I") ∈ zGW := zt2 65 (by decide +kernel) rfl
theorem zw_262 : (Jvm.Cond.lays "DiveChairs$Shelf" "DiveChairs$Shelf" "judge" "LDiveChairs$Judge;") ∈ zGW := zt2 67 (by decide +kernel) rfl
theorem zw_263 : (Jvm.Cond.lays "DiveChairs$Shelf" "DiveChairs$Shelf" "sort" "I") ∈ zGW := zt2 69 (by decide +kernel) rfl
theorem zw_264 : (Jvm.Cond.lays "DiveChairs$Shelf" "DiveChairs$Shelf" "size" "I") ∈ zGW := zt2 71 (by decide +kernel) rfl
theorem zw_265 : (Jvm.Cond.lays "DiveChairs$Shelf" "DiveChairs$Shelf" "isRow" "Z") ∈ zGW := zt2 73 (by decide +kernel) rfl
theorem zw_266 : (Jvm.Cond.superclass "DiveChairs$Shelf" "java/lang/Object") ∈ zGW := zt2 75 (by decide +kernel) rfl
theorem zw_267 : (Jvm.Cond.fieldLink "DiveChairs" (10 : Nat) "DiveChairs" "now" "LDiveChairs$State;") ∈ zGW := zt2 76 (by decide +kernel) rfl
theorem zw_268 : (Jvm.Cond.fieldLink "DiveChairs" (16 : Nat) "DiveChairs" "imaged" "LDiveChairs$State;") ∈ zGW := zt2 77 (by decide +kernel) rfl
theorem zw_269 : (Jvm.Cond.fieldLink "DiveChairs" (19 : Nat) "DiveChairs" "mind" "LDiveChairs$State;") ∈ zGW := zt2 78 (by decide +kernel) rfl
theorem zw_270 : (Jvm.Cond.fieldLink "DiveChairs" (24 : Nat) "DiveChairs" "shelves" "[LDiveChairs$Shelf;") ∈ zGW := zt2 79 (by decide +kernel) rfl
theorem zw_271 : (Jvm.Cond.fieldLink "DiveChairs" (31 : Nat) "DiveChairs" "reader" "LDiveChairs$RuleReader;") ∈ zGW := zt2 80 (by decide +kernel) rfl
theorem zw_272 : (Jvm.Cond.fieldLink "DiveChairs" (38 : Nat) "DiveChairs" "orders" "LDiveChairs$OrderDealing;") ∈ zGW := zt2 81 (by decide +kernel) rfl
theorem zw_273 : (Jvm.Cond.fieldLink "DiveChairs" (45 : Nat) "DiveChairs" "deals" "LDiveChairs$LandDealing;") ∈ zGW := zt2 82 (by decide +kernel) rfl
theorem zw_274 : (Jvm.Cond.fieldLink "DiveChairs" (52 : Nat) "DiveChairs" "tally" "LDiveChairs$Tally;") ∈ zGW := zt2 83 (by decide +kernel) rfl
theorem zw_275 : (Jvm.Cond.fieldLink "DiveChairs" (283 : Nat) "DiveChairs" "imageTaken" "Z") ∈ zGW := zt2 84 (by decide +kernel) rfl
theorem zw_276 : (Jvm.Cond.laysFinal "DiveChairs" "DiveChairs" "now" "LDiveChairs$State;") ∈ zGW := zt2 85 (by decide +kernel) rfl
theorem zw_277 : (Jvm.Cond.laysFinal "DiveChairs" "DiveChairs" "imaged" "LDiveChairs$State;") ∈ zGW := zt2 87 (by decide +kernel) rfl
theorem zw_278 : (Jvm.Cond.laysFinal "DiveChairs" "DiveChairs" "mind" "LDiveChairs$State;") ∈ zGW := zt2 89 (by decide +kernel) rfl
theorem zw_279 : (Jvm.Cond.laysFinal "DiveChairs" "DiveChairs" "shelves" "[LDiveChairs$Shelf;") ∈ zGW := zt2 91 (by decide +kernel) rfl
theorem zw_280 : (Jvm.Cond.laysFinal "DiveChairs" "DiveChairs" "reader" "LDiveChairs$RuleReader;") ∈ zGW := zt2 93 (by decide +kernel) rfl
theorem zw_281 : (Jvm.Cond.laysFinal "DiveChairs" "DiveChairs" "orders" "LDiveChairs$OrderDealing;") ∈ zGW := zt2 95 (by decide +kernel) rfl
theorem zw_282 : (Jvm.Cond.laysFinal "DiveChairs" "DiveChairs" "deals" "LDiveChairs$LandDealing;") ∈ zGW := zt2 97 (by decide +kernel) rfl
theorem zw_283 : (Jvm.Cond.laysFinal "DiveChairs" "DiveChairs" "tally" "LDiveChairs$Tally;") ∈ zGW := zt2 99 (by decide +kernel) rfl
theorem zw_284 : (Jvm.Cond.lays "DiveChairs" "DiveChairs" "imageTaken" "Z") ∈ zGW := zt2 101 (by decide +kernel) rfl
theorem zw_285 : (Jvm.Cond.superclass "DiveChairs" "java/lang/Object") ∈ zGW := zt2 103 (by decide +kernel) rfl
theorem zw_286 : (Jvm.Cond.methodLink "DiveChairsLaw" (21 : Nat) ({ cls := "DiveChairs", name := "diver", desc := "(II)I" } : Jvm.MethodName)) ∈ zGW := zt2 104 (by decide +kernel) rfl
theorem zw_287 : (Jvm.Cond.instanceMethod ({ cls := "DiveChairs", name := "diver", desc := "(II)I" } : Jvm.MethodName)) ∈ zGW := zt2 105 (by decide +kernel) rfl
theorem zw_288 : (Jvm.Cond.selects "DiveChairs" ({ cls := "DiveChairs", name := "diver", desc := "(II)I" } : Jvm.MethodName) ({ cls := "DiveChairs", name := "diver", desc := "(II)I" } : Jvm.MethodName)) ∈ zGW := zt2 106 (by decide +kernel) rfl
theorem zw_289 : (Jvm.Cond.code ({ cls := "DiveChairs", name := "diver", desc := "(II)I" } : Jvm.MethodName) prog_1_method_2_code (3 : Nat) (Option.some Jvm.ClassFile.FieldType.int)) ∈ zGW := zt2 107 (by decide +kernel) rfl
theorem zw_290 : (Jvm.Cond.methodLink "DiveChairs" (57 : Nat) ({ cls := "DiveChairs", name := "within", desc := "(II)Z" } : Jvm.MethodName)) ∈ zGW := zt2 108 (by decide +kernel) rfl
theorem zw_291 : (Jvm.Cond.static ({ cls := "DiveChairs", name := "within", desc := "(II)Z" } : Jvm.MethodName)) ∈ zGW := zt2 109 (by decide +kernel) rfl
theorem zw_292 : (Jvm.Cond.code ({ cls := "DiveChairs", name := "within", desc := "(II)Z" } : Jvm.MethodName) prog_1_method_40_code (2 : Nat) (Option.some Jvm.ClassFile.FieldType.boolean)) ∈ zGW := zt2 110 (by decide +kernel) rfl
theorem zw_293 : (Jvm.Cond.methodLink "DiveChairs" (61 : Nat) ({ cls := "DiveChairs$State", name := "addDiver", desc := "(II)I" } : Jvm.MethodName)) ∈ zGW := zt2 111 (by decide +kernel) rfl
theorem zw_294 : (Jvm.Cond.instanceMethod ({ cls := "DiveChairs$State", name := "addDiver", desc := "(II)I" } : Jvm.MethodName)) ∈ zGW := zt2 112 (by decide +kernel) rfl
theorem zw_295 : (Jvm.Cond.selects "DiveChairs$State" ({ cls := "DiveChairs$State", name := "addDiver", desc := "(II)I" } : Jvm.MethodName) ({ cls := "DiveChairs$State", name := "addDiver", desc := "(II)I" } : Jvm.MethodName)) ∈ zGW := zt2 113 (by decide +kernel) rfl
theorem zw_296 : (Jvm.Cond.code ({ cls := "DiveChairs$State", name := "addDiver", desc := "(II)I" } : Jvm.MethodName) prog_11_method_3_code (3 : Nat) (Option.some Jvm.ClassFile.FieldType.int)) ∈ zGW := zt2 114 (by decide +kernel) rfl
theorem zx_297 : (Jvm.Cond.methodLinkNest "DiveChairs$State" (78 : Nat) ({ cls := "DiveChairs", name := "within", desc := "(II)Z" } : Jvm.MethodName) "DiveChairs") ∈ lw_tbl := zn2 115 (by decide +kernel)
theorem zw_298 : (Jvm.Cond.methodLink "DiveChairsLaw" (26 : Nat) ({ cls := "DiveChairs", name := "judge", desc := "(II)I" } : Jvm.MethodName)) ∈ zGW := zt2 116 (by decide +kernel) rfl
theorem zw_299 : (Jvm.Cond.instanceMethod ({ cls := "DiveChairs", name := "judge", desc := "(II)I" } : Jvm.MethodName)) ∈ zGW := zt2 117 (by decide +kernel) rfl
theorem zw_300 : (Jvm.Cond.selects "DiveChairs" ({ cls := "DiveChairs", name := "judge", desc := "(II)I" } : Jvm.MethodName) ({ cls := "DiveChairs", name := "judge", desc := "(II)I" } : Jvm.MethodName)) ∈ zGW := zt2 118 (by decide +kernel) rfl
theorem zw_301 : (Jvm.Cond.code ({ cls := "DiveChairs", name := "judge", desc := "(II)I" } : Jvm.MethodName) prog_1_method_3_code (3 : Nat) (Option.some Jvm.ClassFile.FieldType.int)) ∈ zGW := zt2 119 (by decide +kernel) rfl
theorem zw_302 : (Jvm.Cond.methodLink "DiveChairs" (65 : Nat) ({ cls := "DiveChairs$State", name := "addJudge", desc := "(II)I" } : Jvm.MethodName)) ∈ zGW := zt2 120 (by decide +kernel) rfl
theorem zw_303 : (Jvm.Cond.instanceMethod ({ cls := "DiveChairs$State", name := "addJudge", desc := "(II)I" } : Jvm.MethodName)) ∈ zGW := zt2 121 (by decide +kernel) rfl
theorem zw_304 : (Jvm.Cond.selects "DiveChairs$State" ({ cls := "DiveChairs$State", name := "addJudge", desc := "(II)I" } : Jvm.MethodName) ({ cls := "DiveChairs$State", name := "addJudge", desc := "(II)I" } : Jvm.MethodName)) ∈ zGW := zt2 122 (by decide +kernel) rfl
theorem zw_305 : (Jvm.Cond.code ({ cls := "DiveChairs$State", name := "addJudge", desc := "(II)I" } : Jvm.MethodName) prog_11_method_4_code (3 : Nat) (Option.some Jvm.ClassFile.FieldType.int)) ∈ zGW := zt2 123 (by decide +kernel) rfl
theorem zw_306 : (Jvm.Cond.instantiable "DiveChairs$Judge" (5 : Nat)) ∈ zGW := zt2 124 (by decide +kernel) rfl
theorem zw_307 : (Jvm.Cond.methodLink "DiveChairs$State" (82 : Nat) ({ cls := "DiveChairs$Judge", name := "<init>", desc := "(III)V" } : Jvm.MethodName)) ∈ zGW := zt2 125 (by decide +kernel) rfl
theorem zw_308 : (Jvm.Cond.instanceMethod ({ cls := "DiveChairs$Judge", name := "<init>", desc := "(III)V" } : Jvm.MethodName)) ∈ zGW := zt2 126 (by decide +kernel) rfl
theorem zw_309 : (Jvm.Cond.code ({ cls := "DiveChairs$Judge", name := "<init>", desc := "(III)V" } : Jvm.MethodName) prog_4_method_1_code (4 : Nat) (Option.none : Option Jvm.ClassFile.FieldType)) ∈ zGW := zt2 127 (by decide +kernel) rfl
theorem zw_310 : (Jvm.Cond.methodLink "DiveChairs$Judge" (3 : Nat) ({ cls := "java/lang/Object", name := "<init>", desc := "()V" } : Jvm.MethodName)) ∈ zGW := zt2 128 (by decide +kernel) rfl
theorem zw_311 : (Jvm.Cond.fieldLink "DiveChairs$Judge" (9 : Nat) "DiveChairs$Judge" "number" "I") ∈ zGW := zt2 129 (by decide +kernel) rfl
theorem zw_312 : (Jvm.Cond.fieldLink "DiveChairs$Judge" (15 : Nat) "DiveChairs$Judge" "kind" "I") ∈ zGW := zt2 130 (by decide +kernel) rfl
theorem zw_313 : (Jvm.Cond.fieldLink "DiveChairs$State" (133 : Nat) "DiveChairs$Judge" "kind" "I") ∈ zGW := zt2 131 (by decide +kernel) rfl
theorem zw_314 : (Jvm.Cond.fieldLink "DiveChairs$Judge" (18 : Nat) "DiveChairs$Judge" "land" "I") ∈ zGW := zt2 132 (by decide +kernel) rfl
theorem zw_315 : (Jvm.Cond.fieldLink "DiveChairs$LandDealing" (34 : Nat) "DiveChairs$Judge" "land" "I") ∈ zGW := zt2 133 (by decide +kernel) rfl
theorem zw_316 : (Jvm.Cond.fieldLink "DiveChairs$Judge" (21 : Nat) "DiveChairs$Judge" "leaning" "I") ∈ zGW := zt2 134 (by decide +kernel) rfl
theorem zw_317 : (Jvm.Cond.fieldLink "DiveChairs$Judge" (24 : Nat) "DiveChairs$Judge" "partner" "I") ∈ zGW := zt2 135 (by decide +kernel) rfl
theorem zw_318 : (Jvm.Cond.laysFinal "DiveChairs$Judge" "DiveChairs$Judge" "number" "I") ∈ zGW := zt2 136 (by decide +kernel) rfl
theorem zw_319 : (Jvm.Cond.laysFinal "DiveChairs$Judge" "DiveChairs$Judge" "kind" "I") ∈ zGW := zt2 138 (by decide +kernel) rfl
theorem zw_320 : (Jvm.Cond.laysFinal "DiveChairs$Judge" "DiveChairs$Judge" "land" "I") ∈ zGW := zt2 140 (by decide +kernel) rfl
theorem zw_321 : (Jvm.Cond.laysFinal "DiveChairs$Judge" "DiveChairs$Judge" "leaning" "I") ∈ zGW := zt2 142 (by decide +kernel) rfl
theorem zw_322 : (Jvm.Cond.laysFinal "DiveChairs$Judge" "DiveChairs$Judge" "partner" "I") ∈ zGW := zt2 144 (by decide +kernel) rfl
theorem zw_323 : (Jvm.Cond.superclass "DiveChairs$Judge" "java/lang/Object") ∈ zGW := zt2 146 (by decide +kernel) rfl
theorem zw_324 : (Jvm.Cond.methodLink "DiveChairsLaw" (30 : Nat) ({ cls := "DiveChairs", name := "year", desc := "(II)I" } : Jvm.MethodName)) ∈ zGW := zt2 147 (by decide +kernel) rfl
theorem zw_325 : (Jvm.Cond.instanceMethod ({ cls := "DiveChairs", name := "year", desc := "(II)I" } : Jvm.MethodName)) ∈ zGW := zt2 148 (by decide +kernel) rfl
theorem zw_326 : (Jvm.Cond.selects "DiveChairs" ({ cls := "DiveChairs", name := "year", desc := "(II)I" } : Jvm.MethodName) ({ cls := "DiveChairs", name := "year", desc := "(II)I" } : Jvm.MethodName)) ∈ zGW := zt2 149 (by decide +kernel) rfl
theorem zw_327 : (Jvm.Cond.code ({ cls := "DiveChairs", name := "year", desc := "(II)I" } : Jvm.MethodName) prog_1_method_4_code (4 : Nat) (Option.some Jvm.ClassFile.FieldType.int)) ∈ zGW := zt2 150 (by decide +kernel) rfl
theorem zw_328 : (Jvm.Cond.methodLink "DiveChairsLaw" (34 : Nat) ({ cls := "DiveChairs", name := "chair", desc := "(III)I" } : Jvm.MethodName)) ∈ zGW := zt2 151 (by decide +kernel) rfl
theorem zw_329 : (Jvm.Cond.instanceMethod ({ cls := "DiveChairs", name := "chair", desc := "(III)I" } : Jvm.MethodName)) ∈ zGW := zt2 152 (by decide +kernel) rfl
theorem zw_330 : (Jvm.Cond.selects "DiveChairs" ({ cls := "DiveChairs", name := "chair", desc := "(III)I" } : Jvm.MethodName) ({ cls := "DiveChairs", name := "chair", desc := "(III)I" } : Jvm.MethodName)) ∈ zGW := zt2 153 (by decide +kernel) rfl
theorem zw_331 : (Jvm.Cond.code ({ cls := "DiveChairs", name := "chair", desc := "(III)I" } : Jvm.MethodName) prog_1_method_5_code (6 : Nat) (Option.some Jvm.ClassFile.FieldType.int)) ∈ zGW := zt2 154 (by decide +kernel) rfl
theorem zw_332 : (Jvm.Cond.methodLink "DiveChairs" (76 : Nat) ({ cls := "DiveChairs$State", name := "isOnOtherChair", desc := "(III)Z" } : Jvm.MethodName)) ∈ zGW := zt2 155 (by decide +kernel) rfl
theorem zw_333 : (Jvm.Cond.instanceMethod ({ cls := "DiveChairs$State", name := "isOnOtherChair", desc := "(III)Z" } : Jvm.MethodName)) ∈ zGW := zt2 156 (by decide +kernel) rfl
theorem zw_334 : (Jvm.Cond.selects "DiveChairs$State" ({ cls := "DiveChairs$State", name := "isOnOtherChair", desc := "(III)Z" } : Jvm.MethodName) ({ cls := "DiveChairs$State", name := "isOnOtherChair", desc := "(III)Z" } : Jvm.MethodName)) ∈ zGW := zt2 157 (by decide +kernel) rfl
theorem zw_335 : (Jvm.Cond.code ({ cls := "DiveChairs$State", name := "isOnOtherChair", desc := "(III)Z" } : Jvm.MethodName) prog_11_method_10_code (5 : Nat) (Option.some Jvm.ClassFile.FieldType.boolean)) ∈ zGW := zt2 158 (by decide +kernel) rfl
theorem zw_336 : (Jvm.Cond.methodLink "DiveChairs$State" (92 : Nat) ({ cls := "DiveChairs$State", name := "seatOf", desc := "(II)I" } : Jvm.MethodName)) ∈ zGW := zt2 159 (by decide +kernel) rfl
theorem zw_337 : (Jvm.Cond.instanceMethod ({ cls := "DiveChairs$State", name := "seatOf", desc := "(II)I" } : Jvm.MethodName)) ∈ zGW := zt2 160 (by decide +kernel) rfl
theorem zw_338 : (Jvm.Cond.selects "DiveChairs$State" ({ cls := "DiveChairs$State", name := "seatOf", desc := "(II)I" } : Jvm.MethodName) ({ cls := "DiveChairs$State", name := "seatOf", desc := "(II)I" } : Jvm.MethodName)) ∈ zGW := zt2 161 (by decide +kernel) rfl
theorem zw_339 : (Jvm.Cond.code ({ cls := "DiveChairs$State", name := "seatOf", desc := "(II)I" } : Jvm.MethodName) prog_11_method_9_code (3 : Nat) (Option.some Jvm.ClassFile.FieldType.int)) ∈ zGW := zt2 162 (by decide +kernel) rfl
theorem zw_340 : (Jvm.Cond.methodLink "DiveChairs" (80 : Nat) ({ cls := "DiveChairs$State", name := "seatOf", desc := "(II)I" } : Jvm.MethodName)) ∈ zGW := zt2 163 (by decide +kernel) rfl
theorem zw_341 : (Jvm.Cond.methodLink "DiveChairsLaw" (39 : Nat) ({ cls := "DiveChairs", name := "dive", desc := "(IIII)I" } : Jvm.MethodName)) ∈ zGW := zt2 164 (by decide +kernel) rfl
theorem zw_342 : (Jvm.Cond.instanceMethod ({ cls := "DiveChairs", name := "dive", desc := "(IIII)I" } : Jvm.MethodName)) ∈ zGW := zt2 165 (by decide +kernel) rfl
theorem zw_343 : (Jvm.Cond.selects "DiveChairs" ({ cls := "DiveChairs", name := "dive", desc := "(IIII)I" } : Jvm.MethodName) ({ cls := "DiveChairs", name := "dive", desc := "(IIII)I" } : Jvm.MethodName)) ∈ zGW := zt2 166 (by decide +kernel) rfl
theorem zw_344 : (Jvm.Cond.code ({ cls := "DiveChairs", name := "dive", desc := "(IIII)I" } : Jvm.MethodName) prog_1_method_6_code (5 : Nat) (Option.some Jvm.ClassFile.FieldType.int)) ∈ zGW := zt2 167 (by decide +kernel) rfl
theorem zw_345 : (Jvm.Cond.methodLink "DiveChairs" (89 : Nat) ({ cls := "DiveChairs$State", name := "addDive", desc := "(IIII)I" } : Jvm.MethodName)) ∈ zGW := zt2 168 (by decide +kernel) rfl
theorem zw_346 : (Jvm.Cond.instanceMethod ({ cls := "DiveChairs$State", name := "addDive", desc := "(IIII)I" } : Jvm.MethodName)) ∈ zGW := zt2 169 (by decide +kernel) rfl
theorem zw_347 : (Jvm.Cond.selects "DiveChairs$State" ({ cls := "DiveChairs$State", name := "addDive", desc := "(IIII)I" } : Jvm.MethodName) ({ cls := "DiveChairs$State", name := "addDive", desc := "(IIII)I" } : Jvm.MethodName)) ∈ zGW := zt2 170 (by decide +kernel) rfl
theorem zw_348 : (Jvm.Cond.code ({ cls := "DiveChairs$State", name := "addDive", desc := "(IIII)I" } : Jvm.MethodName) prog_11_method_5_code (5 : Nat) (Option.some Jvm.ClassFile.FieldType.int)) ∈ zGW := zt2 171 (by decide +kernel) rfl
theorem zw_349 : (Jvm.Cond.methodLink "DiveChairs$State" (85 : Nat) ({ cls := "DiveChairs$Dive", name := "begin", desc := "(IIII)V" } : Jvm.MethodName)) ∈ zGW := zt2 172 (by decide +kernel) rfl
theorem zw_350 : (Jvm.Cond.instanceMethod ({ cls := "DiveChairs$Dive", name := "begin", desc := "(IIII)V" } : Jvm.MethodName)) ∈ zGW := zt2 173 (by decide +kernel) rfl
theorem zw_351 : (Jvm.Cond.selects "DiveChairs$Dive" ({ cls := "DiveChairs$Dive", name := "begin", desc := "(IIII)V" } : Jvm.MethodName) ({ cls := "DiveChairs$Dive", name := "begin", desc := "(IIII)V" } : Jvm.MethodName)) ∈ zGW := zt2 174 (by decide +kernel) rfl
theorem zw_352 : (Jvm.Cond.code ({ cls := "DiveChairs$Dive", name := "begin", desc := "(IIII)V" } : Jvm.MethodName) prog_3_method_2_code (6 : Nat) (Option.none : Option Jvm.ClassFile.FieldType)) ∈ zGW := zt2 175 (by decide +kernel) rfl
theorem zw_353 : (Jvm.Cond.methodLink "DiveChairs$Dive" (34 : Nat) ({ cls := "DiveChairs$Dive", name := "tell", desc := "(III)V" } : Jvm.MethodName)) ∈ zGW := zt2 176 (by decide +kernel) rfl
theorem zw_354 : (Jvm.Cond.instanceMethod ({ cls := "DiveChairs$Dive", name := "tell", desc := "(III)V" } : Jvm.MethodName)) ∈ zGW := zt2 177 (by decide +kernel) rfl
theorem zw_355 : (Jvm.Cond.selects "DiveChairs$Dive" ({ cls := "DiveChairs$Dive", name := "tell", desc := "(III)V" } : Jvm.MethodName) ({ cls := "DiveChairs$Dive", name := "tell", desc := "(III)V" } : Jvm.MethodName)) ∈ zGW := zt2 178 (by decide +kernel) rfl
theorem zw_356 : (Jvm.Cond.code ({ cls := "DiveChairs$Dive", name := "tell", desc := "(III)V" } : Jvm.MethodName) prog_3_method_4_code (4 : Nat) (Option.none : Option Jvm.ClassFile.FieldType)) ∈ zGW := zt2 179 (by decide +kernel) rfl
theorem zx_357 : (Jvm.Cond.methodLinkNest "DiveChairs$Dive" (44 : Nat) ({ cls := "DiveChairs", name := "within", desc := "(II)Z" } : Jvm.MethodName) "DiveChairs") ∈ lw_tbl := zn2 180 (by decide +kernel)
theorem zw_358 : (Jvm.Cond.methodLink "DiveChairsLaw" (44 : Nat) ({ cls := "DiveChairs", name := "of", desc := "(II)I" } : Jvm.MethodName)) ∈ zGW := zt2 181 (by decide +kernel) rfl
theorem zw_359 : (Jvm.Cond.instanceMethod ({ cls := "DiveChairs", name := "of", desc := "(II)I" } : Jvm.MethodName)) ∈ zGW := zt2 182 (by decide +kernel) rfl
theorem zw_360 : (Jvm.Cond.selects "DiveChairs" ({ cls := "DiveChairs", name := "of", desc := "(II)I" } : Jvm.MethodName) ({ cls := "DiveChairs", name := "of", desc := "(II)I" } : Jvm.MethodName)) ∈ zGW := zt2 183 (by decide +kernel) rfl
theorem zw_361 : (Jvm.Cond.code ({ cls := "DiveChairs", name := "of", desc := "(II)I" } : Jvm.MethodName) prog_1_method_7_code (4 : Nat) (Option.some Jvm.ClassFile.FieldType.int)) ∈ zGW := zt2 184 (by decide +kernel) rfl
theorem zw_362 : (Jvm.Cond.methodLink "DiveChairs" (93 : Nat) ({ cls := "DiveChairs$State", name := "diveAt", desc := "(I)LDiveChairs$Dive;" } : Jvm.MethodName)) ∈ zGW := zt2 185 (by decide +kernel) rfl
theorem zw_363 : (Jvm.Cond.instanceMethod ({ cls := "DiveChairs$State", name := "diveAt", desc := "(I)LDiveChairs$Dive;" } : Jvm.MethodName)) ∈ zGW := zt2 186 (by decide +kernel) rfl
theorem zw_364 : (Jvm.Cond.selects "DiveChairs$State" ({ cls := "DiveChairs$State", name := "diveAt", desc := "(I)LDiveChairs$Dive;" } : Jvm.MethodName) ({ cls := "DiveChairs$State", name := "diveAt", desc := "(I)LDiveChairs$Dive;" } : Jvm.MethodName)) ∈ zGW := zt2 187 (by decide +kernel) rfl
theorem zw_365 : (Jvm.Cond.code ({ cls := "DiveChairs$State", name := "diveAt", desc := "(I)LDiveChairs$Dive;" } : Jvm.MethodName) prog_11_method_7_code (2 : Nat) (Option.some (Jvm.ClassFile.FieldType.object "DiveChairs$Dive"))) ∈ zGW := zt2 188 (by decide +kernel) rfl
theorem zw_366 : (Jvm.Cond.methodLink "DiveChairs" (114 : Nat) ({ cls := "DiveChairs$State", name := "worthOf", desc := "(LDiveChairs$Dive;)I" } : Jvm.MethodName)) ∈ zGW := zt2 189 (by decide +kernel) rfl
theorem zw_367 : (Jvm.Cond.instanceMethod ({ cls := "DiveChairs$State", name := "worthOf", desc := "(LDiveChairs$Dive;)I" } : Jvm.MethodName)) ∈ zGW := zt2 190 (by decide +kernel) rfl
theorem zw_368 : (Jvm.Cond.selects "DiveChairs$State" ({ cls := "DiveChairs$State", name := "worthOf", desc := "(LDiveChairs$Dive;)I" } : Jvm.MethodName) ({ cls := "DiveChairs$State", name := "worthOf", desc := "(LDiveChairs$Dive;)I" } : Jvm.MethodName)) ∈ zGW := zt2 191 (by decide +kernel) rfl
theorem zw_369 : (Jvm.Cond.code ({ cls := "DiveChairs$State", name := "worthOf", desc := "(LDiveChairs$Dive;)I" } : Jvm.MethodName) prog_11_method_15_code (2 : Nat) (Option.some Jvm.ClassFile.FieldType.int)) ∈ zGW := zt2 192 (by decide +kernel) rfl
theorem zw_370 : (Jvm.Cond.methodLink "DiveChairs$State" (109 : Nat) ({ cls := "DiveChairs$Rule", name := "offFor", desc := "(I)I" } : Jvm.MethodName)) ∈ zGW := zt2 193 (by decide +kernel) rfl
theorem zw_371 : (Jvm.Cond.instanceMethod ({ cls := "DiveChairs$Rule", name := "offFor", desc := "(I)I" } : Jvm.MethodName)) ∈ zGW := zt2 194 (by decide +kernel) rfl
theorem zw_372 : (Jvm.Cond.selects "DiveChairs$Rule" ({ cls := "DiveChairs$Rule", name := "offFor", desc := "(I)I" } : Jvm.MethodName) ({ cls := "DiveChairs$Rule", name := "offFor", desc := "(I)I" } : Jvm.MethodName)) ∈ zGW := zt2 195 (by decide +kernel) rfl
theorem zw_373 : (Jvm.Cond.code ({ cls := "DiveChairs$Rule", name := "offFor", desc := "(I)I" } : Jvm.MethodName) prog_8_method_5_code (4 : Nat) (Option.some Jvm.ClassFile.FieldType.int)) ∈ zGW := zt2 196 (by decide +kernel) rfl
theorem zw_374 : (Jvm.Cond.methodLink "DiveChairs$State" (113 : Nat) ({ cls := "java/lang/Math", name := "max", desc := "(II)I" } : Jvm.MethodName)) ∈ zGW := zt2 197 (by decide +kernel) rfl
theorem zw_375 : (Jvm.Cond.static ({ cls := "java/lang/Math", name := "max", desc := "(II)I" } : Jvm.MethodName)) ∈ zGW := zt2 198 (by decide +kernel) rfl
theorem zw_376 : (Jvm.Cond.code ({ cls := "java/lang/Math", name := "max", desc := "(II)I" } : Jvm.MethodName) prog_19_method_65_code (2 : Nat) (Option.some Jvm.ClassFile.FieldType.int)) ∈ zGW := zt2 199 (by decide +kernel) rfl
theorem zw_377 : (Jvm.Cond.methodLink "DiveChairs" (118 : Nat) ({ cls := "DiveChairs$Dive", name := "marksThere", desc := "()I" } : Jvm.MethodName)) ∈ zGW := zt2 200 (by decide +kernel) rfl
theorem zw_378 : (Jvm.Cond.instanceMethod ({ cls := "DiveChairs$Dive", name := "marksThere", desc := "()I" } : Jvm.MethodName)) ∈ zGW := zt2 201 (by decide +kernel) rfl
theorem zw_379 : (Jvm.Cond.selects "DiveChairs$Dive" ({ cls := "DiveChairs$Dive", name := "marksThere", desc := "()I" } : Jvm.MethodName) ({ cls := "DiveChairs$Dive", name := "marksThere", desc := "()I" } : Jvm.MethodName)) ∈ zGW := zt2 202 (by decide +kernel) rfl
theorem zw_380 : (Jvm.Cond.code ({ cls := "DiveChairs$Dive", name := "marksThere", desc := "()I" } : Jvm.MethodName) prog_3_method_6_code (3 : Nat) (Option.some Jvm.ClassFile.FieldType.int)) ∈ zGW := zt2 203 (by decide +kernel) rfl
theorem zw_381 : (Jvm.Cond.methodLink "DiveChairsLaw" (48 : Nat) ({ cls := "DiveChairs", name := "seen", desc := "(III)I" } : Jvm.MethodName)) ∈ zGW := zt2 204 (by decide +kernel) rfl
theorem zw_382 : (Jvm.Cond.instanceMethod ({ cls := "DiveChairs", name := "seen", desc := "(III)I" } : Jvm.MethodName)) ∈ zGW := zt2 205 (by decide +kernel) rfl
theorem zw_383 : (Jvm.Cond.selects "DiveChairs" ({ cls := "DiveChairs", name := "seen", desc := "(III)I" } : Jvm.MethodName) ({ cls := "DiveChairs", name := "seen", desc := "(III)I" } : Jvm.MethodName)) ∈ zGW := zt2 206 (by decide +kernel) rfl
theorem zw_384 : (Jvm.Cond.code ({ cls := "DiveChairs", name := "seen", desc := "(III)I" } : Jvm.MethodName) prog_1_method_8_code (4 : Nat) (Option.some Jvm.ClassFile.FieldType.int)) ∈ zGW := zt2 207 (by decide +kernel) rfl
theorem zw_385 : (Jvm.Cond.methodLink "DiveChairs" (122 : Nat) ({ cls := "DiveChairs", name := "partsSeen", desc := "(II)I" } : Jvm.MethodName)) ∈ zGW := zt2 208 (by decide +kernel) rfl
theorem zw_386 : (Jvm.Cond.static ({ cls := "DiveChairs", name := "partsSeen", desc := "(II)I" } : Jvm.MethodName)) ∈ zGW := zt2 209 (by decide +kernel) rfl
theorem zw_387 : (Jvm.Cond.code ({ cls := "DiveChairs", name := "partsSeen", desc := "(II)I" } : Jvm.MethodName) prog_1_method_42_code (5 : Nat) (Option.some Jvm.ClassFile.FieldType.int)) ∈ zGW := zt2 210 (by decide +kernel) rfl
theorem zw_388 : (Jvm.Cond.methodLink "DiveChairsLaw" (52 : Nat) ({ cls := "DiveChairs", name := "would", desc := "(II)I" } : Jvm.MethodName)) ∈ zGW := zt2 211 (by decide +kernel) rfl
theorem zw_389 : (Jvm.Cond.instanceMethod ({ cls := "DiveChairs", name := "would", desc := "(II)I" } : Jvm.MethodName)) ∈ zGW := zt2 212 (by decide +kernel) rfl
theorem zw_390 : (Jvm.Cond.selects "DiveChairs" ({ cls := "DiveChairs", name := "would", desc := "(II)I" } : Jvm.MethodName) ({ cls := "DiveChairs", name := "would", desc := "(II)I" } : Jvm.MethodName)) ∈ zGW := zt2 213 (by decide +kernel) rfl
theorem zw_391 : (Jvm.Cond.code ({ cls := "DiveChairs", name := "would", desc := "(II)I" } : Jvm.MethodName) prog_1_method_9_code (3 : Nat) (Option.some Jvm.ClassFile.FieldType.int)) ∈ zGW := zt2 214 (by decide +kernel) rfl
theorem zw_392 : (Jvm.Cond.methodLink "DiveChairs" (128 : Nat) ({ cls := "DiveChairs$State", name := "wouldMark", desc := "(II)I" } : Jvm.MethodName)) ∈ zGW := zt2 215 (by decide +kernel) rfl
theorem zw_393 : (Jvm.Cond.instanceMethod ({ cls := "DiveChairs$State", name := "wouldMark", desc := "(II)I" } : Jvm.MethodName)) ∈ zGW := zt2 216 (by decide +kernel) rfl
theorem zw_394 : (Jvm.Cond.selects "DiveChairs$State" ({ cls := "DiveChairs$State", name := "wouldMark", desc := "(II)I" } : Jvm.MethodName) ({ cls := "DiveChairs$State", name := "wouldMark", desc := "(II)I" } : Jvm.MethodName)) ∈ zGW := zt2 217 (by decide +kernel) rfl
theorem zw_395 : (Jvm.Cond.code ({ cls := "DiveChairs$State", name := "wouldMark", desc := "(II)I" } : Jvm.MethodName) prog_11_method_17_code (5 : Nat) (Option.some Jvm.ClassFile.FieldType.int)) ∈ zGW := zt2 218 (by decide +kernel) rfl
theorem zw_396 : (Jvm.Cond.methodLink "DiveChairs$State" (122 : Nat) ({ cls := "DiveChairs$State", name := "diveAt", desc := "(I)LDiveChairs$Dive;" } : Jvm.MethodName)) ∈ zGW := zt2 219 (by decide +kernel) rfl
theorem zw_397 : (Jvm.Cond.methodLink "DiveChairs$State" (129 : Nat) ({ cls := "DiveChairs$State", name := "judgeAt", desc := "(I)LDiveChairs$Judge;" } : Jvm.MethodName)) ∈ zGW := zt2 220 (by decide +kernel) rfl
theorem zw_398 : (Jvm.Cond.instanceMethod ({ cls := "DiveChairs$State", name := "judgeAt", desc := "(I)LDiveChairs$Judge;" } : Jvm.MethodName)) ∈ zGW := zt2 221 (by decide +kernel) rfl
theorem zw_399 : (Jvm.Cond.selects "DiveChairs$State" ({ cls := "DiveChairs$State", name := "judgeAt", desc := "(I)LDiveChairs$Judge;" } : Jvm.MethodName) ({ cls := "DiveChairs$State", name := "judgeAt", desc := "(I)LDiveChairs$Judge;" } : Jvm.MethodName)) ∈ zGW := zt2 222 (by decide +kernel) rfl
theorem zw_400 : (Jvm.Cond.code ({ cls := "DiveChairs$State", name := "judgeAt", desc := "(I)LDiveChairs$Judge;" } : Jvm.MethodName) prog_11_method_6_code (2 : Nat) (Option.some (Jvm.ClassFile.FieldType.object "DiveChairs$Judge"))) ∈ zGW := zt2 223 (by decide +kernel) rfl
theorem zw_401 : (Jvm.Cond.methodLink "DiveChairs$State" (136 : Nat) ({ cls := "DiveChairs$State", name := "gatherOthers", desc := "(ILDiveChairs$Dive;)V" } : Jvm.MethodName)) ∈ zGW := zt2 224 (by decide +kernel) rfl
theorem zw_402 : (Jvm.Cond.instanceMethod ({ cls := "DiveChairs$State", name := "gatherOthers", desc := "(ILDiveChairs$Dive;)V" } : Jvm.MethodName)) ∈ zGW := zt2 226 (by decide +kernel) rfl
theorem zw_403 : (Jvm.Cond.code ({ cls := "DiveChairs$State", name := "gatherOthers", desc := "(ILDiveChairs$Dive;)V" } : Jvm.MethodName) prog_11_method_18_code (5 : Nat) (Option.none : Option Jvm.ClassFile.FieldType)) ∈ zGW := zt2 227 (by decide +kernel) rfl
theorem zw_404 : (Jvm.Cond.methodLink "DiveChairs$State" (146 : Nat) ({ cls := "DiveChairs$State", name := "markOf", desc := "(LDiveChairs$Judge;ILDiveChairs$Dive;I)I" } : Jvm.MethodName)) ∈ zGW := zt2 228 (by decide +kernel) rfl
theorem zw_405 : (Jvm.Cond.instanceMethod ({ cls := "DiveChairs$State", name := "markOf", desc := "(LDiveChairs$Judge;ILDiveChairs$Dive;I)I" } : Jvm.MethodName)) ∈ zGW := zt2 230 (by decide +kernel) rfl
theorem zw_406 : (Jvm.Cond.code ({ cls := "DiveChairs$State", name := "markOf", desc := "(LDiveChairs$Judge;ILDiveChairs$Dive;I)I" } : Jvm.MethodName) prog_11_method_19_code (8 : Nat) (Option.some Jvm.ClassFile.FieldType.int)) ∈ zGW := zt2 231 (by decide +kernel) rfl
theorem zx_407 : (Jvm.Cond.methodLinkNest "DiveChairs$State" (157 : Nat) ({ cls := "DiveChairs", name := "partsSeen", desc := "(II)I" } : Jvm.MethodName) "DiveChairs") ∈ lw_tbl := zn2 232 (by decide +kernel)
theorem zw_408 : (Jvm.Cond.methodLink "DiveChairs$State" (160 : Nat) ({ cls := "DiveChairs$State", name := "drawnBy", desc := "(ILDiveChairs$Dive;)I" } : Jvm.MethodName)) ∈ zGW := zt2 233 (by decide +kernel) rfl
theorem zw_409 : (Jvm.Cond.instanceMethod ({ cls := "DiveChairs$State", name := "drawnBy", desc := "(ILDiveChairs$Dive;)I" } : Jvm.MethodName)) ∈ zGW := zt2 235 (by decide +kernel) rfl
theorem zw_410 : (Jvm.Cond.code ({ cls := "DiveChairs$State", name := "drawnBy", desc := "(ILDiveChairs$Dive;)I" } : Jvm.MethodName) prog_11_method_20_code (6 : Nat) (Option.some Jvm.ClassFile.FieldType.int)) ∈ zGW := zt2 236 (by decide +kernel) rfl
theorem zw_411 : (Jvm.Cond.methodLink "DiveChairs$State" (172 : Nat) ({ cls := "java/lang/Math", name := "min", desc := "(II)I" } : Jvm.MethodName)) ∈ zGW := zt2 237 (by decide +kernel) rfl
theorem zw_412 : (Jvm.Cond.static ({ cls := "java/lang/Math", name := "min", desc := "(II)I" } : Jvm.MethodName)) ∈ zGW := zt2 238 (by decide +kernel) rfl
theorem zw_413 : (Jvm.Cond.code ({ cls := "java/lang/Math", name := "min", desc := "(II)I" } : Jvm.MethodName) prog_19_method_69_code (2 : Nat) (Option.some Jvm.ClassFile.FieldType.int)) ∈ zGW := zt2 239 (by decide +kernel) rfl
theorem zw_414 : (Jvm.Cond.methodLink "DiveChairs$State" (164 : Nat) ({ cls := "DiveChairs$State", name := "landOf", desc := "(LDiveChairs$Dive;)I" } : Jvm.MethodName)) ∈ zGW := zt3 0 (by decide +kernel) rfl
theorem zw_415 : (Jvm.Cond.instanceMethod ({ cls := "DiveChairs$State", name := "landOf", desc := "(LDiveChairs$Dive;)I" } : Jvm.MethodName)) ∈ zGW := zt3 1 (by decide +kernel) rfl
theorem zw_416 : (Jvm.Cond.selects "DiveChairs$State" ({ cls := "DiveChairs$State", name := "landOf", desc := "(LDiveChairs$Dive;)I" } : Jvm.MethodName) ({ cls := "DiveChairs$State", name := "landOf", desc := "(LDiveChairs$Dive;)I" } : Jvm.MethodName)) ∈ zGW := zt3 2 (by decide +kernel) rfl
theorem zw_417 : (Jvm.Cond.code ({ cls := "DiveChairs$State", name := "landOf", desc := "(LDiveChairs$Dive;)I" } : Jvm.MethodName) prog_11_method_8_code (2 : Nat) (Option.some Jvm.ClassFile.FieldType.int)) ∈ zGW := zt3 3 (by decide +kernel) rfl
theorem zw_418 : (Jvm.Cond.methodLink "DiveChairs$State" (168 : Nat) ({ cls := "DiveChairs$Judge", name := "markFor", desc := "(III)I" } : Jvm.MethodName)) ∈ zGW := zt3 4 (by decide +kernel) rfl
theorem zw_419 : (Jvm.Cond.instanceMethod ({ cls := "DiveChairs$Judge", name := "markFor", desc := "(III)I" } : Jvm.MethodName)) ∈ zGW := zt3 5 (by decide +kernel) rfl
theorem zw_420 : (Jvm.Cond.selects "DiveChairs$Judge" ({ cls := "DiveChairs$Judge", name := "markFor", desc := "(III)I" } : Jvm.MethodName) ({ cls := "DiveChairs$Judge", name := "markFor", desc := "(III)I" } : Jvm.MethodName)) ∈ zGW := zt3 6 (by decide +kernel) rfl
theorem zw_421 : (Jvm.Cond.code ({ cls := "DiveChairs$Judge", name := "markFor", desc := "(III)I" } : Jvm.MethodName) prog_4_method_3_code (4 : Nat) (Option.some Jvm.ClassFile.FieldType.int)) ∈ zGW := zt3 7 (by decide +kernel) rfl
theorem zw_422 : (Jvm.Cond.methodLink "DiveChairs$Judge" (27 : Nat) ({ cls := "DiveChairs$Judge", name := "held", desc := "(I)I" } : Jvm.MethodName)) ∈ zGW := zt3 8 (by decide +kernel) rfl
theorem zw_423 : (Jvm.Cond.static ({ cls := "DiveChairs$Judge", name := "held", desc := "(I)I" } : Jvm.MethodName)) ∈ zGW := zt3 9 (by decide +kernel) rfl
theorem zw_424 : (Jvm.Cond.code ({ cls := "DiveChairs$Judge", name := "held", desc := "(I)I" } : Jvm.MethodName) prog_4_method_7_code (1 : Nat) (Option.some Jvm.ClassFile.FieldType.int)) ∈ zGW := zt3 10 (by decide +kernel) rfl
theorem zw_425 : (Jvm.Cond.methodLink "DiveChairs$Judge" (31 : Nat) ({ cls := "DiveChairs$Judge", name := "leanTo", desc := "(I)I" } : Jvm.MethodName)) ∈ zGW := zt3 11 (by decide +kernel) rfl
theorem zw_426 : (Jvm.Cond.instanceMethod ({ cls := "DiveChairs$Judge", name := "leanTo", desc := "(I)I" } : Jvm.MethodName)) ∈ zGW := zt3 12 (by decide +kernel) rfl
theorem zw_427 : (Jvm.Cond.selects "DiveChairs$Judge" ({ cls := "DiveChairs$Judge", name := "leanTo", desc := "(I)I" } : Jvm.MethodName) ({ cls := "DiveChairs$Judge", name := "leanTo", desc := "(I)I" } : Jvm.MethodName)) ∈ zGW := zt3 13 (by decide +kernel) rfl
theorem zw_428 : (Jvm.Cond.code ({ cls := "DiveChairs$Judge", name := "leanTo", desc := "(I)I" } : Jvm.MethodName) prog_4_method_2_code (4 : Nat) (Option.some Jvm.ClassFile.FieldType.int)) ∈ zGW := zt3 14 (by decide +kernel) rfl
theorem zw_429 : (Jvm.Cond.methodLink "DiveChairs$State" (150 : Nat) ({ cls := "DiveChairs$Panel", name := "add", desc := "(I)V" } : Jvm.MethodName)) ∈ zGW := zt3 15 (by decide +kernel) rfl
theorem zw_430 : (Jvm.Cond.instanceMethod ({ cls := "DiveChairs$Panel", name := "add", desc := "(I)V" } : Jvm.MethodName)) ∈ zGW := zt3 16 (by decide +kernel) rfl
theorem zw_431 : (Jvm.Cond.selects "DiveChairs$Panel" ({ cls := "DiveChairs$Panel", name := "add", desc := "(I)V" } : Jvm.MethodName) ({ cls := "DiveChairs$Panel", name := "add", desc := "(I)V" } : Jvm.MethodName)) ∈ zGW := zt3 17 (by decide +kernel) rfl
theorem zw_432 : (Jvm.Cond.code ({ cls := "DiveChairs$Panel", name := "add", desc := "(I)V" } : Jvm.MethodName) prog_7_method_3_code (3 : Nat) (Option.none : Option Jvm.ClassFile.FieldType)) ∈ zGW := zt3 18 (by decide +kernel) rfl
theorem zw_433 : (Jvm.Cond.methodLink "DiveChairs$State" (143 : Nat) ({ cls := "DiveChairs$Panel", name := "middle", desc := "()I" } : Jvm.MethodName)) ∈ zGW := zt3 19 (by decide +kernel) rfl
theorem zw_434 : (Jvm.Cond.instanceMethod ({ cls := "DiveChairs$Panel", name := "middle", desc := "()I" } : Jvm.MethodName)) ∈ zGW := zt3 20 (by decide +kernel) rfl
theorem zw_435 : (Jvm.Cond.selects "DiveChairs$Panel" ({ cls := "DiveChairs$Panel", name := "middle", desc := "()I" } : Jvm.MethodName) ({ cls := "DiveChairs$Panel", name := "middle", desc := "()I" } : Jvm.MethodName)) ∈ zGW := zt3 21 (by decide +kernel) rfl
theorem zw_436 : (Jvm.Cond.code ({ cls := "DiveChairs$Panel", name := "middle", desc := "()I" } : Jvm.MethodName) prog_7_method_6_code (1 : Nat) (Option.some Jvm.ClassFile.FieldType.int)) ∈ zGW := zt3 22 (by decide +kernel) rfl
theorem zw_437 : (Jvm.Cond.methodLink "DiveChairsLaw" (56 : Nat) ({ cls := "DiveChairs", name := "markAll", desc := "(I)I" } : Jvm.MethodName)) ∈ zGW := zt3 23 (by decide +kernel) rfl
theorem zw_438 : (Jvm.Cond.instanceMethod ({ cls := "DiveChairs", name := "markAll", desc := "(I)I" } : Jvm.MethodName)) ∈ zGW := zt3 24 (by decide +kernel) rfl
theorem zw_439 : (Jvm.Cond.selects "DiveChairs" ({ cls := "DiveChairs", name := "markAll", desc := "(I)I" } : Jvm.MethodName) ({ cls := "DiveChairs", name := "markAll", desc := "(I)I" } : Jvm.MethodName)) ∈ zGW := zt3 25 (by decide +kernel) rfl
theorem zw_440 : (Jvm.Cond.code ({ cls := "DiveChairs", name := "markAll", desc := "(I)I" } : Jvm.MethodName) prog_1_method_10_code (4 : Nat) (Option.some Jvm.ClassFile.FieldType.int)) ∈ zGW := zt3 26 (by decide +kernel) rfl
theorem zw_441 : (Jvm.Cond.methodLink "DiveChairs" (131 : Nat) ({ cls := "DiveChairs$State", name := "markDive", desc := "(I)I" } : Jvm.MethodName)) ∈ zGW := zt3 27 (by decide +kernel) rfl
theorem zw_442 : (Jvm.Cond.instanceMethod ({ cls := "DiveChairs$State", name := "markDive", desc := "(I)I" } : Jvm.MethodName)) ∈ zGW := zt3 28 (by decide +kernel) rfl
theorem zw_443 : (Jvm.Cond.selects "DiveChairs$State" ({ cls := "DiveChairs$State", name := "markDive", desc := "(I)I" } : Jvm.MethodName) ({ cls := "DiveChairs$State", name := "markDive", desc := "(I)I" } : Jvm.MethodName)) ∈ zGW := zt3 29 (by decide +kernel) rfl
theorem zw_444 : (Jvm.Cond.code ({ cls := "DiveChairs$State", name := "markDive", desc := "(I)I" } : Jvm.MethodName) prog_11_method_21_code (5 : Nat) (Option.some Jvm.ClassFile.FieldType.int)) ∈ zGW := zt3 30 (by decide +kernel) rfl
theorem zw_445 : (Jvm.Cond.methodLink "DiveChairs$State" (175 : Nat) ({ cls := "DiveChairs$State", name := "wouldMark", desc := "(II)I" } : Jvm.MethodName)) ∈ zGW := zt3 31 (by decide +kernel) rfl
theorem zw_446 : (Jvm.Cond.methodLink "DiveChairs$State" (178 : Nat) ({ cls := "DiveChairs$Dive", name := "tell", desc := "(III)V" } : Jvm.MethodName)) ∈ zGW := zt3 32 (by decide +kernel) rfl
theorem zw_447 : (Jvm.Cond.methodLink "DiveChairs$State" (96 : Nat) ({ cls := "DiveChairs$Dive", name := "marksThere", desc := "()I" } : Jvm.MethodName)) ∈ zGW := zt3 33 (by decide +kernel) rfl
theorem zw_448 : (Jvm.Cond.methodLink "DiveChairsLaw" (61 : Nat) ({ cls := "DiveChairs", name := "marks", desc := "(II)I" } : Jvm.MethodName)) ∈ zGW := zt3 34 (by decide +kernel) rfl
theorem zw_449 : (Jvm.Cond.instanceMethod ({ cls := "DiveChairs", name := "marks", desc := "(II)I" } : Jvm.MethodName)) ∈ zGW := zt3 35 (by decide +kernel) rfl
theorem zw_450 : (Jvm.Cond.selects "DiveChairs" ({ cls := "DiveChairs", name := "marks", desc := "(II)I" } : Jvm.MethodName) ({ cls := "DiveChairs", name := "marks", desc := "(II)I" } : Jvm.MethodName)) ∈ zGW := zt3 36 (by decide +kernel) rfl
theorem zw_451 : (Jvm.Cond.code ({ cls := "DiveChairs", name := "marks", desc := "(II)I" } : Jvm.MethodName) prog_1_method_11_code (8 : Nat) (Option.some Jvm.ClassFile.FieldType.int)) ∈ zGW := zt3 37 (by decide +kernel) rfl
theorem zw_452 : (Jvm.Cond.methodLink "DiveChairs" (135 : Nat) ({ cls := "DiveChairs", name := "shelfAt", desc := "(I)LDiveChairs$Shelf;" } : Jvm.MethodName)) ∈ zGW := zt3 38 (by decide +kernel) rfl
theorem zw_453 : (Jvm.Cond.instanceMethod ({ cls := "DiveChairs", name := "shelfAt", desc := "(I)LDiveChairs$Shelf;" } : Jvm.MethodName)) ∈ zGW := zt3 40 (by decide +kernel) rfl
theorem zw_454 : (Jvm.Cond.code ({ cls := "DiveChairs", name := "shelfAt", desc := "(I)LDiveChairs$Shelf;" } : Jvm.MethodName) prog_1_method_46_code (2 : Nat) (Option.some (Jvm.ClassFile.FieldType.object "DiveChairs$Shelf"))) ∈ zGW := zt3 41 (by decide +kernel) rfl
theorem zw_455 : (Jvm.Cond.methodLink "DiveChairs" (139 : Nat) ({ cls := "DiveChairs$Shelf", name := "refusalAsText", desc := "()I" } : Jvm.MethodName)) ∈ zGW := zt3 42 (by decide +kernel) rfl
theorem zw_456 : (Jvm.Cond.instanceMethod ({ cls := "DiveChairs$Shelf", name := "refusalAsText", desc := "()I" } : Jvm.MethodName)) ∈ zGW := zt3 43 (by decide +kernel) rfl
theorem zw_457 : (Jvm.Cond.selects "DiveChairs$Shelf" ({ cls := "DiveChairs$Shelf", name := "refusalAsText", desc := "()I" } : Jvm.MethodName) ({ cls := "DiveChairs$Shelf", name := "refusalAsText", desc := "()I" } : Jvm.MethodName)) ∈ zGW := zt3 44 (by decide +kernel) rfl
theorem zw_458 : (Jvm.Cond.code ({ cls := "DiveChairs$Shelf", name := "refusalAsText", desc := "()I" } : Jvm.MethodName) prog_10_method_7_code (1 : Nat) (Option.some Jvm.ClassFile.FieldType.int)) ∈ zGW := zt3 45 (by decide +kernel) rfl
theorem zw_459 : (Jvm.Cond.methodLink "DiveChairs$Shelf" (33 : Nat) ({ cls := "DiveChairs$Shelf", name := "refusalAsRow", desc := "()I" } : Jvm.MethodName)) ∈ zGW := zt3 46 (by decide +kernel) rfl
theorem zw_460 : (Jvm.Cond.instanceMethod ({ cls := "DiveChairs$Shelf", name := "refusalAsRow", desc := "()I" } : Jvm.MethodName)) ∈ zGW := zt3 47 (by decide +kernel) rfl
theorem zw_461 : (Jvm.Cond.selects "DiveChairs$Shelf" ({ cls := "DiveChairs$Shelf", name := "refusalAsRow", desc := "()I" } : Jvm.MethodName) ({ cls := "DiveChairs$Shelf", name := "refusalAsRow", desc := "()I" } : Jvm.MethodName)) ∈ zGW := zt3 48 (by decide +kernel) rfl
theorem zw_462 : (Jvm.Cond.code ({ cls := "DiveChairs$Shelf", name := "refusalAsRow", desc := "()I" } : Jvm.MethodName) prog_10_method_6_code (1 : Nat) (Option.some Jvm.ClassFile.FieldType.int)) ∈ zGW := zt3 49 (by decide +kernel) rfl
theorem zw_463 : (Jvm.Cond.methodLink "DiveChairs" (142 : Nat) ({ cls := "DiveChairs$Shelf", name := "holdsMarks", desc := "()Z" } : Jvm.MethodName)) ∈ zGW := zt3 50 (by decide +kernel) rfl
theorem zw_464 : (Jvm.Cond.instanceMethod ({ cls := "DiveChairs$Shelf", name := "holdsMarks", desc := "()Z" } : Jvm.MethodName)) ∈ zGW := zt3 51 (by decide +kernel) rfl
theorem zw_465 : (Jvm.Cond.selects "DiveChairs$Shelf" ({ cls := "DiveChairs$Shelf", name := "holdsMarks", desc := "()Z" } : Jvm.MethodName) ({ cls := "DiveChairs$Shelf", name := "holdsMarks", desc := "()Z" } : Jvm.MethodName)) ∈ zGW := zt3 52 (by decide +kernel) rfl
theorem zw_466 : (Jvm.Cond.code ({ cls := "DiveChairs$Shelf", name := "holdsMarks", desc := "()Z" } : Jvm.MethodName) prog_10_method_10_code (3 : Nat) (Option.some Jvm.ClassFile.FieldType.boolean)) ∈ zGW := zt3 53 (by decide +kernel) rfl
theorem zx_467 : (Jvm.Cond.methodLinkNest "DiveChairs$Shelf" (37 : Nat) ({ cls := "DiveChairs", name := "within", desc := "(II)Z" } : Jvm.MethodName) "DiveChairs") ∈ lw_tbl := zn3 54 (by decide +kernel)
theorem zw_468 : (Jvm.Cond.methodLink "DiveChairs" (152 : Nat) ({ cls := "DiveChairs$Dive", name := "tell", desc := "(III)V" } : Jvm.MethodName)) ∈ zGW := zt3 55 (by decide +kernel) rfl
theorem zw_469 : (Jvm.Cond.methodLink "DiveChairsLaw" (65 : Nat) ({ cls := "DiveChairs", name := "mark", desc := "(II)I" } : Jvm.MethodName)) ∈ zGW := zt3 56 (by decide +kernel) rfl
theorem zw_470 : (Jvm.Cond.instanceMethod ({ cls := "DiveChairs", name := "mark", desc := "(II)I" } : Jvm.MethodName)) ∈ zGW := zt3 57 (by decide +kernel) rfl
theorem zw_471 : (Jvm.Cond.selects "DiveChairs" ({ cls := "DiveChairs", name := "mark", desc := "(II)I" } : Jvm.MethodName) ({ cls := "DiveChairs", name := "mark", desc := "(II)I" } : Jvm.MethodName)) ∈ zGW := zt3 58 (by decide +kernel) rfl
theorem zw_472 : (Jvm.Cond.code ({ cls := "DiveChairs", name := "mark", desc := "(II)I" } : Jvm.MethodName) prog_1_method_12_code (4 : Nat) (Option.some Jvm.ClassFile.FieldType.int)) ∈ zGW := zt3 59 (by decide +kernel) rfl
theorem zw_473 : (Jvm.Cond.methodLink "DiveChairs" (156 : Nat) ({ cls := "DiveChairs$Dive", name := "hasMark", desc := "(I)Z" } : Jvm.MethodName)) ∈ zGW := zt3 60 (by decide +kernel) rfl
theorem zw_474 : (Jvm.Cond.instanceMethod ({ cls := "DiveChairs$Dive", name := "hasMark", desc := "(I)Z" } : Jvm.MethodName)) ∈ zGW := zt3 61 (by decide +kernel) rfl
theorem zw_475 : (Jvm.Cond.selects "DiveChairs$Dive" ({ cls := "DiveChairs$Dive", name := "hasMark", desc := "(I)Z" } : Jvm.MethodName) ({ cls := "DiveChairs$Dive", name := "hasMark", desc := "(I)Z" } : Jvm.MethodName)) ∈ zGW := zt3 62 (by decide +kernel) rfl
theorem zw_476 : (Jvm.Cond.code ({ cls := "DiveChairs$Dive", name := "hasMark", desc := "(I)Z" } : Jvm.MethodName) prog_3_method_5_code (2 : Nat) (Option.some Jvm.ClassFile.FieldType.boolean)) ∈ zGW := zt3 63 (by decide +kernel) rfl
theorem zw_477 : (Jvm.Cond.methodLink "DiveChairsLaw" (69 : Nat) ({ cls := "DiveChairs", name := "rule", desc := "(I)I" } : Jvm.MethodName)) ∈ zGW := zt3 64 (by decide +kernel) rfl
theorem zw_478 : (Jvm.Cond.instanceMethod ({ cls := "DiveChairs", name := "rule", desc := "(I)I" } : Jvm.MethodName)) ∈ zGW := zt3 65 (by decide +kernel) rfl
theorem zw_479 : (Jvm.Cond.selects "DiveChairs" ({ cls := "DiveChairs", name := "rule", desc := "(I)I" } : Jvm.MethodName) ({ cls := "DiveChairs", name := "rule", desc := "(I)I" } : Jvm.MethodName)) ∈ zGW := zt3 66 (by decide +kernel) rfl
theorem zw_480 : (Jvm.Cond.code ({ cls := "DiveChairs", name := "rule", desc := "(I)I" } : Jvm.MethodName) prog_1_method_13_code (5 : Nat) (Option.some Jvm.ClassFile.FieldType.int)) ∈ zGW := zt3 67 (by decide +kernel) rfl
theorem zw_481 : (Jvm.Cond.methodLink "DiveChairs" (167 : Nat) ({ cls := "DiveChairs$RuleReader", name := "read", desc := "(LDiveChairs$Shelf;LDiveChairs$Rule;)I" } : Jvm.MethodName)) ∈ zGW := zt3 68 (by decide +kernel) rfl
theorem zw_482 : (Jvm.Cond.instanceMethod ({ cls := "DiveChairs$RuleReader", name := "read", desc := "(LDiveChairs$Shelf;LDiveChairs$Rule;)I" } : Jvm.MethodName)) ∈ zGW := zt3 69 (by decide +kernel) rfl
theorem zw_483 : (Jvm.Cond.selects "DiveChairs$RuleReader" ({ cls := "DiveChairs$RuleReader", name := "read", desc := "(LDiveChairs$Shelf;LDiveChairs$Rule;)I" } : Jvm.MethodName) ({ cls := "DiveChairs$RuleReader", name := "read", desc := "(LDiveChairs$Shelf;LDiveChairs$Rule;)I" } : Jvm.MethodName)) ∈ zGW := zt3 70 (by decide +kernel) rfl
theorem zw_484 : (Jvm.Cond.code ({ cls := "DiveChairs$RuleReader", name := "read", desc := "(LDiveChairs$Shelf;LDiveChairs$Rule;)I" } : Jvm.MethodName) prog_9_method_2_code (4 : Nat) (Option.some Jvm.ClassFile.FieldType.int)) ∈ zGW := zt3 71 (by decide +kernel) rfl
theorem zw_485 : (Jvm.Cond.methodLink "DiveChairs$RuleReader" (22 : Nat) ({ cls := "DiveChairs$Rule", name := "copyFrom", desc := "(LDiveChairs$Rule;)V" } : Jvm.MethodName)) ∈ zGW := zt3 72 (by decide +kernel) rfl
theorem zw_486 : (Jvm.Cond.instanceMethod ({ cls := "DiveChairs$Rule", name := "copyFrom", desc := "(LDiveChairs$Rule;)V" } : Jvm.MethodName)) ∈ zGW := zt3 73 (by decide +kernel) rfl
theorem zw_487 : (Jvm.Cond.selects "DiveChairs$Rule" ({ cls := "DiveChairs$Rule", name := "copyFrom", desc := "(LDiveChairs$Rule;)V" } : Jvm.MethodName) ({ cls := "DiveChairs$Rule", name := "copyFrom", desc := "(LDiveChairs$Rule;)V" } : Jvm.MethodName)) ∈ zGW := zt3 74 (by decide +kernel) rfl
theorem zw_488 : (Jvm.Cond.code ({ cls := "DiveChairs$Rule", name := "copyFrom", desc := "(LDiveChairs$Rule;)V" } : Jvm.MethodName) prog_8_method_2_code (2 : Nat) (Option.none : Option Jvm.ClassFile.FieldType)) ∈ zGW := zt3 75 (by decide +kernel) rfl
theorem zw_489 : (Jvm.Cond.methodLink "DiveChairs$Rule" (32 : Nat) ({ cls := "java/lang/System", name := "arraycopy", desc := "(Ljava/lang/Object;ILjava/lang/Object;II)V" } : Jvm.MethodName)) ∈ zGW := zt3 76 (by decide +kernel) rfl
theorem zw_490 : (Jvm.Cond.static ({ cls := "java/lang/System", name := "arraycopy", desc := "(Ljava/lang/Object;ILjava/lang/Object;II)V" } : Jvm.MethodName)) ∈ zGW := zt3 77 (by decide +kernel) rfl
theorem zw_491 : (Jvm.Cond.native ({ cls := "java/lang/System", name := "arraycopy", desc := "(Ljava/lang/Object;ILjava/lang/Object;II)V" } : Jvm.MethodName)) ∈ zGW := zt3 78 (by decide +kernel) rfl
theorem zw_492 : (Jvm.Cond.methodLink "DiveChairs$RuleReader" (35 : Nat) ({ cls := "java/lang/Math", name := "min", desc := "(II)I" } : Jvm.MethodName)) ∈ zGW := zt3 79 (by decide +kernel) rfl
theorem zw_493 : (Jvm.Cond.methodLink "DiveChairs$RuleReader" (52 : Nat) ({ cls := "DiveChairs$RuleReader", name := "readStatement", desc := "()V" } : Jvm.MethodName)) ∈ zGW := zt3 80 (by decide +kernel) rfl
theorem zw_494 : (Jvm.Cond.instanceMethod ({ cls := "DiveChairs$RuleReader", name := "readStatement", desc := "()V" } : Jvm.MethodName)) ∈ zGW := zt3 82 (by decide +kernel) rfl
theorem zw_495 : (Jvm.Cond.code ({ cls := "DiveChairs$RuleReader", name := "readStatement", desc := "()V" } : Jvm.MethodName) prog_9_method_3_code (2 : Nat) (Option.none : Option Jvm.ClassFile.FieldType)) ∈ zGW := zt3 83 (by decide +kernel) rfl
theorem zw_496 : (Jvm.Cond.methodLink "DiveChairs$RuleReader" (55 : Nat) ({ cls := "DiveChairs$RuleReader", name := "next", desc := "()I" } : Jvm.MethodName)) ∈ zGW := zt3 84 (by decide +kernel) rfl
theorem zw_497 : (Jvm.Cond.instanceMethod ({ cls := "DiveChairs$RuleReader", name := "next", desc := "()I" } : Jvm.MethodName)) ∈ zGW := zt3 86 (by decide +kernel) rfl
theorem zw_498 : (Jvm.Cond.code ({ cls := "DiveChairs$RuleReader", name := "next", desc := "()I" } : Jvm.MethodName) prog_9_method_14_code (1 : Nat) (Option.some Jvm.ClassFile.FieldType.int)) ∈ zGW := zt3 87 (by decide +kernel) rfl
theorem zw_499 : (Jvm.Cond.methodLink "DiveChairs$RuleReader" (59 : Nat) ({ cls := "DiveChairs$RuleReader", name := "readOff", desc := "(I)V" } : Jvm.MethodName)) ∈ zGW := zt3 88 (by decide +kernel) rfl
theorem zw_500 : (Jvm.Cond.instanceMethod ({ cls := "DiveChairs$RuleReader", name := "readOff", desc := "(I)V" } : Jvm.MethodName)) ∈ zGW := zt3 90 (by decide +kernel) rfl
theorem zw_501 : (Jvm.Cond.code ({ cls := "DiveChairs$RuleReader", name := "readOff", desc := "(I)V" } : Jvm.MethodName) prog_9_method_4_code (4 : Nat) (Option.none : Option Jvm.ClassFile.FieldType)) ∈ zGW := zt3 91 (by decide +kernel) rfl
theorem zw_502 : (Jvm.Cond.methodLink "DiveChairs$RuleReader" (75 : Nat) ({ cls := "DiveChairs$RuleReader", name := "readNumber", desc := "()I" } : Jvm.MethodName)) ∈ zGW := zt3 92 (by decide +kernel) rfl
theorem zw_503 : (Jvm.Cond.instanceMethod ({ cls := "DiveChairs$RuleReader", name := "readNumber", desc := "()I" } : Jvm.MethodName)) ∈ zGW := zt3 94 (by decide +kernel) rfl
theorem zw_504 : (Jvm.Cond.code ({ cls := "DiveChairs$RuleReader", name := "readNumber", desc := "()I" } : Jvm.MethodName) prog_9_method_11_code (3 : Nat) (Option.some Jvm.ClassFile.FieldType.int)) ∈ zGW := zt3 95 (by decide +kernel) rfl
theorem zw_505 : (Jvm.Cond.methodLink "DiveChairs$RuleReader" (107 : Nat) ({ cls := "DiveChairs$RuleReader", name := "isAtDigit", desc := "()Z" } : Jvm.MethodName)) ∈ zGW := zt3 96 (by decide +kernel) rfl
theorem zw_506 : (Jvm.Cond.instanceMethod ({ cls := "DiveChairs$RuleReader", name := "isAtDigit", desc := "()Z" } : Jvm.MethodName)) ∈ zGW := zt3 98 (by decide +kernel) rfl
theorem zw_507 : (Jvm.Cond.code ({ cls := "DiveChairs$RuleReader", name := "isAtDigit", desc := "()Z" } : Jvm.MethodName) prog_9_method_13_code (1 : Nat) (Option.some Jvm.ClassFile.FieldType.boolean)) ∈ zGW := zt3 99 (by decide +kernel) rfl
theorem zw_508 : (Jvm.Cond.methodLink "DiveChairs$RuleReader" (72 : Nat) ({ cls := "DiveChairs$RuleReader", name := "expect", desc := "(I)V" } : Jvm.MethodName)) ∈ zGW := zt3 100 (by decide +kernel) rfl
theorem zw_509 : (Jvm.Cond.instanceMethod ({ cls := "DiveChairs$RuleReader", name := "expect", desc := "(I)V" } : Jvm.MethodName)) ∈ zGW := zt3 102 (by decide +kernel) rfl
theorem zw_510 : (Jvm.Cond.code ({ cls := "DiveChairs$RuleReader", name := "expect", desc := "(I)V" } : Jvm.MethodName) prog_9_method_12_code (2 : Nat) (Option.none : Option Jvm.ClassFile.FieldType)) ∈ zGW := zt3 103 (by decide +kernel) rfl
theorem zx_511 : (Jvm.Cond.methodLinkNest "DiveChairs$RuleReader" (78 : Nat) ({ cls := "DiveChairs", name := "within", desc := "(II)Z" } : Jvm.MethodName) "DiveChairs") ∈ lw_tbl := zn3 104 (by decide +kernel)
theorem zw_512 : (Jvm.Cond.methodLink "DiveChairs$RuleReader" (85 : Nat) ({ cls := "DiveChairs$RuleReader", name := "wrongAt", desc := "(I)V" } : Jvm.MethodName)) ∈ zGW := zt3 105 (by decide +kernel) rfl
theorem zw_513 : (Jvm.Cond.instanceMethod ({ cls := "DiveChairs$RuleReader", name := "wrongAt", desc := "(I)V" } : Jvm.MethodName)) ∈ zGW := zt3 107 (by decide +kernel) rfl
theorem zw_514 : (Jvm.Cond.code ({ cls := "DiveChairs$RuleReader", name := "wrongAt", desc := "(I)V" } : Jvm.MethodName) prog_9_method_6_code (2 : Nat) (Option.none : Option Jvm.ClassFile.FieldType)) ∈ zGW := zt3 108 (by decide +kernel) rfl
theorem zw_515 : (Jvm.Cond.methodLink "DiveChairs$RuleReader" (63 : Nat) ({ cls := "DiveChairs$RuleReader", name := "readDropped", desc := "(I)V" } : Jvm.MethodName)) ∈ zGW := zt3 109 (by decide +kernel) rfl
theorem zw_516 : (Jvm.Cond.instanceMethod ({ cls := "DiveChairs$RuleReader", name := "readDropped", desc := "(I)V" } : Jvm.MethodName)) ∈ zGW := zt3 111 (by decide +kernel) rfl
theorem zw_517 : (Jvm.Cond.code ({ cls := "DiveChairs$RuleReader", name := "readDropped", desc := "(I)V" } : Jvm.MethodName) prog_9_method_5_code (4 : Nat) (Option.none : Option Jvm.ClassFile.FieldType)) ∈ zGW := zt3 112 (by decide +kernel) rfl
theorem zw_518 : (Jvm.Cond.methodLink "DiveChairs$RuleReader" (66 : Nat) ({ cls := "DiveChairs$Rule", name := "forgetSum", desc := "()V" } : Jvm.MethodName)) ∈ zGW := zt3 113 (by decide +kernel) rfl
theorem zw_519 : (Jvm.Cond.instanceMethod ({ cls := "DiveChairs$Rule", name := "forgetSum", desc := "()V" } : Jvm.MethodName)) ∈ zGW := zt3 114 (by decide +kernel) rfl
theorem zw_520 : (Jvm.Cond.selects "DiveChairs$Rule" ({ cls := "DiveChairs$Rule", name := "forgetSum", desc := "()V" } : Jvm.MethodName) ({ cls := "DiveChairs$Rule", name := "forgetSum", desc := "()V" } : Jvm.MethodName)) ∈ zGW := zt3 115 (by decide +kernel) rfl
theorem zw_521 : (Jvm.Cond.code ({ cls := "DiveChairs$Rule", name := "forgetSum", desc := "()V" } : Jvm.MethodName) prog_8_method_3_code (1 : Nat) (Option.none : Option Jvm.ClassFile.FieldType)) ∈ zGW := zt3 116 (by decide +kernel) rfl
theorem zw_522 : (Jvm.Cond.methodLink "DiveChairs$RuleReader" (69 : Nat) ({ cls := "DiveChairs$RuleReader", name := "readSum", desc := "(I)V" } : Jvm.MethodName)) ∈ zGW := zt3 117 (by decide +kernel) rfl
theorem zw_523 : (Jvm.Cond.instanceMethod ({ cls := "DiveChairs$RuleReader", name := "readSum", desc := "(I)V" } : Jvm.MethodName)) ∈ zGW := zt3 119 (by decide +kernel) rfl
theorem zw_524 : (Jvm.Cond.code ({ cls := "DiveChairs$RuleReader", name := "readSum", desc := "(I)V" } : Jvm.MethodName) prog_9_method_7_code (4 : Nat) (Option.none : Option Jvm.ClassFile.FieldType)) ∈ zGW := zt3 120 (by decide +kernel) rfl
theorem zw_525 : (Jvm.Cond.methodLink "DiveChairs$RuleReader" (94 : Nat) ({ cls := "DiveChairs$RuleReader", name := "readProduct", desc := "(I)V" } : Jvm.MethodName)) ∈ zGW := zt3 121 (by decide +kernel) rfl
theorem zw_526 : (Jvm.Cond.instanceMethod ({ cls := "DiveChairs$RuleReader", name := "readProduct", desc := "(I)V" } : Jvm.MethodName)) ∈ zGW := zt3 123 (by decide +kernel) rfl
theorem zw_527 : (Jvm.Cond.code ({ cls := "DiveChairs$RuleReader", name := "readProduct", desc := "(I)V" } : Jvm.MethodName) prog_9_method_8_code (4 : Nat) (Option.none : Option Jvm.ClassFile.FieldType)) ∈ zGW := zt3 124 (by decide +kernel) rfl
theorem zw_528 : (Jvm.Cond.methodLink "DiveChairs$RuleReader" (100 : Nat) ({ cls := "DiveChairs$RuleReader", name := "readAtom", desc := "(I)V" } : Jvm.MethodName)) ∈ zGW := zt3 125 (by decide +kernel) rfl
theorem zw_529 : (Jvm.Cond.instanceMethod ({ cls := "DiveChairs$RuleReader", name := "readAtom", desc := "(I)V" } : Jvm.MethodName)) ∈ zGW := zt3 127 (by decide +kernel) rfl
theorem zw_530 : (Jvm.Cond.code ({ cls := "DiveChairs$RuleReader", name := "readAtom", desc := "(I)V" } : Jvm.MethodName) prog_9_method_9_code (3 : Nat) (Option.none : Option Jvm.ClassFile.FieldType)) ∈ zGW := zt3 128 (by decide +kernel) rfl
theorem zw_531 : (Jvm.Cond.methodLink "DiveChairs$RuleReader" (103 : Nat) ({ cls := "DiveChairs$RuleReader", name := "readBrackets", desc := "(III)V" } : Jvm.MethodName)) ∈ zGW := zt3 129 (by decide +kernel) rfl
theorem zw_532 : (Jvm.Cond.instanceMethod ({ cls := "DiveChairs$RuleReader", name := "readBrackets", desc := "(III)V" } : Jvm.MethodName)) ∈ zGW := zt3 131 (by decide +kernel) rfl
theorem zw_533 : (Jvm.Cond.code ({ cls := "DiveChairs$RuleReader", name := "readBrackets", desc := "(III)V" } : Jvm.MethodName) prog_9_method_10_code (4 : Nat) (Option.none : Option Jvm.ClassFile.FieldType)) ∈ zGW := zt3 132 (by decide +kernel) rfl
theorem zw_534 : (Jvm.Cond.methodLink "DiveChairs$RuleReader" (97 : Nat) ({ cls := "DiveChairs$Rule", name := "append", desc := "(I)V" } : Jvm.MethodName)) ∈ zGW := zt3 133 (by decide +kernel) rfl
theorem zw_535 : (Jvm.Cond.methodLink "DiveChairs" (174 : Nat) ({ cls := "DiveChairs$Rule", name := "copyFrom", desc := "(LDiveChairs$Rule;)V" } : Jvm.MethodName)) ∈ zGW := zt3 134 (by decide +kernel) rfl
theorem zw_536 : (Jvm.Cond.methodLink "DiveChairsLaw" (73 : Nat) ({ cls := "DiveChairs", name := "counts", desc := "(I)I" } : Jvm.MethodName)) ∈ zGW := zt3 135 (by decide +kernel) rfl
theorem zw_537 : (Jvm.Cond.instanceMethod ({ cls := "DiveChairs", name := "counts", desc := "(I)I" } : Jvm.MethodName)) ∈ zGW := zt3 136 (by decide +kernel) rfl
theorem zw_538 : (Jvm.Cond.selects "DiveChairs" ({ cls := "DiveChairs", name := "counts", desc := "(I)I" } : Jvm.MethodName) ({ cls := "DiveChairs", name := "counts", desc := "(I)I" } : Jvm.MethodName)) ∈ zGW := zt3 137 (by decide +kernel) rfl
theorem zw_539 : (Jvm.Cond.code ({ cls := "DiveChairs", name := "counts", desc := "(I)I" } : Jvm.MethodName) prog_1_method_14_code (3 : Nat) (Option.some Jvm.ClassFile.FieldType.int)) ∈ zGW := zt3 138 (by decide +kernel) rfl
theorem zw_540 : (Jvm.Cond.constant "DiveChairs" (180 : Nat) (-1000000001 : Int32)) ∈ zGW := zt3 139 (by decide +kernel) rfl
theorem zw_541 : (Jvm.Cond.methodLink "DiveChairs" (181 : Nat) ({ cls := "DiveChairs$State", name := "countOf", desc := "(LDiveChairs$Dive;)I" } : Jvm.MethodName)) ∈ zGW := zt3 140 (by decide +kernel) rfl
theorem zw_542 : (Jvm.Cond.instanceMethod ({ cls := "DiveChairs$State", name := "countOf", desc := "(LDiveChairs$Dive;)I" } : Jvm.MethodName)) ∈ zGW := zt3 141 (by decide +kernel) rfl
theorem zw_543 : (Jvm.Cond.selects "DiveChairs$State" ({ cls := "DiveChairs$State", name := "countOf", desc := "(LDiveChairs$Dive;)I" } : Jvm.MethodName) ({ cls := "DiveChairs$State", name := "countOf", desc := "(LDiveChairs$Dive;)I" } : Jvm.MethodName)) ∈ zGW := zt3 142 (by decide +kernel) rfl
theorem zw_544 : (Jvm.Cond.code ({ cls := "DiveChairs$State", name := "countOf", desc := "(LDiveChairs$Dive;)I" } : Jvm.MethodName) prog_11_method_16_code (2 : Nat) (Option.some Jvm.ClassFile.FieldType.int)) ∈ zGW := zt3 143 (by decide +kernel) rfl
theorem zw_545 : (Jvm.Cond.methodLink "DiveChairs$State" (100 : Nat) ({ cls := "DiveChairs$Panel", name := "gather", desc := "(LDiveChairs$Dive;)V" } : Jvm.MethodName)) ∈ zGW := zt3 144 (by decide +kernel) rfl
theorem zw_546 : (Jvm.Cond.instanceMethod ({ cls := "DiveChairs$Panel", name := "gather", desc := "(LDiveChairs$Dive;)V" } : Jvm.MethodName)) ∈ zGW := zt3 145 (by decide +kernel) rfl
theorem zw_547 : (Jvm.Cond.selects "DiveChairs$Panel" ({ cls := "DiveChairs$Panel", name := "gather", desc := "(LDiveChairs$Dive;)V" } : Jvm.MethodName) ({ cls := "DiveChairs$Panel", name := "gather", desc := "(LDiveChairs$Dive;)V" } : Jvm.MethodName)) ∈ zGW := zt3 146 (by decide +kernel) rfl
theorem zw_548 : (Jvm.Cond.code ({ cls := "DiveChairs$Panel", name := "gather", desc := "(LDiveChairs$Dive;)V" } : Jvm.MethodName) prog_7_method_2_code (3 : Nat) (Option.none : Option Jvm.ClassFile.FieldType)) ∈ zGW := zt3 147 (by decide +kernel) rfl
theorem zw_549 : (Jvm.Cond.methodLink "DiveChairs$Panel" (19 : Nat) ({ cls := "DiveChairs$Dive", name := "hasMark", desc := "(I)Z" } : Jvm.MethodName)) ∈ zGW := zt3 148 (by decide +kernel) rfl
theorem zw_550 : (Jvm.Cond.methodLink "DiveChairs$Panel" (28 : Nat) ({ cls := "DiveChairs$Panel", name := "add", desc := "(I)V" } : Jvm.MethodName)) ∈ zGW := zt3 149 (by decide +kernel) rfl
theorem zw_551 : (Jvm.Cond.methodLink "DiveChairs$State" (118 : Nat) ({ cls := "DiveChairs$Rule", name := "countFor", desc := "(LDiveChairs$Panel;LDiveChairs$Dive;)I" } : Jvm.MethodName)) ∈ zGW := zt3 150 (by decide +kernel) rfl
theorem zw_552 : (Jvm.Cond.instanceMethod ({ cls := "DiveChairs$Rule", name := "countFor", desc := "(LDiveChairs$Panel;LDiveChairs$Dive;)I" } : Jvm.MethodName)) ∈ zGW := zt3 151 (by decide +kernel) rfl
theorem zw_553 : (Jvm.Cond.selects "DiveChairs$Rule" ({ cls := "DiveChairs$Rule", name := "countFor", desc := "(LDiveChairs$Panel;LDiveChairs$Dive;)I" } : Jvm.MethodName) ({ cls := "DiveChairs$Rule", name := "countFor", desc := "(LDiveChairs$Panel;LDiveChairs$Dive;)I" } : Jvm.MethodName)) ∈ zGW := zt3 152 (by decide +kernel) rfl
theorem zw_554 : (Jvm.Cond.code ({ cls := "DiveChairs$Rule", name := "countFor", desc := "(LDiveChairs$Panel;LDiveChairs$Dive;)I" } : Jvm.MethodName) prog_8_method_6_code (6 : Nat) (Option.some Jvm.ClassFile.FieldType.int)) ∈ zGW := zt3 153 (by decide +kernel) rfl
theorem zw_555 : (Jvm.Cond.methodLink "DiveChairs$Rule" (46 : Nat) ({ cls := "DiveChairs$Rule", name := "isWorking", desc := "(I)Z" } : Jvm.MethodName)) ∈ zGW := zt3 154 (by decide +kernel) rfl
theorem zw_556 : (Jvm.Cond.static ({ cls := "DiveChairs$Rule", name := "isWorking", desc := "(I)Z" } : Jvm.MethodName)) ∈ zGW := zt3 155 (by decide +kernel) rfl
theorem zw_557 : (Jvm.Cond.code ({ cls := "DiveChairs$Rule", name := "isWorking", desc := "(I)Z" } : Jvm.MethodName) prog_8_method_7_code (1 : Nat) (Option.some Jvm.ClassFile.FieldType.boolean)) ∈ zGW := zt3 156 (by decide +kernel) rfl
theorem zw_558 : (Jvm.Cond.methodLink "DiveChairs$Rule" (50 : Nat) ({ cls := "DiveChairs$Rule", name := "fieldOf", desc := "(ILDiveChairs$Panel;LDiveChairs$Dive;)I" } : Jvm.MethodName)) ∈ zGW := zt3 157 (by decide +kernel) rfl
theorem zw_559 : (Jvm.Cond.instanceMethod ({ cls := "DiveChairs$Rule", name := "fieldOf", desc := "(ILDiveChairs$Panel;LDiveChairs$Dive;)I" } : Jvm.MethodName)) ∈ zGW := zt3 159 (by decide +kernel) rfl
theorem zw_560 : (Jvm.Cond.code ({ cls := "DiveChairs$Rule", name := "fieldOf", desc := "(ILDiveChairs$Panel;LDiveChairs$Dive;)I" } : Jvm.MethodName) prog_8_method_9_code (4 : Nat) (Option.some Jvm.ClassFile.FieldType.int)) ∈ zGW := zt3 160 (by decide +kernel) rfl
theorem zw_561 : (Jvm.Cond.methodLink "DiveChairs$Rule" (67 : Nat) ({ cls := "DiveChairs$Panel", name := "sumBetween", desc := "(II)I" } : Jvm.MethodName)) ∈ zGW := zt3 161 (by decide +kernel) rfl
theorem zw_562 : (Jvm.Cond.instanceMethod ({ cls := "DiveChairs$Panel", name := "sumBetween", desc := "(II)I" } : Jvm.MethodName)) ∈ zGW := zt3 162 (by decide +kernel) rfl
theorem zw_563 : (Jvm.Cond.selects "DiveChairs$Panel" ({ cls := "DiveChairs$Panel", name := "sumBetween", desc := "(II)I" } : Jvm.MethodName) ({ cls := "DiveChairs$Panel", name := "sumBetween", desc := "(II)I" } : Jvm.MethodName)) ∈ zGW := zt3 163 (by decide +kernel) rfl
theorem zw_564 : (Jvm.Cond.code ({ cls := "DiveChairs$Panel", name := "sumBetween", desc := "(II)I" } : Jvm.MethodName) prog_7_method_7_code (5 : Nat) (Option.some Jvm.ClassFile.FieldType.int)) ∈ zGW := zt3 164 (by decide +kernel) rfl
theorem zw_565 : (Jvm.Cond.methodLink "DiveChairs$Rule" (75 : Nat) ({ cls := "DiveChairs$Panel", name := "middle", desc := "()I" } : Jvm.MethodName)) ∈ zGW := zt3 165 (by decide +kernel) rfl
theorem zw_566 : (Jvm.Cond.methodLink "DiveChairs$Rule" (79 : Nat) ({ cls := "DiveChairs$Panel", name := "highest", desc := "()I" } : Jvm.MethodName)) ∈ zGW := zt3 166 (by decide +kernel) rfl
theorem zw_567 : (Jvm.Cond.instanceMethod ({ cls := "DiveChairs$Panel", name := "highest", desc := "()I" } : Jvm.MethodName)) ∈ zGW := zt3 167 (by decide +kernel) rfl
theorem zw_568 : (Jvm.Cond.selects "DiveChairs$Panel" ({ cls := "DiveChairs$Panel", name := "highest", desc := "()I" } : Jvm.MethodName) ({ cls := "DiveChairs$Panel", name := "highest", desc := "()I" } : Jvm.MethodName)) ∈ zGW := zt3 168 (by decide +kernel) rfl
theorem zw_569 : (Jvm.Cond.code ({ cls := "DiveChairs$Panel", name := "highest", desc := "()I" } : Jvm.MethodName) prog_7_method_5_code (1 : Nat) (Option.some Jvm.ClassFile.FieldType.int)) ∈ zGW := zt3 169 (by decide +kernel) rfl
theorem zw_570 : (Jvm.Cond.methodLink "DiveChairs$Rule" (82 : Nat) ({ cls := "DiveChairs$Panel", name := "lowest", desc := "()I" } : Jvm.MethodName)) ∈ zGW := zt3 170 (by decide +kernel) rfl
theorem zw_571 : (Jvm.Cond.instanceMethod ({ cls := "DiveChairs$Panel", name := "lowest", desc := "()I" } : Jvm.MethodName)) ∈ zGW := zt3 171 (by decide +kernel) rfl
theorem zw_572 : (Jvm.Cond.selects "DiveChairs$Panel" ({ cls := "DiveChairs$Panel", name := "lowest", desc := "()I" } : Jvm.MethodName) ({ cls := "DiveChairs$Panel", name := "lowest", desc := "()I" } : Jvm.MethodName)) ∈ zGW := zt3 172 (by decide +kernel) rfl
theorem zw_573 : (Jvm.Cond.code ({ cls := "DiveChairs$Panel", name := "lowest", desc := "()I" } : Jvm.MethodName) prog_7_method_4_code (1 : Nat) (Option.some Jvm.ClassFile.FieldType.int)) ∈ zGW := zt3 173 (by decide +kernel) rfl
theorem zw_574 : (Jvm.Cond.methodLink "DiveChairs$Rule" (54 : Nat) ({ cls := "DiveChairs$Rule", name := "worked", desc := "(III)I" } : Jvm.MethodName)) ∈ zGW := zt3 174 (by decide +kernel) rfl
theorem zw_575 : (Jvm.Cond.static ({ cls := "DiveChairs$Rule", name := "worked", desc := "(III)I" } : Jvm.MethodName)) ∈ zGW := zt3 175 (by decide +kernel) rfl
theorem zw_576 : (Jvm.Cond.code ({ cls := "DiveChairs$Rule", name := "worked", desc := "(III)I" } : Jvm.MethodName) prog_8_method_8_code (3 : Nat) (Option.some Jvm.ClassFile.FieldType.int)) ∈ zGW := zt3 176 (by decide +kernel) rfl
theorem zw_577 : (Jvm.Cond.methodLink "DiveChairs$Rule" (58 : Nat) ({ cls := "java/lang/Math", name := "min", desc := "(II)I" } : Jvm.MethodName)) ∈ zGW := zt3 177 (by decide +kernel) rfl
theorem zw_578 : (Jvm.Cond.methodLink "DiveChairs$Rule" (64 : Nat) ({ cls := "java/lang/Math", name := "max", desc := "(II)I" } : Jvm.MethodName)) ∈ zGW := zt3 178 (by decide +kernel) rfl
theorem zw_579 : (Jvm.Cond.methodLink "DiveChairsLaw" (77 : Nat) ({ cls := "DiveChairs", name := "total", desc := "(II)J" } : Jvm.MethodName)) ∈ zGW := zt3 179 (by decide +kernel) rfl
theorem zw_580 : (Jvm.Cond.instanceMethod ({ cls := "DiveChairs", name := "total", desc := "(II)J" } : Jvm.MethodName)) ∈ zGW := zt3 180 (by decide +kernel) rfl
theorem zw_581 : (Jvm.Cond.selects "DiveChairs" ({ cls := "DiveChairs", name := "total", desc := "(II)J" } : Jvm.MethodName) ({ cls := "DiveChairs", name := "total", desc := "(II)J" } : Jvm.MethodName)) ∈ zGW := zt3 181 (by decide +kernel) rfl
theorem zw_582 : (Jvm.Cond.code ({ cls := "DiveChairs", name := "total", desc := "(II)J" } : Jvm.MethodName) prog_1_method_15_code (4 : Nat) (Option.some Jvm.ClassFile.FieldType.long)) ∈ zGW := zt3 182 (by decide +kernel) rfl
theorem zw_583 : (Jvm.Cond.constantLong "DiveChairs" (184 : Nat) (-4611686018427387904 : Int64)) ∈ zGW := zt3 183 (by decide +kernel) rfl
theorem zw_584 : (Jvm.Cond.methodLink "DiveChairs" (186 : Nat) ({ cls := "DiveChairs$State", name := "addUp", desc := "(IZ)I" } : Jvm.MethodName)) ∈ zGW := zt3 184 (by decide +kernel) rfl
theorem zw_585 : (Jvm.Cond.instanceMethod ({ cls := "DiveChairs$State", name := "addUp", desc := "(IZ)I" } : Jvm.MethodName)) ∈ zGW := zt3 185 (by decide +kernel) rfl
theorem zw_586 : (Jvm.Cond.selects "DiveChairs$State" ({ cls := "DiveChairs$State", name := "addUp", desc := "(IZ)I" } : Jvm.MethodName) ({ cls := "DiveChairs$State", name := "addUp", desc := "(IZ)I" } : Jvm.MethodName)) ∈ zGW := zt3 186 (by decide +kernel) rfl
theorem zw_587 : (Jvm.Cond.code ({ cls := "DiveChairs$State", name := "addUp", desc := "(IZ)I" } : Jvm.MethodName) prog_11_method_22_code (6 : Nat) (Option.some Jvm.ClassFile.FieldType.int)) ∈ zGW := zt3 187 (by decide +kernel) rfl
theorem zw_588 : (Jvm.Cond.methodLink "DiveChairs$State" (181 : Nat) ({ cls := "DiveChairs$State", name := "worthOf", desc := "(LDiveChairs$Dive;)I" } : Jvm.MethodName)) ∈ zGW := zt3 188 (by decide +kernel) rfl
theorem zw_589 : (Jvm.Cond.methodLink "DiveChairs$State" (187 : Nat) ({ cls := "DiveChairs$State", name := "countOf", desc := "(LDiveChairs$Dive;)I" } : Jvm.MethodName)) ∈ zGW := zt3 189 (by decide +kernel) rfl
theorem zw_590 : (Jvm.Cond.methodLink "DiveChairs" (190 : Nat) ({ cls := "DiveChairs", name := "holds", desc := "(II)Z" } : Jvm.MethodName)) ∈ zGW := zt3 190 (by decide +kernel) rfl
theorem zw_591 : (Jvm.Cond.static ({ cls := "DiveChairs", name := "holds", desc := "(II)Z" } : Jvm.MethodName)) ∈ zGW := zt3 191 (by decide +kernel) rfl
theorem zw_592 : (Jvm.Cond.code ({ cls := "DiveChairs", name := "holds", desc := "(II)Z" } : Jvm.MethodName) prog_1_method_41_code (2 : Nat) (Option.some Jvm.ClassFile.FieldType.boolean)) ∈ zGW := zt3 192 (by decide +kernel) rfl
theorem zw_593 : (Jvm.Cond.methodLink "DiveChairsLaw" (81 : Nat) ({ cls := "DiveChairs", name := "place", desc := "(II)I" } : Jvm.MethodName)) ∈ zGW := zt3 193 (by decide +kernel) rfl
theorem zw_594 : (Jvm.Cond.instanceMethod ({ cls := "DiveChairs", name := "place", desc := "(II)I" } : Jvm.MethodName)) ∈ zGW := zt3 194 (by decide +kernel) rfl
theorem zw_595 : (Jvm.Cond.selects "DiveChairs" ({ cls := "DiveChairs", name := "place", desc := "(II)I" } : Jvm.MethodName) ({ cls := "DiveChairs", name := "place", desc := "(II)I" } : Jvm.MethodName)) ∈ zGW := zt3 195 (by decide +kernel) rfl
theorem zw_596 : (Jvm.Cond.code ({ cls := "DiveChairs", name := "place", desc := "(II)I" } : Jvm.MethodName) prog_1_method_16_code (3 : Nat) (Option.some Jvm.ClassFile.FieldType.int)) ∈ zGW := zt3 196 (by decide +kernel) rfl
theorem zw_597 : (Jvm.Cond.methodLink "DiveChairs" (197 : Nat) ({ cls := "DiveChairs$State", name := "placeOf", desc := "(IIZ)I" } : Jvm.MethodName)) ∈ zGW := zt3 197 (by decide +kernel) rfl
theorem zw_598 : (Jvm.Cond.instanceMethod ({ cls := "DiveChairs$State", name := "placeOf", desc := "(IIZ)I" } : Jvm.MethodName)) ∈ zGW := zt3 198 (by decide +kernel) rfl
theorem zw_599 : (Jvm.Cond.selects "DiveChairs$State" ({ cls := "DiveChairs$State", name := "placeOf", desc := "(IIZ)I" } : Jvm.MethodName) ({ cls := "DiveChairs$State", name := "placeOf", desc := "(IIZ)I" } : Jvm.MethodName)) ∈ zGW := zt3 199 (by decide +kernel) rfl
theorem zw_600 : (Jvm.Cond.code ({ cls := "DiveChairs$State", name := "placeOf", desc := "(IIZ)I" } : Jvm.MethodName) prog_11_method_23_code (7 : Nat) (Option.some Jvm.ClassFile.FieldType.int)) ∈ zGW := zt3 200 (by decide +kernel) rfl
theorem zw_601 : (Jvm.Cond.methodLink "DiveChairs$State" (190 : Nat) ({ cls := "DiveChairs$State", name := "addUp", desc := "(IZ)I" } : Jvm.MethodName)) ∈ zGW := zt3 201 (by decide +kernel) rfl
theorem zx_602 : (Jvm.Cond.methodLinkNest "DiveChairs$State" (194 : Nat) ({ cls := "DiveChairs", name := "holds", desc := "(II)Z" } : Jvm.MethodName) "DiveChairs") ∈ lw_tbl := zn3 202 (by decide +kernel)
theorem zw_603 : (Jvm.Cond.methodLink "DiveChairsLaw" (85 : Nat) ({ cls := "DiveChairs", name := "won", desc := "(I)I" } : Jvm.MethodName)) ∈ zGW := zt3 203 (by decide +kernel) rfl
theorem zw_604 : (Jvm.Cond.instanceMethod ({ cls := "DiveChairs", name := "won", desc := "(I)I" } : Jvm.MethodName)) ∈ zGW := zt3 204 (by decide +kernel) rfl
theorem zw_605 : (Jvm.Cond.selects "DiveChairs" ({ cls := "DiveChairs", name := "won", desc := "(I)I" } : Jvm.MethodName) ({ cls := "DiveChairs", name := "won", desc := "(I)I" } : Jvm.MethodName)) ∈ zGW := zt3 205 (by decide +kernel) rfl
theorem zw_606 : (Jvm.Cond.code ({ cls := "DiveChairs", name := "won", desc := "(I)I" } : Jvm.MethodName) prog_1_method_17_code (2 : Nat) (Option.some Jvm.ClassFile.FieldType.int)) ∈ zGW := zt3 206 (by decide +kernel) rfl
theorem zw_607 : (Jvm.Cond.methodLink "DiveChairs" (201 : Nat) ({ cls := "DiveChairs$State", name := "winner", desc := "(I)I" } : Jvm.MethodName)) ∈ zGW := zt3 207 (by decide +kernel) rfl
theorem zw_608 : (Jvm.Cond.instanceMethod ({ cls := "DiveChairs$State", name := "winner", desc := "(I)I" } : Jvm.MethodName)) ∈ zGW := zt3 208 (by decide +kernel) rfl
theorem zw_609 : (Jvm.Cond.selects "DiveChairs$State" ({ cls := "DiveChairs$State", name := "winner", desc := "(I)I" } : Jvm.MethodName) ({ cls := "DiveChairs$State", name := "winner", desc := "(I)I" } : Jvm.MethodName)) ∈ zGW := zt3 209 (by decide +kernel) rfl
theorem zw_610 : (Jvm.Cond.code ({ cls := "DiveChairs$State", name := "winner", desc := "(I)I" } : Jvm.MethodName) prog_11_method_24_code (5 : Nat) (Option.some Jvm.ClassFile.FieldType.int)) ∈ zGW := zt3 210 (by decide +kernel) rfl
theorem zw_611 : (Jvm.Cond.methodLink "DiveChairsLaw" (89 : Nat) ({ cls := "DiveChairs", name := "wonIf", desc := "(III)I" } : Jvm.MethodName)) ∈ zGW := zt3 211 (by decide +kernel) rfl
theorem zw_612 : (Jvm.Cond.instanceMethod ({ cls := "DiveChairs", name := "wonIf", desc := "(III)I" } : Jvm.MethodName)) ∈ zGW := zt3 212 (by decide +kernel) rfl
theorem zw_613 : (Jvm.Cond.selects "DiveChairs" ({ cls := "DiveChairs", name := "wonIf", desc := "(III)I" } : Jvm.MethodName) ({ cls := "DiveChairs", name := "wonIf", desc := "(III)I" } : Jvm.MethodName)) ∈ zGW := zt3 213 (by decide +kernel) rfl
theorem zw_614 : (Jvm.Cond.code ({ cls := "DiveChairs", name := "wonIf", desc := "(III)I" } : Jvm.MethodName) prog_1_method_18_code (4 : Nat) (Option.some Jvm.ClassFile.FieldType.int)) ∈ zGW := zt3 214 (by decide +kernel) rfl
theorem zw_615 : (Jvm.Cond.methodLink "DiveChairs" (204 : Nat) ({ cls := "DiveChairs", name := "isSupposable", desc := "(II)Z" } : Jvm.MethodName)) ∈ zGW := zt3 215 (by decide +kernel) rfl
theorem zw_616 : (Jvm.Cond.static ({ cls := "DiveChairs", name := "isSupposable", desc := "(II)Z" } : Jvm.MethodName)) ∈ zGW := zt3 216 (by decide +kernel) rfl
theorem zw_617 : (Jvm.Cond.code ({ cls := "DiveChairs", name := "isSupposable", desc := "(II)Z" } : Jvm.MethodName) prog_1_method_44_code (2 : Nat) (Option.some Jvm.ClassFile.FieldType.boolean)) ∈ zGW := zt3 217 (by decide +kernel) rfl
theorem zw_618 : (Jvm.Cond.methodLink "DiveChairs" (207 : Nat) ({ cls := "DiveChairs$State", name := "copyFrom", desc := "(LDiveChairs$State;)V" } : Jvm.MethodName)) ∈ zGW := zt3 218 (by decide +kernel) rfl
theorem zw_619 : (Jvm.Cond.instanceMethod ({ cls := "DiveChairs$State", name := "copyFrom", desc := "(LDiveChairs$State;)V" } : Jvm.MethodName)) ∈ zGW := zt3 219 (by decide +kernel) rfl
theorem zw_620 : (Jvm.Cond.selects "DiveChairs$State" ({ cls := "DiveChairs$State", name := "copyFrom", desc := "(LDiveChairs$State;)V" } : Jvm.MethodName) ({ cls := "DiveChairs$State", name := "copyFrom", desc := "(LDiveChairs$State;)V" } : Jvm.MethodName)) ∈ zGW := zt3 220 (by decide +kernel) rfl
theorem zw_621 : (Jvm.Cond.code ({ cls := "DiveChairs$State", name := "copyFrom", desc := "(LDiveChairs$State;)V" } : Jvm.MethodName) prog_11_method_2_code (3 : Nat) (Option.none : Option Jvm.ClassFile.FieldType)) ∈ zGW := zt3 221 (by decide +kernel) rfl
theorem zw_622 : (Jvm.Cond.methodLink "DiveChairs$State" (55 : Nat) ({ cls := "java/lang/System", name := "arraycopy", desc := "(Ljava/lang/Object;ILjava/lang/Object;II)V" } : Jvm.MethodName)) ∈ zGW := zt3 222 (by decide +kernel) rfl
theorem zw_623 : (Jvm.Cond.methodLink "DiveChairs$State" (61 : Nat) ({ cls := "DiveChairs$Rule", name := "copyFrom", desc := "(LDiveChairs$Rule;)V" } : Jvm.MethodName)) ∈ zGW := zt3 223 (by decide +kernel) rfl
theorem zw_624 : (Jvm.Cond.methodLink "DiveChairs$State" (75 : Nat) ({ cls := "DiveChairs$Dive", name := "copyFrom", desc := "(LDiveChairs$Dive;)V" } : Jvm.MethodName)) ∈ zGW := zt3 224 (by decide +kernel) rfl
theorem zw_625 : (Jvm.Cond.instanceMethod ({ cls := "DiveChairs$Dive", name := "copyFrom", desc := "(LDiveChairs$Dive;)V" } : Jvm.MethodName)) ∈ zGW := zt3 225 (by decide +kernel) rfl
theorem zw_626 : (Jvm.Cond.selects "DiveChairs$Dive" ({ cls := "DiveChairs$Dive", name := "copyFrom", desc := "(LDiveChairs$Dive;)V" } : Jvm.MethodName) ({ cls := "DiveChairs$Dive", name := "copyFrom", desc := "(LDiveChairs$Dive;)V" } : Jvm.MethodName)) ∈ zGW := zt3 226 (by decide +kernel) rfl
theorem zw_627 : (Jvm.Cond.code ({ cls := "DiveChairs$Dive", name := "copyFrom", desc := "(LDiveChairs$Dive;)V" } : Jvm.MethodName) prog_3_method_3_code (2 : Nat) (Option.none : Option Jvm.ClassFile.FieldType)) ∈ zGW := zt3 227 (by decide +kernel) rfl
theorem zw_628 : (Jvm.Cond.methodLink "DiveChairs$Dive" (38 : Nat) ({ cls := "java/lang/System", name := "arraycopy", desc := "(Ljava/lang/Object;ILjava/lang/Object;II)V" } : Jvm.MethodName)) ∈ zGW := zt3 228 (by decide +kernel) rfl
theorem zw_629 : (Jvm.Cond.methodLink "DiveChairs" (210 : Nat) ({ cls := "DiveChairs$State", name := "takeChairOff", desc := "(I)V" } : Jvm.MethodName)) ∈ zGW := zt3 229 (by decide +kernel) rfl
theorem zw_630 : (Jvm.Cond.instanceMethod ({ cls := "DiveChairs$State", name := "takeChairOff", desc := "(I)V" } : Jvm.MethodName)) ∈ zGW := zt3 230 (by decide +kernel) rfl
theorem zw_631 : (Jvm.Cond.selects "DiveChairs$State" ({ cls := "DiveChairs$State", name := "takeChairOff", desc := "(I)V" } : Jvm.MethodName) ({ cls := "DiveChairs$State", name := "takeChairOff", desc := "(I)V" } : Jvm.MethodName)) ∈ zGW := zt3 231 (by decide +kernel) rfl
theorem zw_632 : (Jvm.Cond.code ({ cls := "DiveChairs$State", name := "takeChairOff", desc := "(I)V" } : Jvm.MethodName) prog_11_method_25_code (3 : Nat) (Option.none : Option Jvm.ClassFile.FieldType)) ∈ zGW := zt3 232 (by decide +kernel) rfl
theorem zw_633 : (Jvm.Cond.methodLink "DiveChairs" (220 : Nat) ({ cls := "DiveChairs$State", name := "takeLeansOff", desc := "()V" } : Jvm.MethodName)) ∈ zGW := zt3 233 (by decide +kernel) rfl
theorem zw_634 : (Jvm.Cond.instanceMethod ({ cls := "DiveChairs$State", name := "takeLeansOff", desc := "()V" } : Jvm.MethodName)) ∈ zGW := zt3 234 (by decide +kernel) rfl
theorem zw_635 : (Jvm.Cond.selects "DiveChairs$State" ({ cls := "DiveChairs$State", name := "takeLeansOff", desc := "()V" } : Jvm.MethodName) ({ cls := "DiveChairs$State", name := "takeLeansOff", desc := "()V" } : Jvm.MethodName)) ∈ zGW := zt3 235 (by decide +kernel) rfl
theorem zw_636 : (Jvm.Cond.code ({ cls := "DiveChairs$State", name := "takeLeansOff", desc := "()V" } : Jvm.MethodName) prog_11_method_26_code (5 : Nat) (Option.none : Option Jvm.ClassFile.FieldType)) ∈ zGW := zt3 236 (by decide +kernel) rfl
theorem zw_637 : (Jvm.Cond.methodLink "DiveChairs$State" (200 : Nat) ({ cls := "DiveChairs$Dive", name := "hasMark", desc := "(I)Z" } : Jvm.MethodName)) ∈ zGW := zt3 237 (by decide +kernel) rfl
theorem zw_638 : (Jvm.Cond.methodLink "DiveChairs$State" (207 : Nat) ({ cls := "DiveChairs$Judge", name := "leanTo", desc := "(I)I" } : Jvm.MethodName)) ∈ zGW := zt3 238 (by decide +kernel) rfl
theorem zw_639 : (Jvm.Cond.methodLink "DiveChairsLaw" (93 : Nat) ({ cls := "DiveChairs", name := "moved", desc := "(IIII)I" } : Jvm.MethodName)) ∈ zGW := zt3 239 (by decide +kernel) rfl
theorem zw_640 : (Jvm.Cond.instanceMethod ({ cls := "DiveChairs", name := "moved", desc := "(IIII)I" } : Jvm.MethodName)) ∈ zGW := zt4 0 (by decide +kernel) rfl
theorem zw_641 : (Jvm.Cond.selects "DiveChairs" ({ cls := "DiveChairs", name := "moved", desc := "(IIII)I" } : Jvm.MethodName) ({ cls := "DiveChairs", name := "moved", desc := "(IIII)I" } : Jvm.MethodName)) ∈ zGW := zt4 1 (by decide +kernel) rfl
theorem zw_642 : (Jvm.Cond.code ({ cls := "DiveChairs", name := "moved", desc := "(IIII)I" } : Jvm.MethodName) prog_1_method_19_code (9 : Nat) (Option.some Jvm.ClassFile.FieldType.int)) ∈ zGW := zt4 2 (by decide +kernel) rfl
theorem zw_643 : (Jvm.Cond.methodLink "DiveChairs" (223 : Nat) ({ cls := "java/lang/Integer", name := "bitCount", desc := "(I)I" } : Jvm.MethodName)) ∈ zGW := zt4 3 (by decide +kernel) rfl
theorem zw_644 : (Jvm.Cond.static ({ cls := "java/lang/Integer", name := "bitCount", desc := "(I)I" } : Jvm.MethodName)) ∈ zGW := zt4 4 (by decide +kernel) rfl
theorem zw_645 : (Jvm.Cond.code ({ cls := "java/lang/Integer", name := "bitCount", desc := "(I)I" } : Jvm.MethodName) prog_18_method_49_code (1 : Nat) (Option.some Jvm.ClassFile.FieldType.int)) ∈ zGW := zt4 5 (by decide +kernel) rfl
theorem zw_646 : (Jvm.Cond.constant "java/lang/Integer" (265 : Nat) (1431655765 : Int32)) ∈ zGW := zt4 6 (by decide +kernel) rfl
theorem zw_647 : (Jvm.Cond.constant "java/lang/Integer" (266 : Nat) (858993459 : Int32)) ∈ zGW := zt4 7 (by decide +kernel) rfl
theorem zw_648 : (Jvm.Cond.constant "java/lang/Integer" (267 : Nat) (252645135 : Int32)) ∈ zGW := zt4 8 (by decide +kernel) rfl
theorem zw_649 : (Jvm.Cond.methodLink "DiveChairs" (228 : Nat) ({ cls := "DiveChairs", name := "placeMovedBy", desc := "(III)I" } : Jvm.MethodName)) ∈ zGW := zt4 9 (by decide +kernel) rfl
theorem zw_650 : (Jvm.Cond.instanceMethod ({ cls := "DiveChairs", name := "placeMovedBy", desc := "(III)I" } : Jvm.MethodName)) ∈ zGW := zt4 11 (by decide +kernel) rfl
theorem zw_651 : (Jvm.Cond.code ({ cls := "DiveChairs", name := "placeMovedBy", desc := "(III)I" } : Jvm.MethodName) prog_1_method_47_code (4 : Nat) (Option.some Jvm.ClassFile.FieldType.int)) ∈ zGW := zt4 12 (by decide +kernel) rfl
theorem zw_652 : (Jvm.Cond.methodLink "DiveChairs" (367 : Nat) ({ cls := "DiveChairs$State", name := "moveUp", desc := "(III)V" } : Jvm.MethodName)) ∈ zGW := zt4 13 (by decide +kernel) rfl
theorem zw_653 : (Jvm.Cond.instanceMethod ({ cls := "DiveChairs$State", name := "moveUp", desc := "(III)V" } : Jvm.MethodName)) ∈ zGW := zt4 14 (by decide +kernel) rfl
theorem zw_654 : (Jvm.Cond.selects "DiveChairs$State" ({ cls := "DiveChairs$State", name := "moveUp", desc := "(III)V" } : Jvm.MethodName) ({ cls := "DiveChairs$State", name := "moveUp", desc := "(III)V" } : Jvm.MethodName)) ∈ zGW := zt4 15 (by decide +kernel) rfl
theorem zw_655 : (Jvm.Cond.code ({ cls := "DiveChairs$State", name := "moveUp", desc := "(III)V" } : Jvm.MethodName) prog_11_method_27_code (7 : Nat) (Option.none : Option Jvm.ClassFile.FieldType)) ∈ zGW := zt4 16 (by decide +kernel) rfl
theorem zw_656 : (Jvm.Cond.methodLink "DiveChairsLaw" (97 : Nat) ({ cls := "DiveChairs", name := "lean", desc := "(III)I" } : Jvm.MethodName)) ∈ zGW := zt4 17 (by decide +kernel) rfl
theorem zw_657 : (Jvm.Cond.instanceMethod ({ cls := "DiveChairs", name := "lean", desc := "(III)I" } : Jvm.MethodName)) ∈ zGW := zt4 18 (by decide +kernel) rfl
theorem zw_658 : (Jvm.Cond.selects "DiveChairs" ({ cls := "DiveChairs", name := "lean", desc := "(III)I" } : Jvm.MethodName) ({ cls := "DiveChairs", name := "lean", desc := "(III)I" } : Jvm.MethodName)) ∈ zGW := zt4 19 (by decide +kernel) rfl
theorem zw_659 : (Jvm.Cond.code ({ cls := "DiveChairs", name := "lean", desc := "(III)I" } : Jvm.MethodName) prog_1_method_20_code (4 : Nat) (Option.some Jvm.ClassFile.FieldType.int)) ∈ zGW := zt4 20 (by decide +kernel) rfl
theorem zw_660 : (Jvm.Cond.methodLink "DiveChairs" (232 : Nat) ({ cls := "DiveChairs$State", name := "tallyUp", desc := "(LDiveChairs$Tally;II)V" } : Jvm.MethodName)) ∈ zGW := zt4 21 (by decide +kernel) rfl
theorem zw_661 : (Jvm.Cond.instanceMethod ({ cls := "DiveChairs$State", name := "tallyUp", desc := "(LDiveChairs$Tally;II)V" } : Jvm.MethodName)) ∈ zGW := zt4 22 (by decide +kernel) rfl
theorem zw_662 : (Jvm.Cond.selects "DiveChairs$State" ({ cls := "DiveChairs$State", name := "tallyUp", desc := "(LDiveChairs$Tally;II)V" } : Jvm.MethodName) ({ cls := "DiveChairs$State", name := "tallyUp", desc := "(LDiveChairs$Tally;II)V" } : Jvm.MethodName)) ∈ zGW := zt4 23 (by decide +kernel) rfl
theorem zw_663 : (Jvm.Cond.code ({ cls := "DiveChairs$State", name := "tallyUp", desc := "(LDiveChairs$Tally;II)V" } : Jvm.MethodName) prog_11_method_28_code (7 : Nat) (Option.none : Option Jvm.ClassFile.FieldType)) ∈ zGW := zt4 24 (by decide +kernel) rfl
theorem zw_664 : (Jvm.Cond.methodLink "DiveChairs$State" (210 : Nat) ({ cls := "DiveChairs$Tally", name := "start", desc := "()V" } : Jvm.MethodName)) ∈ zGW := zt4 25 (by decide +kernel) rfl
theorem zw_665 : (Jvm.Cond.instanceMethod ({ cls := "DiveChairs$Tally", name := "start", desc := "()V" } : Jvm.MethodName)) ∈ zGW := zt4 26 (by decide +kernel) rfl
theorem zw_666 : (Jvm.Cond.selects "DiveChairs$Tally" ({ cls := "DiveChairs$Tally", name := "start", desc := "()V" } : Jvm.MethodName) ({ cls := "DiveChairs$Tally", name := "start", desc := "()V" } : Jvm.MethodName)) ∈ zGW := zt4 27 (by decide +kernel) rfl
theorem zw_667 : (Jvm.Cond.code ({ cls := "DiveChairs$Tally", name := "start", desc := "()V" } : Jvm.MethodName) prog_12_method_2_code (1 : Nat) (Option.none : Option Jvm.ClassFile.FieldType)) ∈ zGW := zt4 28 (by decide +kernel) rfl
theorem zw_668 : (Jvm.Cond.methodLink "DiveChairs$State" (215 : Nat) ({ cls := "DiveChairs$Dive", name := "markBy", desc := "(I)I" } : Jvm.MethodName)) ∈ zGW := zt4 29 (by decide +kernel) rfl
theorem zw_669 : (Jvm.Cond.instanceMethod ({ cls := "DiveChairs$Dive", name := "markBy", desc := "(I)I" } : Jvm.MethodName)) ∈ zGW := zt4 30 (by decide +kernel) rfl
theorem zw_670 : (Jvm.Cond.selects "DiveChairs$Dive" ({ cls := "DiveChairs$Dive", name := "markBy", desc := "(I)I" } : Jvm.MethodName) ({ cls := "DiveChairs$Dive", name := "markBy", desc := "(I)I" } : Jvm.MethodName)) ∈ zGW := zt4 31 (by decide +kernel) rfl
theorem zw_671 : (Jvm.Cond.code ({ cls := "DiveChairs$Dive", name := "markBy", desc := "(I)I" } : Jvm.MethodName) prog_3_method_7_code (3 : Nat) (Option.some Jvm.ClassFile.FieldType.int)) ∈ zGW := zt4 32 (by decide +kernel) rfl
theorem zw_672 : (Jvm.Cond.methodLink "DiveChairs$State" (218 : Nat) ({ cls := "DiveChairs$Tally", name := "take", desc := "(I)V" } : Jvm.MethodName)) ∈ zGW := zt4 33 (by decide +kernel) rfl
theorem zw_673 : (Jvm.Cond.instanceMethod ({ cls := "DiveChairs$Tally", name := "take", desc := "(I)V" } : Jvm.MethodName)) ∈ zGW := zt4 34 (by decide +kernel) rfl
theorem zw_674 : (Jvm.Cond.selects "DiveChairs$Tally" ({ cls := "DiveChairs$Tally", name := "take", desc := "(I)V" } : Jvm.MethodName) ({ cls := "DiveChairs$Tally", name := "take", desc := "(I)V" } : Jvm.MethodName)) ∈ zGW := zt4 35 (by decide +kernel) rfl
theorem zw_675 : (Jvm.Cond.code ({ cls := "DiveChairs$Tally", name := "take", desc := "(I)V" } : Jvm.MethodName) prog_12_method_3_code (2 : Nat) (Option.none : Option Jvm.ClassFile.FieldType)) ∈ zGW := zt4 36 (by decide +kernel) rfl
theorem zw_676 : (Jvm.Cond.methodLink "DiveChairs$Tally" (25 : Nat) ({ cls := "java/lang/Math", name := "min", desc := "(II)I" } : Jvm.MethodName)) ∈ zGW := zt4 37 (by decide +kernel) rfl
theorem zw_677 : (Jvm.Cond.methodLink "DiveChairs$Tally" (31 : Nat) ({ cls := "java/lang/Math", name := "max", desc := "(II)I" } : Jvm.MethodName)) ∈ zGW := zt4 38 (by decide +kernel) rfl
theorem zw_678 : (Jvm.Cond.methodLink "DiveChairs$Tally" (34 : Nat) ({ cls := "java/lang/Math", name := "abs", desc := "(I)I" } : Jvm.MethodName)) ∈ zGW := zt4 39 (by decide +kernel) rfl
theorem zw_679 : (Jvm.Cond.static ({ cls := "java/lang/Math", name := "abs", desc := "(I)I" } : Jvm.MethodName)) ∈ zGW := zt4 40 (by decide +kernel) rfl
theorem zw_680 : (Jvm.Cond.code ({ cls := "java/lang/Math", name := "abs", desc := "(I)I" } : Jvm.MethodName) prog_19_method_59_code (1 : Nat) (Option.some Jvm.ClassFile.FieldType.int)) ∈ zGW := zt4 41 (by decide +kernel) rfl
theorem zw_681 : (Jvm.Cond.constant "DiveChairs" (242 : Nat) (-1000000004 : Int32)) ∈ zGW := zt4 42 (by decide +kernel) rfl
theorem zw_682 : (Jvm.Cond.methodLink "DiveChairsLaw" (101 : Nat) ({ cls := "DiveChairs", name := "pairs", desc := "()I" } : Jvm.MethodName)) ∈ zGW := zt4 43 (by decide +kernel) rfl
theorem zw_683 : (Jvm.Cond.instanceMethod ({ cls := "DiveChairs", name := "pairs", desc := "()I" } : Jvm.MethodName)) ∈ zGW := zt4 44 (by decide +kernel) rfl
theorem zw_684 : (Jvm.Cond.selects "DiveChairs" ({ cls := "DiveChairs", name := "pairs", desc := "()I" } : Jvm.MethodName) ({ cls := "DiveChairs", name := "pairs", desc := "()I" } : Jvm.MethodName)) ∈ zGW := zt4 45 (by decide +kernel) rfl
theorem zw_685 : (Jvm.Cond.code ({ cls := "DiveChairs", name := "pairs", desc := "()I" } : Jvm.MethodName) prog_1_method_21_code (1 : Nat) (Option.some Jvm.ClassFile.FieldType.int)) ∈ zGW := zt4 46 (by decide +kernel) rfl
theorem zw_686 : (Jvm.Cond.methodLink "DiveChairs" (249 : Nat) ({ cls := "DiveChairs$LandDealing", name := "takeFrom", desc := "(LDiveChairs$State;)V" } : Jvm.MethodName)) ∈ zGW := zt4 47 (by decide +kernel) rfl
theorem zw_687 : (Jvm.Cond.instanceMethod ({ cls := "DiveChairs$LandDealing", name := "takeFrom", desc := "(LDiveChairs$State;)V" } : Jvm.MethodName)) ∈ zGW := zt4 48 (by decide +kernel) rfl
theorem zw_688 : (Jvm.Cond.selects "DiveChairs$LandDealing" ({ cls := "DiveChairs$LandDealing", name := "takeFrom", desc := "(LDiveChairs$State;)V" } : Jvm.MethodName) ({ cls := "DiveChairs$LandDealing", name := "takeFrom", desc := "(LDiveChairs$State;)V" } : Jvm.MethodName)) ∈ zGW := zt4 49 (by decide +kernel) rfl
theorem zw_689 : (Jvm.Cond.code ({ cls := "DiveChairs$LandDealing", name := "takeFrom", desc := "(LDiveChairs$State;)V" } : Jvm.MethodName) prog_5_method_2_code (4 : Nat) (Option.none : Option Jvm.ClassFile.FieldType)) ∈ zGW := zt4 50 (by decide +kernel) rfl
theorem zw_690 : (Jvm.Cond.methodLink "DiveChairs$LandDealing" (30 : Nat) ({ cls := "DiveChairs$State", name := "judgeAt", desc := "(I)LDiveChairs$Judge;" } : Jvm.MethodName)) ∈ zGW := zt4 51 (by decide +kernel) rfl
theorem zw_691 : (Jvm.Cond.methodLink "DiveChairs$LandDealing" (39 : Nat) ({ cls := "DiveChairs$State", name := "hallsOf", desc := "(I)I" } : Jvm.MethodName)) ∈ zGW := zt4 52 (by decide +kernel) rfl
theorem zw_692 : (Jvm.Cond.instanceMethod ({ cls := "DiveChairs$State", name := "hallsOf", desc := "(I)I" } : Jvm.MethodName)) ∈ zGW := zt4 53 (by decide +kernel) rfl
theorem zw_693 : (Jvm.Cond.selects "DiveChairs$State" ({ cls := "DiveChairs$State", name := "hallsOf", desc := "(I)I" } : Jvm.MethodName) ({ cls := "DiveChairs$State", name := "hallsOf", desc := "(I)I" } : Jvm.MethodName)) ∈ zGW := zt4 54 (by decide +kernel) rfl
theorem zw_694 : (Jvm.Cond.code ({ cls := "DiveChairs$State", name := "hallsOf", desc := "(I)I" } : Jvm.MethodName) prog_11_method_12_code (4 : Nat) (Option.some Jvm.ClassFile.FieldType.int)) ∈ zGW := zt4 55 (by decide +kernel) rfl
theorem zw_695 : (Jvm.Cond.methodLink "DiveChairs$LandDealing" (46 : Nat) ({ cls := "DiveChairs$State", name := "diveAt", desc := "(I)LDiveChairs$Dive;" } : Jvm.MethodName)) ∈ zGW := zt4 56 (by decide +kernel) rfl
theorem zw_696 : (Jvm.Cond.methodLink "DiveChairs$LandDealing" (54 : Nat) ({ cls := "DiveChairs$Panel", name := "gather", desc := "(LDiveChairs$Dive;)V" } : Jvm.MethodName)) ∈ zGW := zt4 57 (by decide +kernel) rfl
theorem zw_697 : (Jvm.Cond.methodLink "DiveChairs$LandDealing" (60 : Nat) ({ cls := "DiveChairs$State", name := "landOf", desc := "(LDiveChairs$Dive;)I" } : Jvm.MethodName)) ∈ zGW := zt4 58 (by decide +kernel) rfl
theorem zw_698 : (Jvm.Cond.methodLink "DiveChairs$LandDealing" (64 : Nat) ({ cls := "DiveChairs$Panel", name := "middle", desc := "()I" } : Jvm.MethodName)) ∈ zGW := zt4 59 (by decide +kernel) rfl
theorem zw_699 : (Jvm.Cond.methodLink "DiveChairs$LandDealing" (68 : Nat) ({ cls := "DiveChairs$LandDealing", name := "addLeans", desc := "(LDiveChairs$Dive;II)V" } : Jvm.MethodName)) ∈ zGW := zt4 60 (by decide +kernel) rfl
theorem zw_700 : (Jvm.Cond.instanceMethod ({ cls := "DiveChairs$LandDealing", name := "addLeans", desc := "(LDiveChairs$Dive;II)V" } : Jvm.MethodName)) ∈ zGW := zt4 62 (by decide +kernel) rfl
theorem zw_701 : (Jvm.Cond.code ({ cls := "DiveChairs$LandDealing", name := "addLeans", desc := "(LDiveChairs$Dive;II)V" } : Jvm.MethodName) prog_5_method_3_code (6 : Nat) (Option.none : Option Jvm.ClassFile.FieldType)) ∈ zGW := zt4 63 (by decide +kernel) rfl
theorem zx_702 : (Jvm.Cond.methodLinkNest "DiveChairs$LandDealing" (77 : Nat) ({ cls := "DiveChairs", name := "within", desc := "(II)Z" } : Jvm.MethodName) "DiveChairs") ∈ lw_tbl := zn4 64 (by decide +kernel)
theorem zw_703 : (Jvm.Cond.methodLink "DiveChairs" (252 : Nat) ({ cls := "DiveChairs$LandDealing", name := "asItStands", desc := "()I" } : Jvm.MethodName)) ∈ zGW := zt4 65 (by decide +kernel) rfl
theorem zw_704 : (Jvm.Cond.sameMethod "DiveChairs$LandDealing" "DiveChairs$Dealing" "asItStands" "()I") ∈ zGW := zt4 66 (by decide +kernel) rfl
theorem zx_705 : (Jvm.Cond.declares ({ cls := "DiveChairs$Dealing", name := "asItStands", desc := "()I" } : Jvm.MethodName)) ∈ lw_tbl := zn4 67 (by decide +kernel)
theorem zw_706 : (Jvm.Cond.selects "DiveChairs$LandDealing" ({ cls := "DiveChairs$LandDealing", name := "asItStands", desc := "()I" } : Jvm.MethodName) ({ cls := "DiveChairs$Dealing", name := "asItStands", desc := "()I" } : Jvm.MethodName)) ∈ zGW := zt4 68 (by decide +kernel) rfl
theorem zw_707 : (Jvm.Cond.instanceMethod ({ cls := "DiveChairs$Dealing", name := "asItStands", desc := "()I" } : Jvm.MethodName)) ∈ zGW := zt4 69 (by decide +kernel) rfl
theorem zw_708 : (Jvm.Cond.code ({ cls := "DiveChairs$Dealing", name := "asItStands", desc := "()I" } : Jvm.MethodName) prog_2_method_3_code (4 : Nat) (Option.some Jvm.ClassFile.FieldType.int)) ∈ zGW := zt4 70 (by decide +kernel) rfl
theorem zw_709 : (Jvm.Cond.methodLink "DiveChairs$Dealing" (19 : Nat) ({ cls := "DiveChairs$Dealing", name := "between", desc := "(IIII)I" } : Jvm.MethodName)) ∈ zGW := zt4 71 (by decide +kernel) rfl
theorem zx_710 : (Jvm.Cond.declares ({ cls := "DiveChairs$Dealing", name := "between", desc := "(IIII)I" } : Jvm.MethodName)) ∈ lw_tbl := zn4 72 (by decide +kernel)
theorem zw_711 : (Jvm.Cond.sameMethod "DiveChairs$Dealing" "DiveChairs$Dealing" "between" "(IIII)I") ∈ zGW := zt4 73 (by decide +kernel) rfl
theorem zw_712 : (Jvm.Cond.selects "DiveChairs$LandDealing" ({ cls := "DiveChairs$Dealing", name := "between", desc := "(IIII)I" } : Jvm.MethodName) ({ cls := "DiveChairs$LandDealing", name := "between", desc := "(IIII)I" } : Jvm.MethodName)) ∈ zGW := zt4 74 (by decide +kernel) rfl
theorem zw_713 : (Jvm.Cond.instanceMethod ({ cls := "DiveChairs$LandDealing", name := "between", desc := "(IIII)I" } : Jvm.MethodName)) ∈ zGW := zt4 75 (by decide +kernel) rfl
theorem zw_714 : (Jvm.Cond.code ({ cls := "DiveChairs$LandDealing", name := "between", desc := "(IIII)I" } : Jvm.MethodName) prog_5_method_5_code (9 : Nat) (Option.some Jvm.ClassFile.FieldType.int)) ∈ zGW := zt4 76 (by decide +kernel) rfl
theorem zw_715 : (Jvm.Cond.methodLink "DiveChairs$LandDealing" (84 : Nat) ({ cls := "DiveChairs$LandDealing", name := "leansTo", desc := "(II)Z" } : Jvm.MethodName)) ∈ zGW := zt4 77 (by decide +kernel) rfl
theorem zw_716 : (Jvm.Cond.instanceMethod ({ cls := "DiveChairs$LandDealing", name := "leansTo", desc := "(II)Z" } : Jvm.MethodName)) ∈ zGW := zt4 79 (by decide +kernel) rfl
theorem zw_717 : (Jvm.Cond.code ({ cls := "DiveChairs$LandDealing", name := "leansTo", desc := "(II)Z" } : Jvm.MethodName) prog_5_method_4_code (3 : Nat) (Option.some Jvm.ClassFile.FieldType.boolean)) ∈ zGW := zt4 80 (by decide +kernel) rfl
theorem zw_718 : (Jvm.Cond.selects "DiveChairs$OrderDealing" ({ cls := "DiveChairs$Dealing", name := "between", desc := "(IIII)I" } : Jvm.MethodName) ({ cls := "DiveChairs$OrderDealing", name := "between", desc := "(IIII)I" } : Jvm.MethodName)) ∈ zGW := zt4 81 (by decide +kernel) rfl
theorem zw_719 : (Jvm.Cond.instanceMethod ({ cls := "DiveChairs$OrderDealing", name := "between", desc := "(IIII)I" } : Jvm.MethodName)) ∈ zGW := zt4 82 (by decide +kernel) rfl
theorem zw_720 : (Jvm.Cond.code ({ cls := "DiveChairs$OrderDealing", name := "between", desc := "(IIII)I" } : Jvm.MethodName) prog_6_method_3_code (7 : Nat) (Option.some Jvm.ClassFile.FieldType.int)) ∈ zGW := zt4 83 (by decide +kernel) rfl
theorem zx_721 : (Jvm.Cond.methodLinkNest "DiveChairs$OrderDealing" (33 : Nat) ({ cls := "DiveChairs", name := "within", desc := "(II)Z" } : Jvm.MethodName) "DiveChairs") ∈ lw_tbl := zn4 84 (by decide +kernel)
theorem zw_722 : (Jvm.Cond.methodLink "DiveChairsLaw" (106 : Nat) ({ cls := "DiveChairs", name := "pairOdds", desc := "(I)I" } : Jvm.MethodName)) ∈ zGW := zt4 85 (by decide +kernel) rfl
theorem zw_723 : (Jvm.Cond.instanceMethod ({ cls := "DiveChairs", name := "pairOdds", desc := "(I)I" } : Jvm.MethodName)) ∈ zGW := zt4 86 (by decide +kernel) rfl
theorem zw_724 : (Jvm.Cond.selects "DiveChairs" ({ cls := "DiveChairs", name := "pairOdds", desc := "(I)I" } : Jvm.MethodName) ({ cls := "DiveChairs", name := "pairOdds", desc := "(I)I" } : Jvm.MethodName)) ∈ zGW := zt4 87 (by decide +kernel) rfl
theorem zw_725 : (Jvm.Cond.code ({ cls := "DiveChairs", name := "pairOdds", desc := "(I)I" } : Jvm.MethodName) prog_1_method_22_code (2 : Nat) (Option.some Jvm.ClassFile.FieldType.int)) ∈ zGW := zt4 88 (by decide +kernel) rfl
theorem zw_726 : (Jvm.Cond.methodLink "DiveChairs" (255 : Nat) ({ cls := "DiveChairs$LandDealing", name := "waysAsGood", desc := "()I" } : Jvm.MethodName)) ∈ zGW := zt4 89 (by decide +kernel) rfl
theorem zw_727 : (Jvm.Cond.sameMethod "DiveChairs$LandDealing" "DiveChairs$Dealing" "waysAsGood" "()I") ∈ zGW := zt4 90 (by decide +kernel) rfl
theorem zx_728 : (Jvm.Cond.declares ({ cls := "DiveChairs$Dealing", name := "waysAsGood", desc := "()I" } : Jvm.MethodName)) ∈ lw_tbl := zn4 91 (by decide +kernel)
theorem zw_729 : (Jvm.Cond.selects "DiveChairs$LandDealing" ({ cls := "DiveChairs$LandDealing", name := "waysAsGood", desc := "()I" } : Jvm.MethodName) ({ cls := "DiveChairs$Dealing", name := "waysAsGood", desc := "()I" } : Jvm.MethodName)) ∈ zGW := zt4 92 (by decide +kernel) rfl
theorem zw_730 : (Jvm.Cond.instanceMethod ({ cls := "DiveChairs$Dealing", name := "waysAsGood", desc := "()I" } : Jvm.MethodName)) ∈ zGW := zt4 93 (by decide +kernel) rfl
theorem zw_731 : (Jvm.Cond.code ({ cls := "DiveChairs$Dealing", name := "waysAsGood", desc := "()I" } : Jvm.MethodName) prog_2_method_5_code (1 : Nat) (Option.some Jvm.ClassFile.FieldType.int)) ∈ zGW := zt4 94 (by decide +kernel) rfl
theorem zw_732 : (Jvm.Cond.methodLink "DiveChairs$Dealing" (23 : Nat) ({ cls := "DiveChairs$Dealing", name := "asItStands", desc := "()I" } : Jvm.MethodName)) ∈ zGW := zt4 95 (by decide +kernel) rfl
theorem zw_733 : (Jvm.Cond.methodLink "DiveChairs$Dealing" (30 : Nat) ({ cls := "DiveChairs$Dealing", name := "waysFrom", desc := "(III)I" } : Jvm.MethodName)) ∈ zGW := zt4 96 (by decide +kernel) rfl
theorem zw_734 : (Jvm.Cond.instanceMethod ({ cls := "DiveChairs$Dealing", name := "waysFrom", desc := "(III)I" } : Jvm.MethodName)) ∈ zGW := zt4 98 (by decide +kernel) rfl
theorem zw_735 : (Jvm.Cond.code ({ cls := "DiveChairs$Dealing", name := "waysFrom", desc := "(III)I" } : Jvm.MethodName) prog_2_method_6_code (6 : Nat) (Option.some Jvm.ClassFile.FieldType.int)) ∈ zGW := zt4 99 (by decide +kernel) rfl
theorem zx_736 : (Jvm.Cond.methodLinkNest "DiveChairs$Dealing" (34 : Nat) ({ cls := "DiveChairs", name := "within", desc := "(II)Z" } : Jvm.MethodName) "DiveChairs") ∈ lw_tbl := zn4 100 (by decide +kernel)
theorem zx_737 : (Jvm.Cond.methodLinkNest "DiveChairs$Dealing" (38 : Nat) ({ cls := "DiveChairs", name := "holds", desc := "(II)Z" } : Jvm.MethodName) "DiveChairs") ∈ lw_tbl := zn4 101 (by decide +kernel)
theorem zw_738 : (Jvm.Cond.methodLink "DiveChairs$Dealing" (41 : Nat) ({ cls := "DiveChairs$Dealing", name := "gainAt", desc := "(I)I" } : Jvm.MethodName)) ∈ zGW := zt4 102 (by decide +kernel) rfl
theorem zw_739 : (Jvm.Cond.instanceMethod ({ cls := "DiveChairs$Dealing", name := "gainAt", desc := "(I)I" } : Jvm.MethodName)) ∈ zGW := zt4 104 (by decide +kernel) rfl
theorem zw_740 : (Jvm.Cond.code ({ cls := "DiveChairs$Dealing", name := "gainAt", desc := "(I)I" } : Jvm.MethodName) prog_2_method_7_code (4 : Nat) (Option.some Jvm.ClassFile.FieldType.int)) ∈ zGW := zt4 105 (by decide +kernel) rfl
theorem zw_741 : (Jvm.Cond.methodLink "DiveChairs" (258 : Nat) ({ cls := "DiveChairs$LandDealing", name := "allWays", desc := "()I" } : Jvm.MethodName)) ∈ zGW := zt4 106 (by decide +kernel) rfl
theorem zw_742 : (Jvm.Cond.sameMethod "DiveChairs$LandDealing" "DiveChairs$Dealing" "allWays" "()I") ∈ zGW := zt4 107 (by decide +kernel) rfl
theorem zx_743 : (Jvm.Cond.declares ({ cls := "DiveChairs$Dealing", name := "allWays", desc := "()I" } : Jvm.MethodName)) ∈ lw_tbl := zn4 108 (by decide +kernel)
theorem zw_744 : (Jvm.Cond.selects "DiveChairs$LandDealing" ({ cls := "DiveChairs$LandDealing", name := "allWays", desc := "()I" } : Jvm.MethodName) ({ cls := "DiveChairs$Dealing", name := "allWays", desc := "()I" } : Jvm.MethodName)) ∈ zGW := zt4 109 (by decide +kernel) rfl
theorem zw_745 : (Jvm.Cond.instanceMethod ({ cls := "DiveChairs$Dealing", name := "allWays", desc := "()I" } : Jvm.MethodName)) ∈ zGW := zt4 110 (by decide +kernel) rfl
theorem zw_746 : (Jvm.Cond.code ({ cls := "DiveChairs$Dealing", name := "allWays", desc := "()I" } : Jvm.MethodName) prog_2_method_4_code (3 : Nat) (Option.some Jvm.ClassFile.FieldType.int)) ∈ zGW := zt4 111 (by decide +kernel) rfl
theorem zw_747 : (Jvm.Cond.methodLink "DiveChairsLaw" (110 : Nat) ({ cls := "DiveChairs", name := "order", desc := "(I)I" } : Jvm.MethodName)) ∈ zGW := zt4 112 (by decide +kernel) rfl
theorem zw_748 : (Jvm.Cond.instanceMethod ({ cls := "DiveChairs", name := "order", desc := "(I)I" } : Jvm.MethodName)) ∈ zGW := zt4 113 (by decide +kernel) rfl
theorem zw_749 : (Jvm.Cond.selects "DiveChairs" ({ cls := "DiveChairs", name := "order", desc := "(I)I" } : Jvm.MethodName) ({ cls := "DiveChairs", name := "order", desc := "(I)I" } : Jvm.MethodName)) ∈ zGW := zt4 114 (by decide +kernel) rfl
theorem zw_750 : (Jvm.Cond.code ({ cls := "DiveChairs", name := "order", desc := "(I)I" } : Jvm.MethodName) prog_1_method_23_code (2 : Nat) (Option.some Jvm.ClassFile.FieldType.int)) ∈ zGW := zt4 115 (by decide +kernel) rfl
theorem zw_751 : (Jvm.Cond.methodLink "DiveChairs" (261 : Nat) ({ cls := "DiveChairs$OrderDealing", name := "takeFrom", desc := "(LDiveChairs$State;I)V" } : Jvm.MethodName)) ∈ zGW := zt4 116 (by decide +kernel) rfl
theorem zw_752 : (Jvm.Cond.instanceMethod ({ cls := "DiveChairs$OrderDealing", name := "takeFrom", desc := "(LDiveChairs$State;I)V" } : Jvm.MethodName)) ∈ zGW := zt4 117 (by decide +kernel) rfl
theorem zw_753 : (Jvm.Cond.selects "DiveChairs$OrderDealing" ({ cls := "DiveChairs$OrderDealing", name := "takeFrom", desc := "(LDiveChairs$State;I)V" } : Jvm.MethodName) ({ cls := "DiveChairs$OrderDealing", name := "takeFrom", desc := "(LDiveChairs$State;I)V" } : Jvm.MethodName)) ∈ zGW := zt4 118 (by decide +kernel) rfl
theorem zw_754 : (Jvm.Cond.code ({ cls := "DiveChairs$OrderDealing", name := "takeFrom", desc := "(LDiveChairs$State;I)V" } : Jvm.MethodName) prog_6_method_2_code (5 : Nat) (Option.none : Option Jvm.ClassFile.FieldType)) ∈ zGW := zt4 119 (by decide +kernel) rfl
theorem zw_755 : (Jvm.Cond.methodLink "DiveChairs$OrderDealing" (24 : Nat) ({ cls := "DiveChairs$State", name := "diveAt", desc := "(I)LDiveChairs$Dive;" } : Jvm.MethodName)) ∈ zGW := zt4 120 (by decide +kernel) rfl
theorem zw_756 : (Jvm.Cond.methodLink "DiveChairs$OrderDealing" (37 : Nat) ({ cls := "DiveChairs$State", name := "countOf", desc := "(LDiveChairs$Dive;)I" } : Jvm.MethodName)) ∈ zGW := zt4 121 (by decide +kernel) rfl
theorem zw_757 : (Jvm.Cond.methodLink "DiveChairs" (264 : Nat) ({ cls := "DiveChairs$OrderDealing", name := "asItStands", desc := "()I" } : Jvm.MethodName)) ∈ zGW := zt4 122 (by decide +kernel) rfl
theorem zw_758 : (Jvm.Cond.sameMethod "DiveChairs$OrderDealing" "DiveChairs$Dealing" "asItStands" "()I") ∈ zGW := zt4 123 (by decide +kernel) rfl
theorem zw_759 : (Jvm.Cond.selects "DiveChairs$OrderDealing" ({ cls := "DiveChairs$OrderDealing", name := "asItStands", desc := "()I" } : Jvm.MethodName) ({ cls := "DiveChairs$Dealing", name := "asItStands", desc := "()I" } : Jvm.MethodName)) ∈ zGW := zt4 124 (by decide +kernel) rfl
theorem zw_760 : (Jvm.Cond.methodLink "DiveChairsLaw" (114 : Nat) ({ cls := "DiveChairs", name := "orderOdds", desc := "(II)I" } : Jvm.MethodName)) ∈ zGW := zt4 125 (by decide +kernel) rfl
theorem zw_761 : (Jvm.Cond.instanceMethod ({ cls := "DiveChairs", name := "orderOdds", desc := "(II)I" } : Jvm.MethodName)) ∈ zGW := zt4 126 (by decide +kernel) rfl
theorem zw_762 : (Jvm.Cond.selects "DiveChairs" ({ cls := "DiveChairs", name := "orderOdds", desc := "(II)I" } : Jvm.MethodName) ({ cls := "DiveChairs", name := "orderOdds", desc := "(II)I" } : Jvm.MethodName)) ∈ zGW := zt4 127 (by decide +kernel) rfl
theorem zw_763 : (Jvm.Cond.code ({ cls := "DiveChairs", name := "orderOdds", desc := "(II)I" } : Jvm.MethodName) prog_1_method_24_code (3 : Nat) (Option.some Jvm.ClassFile.FieldType.int)) ∈ zGW := zt4 128 (by decide +kernel) rfl
theorem zw_764 : (Jvm.Cond.methodLink "DiveChairs" (266 : Nat) ({ cls := "DiveChairs$OrderDealing", name := "waysAsGood", desc := "()I" } : Jvm.MethodName)) ∈ zGW := zt4 129 (by decide +kernel) rfl
theorem zw_765 : (Jvm.Cond.sameMethod "DiveChairs$OrderDealing" "DiveChairs$Dealing" "waysAsGood" "()I") ∈ zGW := zt4 130 (by decide +kernel) rfl
theorem zw_766 : (Jvm.Cond.selects "DiveChairs$OrderDealing" ({ cls := "DiveChairs$OrderDealing", name := "waysAsGood", desc := "()I" } : Jvm.MethodName) ({ cls := "DiveChairs$Dealing", name := "waysAsGood", desc := "()I" } : Jvm.MethodName)) ∈ zGW := zt4 131 (by decide +kernel) rfl
theorem zw_767 : (Jvm.Cond.methodLink "DiveChairs" (267 : Nat) ({ cls := "DiveChairs$OrderDealing", name := "allWays", desc := "()I" } : Jvm.MethodName)) ∈ zGW := zt4 132 (by decide +kernel) rfl
theorem zw_768 : (Jvm.Cond.sameMethod "DiveChairs$OrderDealing" "DiveChairs$Dealing" "allWays" "()I") ∈ zGW := zt4 133 (by decide +kernel) rfl
theorem zw_769 : (Jvm.Cond.selects "DiveChairs$OrderDealing" ({ cls := "DiveChairs$OrderDealing", name := "allWays", desc := "()I" } : Jvm.MethodName) ({ cls := "DiveChairs$Dealing", name := "allWays", desc := "()I" } : Jvm.MethodName)) ∈ zGW := zt4 134 (by decide +kernel) rfl
theorem zw_770 : (Jvm.Cond.methodLink "DiveChairsLaw" (118 : Nat) ({ cls := "DiveChairs", name := "creep", desc := "(II)I" } : Jvm.MethodName)) ∈ zGW := zt4 135 (by decide +kernel) rfl
theorem zw_771 : (Jvm.Cond.instanceMethod ({ cls := "DiveChairs", name := "creep", desc := "(II)I" } : Jvm.MethodName)) ∈ zGW := zt4 136 (by decide +kernel) rfl
theorem zw_772 : (Jvm.Cond.selects "DiveChairs" ({ cls := "DiveChairs", name := "creep", desc := "(II)I" } : Jvm.MethodName) ({ cls := "DiveChairs", name := "creep", desc := "(II)I" } : Jvm.MethodName)) ∈ zGW := zt4 137 (by decide +kernel) rfl
theorem zw_773 : (Jvm.Cond.code ({ cls := "DiveChairs", name := "creep", desc := "(II)I" } : Jvm.MethodName) prog_1_method_25_code (8 : Nat) (Option.some Jvm.ClassFile.FieldType.int)) ∈ zGW := zt4 138 (by decide +kernel) rfl
theorem zw_774 : (Jvm.Cond.methodLink "DiveChairs" (268 : Nat) ({ cls := "DiveChairs$State", name := "meanOf", desc := "(II)I" } : Jvm.MethodName)) ∈ zGW := zt4 139 (by decide +kernel) rfl
theorem zw_775 : (Jvm.Cond.instanceMethod ({ cls := "DiveChairs$State", name := "meanOf", desc := "(II)I" } : Jvm.MethodName)) ∈ zGW := zt4 140 (by decide +kernel) rfl
theorem zw_776 : (Jvm.Cond.selects "DiveChairs$State" ({ cls := "DiveChairs$State", name := "meanOf", desc := "(II)I" } : Jvm.MethodName) ({ cls := "DiveChairs$State", name := "meanOf", desc := "(II)I" } : Jvm.MethodName)) ∈ zGW := zt4 141 (by decide +kernel) rfl
theorem zw_777 : (Jvm.Cond.code ({ cls := "DiveChairs$State", name := "meanOf", desc := "(II)I" } : Jvm.MethodName) prog_11_method_29_code (8 : Nat) (Option.some Jvm.ClassFile.FieldType.int)) ∈ zGW := zt4 142 (by decide +kernel) rfl
theorem zw_778 : (Jvm.Cond.methodLink "DiveChairsLaw" (122 : Nat) ({ cls := "DiveChairs", name := "near", desc := "(I)I" } : Jvm.MethodName)) ∈ zGW := zt4 143 (by decide +kernel) rfl
theorem zw_779 : (Jvm.Cond.instanceMethod ({ cls := "DiveChairs", name := "near", desc := "(I)I" } : Jvm.MethodName)) ∈ zGW := zt4 144 (by decide +kernel) rfl
theorem zw_780 : (Jvm.Cond.selects "DiveChairs" ({ cls := "DiveChairs", name := "near", desc := "(I)I" } : Jvm.MethodName) ({ cls := "DiveChairs", name := "near", desc := "(I)I" } : Jvm.MethodName)) ∈ zGW := zt4 145 (by decide +kernel) rfl
theorem zw_781 : (Jvm.Cond.code ({ cls := "DiveChairs", name := "near", desc := "(I)I" } : Jvm.MethodName) prog_1_method_26_code (2 : Nat) (Option.some Jvm.ClassFile.FieldType.int)) ∈ zGW := zt4 146 (by decide +kernel) rfl
theorem zw_782 : (Jvm.Cond.methodLink "DiveChairsLaw" (126 : Nat) ({ cls := "DiveChairs", name := "nearest", desc := "()I" } : Jvm.MethodName)) ∈ zGW := zt4 147 (by decide +kernel) rfl
theorem zw_783 : (Jvm.Cond.instanceMethod ({ cls := "DiveChairs", name := "nearest", desc := "()I" } : Jvm.MethodName)) ∈ zGW := zt4 148 (by decide +kernel) rfl
theorem zw_784 : (Jvm.Cond.selects "DiveChairs" ({ cls := "DiveChairs", name := "nearest", desc := "()I" } : Jvm.MethodName) ({ cls := "DiveChairs", name := "nearest", desc := "()I" } : Jvm.MethodName)) ∈ zGW := zt4 149 (by decide +kernel) rfl
theorem zw_785 : (Jvm.Cond.code ({ cls := "DiveChairs", name := "nearest", desc := "()I" } : Jvm.MethodName) prog_1_method_27_code (6 : Nat) (Option.some Jvm.ClassFile.FieldType.int)) ∈ zGW := zt4 150 (by decide +kernel) rfl
theorem zw_786 : (Jvm.Cond.methodLink "DiveChairsLaw" (130 : Nat) ({ cls := "DiveChairs", name := "seeing", desc := "(III)I" } : Jvm.MethodName)) ∈ zGW := zt4 151 (by decide +kernel) rfl
theorem zw_787 : (Jvm.Cond.instanceMethod ({ cls := "DiveChairs", name := "seeing", desc := "(III)I" } : Jvm.MethodName)) ∈ zGW := zt4 152 (by decide +kernel) rfl
theorem zw_788 : (Jvm.Cond.selects "DiveChairs" ({ cls := "DiveChairs", name := "seeing", desc := "(III)I" } : Jvm.MethodName) ({ cls := "DiveChairs", name := "seeing", desc := "(III)I" } : Jvm.MethodName)) ∈ zGW := zt4 153 (by decide +kernel) rfl
theorem zw_789 : (Jvm.Cond.code ({ cls := "DiveChairs", name := "seeing", desc := "(III)I" } : Jvm.MethodName) prog_1_method_28_code (8 : Nat) (Option.some Jvm.ClassFile.FieldType.int)) ∈ zGW := zt4 154 (by decide +kernel) rfl
theorem zw_790 : (Jvm.Cond.methodLink "DiveChairs" (274 : Nat) ({ cls := "DiveChairs", name := "partsSeenFrom", desc := "(II)I" } : Jvm.MethodName)) ∈ zGW := zt4 155 (by decide +kernel) rfl
theorem zw_791 : (Jvm.Cond.static ({ cls := "DiveChairs", name := "partsSeenFrom", desc := "(II)I" } : Jvm.MethodName)) ∈ zGW := zt4 156 (by decide +kernel) rfl
theorem zw_792 : (Jvm.Cond.code ({ cls := "DiveChairs", name := "partsSeenFrom", desc := "(II)I" } : Jvm.MethodName) prog_1_method_43_code (4 : Nat) (Option.some Jvm.ClassFile.FieldType.int)) ∈ zGW := zt4 157 (by decide +kernel) rfl
theorem zw_793 : (Jvm.Cond.methodLink "DiveChairsLaw" (134 : Nat) ({ cls := "DiveChairs", name := "worlds", desc := "(III)I" } : Jvm.MethodName)) ∈ zGW := zt4 158 (by decide +kernel) rfl
theorem zw_794 : (Jvm.Cond.instanceMethod ({ cls := "DiveChairs", name := "worlds", desc := "(III)I" } : Jvm.MethodName)) ∈ zGW := zt4 159 (by decide +kernel) rfl
theorem zw_795 : (Jvm.Cond.selects "DiveChairs" ({ cls := "DiveChairs", name := "worlds", desc := "(III)I" } : Jvm.MethodName) ({ cls := "DiveChairs", name := "worlds", desc := "(III)I" } : Jvm.MethodName)) ∈ zGW := zt4 160 (by decide +kernel) rfl
theorem zw_796 : (Jvm.Cond.code ({ cls := "DiveChairs", name := "worlds", desc := "(III)I" } : Jvm.MethodName) prog_1_method_29_code (7 : Nat) (Option.some Jvm.ClassFile.FieldType.int)) ∈ zGW := zt4 161 (by decide +kernel) rfl
theorem zw_797 : (Jvm.Cond.methodLink "DiveChairs" (277 : Nat) ({ cls := "DiveChairs$State", name := "flawAnew", desc := "(II)I" } : Jvm.MethodName)) ∈ zGW := zt4 162 (by decide +kernel) rfl
theorem zw_798 : (Jvm.Cond.instanceMethod ({ cls := "DiveChairs$State", name := "flawAnew", desc := "(II)I" } : Jvm.MethodName)) ∈ zGW := zt4 163 (by decide +kernel) rfl
theorem zw_799 : (Jvm.Cond.selects "DiveChairs$State" ({ cls := "DiveChairs$State", name := "flawAnew", desc := "(II)I" } : Jvm.MethodName) ({ cls := "DiveChairs$State", name := "flawAnew", desc := "(II)I" } : Jvm.MethodName)) ∈ zGW := zt4 164 (by decide +kernel) rfl
theorem zw_800 : (Jvm.Cond.code ({ cls := "DiveChairs$State", name := "flawAnew", desc := "(II)I" } : Jvm.MethodName) prog_11_method_30_code (6 : Nat) (Option.some Jvm.ClassFile.FieldType.int)) ∈ zGW := zt4 165 (by decide +kernel) rfl
theorem zw_801 : (Jvm.Cond.constant "DiveChairs$State" (221 : Nat) (1103515245 : Int32)) ∈ zGW := zt4 166 (by decide +kernel) rfl
theorem zw_802 : (Jvm.Cond.constant "DiveChairs$State" (222 : Nat) (2147483647 : Int32)) ∈ zGW := zt4 167 (by decide +kernel) rfl
theorem zw_803 : (Jvm.Cond.constant "DiveChairs$State" (223 : Nat) (65536 : Int32)) ∈ zGW := zt4 168 (by decide +kernel) rfl
theorem zw_804 : (Jvm.Cond.methodLink "DiveChairs" (280 : Nat) ({ cls := "DiveChairs$State", name := "isRight", desc := "(I)Z" } : Jvm.MethodName)) ∈ zGW := zt4 169 (by decide +kernel) rfl
theorem zw_805 : (Jvm.Cond.instanceMethod ({ cls := "DiveChairs$State", name := "isRight", desc := "(I)Z" } : Jvm.MethodName)) ∈ zGW := zt4 170 (by decide +kernel) rfl
theorem zw_806 : (Jvm.Cond.selects "DiveChairs$State" ({ cls := "DiveChairs$State", name := "isRight", desc := "(I)Z" } : Jvm.MethodName) ({ cls := "DiveChairs$State", name := "isRight", desc := "(I)Z" } : Jvm.MethodName)) ∈ zGW := zt4 171 (by decide +kernel) rfl
theorem zw_807 : (Jvm.Cond.code ({ cls := "DiveChairs$State", name := "isRight", desc := "(I)Z" } : Jvm.MethodName) prog_11_method_31_code (3 : Nat) (Option.some Jvm.ClassFile.FieldType.boolean)) ∈ zGW := zt4 172 (by decide +kernel) rfl
theorem zw_808 : (Jvm.Cond.methodLink "DiveChairs$State" (224 : Nat) ({ cls := "DiveChairs$State", name := "markDive", desc := "(I)I" } : Jvm.MethodName)) ∈ zGW := zt4 173 (by decide +kernel) rfl
theorem zw_809 : (Jvm.Cond.methodLink "DiveChairs$State" (227 : Nat) ({ cls := "DiveChairs$State", name := "winner", desc := "(I)I" } : Jvm.MethodName)) ∈ zGW := zt4 174 (by decide +kernel) rfl
theorem zw_810 : (Jvm.Cond.methodLink "DiveChairs$State" (230 : Nat) ({ cls := "DiveChairs$State", name := "placeOf", desc := "(IIZ)I" } : Jvm.MethodName)) ∈ zGW := zt4 175 (by decide +kernel) rfl
theorem zw_811 : (Jvm.Cond.methodLink "DiveChairsLaw" (138 : Nat) ({ cls := "DiveChairs", name := "image", desc := "()I" } : Jvm.MethodName)) ∈ zGW := zt4 176 (by decide +kernel) rfl
theorem zw_812 : (Jvm.Cond.instanceMethod ({ cls := "DiveChairs", name := "image", desc := "()I" } : Jvm.MethodName)) ∈ zGW := zt4 177 (by decide +kernel) rfl
theorem zw_813 : (Jvm.Cond.selects "DiveChairs" ({ cls := "DiveChairs", name := "image", desc := "()I" } : Jvm.MethodName) ({ cls := "DiveChairs", name := "image", desc := "()I" } : Jvm.MethodName)) ∈ zGW := zt4 178 (by decide +kernel) rfl
theorem zw_814 : (Jvm.Cond.code ({ cls := "DiveChairs", name := "image", desc := "()I" } : Jvm.MethodName) prog_1_method_30_code (1 : Nat) (Option.some Jvm.ClassFile.FieldType.int)) ∈ zGW := zt4 179 (by decide +kernel) rfl
theorem zw_815 : (Jvm.Cond.methodLink "DiveChairsLaw" (142 : Nat) ({ cls := "DiveChairs", name := "restore", desc := "()I" } : Jvm.MethodName)) ∈ zGW := zt4 180 (by decide +kernel) rfl
theorem zw_816 : (Jvm.Cond.instanceMethod ({ cls := "DiveChairs", name := "restore", desc := "()I" } : Jvm.MethodName)) ∈ zGW := zt4 181 (by decide +kernel) rfl
theorem zw_817 : (Jvm.Cond.selects "DiveChairs" ({ cls := "DiveChairs", name := "restore", desc := "()I" } : Jvm.MethodName) ({ cls := "DiveChairs", name := "restore", desc := "()I" } : Jvm.MethodName)) ∈ zGW := zt4 182 (by decide +kernel) rfl
theorem zw_818 : (Jvm.Cond.code ({ cls := "DiveChairs", name := "restore", desc := "()I" } : Jvm.MethodName) prog_1_method_31_code (1 : Nat) (Option.some Jvm.ClassFile.FieldType.int)) ∈ zGW := zt4 183 (by decide +kernel) rfl
theorem zw_819 : (Jvm.Cond.methodLink "DiveChairsLaw" (146 : Nat) ({ cls := "DiveChairs", name := "count", desc := "(I)I" } : Jvm.MethodName)) ∈ zGW := zt4 184 (by decide +kernel) rfl
theorem zw_820 : (Jvm.Cond.instanceMethod ({ cls := "DiveChairs", name := "count", desc := "(I)I" } : Jvm.MethodName)) ∈ zGW := zt4 185 (by decide +kernel) rfl
theorem zw_821 : (Jvm.Cond.selects "DiveChairs" ({ cls := "DiveChairs", name := "count", desc := "(I)I" } : Jvm.MethodName) ({ cls := "DiveChairs", name := "count", desc := "(I)I" } : Jvm.MethodName)) ∈ zGW := zt4 186 (by decide +kernel) rfl
theorem zw_822 : (Jvm.Cond.code ({ cls := "DiveChairs", name := "count", desc := "(I)I" } : Jvm.MethodName) prog_1_method_32_code (2 : Nat) (Option.some Jvm.ClassFile.FieldType.int)) ∈ zGW := zt4 187 (by decide +kernel) rfl
theorem zw_823 : (Jvm.Cond.methodLink "DiveChairs" (287 : Nat) ({ cls := "DiveChairs$State", name := "marksThere", desc := "()I" } : Jvm.MethodName)) ∈ zGW := zt4 188 (by decide +kernel) rfl
theorem zw_824 : (Jvm.Cond.instanceMethod ({ cls := "DiveChairs$State", name := "marksThere", desc := "()I" } : Jvm.MethodName)) ∈ zGW := zt4 189 (by decide +kernel) rfl
theorem zw_825 : (Jvm.Cond.selects "DiveChairs$State" ({ cls := "DiveChairs$State", name := "marksThere", desc := "()I" } : Jvm.MethodName) ({ cls := "DiveChairs$State", name := "marksThere", desc := "()I" } : Jvm.MethodName)) ∈ zGW := zt4 190 (by decide +kernel) rfl
theorem zw_826 : (Jvm.Cond.code ({ cls := "DiveChairs$State", name := "marksThere", desc := "()I" } : Jvm.MethodName) prog_11_method_13_code (3 : Nat) (Option.some Jvm.ClassFile.FieldType.int)) ∈ zGW := zt4 191 (by decide +kernel) rfl
theorem zw_827 : (Jvm.Cond.methodLink "DiveChairs" (288 : Nat) ({ cls := "DiveChairs$State", name := "sumOfMarks", desc := "()I" } : Jvm.MethodName)) ∈ zGW := zt4 192 (by decide +kernel) rfl
theorem zw_828 : (Jvm.Cond.instanceMethod ({ cls := "DiveChairs$State", name := "sumOfMarks", desc := "()I" } : Jvm.MethodName)) ∈ zGW := zt4 193 (by decide +kernel) rfl
theorem zw_829 : (Jvm.Cond.selects "DiveChairs$State" ({ cls := "DiveChairs$State", name := "sumOfMarks", desc := "()I" } : Jvm.MethodName) ({ cls := "DiveChairs$State", name := "sumOfMarks", desc := "()I" } : Jvm.MethodName)) ∈ zGW := zt4 194 (by decide +kernel) rfl
theorem zw_830 : (Jvm.Cond.code ({ cls := "DiveChairs$State", name := "sumOfMarks", desc := "()I" } : Jvm.MethodName) prog_11_method_14_code (3 : Nat) (Option.some Jvm.ClassFile.FieldType.int)) ∈ zGW := zt4 195 (by decide +kernel) rfl
theorem zw_831 : (Jvm.Cond.methodLink "DiveChairs$State" (103 : Nat) ({ cls := "DiveChairs$Panel", name := "sumBetween", desc := "(II)I" } : Jvm.MethodName)) ∈ zGW := zt4 196 (by decide +kernel) rfl
theorem zw_832 : (Jvm.Cond.methodLink "DiveChairs" (291 : Nat) ({ cls := "DiveChairs$State", name := "seatsTaken", desc := "()I" } : Jvm.MethodName)) ∈ zGW := zt4 197 (by decide +kernel) rfl
theorem zw_833 : (Jvm.Cond.instanceMethod ({ cls := "DiveChairs$State", name := "seatsTaken", desc := "()I" } : Jvm.MethodName)) ∈ zGW := zt4 198 (by decide +kernel) rfl
theorem zw_834 : (Jvm.Cond.selects "DiveChairs$State" ({ cls := "DiveChairs$State", name := "seatsTaken", desc := "()I" } : Jvm.MethodName) ({ cls := "DiveChairs$State", name := "seatsTaken", desc := "()I" } : Jvm.MethodName)) ∈ zGW := zt4 199 (by decide +kernel) rfl
theorem zw_835 : (Jvm.Cond.code ({ cls := "DiveChairs$State", name := "seatsTaken", desc := "()I" } : Jvm.MethodName) prog_11_method_11_code (3 : Nat) (Option.some Jvm.ClassFile.FieldType.int)) ∈ zGW := zt4 200 (by decide +kernel) rfl
theorem zw_836 : (Jvm.Cond.methodLink "DiveChairsLaw" (150 : Nat) ({ cls := "DiveChairs", name := "keep", desc := "(III)I" } : Jvm.MethodName)) ∈ zGW := zt4 201 (by decide +kernel) rfl
theorem zw_837 : (Jvm.Cond.instanceMethod ({ cls := "DiveChairs", name := "keep", desc := "(III)I" } : Jvm.MethodName)) ∈ zGW := zt4 202 (by decide +kernel) rfl
theorem zw_838 : (Jvm.Cond.selects "DiveChairs" ({ cls := "DiveChairs", name := "keep", desc := "(III)I" } : Jvm.MethodName) ({ cls := "DiveChairs", name := "keep", desc := "(III)I" } : Jvm.MethodName)) ∈ zGW := zt4 203 (by decide +kernel) rfl
theorem zw_839 : (Jvm.Cond.code ({ cls := "DiveChairs", name := "keep", desc := "(III)I" } : Jvm.MethodName) prog_1_method_33_code (6 : Nat) (Option.some Jvm.ClassFile.FieldType.int)) ∈ zGW := zt4 204 (by decide +kernel) rfl
theorem zw_840 : (Jvm.Cond.methodLink "DiveChairs" (297 : Nat) ({ cls := "DiveChairs$Shelf", name := "clear", desc := "()V" } : Jvm.MethodName)) ∈ zGW := zt4 205 (by decide +kernel) rfl
theorem zw_841 : (Jvm.Cond.instanceMethod ({ cls := "DiveChairs$Shelf", name := "clear", desc := "()V" } : Jvm.MethodName)) ∈ zGW := zt4 206 (by decide +kernel) rfl
theorem zw_842 : (Jvm.Cond.selects "DiveChairs$Shelf" ({ cls := "DiveChairs$Shelf", name := "clear", desc := "()V" } : Jvm.MethodName) ({ cls := "DiveChairs$Shelf", name := "clear", desc := "()V" } : Jvm.MethodName)) ∈ zGW := zt4 207 (by decide +kernel) rfl
theorem zw_843 : (Jvm.Cond.code ({ cls := "DiveChairs$Shelf", name := "clear", desc := "()V" } : Jvm.MethodName) prog_10_method_2_code (1 : Nat) (Option.none : Option Jvm.ClassFile.FieldType)) ∈ zGW := zt4 208 (by decide +kernel) rfl
theorem zw_844 : (Jvm.Cond.methodLink "DiveChairs" (300 : Nat) ({ cls := "DiveChairs$State", name := "judgeAt", desc := "(I)LDiveChairs$Judge;" } : Jvm.MethodName)) ∈ zGW := zt4 209 (by decide +kernel) rfl
theorem zw_845 : (Jvm.Cond.methodLink "DiveChairs" (304 : Nat) ({ cls := "DiveChairs$Shelf", name := "holdJudge", desc := "(LDiveChairs$Judge;)V" } : Jvm.MethodName)) ∈ zGW := zt4 210 (by decide +kernel) rfl
theorem zw_846 : (Jvm.Cond.instanceMethod ({ cls := "DiveChairs$Shelf", name := "holdJudge", desc := "(LDiveChairs$Judge;)V" } : Jvm.MethodName)) ∈ zGW := zt4 211 (by decide +kernel) rfl
theorem zw_847 : (Jvm.Cond.selects "DiveChairs$Shelf" ({ cls := "DiveChairs$Shelf", name := "holdJudge", desc := "(LDiveChairs$Judge;)V" } : Jvm.MethodName) ({ cls := "DiveChairs$Shelf", name := "holdJudge", desc := "(LDiveChairs$Judge;)V" } : Jvm.MethodName)) ∈ zGW := zt4 212 (by decide +kernel) rfl
theorem zw_848 : (Jvm.Cond.code ({ cls := "DiveChairs$Shelf", name := "holdJudge", desc := "(LDiveChairs$Judge;)V" } : Jvm.MethodName) prog_10_method_3_code (2 : Nat) (Option.none : Option Jvm.ClassFile.FieldType)) ∈ zGW := zt4 213 (by decide +kernel) rfl
theorem zw_849 : (Jvm.Cond.methodLink "DiveChairs$Shelf" (27 : Nat) ({ cls := "DiveChairs$Shelf", name := "clear", desc := "()V" } : Jvm.MethodName)) ∈ zGW := zt4 214 (by decide +kernel) rfl
theorem zw_850 : (Jvm.Cond.methodLink "DiveChairsLaw" (154 : Nat) ({ cls := "DiveChairs", name := "row", desc := "(III)I" } : Jvm.MethodName)) ∈ zGW := zt4 215 (by decide +kernel) rfl
theorem zw_851 : (Jvm.Cond.instanceMethod ({ cls := "DiveChairs", name := "row", desc := "(III)I" } : Jvm.MethodName)) ∈ zGW := zt4 216 (by decide +kernel) rfl
theorem zw_852 : (Jvm.Cond.selects "DiveChairs" ({ cls := "DiveChairs", name := "row", desc := "(III)I" } : Jvm.MethodName) ({ cls := "DiveChairs", name := "row", desc := "(III)I" } : Jvm.MethodName)) ∈ zGW := zt4 217 (by decide +kernel) rfl
theorem zw_853 : (Jvm.Cond.code ({ cls := "DiveChairs", name := "row", desc := "(III)I" } : Jvm.MethodName) prog_1_method_34_code (5 : Nat) (Option.some Jvm.ClassFile.FieldType.int)) ∈ zGW := zt4 218 (by decide +kernel) rfl
theorem zw_854 : (Jvm.Cond.methodLink "DiveChairs" (308 : Nat) ({ cls := "DiveChairs$Shelf", name := "holdRow", desc := "(II)V" } : Jvm.MethodName)) ∈ zGW := zt4 219 (by decide +kernel) rfl
theorem zw_855 : (Jvm.Cond.instanceMethod ({ cls := "DiveChairs$Shelf", name := "holdRow", desc := "(II)V" } : Jvm.MethodName)) ∈ zGW := zt4 220 (by decide +kernel) rfl
theorem zw_856 : (Jvm.Cond.selects "DiveChairs$Shelf" ({ cls := "DiveChairs$Shelf", name := "holdRow", desc := "(II)V" } : Jvm.MethodName) ({ cls := "DiveChairs$Shelf", name := "holdRow", desc := "(II)V" } : Jvm.MethodName)) ∈ zGW := zt4 221 (by decide +kernel) rfl
theorem zw_857 : (Jvm.Cond.code ({ cls := "DiveChairs$Shelf", name := "holdRow", desc := "(II)V" } : Jvm.MethodName) prog_10_method_4_code (4 : Nat) (Option.none : Option Jvm.ClassFile.FieldType)) ∈ zGW := zt4 222 (by decide +kernel) rfl
theorem zw_858 : (Jvm.Cond.methodLink "DiveChairsLaw" (158 : Nat) ({ cls := "DiveChairs", name := "put", desc := "(III)I" } : Jvm.MethodName)) ∈ zGW := zt4 223 (by decide +kernel) rfl
theorem zw_859 : (Jvm.Cond.instanceMethod ({ cls := "DiveChairs", name := "put", desc := "(III)I" } : Jvm.MethodName)) ∈ zGW := zt4 224 (by decide +kernel) rfl
theorem zw_860 : (Jvm.Cond.selects "DiveChairs" ({ cls := "DiveChairs", name := "put", desc := "(III)I" } : Jvm.MethodName) ({ cls := "DiveChairs", name := "put", desc := "(III)I" } : Jvm.MethodName)) ∈ zGW := zt4 225 (by decide +kernel) rfl
theorem zw_861 : (Jvm.Cond.code ({ cls := "DiveChairs", name := "put", desc := "(III)I" } : Jvm.MethodName) prog_1_method_35_code (6 : Nat) (Option.some Jvm.ClassFile.FieldType.int)) ∈ zGW := zt4 226 (by decide +kernel) rfl
theorem zw_862 : (Jvm.Cond.methodLink "DiveChairs" (312 : Nat) ({ cls := "DiveChairs$Shelf", name := "refusalAsRow", desc := "()I" } : Jvm.MethodName)) ∈ zGW := zt4 227 (by decide +kernel) rfl
theorem zw_863 : (Jvm.Cond.methodLink "DiveChairs" (315 : Nat) ({ cls := "DiveChairs$Shelf", name := "lowestBits", desc := "(I)I" } : Jvm.MethodName)) ∈ zGW := zt4 228 (by decide +kernel) rfl
theorem zw_864 : (Jvm.Cond.instanceMethod ({ cls := "DiveChairs$Shelf", name := "lowestBits", desc := "(I)I" } : Jvm.MethodName)) ∈ zGW := zt4 229 (by decide +kernel) rfl
theorem zw_865 : (Jvm.Cond.selects "DiveChairs$Shelf" ({ cls := "DiveChairs$Shelf", name := "lowestBits", desc := "(I)I" } : Jvm.MethodName) ({ cls := "DiveChairs$Shelf", name := "lowestBits", desc := "(I)I" } : Jvm.MethodName)) ∈ zGW := zt4 230 (by decide +kernel) rfl
theorem zw_866 : (Jvm.Cond.code ({ cls := "DiveChairs$Shelf", name := "lowestBits", desc := "(I)I" } : Jvm.MethodName) prog_10_method_11_code (2 : Nat) (Option.some Jvm.ClassFile.FieldType.int)) ∈ zGW := zt4 231 (by decide +kernel) rfl
theorem zw_867 : (Jvm.Cond.methodLink "DiveChairsLaw" (171 : Nat) ({ cls := "DiveChairs", name := "copy", desc := "(IIIII)I" } : Jvm.MethodName)) ∈ zGW := zt4 232 (by decide +kernel) rfl
theorem zw_868 : (Jvm.Cond.instanceMethod ({ cls := "DiveChairs", name := "copy", desc := "(IIIII)I" } : Jvm.MethodName)) ∈ zGW := zt4 233 (by decide +kernel) rfl
theorem zw_869 : (Jvm.Cond.selects "DiveChairs" ({ cls := "DiveChairs", name := "copy", desc := "(IIIII)I" } : Jvm.MethodName) ({ cls := "DiveChairs", name := "copy", desc := "(IIIII)I" } : Jvm.MethodName)) ∈ zGW := zt4 234 (by decide +kernel) rfl
theorem zw_870 : (Jvm.Cond.code ({ cls := "DiveChairs", name := "copy", desc := "(IIIII)I" } : Jvm.MethodName) prog_1_method_37_code (8 : Nat) (Option.some Jvm.ClassFile.FieldType.int)) ∈ zGW := zt4 235 (by decide +kernel) rfl
theorem zw_871 : (Jvm.Cond.methodLink "DiveChairs" (330 : Nat) ({ cls := "DiveChairs$Shelf", name := "holdsNothing", desc := "()Z" } : Jvm.MethodName)) ∈ zGW := zt4 236 (by decide +kernel) rfl
theorem zw_872 : (Jvm.Cond.instanceMethod ({ cls := "DiveChairs$Shelf", name := "holdsNothing", desc := "()Z" } : Jvm.MethodName)) ∈ zGW := zt4 237 (by decide +kernel) rfl
theorem zw_873 : (Jvm.Cond.selects "DiveChairs$Shelf" ({ cls := "DiveChairs$Shelf", name := "holdsNothing", desc := "()Z" } : Jvm.MethodName) ({ cls := "DiveChairs$Shelf", name := "holdsNothing", desc := "()Z" } : Jvm.MethodName)) ∈ zGW := zt4 238 (by decide +kernel) rfl
theorem zw_874 : (Jvm.Cond.code ({ cls := "DiveChairs$Shelf", name := "holdsNothing", desc := "()Z" } : Jvm.MethodName) prog_10_method_5_code (1 : Nat) (Option.some Jvm.ClassFile.FieldType.boolean)) ∈ zGW := zt4 239 (by decide +kernel) rfl
theorem zw_875 : (Jvm.Cond.methodLink "DiveChairs" (336 : Nat) ({ cls := "DiveChairs$Shelf", name := "hasPlaces", desc := "(II)Z" } : Jvm.MethodName)) ∈ zGW := zt5 0 (by decide +kernel) rfl
theorem zw_876 : (Jvm.Cond.instanceMethod ({ cls := "DiveChairs$Shelf", name := "hasPlaces", desc := "(II)Z" } : Jvm.MethodName)) ∈ zGW := zt5 1 (by decide +kernel) rfl
theorem zw_877 : (Jvm.Cond.selects "DiveChairs$Shelf" ({ cls := "DiveChairs$Shelf", name := "hasPlaces", desc := "(II)Z" } : Jvm.MethodName) ({ cls := "DiveChairs$Shelf", name := "hasPlaces", desc := "(II)Z" } : Jvm.MethodName)) ∈ zGW := zt5 2 (by decide +kernel) rfl
theorem zw_878 : (Jvm.Cond.code ({ cls := "DiveChairs$Shelf", name := "hasPlaces", desc := "(II)Z" } : Jvm.MethodName) prog_10_method_9_code (3 : Nat) (Option.some Jvm.ClassFile.FieldType.boolean)) ∈ zGW := zt5 3 (by decide +kernel) rfl
theorem zw_879 : (Jvm.Cond.methodLink "DiveChairs" (339 : Nat) ({ cls := "java/lang/System", name := "arraycopy", desc := "(Ljava/lang/Object;ILjava/lang/Object;II)V" } : Jvm.MethodName)) ∈ zGW := zt5 4 (by decide +kernel) rfl
theorem zw_880 : (Jvm.Cond.methodLink "DiveChairsLaw" (176 : Nat) ({ cls := "DiveChairs", name := "weight", desc := "(I)I" } : Jvm.MethodName)) ∈ zGW := zt5 5 (by decide +kernel) rfl
theorem zw_881 : (Jvm.Cond.instanceMethod ({ cls := "DiveChairs", name := "weight", desc := "(I)I" } : Jvm.MethodName)) ∈ zGW := zt5 6 (by decide +kernel) rfl
theorem zw_882 : (Jvm.Cond.selects "DiveChairs" ({ cls := "DiveChairs", name := "weight", desc := "(I)I" } : Jvm.MethodName) ({ cls := "DiveChairs", name := "weight", desc := "(I)I" } : Jvm.MethodName)) ∈ zGW := zt5 7 (by decide +kernel) rfl
theorem zw_883 : (Jvm.Cond.code ({ cls := "DiveChairs", name := "weight", desc := "(I)I" } : Jvm.MethodName) prog_1_method_38_code (3 : Nat) (Option.some Jvm.ClassFile.FieldType.int)) ∈ zGW := zt5 8 (by decide +kernel) rfl
theorem zw_884 : (Jvm.Cond.methodLink "DiveChairs" (349 : Nat) ({ cls := "DiveChairs$Shelf", name := "refusalAsJudge", desc := "()I" } : Jvm.MethodName)) ∈ zGW := zt5 9 (by decide +kernel) rfl
theorem zw_885 : (Jvm.Cond.instanceMethod ({ cls := "DiveChairs$Shelf", name := "refusalAsJudge", desc := "()I" } : Jvm.MethodName)) ∈ zGW := zt5 10 (by decide +kernel) rfl
theorem zw_886 : (Jvm.Cond.selects "DiveChairs$Shelf" ({ cls := "DiveChairs$Shelf", name := "refusalAsJudge", desc := "()I" } : Jvm.MethodName) ({ cls := "DiveChairs$Shelf", name := "refusalAsJudge", desc := "()I" } : Jvm.MethodName)) ∈ zGW := zt5 11 (by decide +kernel) rfl
theorem zw_887 : (Jvm.Cond.code ({ cls := "DiveChairs$Shelf", name := "refusalAsJudge", desc := "()I" } : Jvm.MethodName) prog_10_method_8_code (1 : Nat) (Option.some Jvm.ClassFile.FieldType.int)) ∈ zGW := zt5 12 (by decide +kernel) rfl
theorem zw_888 : (Jvm.Cond.methodLink "DiveChairs" (352 : Nat) ({ cls := "DiveChairs$Judge", name := "heft", desc := "()I" } : Jvm.MethodName)) ∈ zGW := zt5 13 (by decide +kernel) rfl
theorem zw_889 : (Jvm.Cond.instanceMethod ({ cls := "DiveChairs$Judge", name := "heft", desc := "()I" } : Jvm.MethodName)) ∈ zGW := zt5 14 (by decide +kernel) rfl
theorem zw_890 : (Jvm.Cond.selects "DiveChairs$Judge" ({ cls := "DiveChairs$Judge", name := "heft", desc := "()I" } : Jvm.MethodName) ({ cls := "DiveChairs$Judge", name := "heft", desc := "()I" } : Jvm.MethodName)) ∈ zGW := zt5 15 (by decide +kernel) rfl
theorem zw_891 : (Jvm.Cond.code ({ cls := "DiveChairs$Judge", name := "heft", desc := "()I" } : Jvm.MethodName) prog_4_method_4_code (2 : Nat) (Option.some Jvm.ClassFile.FieldType.int)) ∈ zGW := zt5 16 (by decide +kernel) rfl
theorem zw_892 : (Jvm.Cond.methodLink "DiveChairsLaw" (180 : Nat) ({ cls := "DiveChairs", name := "toss", desc := "(I)I" } : Jvm.MethodName)) ∈ zGW := zt5 17 (by decide +kernel) rfl
theorem zw_893 : (Jvm.Cond.instanceMethod ({ cls := "DiveChairs", name := "toss", desc := "(I)I" } : Jvm.MethodName)) ∈ zGW := zt5 18 (by decide +kernel) rfl
theorem zw_894 : (Jvm.Cond.selects "DiveChairs" ({ cls := "DiveChairs", name := "toss", desc := "(I)I" } : Jvm.MethodName) ({ cls := "DiveChairs", name := "toss", desc := "(I)I" } : Jvm.MethodName)) ∈ zGW := zt5 19 (by decide +kernel) rfl
theorem zw_895 : (Jvm.Cond.code ({ cls := "DiveChairs", name := "toss", desc := "(I)I" } : Jvm.MethodName) prog_1_method_39_code (3 : Nat) (Option.some Jvm.ClassFile.FieldType.int)) ∈ zGW := zt5 20 (by decide +kernel) rfl
theorem zw_896 : (Jvm.Cond.methodLink "DiveChairs" (357 : Nat) ({ cls := "DiveChairs", name := "fails", desc := "(LDiveChairs$Judge;)Z" } : Jvm.MethodName)) ∈ zGW := zt5 21 (by decide +kernel) rfl
theorem zw_897 : (Jvm.Cond.static ({ cls := "DiveChairs", name := "fails", desc := "(LDiveChairs$Judge;)Z" } : Jvm.MethodName)) ∈ zGW := zt5 22 (by decide +kernel) rfl
theorem zw_898 : (Jvm.Cond.codeWith ({ cls := "DiveChairs", name := "fails", desc := "(LDiveChairs$Judge;)Z" } : Jvm.MethodName) prog_1_method_45_code (2 : Nat) (Option.some Jvm.ClassFile.FieldType.boolean) [((0 : Nat), (5 : Nat), (6 : Nat), (325 : Nat))]) ∈ zGW := zt5 23 (by decide +kernel) rfl
theorem zw_899 : (Jvm.Cond.classLink "DiveChairs" (325 : Nat) "java/lang/IllegalStateException") ∈ zGW := zt5 24 (by decide +kernel) rfl
theorem zw_900 : (Jvm.Cond.methodLink "DiveChairs" (364 : Nat) ({ cls := "DiveChairs$Judge", name := "throwFailure", desc := "()V" } : Jvm.MethodName)) ∈ zGW := zt5 25 (by decide +kernel) rfl
theorem zw_901 : (Jvm.Cond.instanceMethod ({ cls := "DiveChairs$Judge", name := "throwFailure", desc := "()V" } : Jvm.MethodName)) ∈ zGW := zt5 26 (by decide +kernel) rfl
theorem zw_902 : (Jvm.Cond.selects "DiveChairs$Judge" ({ cls := "DiveChairs$Judge", name := "throwFailure", desc := "()V" } : Jvm.MethodName) ({ cls := "DiveChairs$Judge", name := "throwFailure", desc := "()V" } : Jvm.MethodName)) ∈ zGW := zt5 27 (by decide +kernel) rfl
theorem zw_903 : (Jvm.Cond.code ({ cls := "DiveChairs$Judge", name := "throwFailure", desc := "()V" } : Jvm.MethodName) prog_4_method_5_code (2 : Nat) (Option.none : Option Jvm.ClassFile.FieldType)) ∈ zGW := zt5 28 (by decide +kernel) rfl
theorem zw_904 : (Jvm.Cond.classLink "DiveChairs$Judge" (34 : Nat) "java/lang/IllegalStateException") ∈ zGW := zt5 29 (by decide +kernel) rfl
theorem zw_905 : (Jvm.Cond.instantiable "java/lang/IllegalStateException" (6 : Nat)) ∈ zGW := zt5 30 (by decide +kernel) rfl
theorem zx_906 : (Jvm.Cond.castable "java/lang/IllegalStateException" "java/lang/IllegalStateException") ∈ lw_tbl := zn5 31 (by decide +kernel)
theorem zx_907 : (Jvm.Cond.declares ({ cls := "java/lang/RuntimeException", name := "<init>", desc := "()V" } : Jvm.MethodName)) ∈ lw_tbl := zn5 32 (by decide +kernel)
theorem zx_908 : (Jvm.Cond.declares ({ cls := "java/lang/RuntimeException", name := "<init>", desc := "(Ljava/lang/String;)V" } : Jvm.MethodName)) ∈ lw_tbl := zn5 33 (by decide +kernel)
theorem zx_909 : (Jvm.Cond.declares ({ cls := "java/lang/Exception", name := "<init>", desc := "()V" } : Jvm.MethodName)) ∈ lw_tbl := zn5 34 (by decide +kernel)
theorem zx_910 : (Jvm.Cond.declares ({ cls := "java/lang/Exception", name := "<init>", desc := "(Ljava/lang/String;)V" } : Jvm.MethodName)) ∈ lw_tbl := zn5 35 (by decide +kernel)
theorem zx_911 : (Jvm.Cond.declares ({ cls := "java/lang/Throwable", name := "<init>", desc := "()V" } : Jvm.MethodName)) ∈ lw_tbl := zn5 36 (by decide +kernel)
theorem zx_912 : (Jvm.Cond.declares ({ cls := "java/lang/Throwable", name := "<init>", desc := "(Ljava/lang/String;)V" } : Jvm.MethodName)) ∈ lw_tbl := zn5 37 (by decide +kernel)
theorem zw_913 : (Jvm.Cond.selects "java/lang/IllegalStateException" ({ cls := "java/lang/Throwable", name := "fillInStackTrace", desc := "(I)Ljava/lang/Throwable;" } : Jvm.MethodName) ({ cls := "java/lang/Throwable", name := "fillInStackTrace", desc := "(I)Ljava/lang/Throwable;" } : Jvm.MethodName)) ∈ zGW := zt5 38 (by decide +kernel) rfl
theorem zw_914 : (Jvm.Cond.selects "java/lang/IllegalStateException" ({ cls := "java/lang/Throwable", name := "fillInStackTrace", desc := "()Ljava/lang/Throwable;" } : Jvm.MethodName) ({ cls := "java/lang/Throwable", name := "fillInStackTrace", desc := "()Ljava/lang/Throwable;" } : Jvm.MethodName)) ∈ zGW := zt5 39 (by decide +kernel) rfl
theorem zw_915 : (Jvm.Cond.lays "java/lang/IllegalStateException" "java/lang/Throwable" "cause" "Ljava/lang/Throwable;") ∈ zGW := zt5 40 (by decide +kernel) rfl
theorem zw_916 : (Jvm.Cond.lays "java/lang/Throwable" "java/lang/Throwable" "cause" "Ljava/lang/Throwable;") ∈ zGW := zt5 41 (by decide +kernel) rfl
theorem zw_917 : (Jvm.Cond.lays "java/lang/IllegalStateException" "java/lang/Throwable" "stackTrace" "[Ljava/lang/StackTraceElement;") ∈ zGW := zt5 42 (by decide +kernel) rfl
theorem zw_918 : (Jvm.Cond.lays "java/lang/Throwable" "java/lang/Throwable" "stackTrace" "[Ljava/lang/StackTraceElement;") ∈ zGW := zt5 43 (by decide +kernel) rfl
theorem zw_919 : (Jvm.Cond.lays "java/lang/IllegalStateException" "java/lang/Throwable" "suppressedExceptions" "Ljava/util/List;") ∈ zGW := zt5 44 (by decide +kernel) rfl
theorem zw_920 : (Jvm.Cond.lays "java/lang/Throwable" "java/lang/Throwable" "suppressedExceptions" "Ljava/util/List;") ∈ zGW := zt5 45 (by decide +kernel) rfl
theorem zw_921 : (Jvm.Cond.lays "java/lang/IllegalStateException" "java/lang/Throwable" "detailMessage" "Ljava/lang/String;") ∈ zGW := zt5 46 (by decide +kernel) rfl
theorem zw_922 : (Jvm.Cond.lays "java/lang/Throwable" "java/lang/Throwable" "detailMessage" "Ljava/lang/String;") ∈ zGW := zt5 47 (by decide +kernel) rfl
theorem zw_923 : (Jvm.Cond.lays "java/lang/IllegalStateException" "java/lang/Throwable" "backtrace" "Ljava/lang/Object;") ∈ zGW := zt5 48 (by decide +kernel) rfl
theorem zw_924 : (Jvm.Cond.lays "java/lang/Throwable" "java/lang/Throwable" "backtrace" "Ljava/lang/Object;") ∈ zGW := zt5 49 (by decide +kernel) rfl
theorem zw_925 : (Jvm.Cond.fieldLink "java/lang/Throwable" (198 : Nat) "java/lang/Throwable" "backtrace" "Ljava/lang/Object;") ∈ zGW := zt5 50 (by decide +kernel) rfl
theorem zw_926 : (Jvm.Cond.superclass "java/lang/Throwable" "java/lang/Object") ∈ zGW := zt5 51 (by decide +kernel) rfl
theorem zw_927 : (Jvm.Cond.instanceMethod ({ cls := "java/lang/Throwable", name := "<init>", desc := "()V" } : Jvm.MethodName)) ∈ zGW := zt5 52 (by decide +kernel) rfl
theorem zw_928 : (Jvm.Cond.code ({ cls := "java/lang/Throwable", name := "<init>", desc := "()V" } : Jvm.MethodName) prog_23_method_1_code (1 : Nat) (Option.none : Option Jvm.ClassFile.FieldType)) ∈ zGW := zt5 53 (by decide +kernel) rfl
theorem zw_929 : (Jvm.Cond.methodLink "java/lang/Throwable" (1 : Nat) ({ cls := "java/lang/Object", name := "<init>", desc := "()V" } : Jvm.MethodName)) ∈ zGW := zt5 54 (by decide +kernel) rfl
theorem zw_930 : (Jvm.Cond.fieldLink "java/lang/Throwable" (13 : Nat) "java/lang/Throwable" "UNASSIGNED_STACK" "[Ljava/lang/StackTraceElement;") ∈ zGW := zt5 55 (by decide +kernel) rfl
theorem zx_931 : (Jvm.Cond.laysStatic "java/lang/Throwable" "UNASSIGNED_STACK" "[Ljava/lang/StackTraceElement;") ∈ lw_tbl := zn5 56 (by decide +kernel)
theorem zw_932 : (Jvm.Cond.fieldLink "java/lang/Throwable" (20 : Nat) "java/lang/Throwable" "SUPPRESSED_SENTINEL" "Ljava/util/List;") ∈ zGW := zt5 57 (by decide +kernel) rfl
theorem zx_933 : (Jvm.Cond.laysStatic "java/lang/Throwable" "SUPPRESSED_SENTINEL" "Ljava/util/List;") ∈ lw_tbl := zn5 58 (by decide +kernel)
theorem zw_934 : (Jvm.Cond.methodLink "java/lang/Throwable" (27 : Nat) ({ cls := "java/lang/Throwable", name := "fillInStackTrace", desc := "()Ljava/lang/Throwable;" } : Jvm.MethodName)) ∈ zGW := zt5 59 (by decide +kernel) rfl
theorem zw_935 : (Jvm.Cond.instanceMethod ({ cls := "java/lang/Throwable", name := "fillInStackTrace", desc := "()Ljava/lang/Throwable;" } : Jvm.MethodName)) ∈ zGW := zt5 60 (by decide +kernel) rfl
theorem zw_936 : (Jvm.Cond.sameMethod "java/lang/Throwable" "java/lang/Throwable" "fillInStackTrace" "()Ljava/lang/Throwable;") ∈ zGW := zt5 61 (by decide +kernel) rfl
theorem zw_937 : (Jvm.Cond.selects "java/lang/IllegalArgumentException" ({ cls := "java/lang/Throwable", name := "fillInStackTrace", desc := "()Ljava/lang/Throwable;" } : Jvm.MethodName) ({ cls := "java/lang/Throwable", name := "fillInStackTrace", desc := "()Ljava/lang/Throwable;" } : Jvm.MethodName)) ∈ zGW := zt5 62 (by decide +kernel) rfl
theorem zw_938 : (Jvm.Cond.codeSync ({ cls := "java/lang/Throwable", name := "fillInStackTrace", desc := "()Ljava/lang/Throwable;" } : Jvm.MethodName) prog_23_method_18_code (1 : Nat) (Option.some (Jvm.ClassFile.FieldType.object "java/lang/Throwable"))) ∈ zGW := zt5 63 (by decide +kernel) rfl
theorem zw_939 : (Jvm.Cond.methodLink "java/lang/Throwable" (202 : Nat) ({ cls := "java/lang/Throwable", name := "fillInStackTrace", desc := "(I)Ljava/lang/Throwable;" } : Jvm.MethodName)) ∈ zGW := zt5 64 (by decide +kernel) rfl
theorem zw_940 : (Jvm.Cond.instanceMethod ({ cls := "java/lang/Throwable", name := "fillInStackTrace", desc := "(I)Ljava/lang/Throwable;" } : Jvm.MethodName)) ∈ zGW := zt5 66 (by decide +kernel) rfl
theorem zw_941 : (Jvm.Cond.instantiable "java/lang/Throwable" (6 : Nat)) ∈ zGW := zt5 67 (by decide +kernel) rfl
theorem zw_942 : (Jvm.Cond.native ({ cls := "java/lang/Throwable", name := "fillInStackTrace", desc := "(I)Ljava/lang/Throwable;" } : Jvm.MethodName)) ∈ zGW := zt5 68 (by decide +kernel) rfl
theorem zx_943 : (Jvm.Cond.stringRef "DiveChairs$Judge" (36 : Nat) "the judge fails") ∈ lw_tbl := zn5 69 (by decide +kernel)
theorem zw_944 : (Jvm.Cond.methodLink "DiveChairs$Judge" (38 : Nat) ({ cls := "java/lang/IllegalStateException", name := "<init>", desc := "(Ljava/lang/String;)V" } : Jvm.MethodName)) ∈ zGW := zt5 70 (by decide +kernel) rfl
theorem zw_945 : (Jvm.Cond.instanceMethod ({ cls := "java/lang/IllegalStateException", name := "<init>", desc := "(Ljava/lang/String;)V" } : Jvm.MethodName)) ∈ zGW := zt5 71 (by decide +kernel) rfl
theorem zw_946 : (Jvm.Cond.code ({ cls := "java/lang/IllegalStateException", name := "<init>", desc := "(Ljava/lang/String;)V" } : Jvm.MethodName) prog_17_method_2_code (2 : Nat) (Option.none : Option Jvm.ClassFile.FieldType)) ∈ zGW := zt5 72 (by decide +kernel) rfl
theorem zw_947 : (Jvm.Cond.methodLink "java/lang/IllegalStateException" (7 : Nat) ({ cls := "java/lang/RuntimeException", name := "<init>", desc := "(Ljava/lang/String;)V" } : Jvm.MethodName)) ∈ zGW := zt5 73 (by decide +kernel) rfl
theorem zw_948 : (Jvm.Cond.instanceMethod ({ cls := "java/lang/RuntimeException", name := "<init>", desc := "(Ljava/lang/String;)V" } : Jvm.MethodName)) ∈ zGW := zt5 74 (by decide +kernel) rfl
theorem zw_949 : (Jvm.Cond.code ({ cls := "java/lang/RuntimeException", name := "<init>", desc := "(Ljava/lang/String;)V" } : Jvm.MethodName) prog_20_method_2_code (2 : Nat) (Option.none : Option Jvm.ClassFile.FieldType)) ∈ zGW := zt5 75 (by decide +kernel) rfl
theorem zw_950 : (Jvm.Cond.methodLink "java/lang/RuntimeException" (7 : Nat) ({ cls := "java/lang/Exception", name := "<init>", desc := "(Ljava/lang/String;)V" } : Jvm.MethodName)) ∈ zGW := zt5 76 (by decide +kernel) rfl
theorem zw_951 : (Jvm.Cond.instanceMethod ({ cls := "java/lang/Exception", name := "<init>", desc := "(Ljava/lang/String;)V" } : Jvm.MethodName)) ∈ zGW := zt5 77 (by decide +kernel) rfl
theorem zw_952 : (Jvm.Cond.code ({ cls := "java/lang/Exception", name := "<init>", desc := "(Ljava/lang/String;)V" } : Jvm.MethodName) prog_15_method_2_code (2 : Nat) (Option.none : Option Jvm.ClassFile.FieldType)) ∈ zGW := zt5 78 (by decide +kernel) rfl
theorem zw_953 : (Jvm.Cond.methodLink "java/lang/Exception" (7 : Nat) ({ cls := "java/lang/Throwable", name := "<init>", desc := "(Ljava/lang/String;)V" } : Jvm.MethodName)) ∈ zGW := zt5 79 (by decide +kernel) rfl
theorem zw_954 : (Jvm.Cond.instanceMethod ({ cls := "java/lang/Throwable", name := "<init>", desc := "(Ljava/lang/String;)V" } : Jvm.MethodName)) ∈ zGW := zt5 80 (by decide +kernel) rfl
theorem zw_955 : (Jvm.Cond.code ({ cls := "java/lang/Throwable", name := "<init>", desc := "(Ljava/lang/String;)V" } : Jvm.MethodName) prog_23_method_2_code (2 : Nat) (Option.none : Option Jvm.ClassFile.FieldType)) ∈ zGW := zt5 81 (by decide +kernel) rfl
theorem zw_956 : (Jvm.Cond.fieldLink "java/lang/Throwable" (31 : Nat) "java/lang/Throwable" "detailMessage" "Ljava/lang/String;") ∈ zGW := zt5 83 (by decide +kernel) rfl
theorem zw_957 : (Jvm.Cond.fieldLink "java/lang/Throwable" (7 : Nat) "java/lang/Throwable" "cause" "Ljava/lang/Throwable;") ∈ zGW := zt5 84 (by decide +kernel) rfl
theorem zw_958 : (Jvm.Cond.fieldLink "java/lang/Throwable" (17 : Nat) "java/lang/Throwable" "stackTrace" "[Ljava/lang/StackTraceElement;") ∈ zGW := zt5 85 (by decide +kernel) rfl
theorem zw_959 : (Jvm.Cond.fieldLink "java/lang/Throwable" (24 : Nat) "java/lang/Throwable" "suppressedExceptions" "Ljava/util/List;") ∈ zGW := zt5 86 (by decide +kernel) rfl
theorem zw_960 : (Jvm.Cond.lays "java/lang/IllegalStateException" "java/lang/Throwable" "depth" "I") ∈ zGW := zt5 91 (by decide +kernel) rfl
theorem zw_961 : (Jvm.Cond.superclass "java/lang/IllegalStateException" "java/lang/RuntimeException") ∈ zGW := zt5 94 (by decide +kernel) rfl
theorem zw_962 : (Jvm.Cond.arrayClass Jvm.ClassFile.FieldType.byte) ∈ zGW := zt5 95 (by decide +kernel) rfl
theorem zw_963 : (Jvm.Cond.methodLink "DiveChairs" (361 : Nat) ({ cls := "DiveChairs$Judge", name := "failureNumber", desc := "()I" } : Jvm.MethodName)) ∈ zGW := zt5 96 (by decide +kernel) rfl
theorem zw_964 : (Jvm.Cond.instanceMethod ({ cls := "DiveChairs$Judge", name := "failureNumber", desc := "()I" } : Jvm.MethodName)) ∈ zGW := zt5 97 (by decide +kernel) rfl
theorem zw_965 : (Jvm.Cond.selects "DiveChairs$Judge" ({ cls := "DiveChairs$Judge", name := "failureNumber", desc := "()I" } : Jvm.MethodName) ({ cls := "DiveChairs$Judge", name := "failureNumber", desc := "()I" } : Jvm.MethodName)) ∈ zGW := zt5 98 (by decide +kernel) rfl
theorem zw_966 : (Jvm.Cond.code ({ cls := "DiveChairs$Judge", name := "failureNumber", desc := "()I" } : Jvm.MethodName) prog_4_method_6_code (1 : Nat) (Option.some Jvm.ClassFile.FieldType.int)) ∈ zGW := zt5 99 (by decide +kernel) rfl
theorem zw_967 : (Jvm.Cond.methodLink "DiveChairsLaw" (162 : Nat) ({ cls := "DiveChairsLaw", name := "element", desc := "(LDiveChairs;II[J)I" } : Jvm.MethodName)) ∈ zGW := zt5 100 (by decide +kernel) rfl
theorem zw_968 : (Jvm.Cond.static ({ cls := "DiveChairsLaw", name := "element", desc := "(LDiveChairs;II[J)I" } : Jvm.MethodName)) ∈ zGW := zt5 101 (by decide +kernel) rfl
theorem zw_969 : (Jvm.Cond.codeWith ({ cls := "DiveChairsLaw", name := "element", desc := "(LDiveChairs;II[J)I" } : Jvm.MethodName) method_3_code (5 : Nat) (Option.some Jvm.ClassFile.FieldType.int) [((0 : Nat), (9 : Nat), (12 : Nat), (13 : Nat)), ((0 : Nat), (9 : Nat), (16 : Nat), (15 : Nat))]) ∈ zGW := zt5 102 (by decide +kernel) rfl
theorem zw_970 : (Jvm.Cond.classLink "DiveChairsLaw" (13 : Nat) "java/lang/IllegalArgumentException") ∈ zGW := zt5 103 (by decide +kernel) rfl
theorem zw_971 : (Jvm.Cond.classLink "DiveChairsLaw" (15 : Nat) "java/lang/IllegalStateException") ∈ zGW := zt5 104 (by decide +kernel) rfl
theorem zw_972 : (Jvm.Cond.methodLink "DiveChairsLaw" (7 : Nat) ({ cls := "DiveChairs", name := "element", desc := "(II)J" } : Jvm.MethodName)) ∈ zGW := zt5 105 (by decide +kernel) rfl
theorem zw_973 : (Jvm.Cond.instanceMethod ({ cls := "DiveChairs", name := "element", desc := "(II)J" } : Jvm.MethodName)) ∈ zGW := zt5 106 (by decide +kernel) rfl
theorem zw_974 : (Jvm.Cond.selects "DiveChairs" ({ cls := "DiveChairs", name := "element", desc := "(II)J" } : Jvm.MethodName) ({ cls := "DiveChairs", name := "element", desc := "(II)J" } : Jvm.MethodName)) ∈ zGW := zt5 107 (by decide +kernel) rfl
theorem zw_975 : (Jvm.Cond.code ({ cls := "DiveChairs", name := "element", desc := "(II)J" } : Jvm.MethodName) prog_1_method_36_code (4 : Nat) (Option.some Jvm.ClassFile.FieldType.long)) ∈ zGW := zt5 108 (by decide +kernel) rfl
theorem zw_976 : (Jvm.Cond.classLink "DiveChairs" (318 : Nat) "java/lang/IllegalArgumentException") ∈ zGW := zt5 109 (by decide +kernel) rfl
theorem zw_977 : (Jvm.Cond.instantiable "java/lang/IllegalArgumentException" (6 : Nat)) ∈ zGW := zt5 110 (by decide +kernel) rfl
theorem zx_978 : (Jvm.Cond.castable "java/lang/IllegalArgumentException" "java/lang/IllegalArgumentException") ∈ lw_tbl := zn5 111 (by decide +kernel)
theorem zw_979 : (Jvm.Cond.selects "java/lang/IllegalArgumentException" ({ cls := "java/lang/Throwable", name := "fillInStackTrace", desc := "(I)Ljava/lang/Throwable;" } : Jvm.MethodName) ({ cls := "java/lang/Throwable", name := "fillInStackTrace", desc := "(I)Ljava/lang/Throwable;" } : Jvm.MethodName)) ∈ zGW := zt5 112 (by decide +kernel) rfl
theorem zw_980 : (Jvm.Cond.lays "java/lang/IllegalArgumentException" "java/lang/Throwable" "cause" "Ljava/lang/Throwable;") ∈ zGW := zt5 113 (by decide +kernel) rfl
theorem zw_981 : (Jvm.Cond.lays "java/lang/IllegalArgumentException" "java/lang/Throwable" "stackTrace" "[Ljava/lang/StackTraceElement;") ∈ zGW := zt5 114 (by decide +kernel) rfl
theorem zw_982 : (Jvm.Cond.lays "java/lang/IllegalArgumentException" "java/lang/Throwable" "suppressedExceptions" "Ljava/util/List;") ∈ zGW := zt5 115 (by decide +kernel) rfl
theorem zw_983 : (Jvm.Cond.lays "java/lang/IllegalArgumentException" "java/lang/Throwable" "detailMessage" "Ljava/lang/String;") ∈ zGW := zt5 116 (by decide +kernel) rfl
theorem zw_984 : (Jvm.Cond.lays "java/lang/IllegalArgumentException" "java/lang/Throwable" "backtrace" "Ljava/lang/Object;") ∈ zGW := zt5 117 (by decide +kernel) rfl
theorem zx_985 : (Jvm.Cond.stringRef "DiveChairs" (320 : Nat) "no such shelf") ∈ lw_tbl := zn5 118 (by decide +kernel)
theorem zw_986 : (Jvm.Cond.methodLink "DiveChairs" (322 : Nat) ({ cls := "java/lang/IllegalArgumentException", name := "<init>", desc := "(Ljava/lang/String;)V" } : Jvm.MethodName)) ∈ zGW := zt5 119 (by decide +kernel) rfl
theorem zw_987 : (Jvm.Cond.instanceMethod ({ cls := "java/lang/IllegalArgumentException", name := "<init>", desc := "(Ljava/lang/String;)V" } : Jvm.MethodName)) ∈ zGW := zt5 120 (by decide +kernel) rfl
theorem zw_988 : (Jvm.Cond.code ({ cls := "java/lang/IllegalArgumentException", name := "<init>", desc := "(Ljava/lang/String;)V" } : Jvm.MethodName) prog_16_method_2_code (2 : Nat) (Option.none : Option Jvm.ClassFile.FieldType)) ∈ zGW := zt5 121 (by decide +kernel) rfl
theorem zw_989 : (Jvm.Cond.methodLink "java/lang/IllegalArgumentException" (7 : Nat) ({ cls := "java/lang/RuntimeException", name := "<init>", desc := "(Ljava/lang/String;)V" } : Jvm.MethodName)) ∈ zGW := zt5 122 (by decide +kernel) rfl
theorem zw_990 : (Jvm.Cond.lays "java/lang/IllegalArgumentException" "java/lang/Throwable" "depth" "I") ∈ zGW := zt5 123 (by decide +kernel) rfl
theorem zw_991 : (Jvm.Cond.superclass "java/lang/IllegalArgumentException" "java/lang/RuntimeException") ∈ zGW := zt5 124 (by decide +kernel) rfl
theorem zx_992 : (Jvm.Cond.stringRef "DiveChairs" (327 : Nat) "no row or no such place") ∈ lw_tbl := zn5 125 (by decide +kernel)
theorem zw_993 : (Jvm.Cond.methodLink "DiveChairs" (329 : Nat) ({ cls := "java/lang/IllegalStateException", name := "<init>", desc := "(Ljava/lang/String;)V" } : Jvm.MethodName)) ∈ zGW := zt5 126 (by decide +kernel) rfl
theorem zw_994 : (Jvm.Cond.classLink "DiveChairsLaw" (18 : Nat) "DiveChairsModel") ∈ zGW := zt5 127 (by decide +kernel) rfl
theorem zw_995 : (Jvm.Cond.instantiable "DiveChairsModel" (50 : Nat)) ∈ zGW := zt5 128 (by decide +kernel) rfl
theorem zw_996 : (Jvm.Cond.methodLink "DiveChairsLaw" (20 : Nat) ({ cls := "DiveChairsModel", name := "<init>", desc := "()V" } : Jvm.MethodName)) ∈ zGW := zt5 129 (by decide +kernel) rfl
theorem zw_997 : (Jvm.Cond.instanceMethod ({ cls := "DiveChairsModel", name := "<init>", desc := "()V" } : Jvm.MethodName)) ∈ zGW := zt5 130 (by decide +kernel) rfl
theorem zw_998 : (Jvm.Cond.code ({ cls := "DiveChairsModel", name := "<init>", desc := "()V" } : Jvm.MethodName) prog_14_method_1_code (2 : Nat) (Option.none : Option Jvm.ClassFile.FieldType)) ∈ zGW := zt5 131 (by decide +kernel) rfl
theorem zw_999 : (Jvm.Cond.methodLink "DiveChairsModel" (1 : Nat) ({ cls := "java/lang/Object", name := "<init>", desc := "()V" } : Jvm.MethodName)) ∈ zGW := zt5 132 (by decide +kernel) rfl
theorem zw_1000 : (Jvm.Cond.fieldLink "DiveChairsModel" (9 : Nat) "DiveChairsModel" "s" "[I") ∈ zGW := zt5 133 (by decide +kernel) rfl
theorem zw_1001 : (Jvm.Cond.fieldLink "DiveChairsModel" (13 : Nat) "DiveChairsModel" "image" "[I") ∈ zGW := zt5 134 (by decide +kernel) rfl
theorem zw_1002 : (Jvm.Cond.fieldLink "DiveChairsModel" (16 : Nat) "DiveChairsModel" "kept" "[I") ∈ zGW := zt5 135 (by decide +kernel) rfl
theorem zw_1003 : (Jvm.Cond.fieldLink "DiveChairsModel" (19 : Nat) "DiveChairsModel" "sort" "[I") ∈ zGW := zt5 136 (by decide +kernel) rfl
theorem zw_1004 : (Jvm.Cond.fieldLink "DiveChairsModel" (22 : Nat) "DiveChairsModel" "size" "[I") ∈ zGW := zt5 137 (by decide +kernel) rfl
theorem zw_1005 : (Jvm.Cond.fieldLink "DiveChairsModel" (25 : Nat) "DiveChairsModel" "element" "[I") ∈ zGW := zt5 138 (by decide +kernel) rfl
theorem zw_1006 : (Jvm.Cond.fieldLink "DiveChairsModel" (28 : Nat) "DiveChairsModel" "keptWeight" "[I") ∈ zGW := zt5 139 (by decide +kernel) rfl
theorem zw_1007 : (Jvm.Cond.fieldLink "DiveChairsModel" (31 : Nat) "DiveChairsModel" "keptToss" "[I") ∈ zGW := zt5 140 (by decide +kernel) rfl
theorem zw_1008 : (Jvm.Cond.fieldLink "DiveChairsModel" (380 : Nat) "DiveChairsModel" "hasImage" "Z") ∈ zGW := zt5 141 (by decide +kernel) rfl
theorem zw_1009 : (Jvm.Cond.fieldLink "DiveChairsModel" (66 : Nat) "DiveChairsModel" "thrown" "I") ∈ zGW := zt5 142 (by decide +kernel) rfl
theorem zw_1010 : (Jvm.Cond.fieldLink "DiveChairsModel" (34 : Nat) "DiveChairsModel" "row" "[I") ∈ zGW := zt5 143 (by decide +kernel) rfl
theorem zw_1011 : (Jvm.Cond.fieldLink "DiveChairsModel" (128 : Nat) "DiveChairsModel" "rowed" "I") ∈ zGW := zt5 144 (by decide +kernel) rfl
theorem zw_1012 : (Jvm.Cond.fieldLink "DiveChairsModel" (165 : Nat) "DiveChairsModel" "pos" "I") ∈ zGW := zt5 145 (by decide +kernel) rfl
theorem zw_1013 : (Jvm.Cond.fieldLink "DiveChairsModel" (171 : Nat) "DiveChairsModel" "base" "I") ∈ zGW := zt5 146 (by decide +kernel) rfl
theorem zw_1014 : (Jvm.Cond.fieldLink "DiveChairsModel" (168 : Nat) "DiveChairsModel" "end" "I") ∈ zGW := zt5 147 (by decide +kernel) rfl
theorem zw_1015 : (Jvm.Cond.fieldLink "DiveChairsModel" (195 : Nat) "DiveChairsModel" "deep" "I") ∈ zGW := zt5 148 (by decide +kernel) rfl
theorem zw_1016 : (Jvm.Cond.fieldLink "DiveChairsModel" (182 : Nat) "DiveChairsModel" "number" "I") ∈ zGW := zt5 149 (by decide +kernel) rfl
theorem zw_1017 : (Jvm.Cond.fieldLink "DiveChairsModel" (37 : Nat) "DiveChairsModel" "text" "[I") ∈ zGW := zt5 150 (by decide +kernel) rfl
theorem zw_1018 : (Jvm.Cond.fieldLink "DiveChairsModel" (213 : Nat) "DiveChairsModel" "one" "I") ∈ zGW := zt5 151 (by decide +kernel) rfl
theorem zw_1019 : (Jvm.Cond.fieldLink "DiveChairsModel" (216 : Nat) "DiveChairsModel" "two" "I") ∈ zGW := zt5 152 (by decide +kernel) rfl
theorem zw_1020 : (Jvm.Cond.fieldLink "DiveChairsModel" (207 : Nat) "DiveChairsModel" "from" "I") ∈ zGW := zt5 153 (by decide +kernel) rfl
theorem zw_1021 : (Jvm.Cond.fieldLink "DiveChairsModel" (210 : Nat) "DiveChairsModel" "to" "I") ∈ zGW := zt5 154 (by decide +kernel) rfl
theorem zw_1022 : (Jvm.Cond.fieldLink "DiveChairsModel" (234 : Nat) "DiveChairsModel" "sum" "I") ∈ zGW := zt5 155 (by decide +kernel) rfl
theorem zw_1023 : (Jvm.Cond.fieldLink "DiveChairsModel" (237 : Nat) "DiveChairsModel" "many" "I") ∈ zGW := zt5 156 (by decide +kernel) rfl
theorem zw_1024 : (Jvm.Cond.fieldLink "DiveChairsModel" (240 : Nat) "DiveChairsModel" "hard" "I") ∈ zGW := zt5 157 (by decide +kernel) rfl
theorem zw_1025 : (Jvm.Cond.fieldLink "DiveChairsModel" (243 : Nat) "DiveChairsModel" "middle" "I") ∈ zGW := zt5 158 (by decide +kernel) rfl
theorem zw_1026 : (Jvm.Cond.fieldLink "DiveChairsModel" (246 : Nat) "DiveChairsModel" "highest" "I") ∈ zGW := zt5 159 (by decide +kernel) rfl
theorem zw_1027 : (Jvm.Cond.fieldLink "DiveChairsModel" (249 : Nat) "DiveChairsModel" "lowest" "I") ∈ zGW := zt5 160 (by decide +kernel) rfl
theorem zw_1028 : (Jvm.Cond.fieldLink "DiveChairsModel" (252 : Nat) "DiveChairsModel" "splash" "I") ∈ zGW := zt5 161 (by decide +kernel) rfl
theorem zw_1029 : (Jvm.Cond.fieldLink "DiveChairsModel" (40 : Nat) "DiveChairsModel" "without" "I") ∈ zGW := zt5 162 (by decide +kernel) rfl
theorem zw_1030 : (Jvm.Cond.fieldLink "DiveChairsModel" (259 : Nat) "DiveChairsModel" "dropHigh" "I") ∈ zGW := zt5 163 (by decide +kernel) rfl
theorem zw_1031 : (Jvm.Cond.fieldLink "DiveChairsModel" (262 : Nat) "DiveChairsModel" "dropLow" "I") ∈ zGW := zt5 164 (by decide +kernel) rfl
theorem zw_1032 : (Jvm.Cond.fieldLink "DiveChairsModel" (255 : Nat) "DiveChairsModel" "leansOff" "Z") ∈ zGW := zt5 165 (by decide +kernel) rfl
theorem zw_1033 : (Jvm.Cond.fieldLink "DiveChairsModel" (268 : Nat) "DiveChairsModel" "movers" "I") ∈ zGW := zt5 166 (by decide +kernel) rfl
theorem zw_1034 : (Jvm.Cond.fieldLink "DiveChairsModel" (44 : Nat) "DiveChairsModel" "mover" "I") ∈ zGW := zt5 167 (by decide +kernel) rfl
theorem zw_1035 : (Jvm.Cond.fieldLink "DiveChairsModel" (306 : Nat) "DiveChairsModel" "leanSum" "I") ∈ zGW := zt5 168 (by decide +kernel) rfl
theorem zw_1036 : (Jvm.Cond.fieldLink "DiveChairsModel" (309 : Nat) "DiveChairsModel" "leanMany" "I") ∈ zGW := zt5 169 (by decide +kernel) rfl
theorem zw_1037 : (Jvm.Cond.fieldLink "DiveChairsModel" (315 : Nat) "DiveChairsModel" "leanLeast" "I") ∈ zGW := zt5 170 (by decide +kernel) rfl
theorem zw_1038 : (Jvm.Cond.fieldLink "DiveChairsModel" (318 : Nat) "DiveChairsModel" "leanMost" "I") ∈ zGW := zt5 171 (by decide +kernel) rfl
theorem zw_1039 : (Jvm.Cond.fieldLink "DiveChairsModel" (47 : Nat) "DiveChairsModel" "sums" "[I") ∈ zGW := zt5 172 (by decide +kernel) rfl
theorem zw_1040 : (Jvm.Cond.fieldLink "DiveChairsModel" (50 : Nat) "DiveChairsModel" "lands" "[I") ∈ zGW := zt5 173 (by decide +kernel) rfl
theorem zw_1041 : (Jvm.Cond.fieldLink "DiveChairsModel" (53 : Nat) "DiveChairsModel" "together" "[Z") ∈ zGW := zt5 174 (by decide +kernel) rfl
theorem zw_1042 : (Jvm.Cond.fieldLink "DiveChairsModel" (335 : Nat) "DiveChairsModel" "ways" "I") ∈ zGW := zt5 175 (by decide +kernel) rfl
theorem zw_1043 : (Jvm.Cond.fieldLink "DiveChairsModel" (338 : Nat) "DiveChairsModel" "asMany" "I") ∈ zGW := zt5 176 (by decide +kernel) rfl
theorem zw_1044 : (Jvm.Cond.fieldLink "DiveChairsModel" (57 : Nat) "DiveChairsModel" "counted" "[I") ∈ zGW := zt5 177 (by decide +kernel) rfl
theorem zw_1045 : (Jvm.Cond.fieldLink "DiveChairsModel" (60 : Nat) "DiveChairsModel" "orderOf" "[I") ∈ zGW := zt5 178 (by decide +kernel) rfl
theorem zw_1046 : (Jvm.Cond.fieldLink "DiveChairsModel" (345 : Nat) "DiveChairsModel" "countedMany" "I") ∈ zGW := zt5 179 (by decide +kernel) rfl
theorem zw_1047 : (Jvm.Cond.fieldLink "DiveChairsModel" (360 : Nat) "DiveChairsModel" "nearSum" "I") ∈ zGW := zt5 180 (by decide +kernel) rfl
theorem zw_1048 : (Jvm.Cond.fieldLink "DiveChairsModel" (363 : Nat) "DiveChairsModel" "nearMany" "I") ∈ zGW := zt5 181 (by decide +kernel) rfl
theorem zw_1049 : (Jvm.Cond.fieldLink "DiveChairsModel" (63 : Nat) "DiveChairsModel" "saved" "[I") ∈ zGW := zt5 182 (by decide +kernel) rfl
theorem zw_1050 : (Jvm.Cond.laysFinal "DiveChairsModel" "DiveChairsModel" "s" "[I") ∈ zGW := zt5 183 (by decide +kernel) rfl
theorem zw_1051 : (Jvm.Cond.laysFinal "DiveChairsModel" "DiveChairsModel" "image" "[I") ∈ zGW := zt5 185 (by decide +kernel) rfl
theorem zw_1052 : (Jvm.Cond.laysFinal "DiveChairsModel" "DiveChairsModel" "kept" "[I") ∈ zGW := zt5 187 (by decide +kernel) rfl
theorem zw_1053 : (Jvm.Cond.laysFinal "DiveChairsModel" "DiveChairsModel" "sort" "[I") ∈ zGW := zt5 189 (by decide +kernel) rfl
theorem zw_1054 : (Jvm.Cond.laysFinal "DiveChairsModel" "DiveChairsModel" "size" "[I") ∈ zGW := zt5 191 (by decide +kernel) rfl
theorem zw_1055 : (Jvm.Cond.laysFinal "DiveChairsModel" "DiveChairsModel" "element" "[I") ∈ zGW := zt5 193 (by decide +kernel) rfl
theorem zw_1056 : (Jvm.Cond.laysFinal "DiveChairsModel" "DiveChairsModel" "keptWeight" "[I") ∈ zGW := zt5 195 (by decide +kernel) rfl
theorem zw_1057 : (Jvm.Cond.laysFinal "DiveChairsModel" "DiveChairsModel" "keptToss" "[I") ∈ zGW := zt5 197 (by decide +kernel) rfl
theorem zw_1058 : (Jvm.Cond.lays "DiveChairsModel" "DiveChairsModel" "hasImage" "Z") ∈ zGW := zt5 199 (by decide +kernel) rfl
theorem zw_1059 : (Jvm.Cond.lays "DiveChairsModel" "DiveChairsModel" "thrown" "I") ∈ zGW := zt5 201 (by decide +kernel) rfl
theorem zw_1060 : (Jvm.Cond.laysFinal "DiveChairsModel" "DiveChairsModel" "row" "[I") ∈ zGW := zt5 203 (by decide +kernel) rfl
theorem zw_1061 : (Jvm.Cond.lays "DiveChairsModel" "DiveChairsModel" "rowed" "I") ∈ zGW := zt5 205 (by decide +kernel) rfl
theorem zw_1062 : (Jvm.Cond.lays "DiveChairsModel" "DiveChairsModel" "pos" "I") ∈ zGW := zt5 207 (by decide +kernel) rfl
theorem zw_1063 : (Jvm.Cond.lays "DiveChairsModel" "DiveChairsModel" "base" "I") ∈ zGW := zt5 209 (by decide +kernel) rfl
theorem zw_1064 : (Jvm.Cond.lays "DiveChairsModel" "DiveChairsModel" "end" "I") ∈ zGW := zt5 211 (by decide +kernel) rfl
theorem zw_1065 : (Jvm.Cond.lays "DiveChairsModel" "DiveChairsModel" "deep" "I") ∈ zGW := zt5 213 (by decide +kernel) rfl
theorem zw_1066 : (Jvm.Cond.lays "DiveChairsModel" "DiveChairsModel" "number" "I") ∈ zGW := zt5 215 (by decide +kernel) rfl
theorem zw_1067 : (Jvm.Cond.lays "DiveChairsModel" "DiveChairsModel" "text" "[I") ∈ zGW := zt5 217 (by decide +kernel) rfl
theorem zw_1068 : (Jvm.Cond.lays "DiveChairsModel" "DiveChairsModel" "one" "I") ∈ zGW := zt5 219 (by decide +kernel) rfl
theorem zw_1069 : (Jvm.Cond.lays "DiveChairsModel" "DiveChairsModel" "two" "I") ∈ zGW := zt5 221 (by decide +kernel) rfl
theorem zw_1070 : (Jvm.Cond.lays "DiveChairsModel" "DiveChairsModel" "from" "I") ∈ zGW := zt5 223 (by decide +kernel) rfl
theorem zw_1071 : (Jvm.Cond.lays "DiveChairsModel" "DiveChairsModel" "to" "I") ∈ zGW := zt5 225 (by decide +kernel) rfl
theorem zw_1072 : (Jvm.Cond.lays "DiveChairsModel" "DiveChairsModel" "sum" "I") ∈ zGW := zt5 227 (by decide +kernel) rfl
theorem zw_1073 : (Jvm.Cond.lays "DiveChairsModel" "DiveChairsModel" "many" "I") ∈ zGW := zt5 229 (by decide +kernel) rfl
theorem zw_1074 : (Jvm.Cond.lays "DiveChairsModel" "DiveChairsModel" "hard" "I") ∈ zGW := zt5 231 (by decide +kernel) rfl
theorem zw_1075 : (Jvm.Cond.lays "DiveChairsModel" "DiveChairsModel" "middle" "I") ∈ zGW := zt5 233 (by decide +kernel) rfl
theorem zw_1076 : (Jvm.Cond.lays "DiveChairsModel" "DiveChairsModel" "highest" "I") ∈ zGW := zt5 235 (by decide +kernel) rfl
theorem zw_1077 : (Jvm.Cond.lays "DiveChairsModel" "DiveChairsModel" "lowest" "I") ∈ zGW := zt5 237 (by decide +kernel) rfl
theorem zw_1078 : (Jvm.Cond.lays "DiveChairsModel" "DiveChairsModel" "splash" "I") ∈ zGW := zt5 239 (by decide +kernel) rfl
theorem zw_1079 : (Jvm.Cond.lays "DiveChairsModel" "DiveChairsModel" "without" "I") ∈ zGW := zt6 1 (by decide +kernel) rfl
theorem zw_1080 : (Jvm.Cond.lays "DiveChairsModel" "DiveChairsModel" "dropHigh" "I") ∈ zGW := zt6 3 (by decide +kernel) rfl
theorem zw_1081 : (Jvm.Cond.lays "DiveChairsModel" "DiveChairsModel" "dropLow" "I") ∈ zGW := zt6 5 (by decide +kernel) rfl
theorem zw_1082 : (Jvm.Cond.lays "DiveChairsModel" "DiveChairsModel" "leansOff" "Z") ∈ zGW := zt6 7 (by decide +kernel) rfl
theorem zw_1083 : (Jvm.Cond.lays "DiveChairsModel" "DiveChairsModel" "movers" "I") ∈ zGW := zt6 9 (by decide +kernel) rfl
theorem zw_1084 : (Jvm.Cond.lays "DiveChairsModel" "DiveChairsModel" "mover" "I") ∈ zGW := zt6 11 (by decide +kernel) rfl
theorem zw_1085 : (Jvm.Cond.lays "DiveChairsModel" "DiveChairsModel" "leanSum" "I") ∈ zGW := zt6 13 (by decide +kernel) rfl
theorem zw_1086 : (Jvm.Cond.lays "DiveChairsModel" "DiveChairsModel" "leanMany" "I") ∈ zGW := zt6 15 (by decide +kernel) rfl
theorem zw_1087 : (Jvm.Cond.lays "DiveChairsModel" "DiveChairsModel" "leanLeast" "I") ∈ zGW := zt6 17 (by decide +kernel) rfl
theorem zw_1088 : (Jvm.Cond.lays "DiveChairsModel" "DiveChairsModel" "leanMost" "I") ∈ zGW := zt6 19 (by decide +kernel) rfl
theorem zw_1089 : (Jvm.Cond.laysFinal "DiveChairsModel" "DiveChairsModel" "sums" "[I") ∈ zGW := zt6 21 (by decide +kernel) rfl
theorem zw_1090 : (Jvm.Cond.laysFinal "DiveChairsModel" "DiveChairsModel" "lands" "[I") ∈ zGW := zt6 23 (by decide +kernel) rfl
theorem zw_1091 : (Jvm.Cond.laysFinal "DiveChairsModel" "DiveChairsModel" "together" "[Z") ∈ zGW := zt6 25 (by decide +kernel) rfl
theorem zw_1092 : (Jvm.Cond.lays "DiveChairsModel" "DiveChairsModel" "ways" "I") ∈ zGW := zt6 27 (by decide +kernel) rfl
theorem zw_1093 : (Jvm.Cond.lays "DiveChairsModel" "DiveChairsModel" "asMany" "I") ∈ zGW := zt6 29 (by decide +kernel) rfl
theorem zw_1094 : (Jvm.Cond.laysFinal "DiveChairsModel" "DiveChairsModel" "counted" "[I") ∈ zGW := zt6 31 (by decide +kernel) rfl
theorem zw_1095 : (Jvm.Cond.laysFinal "DiveChairsModel" "DiveChairsModel" "orderOf" "[I") ∈ zGW := zt6 33 (by decide +kernel) rfl
theorem zw_1096 : (Jvm.Cond.lays "DiveChairsModel" "DiveChairsModel" "countedMany" "I") ∈ zGW := zt6 35 (by decide +kernel) rfl
theorem zw_1097 : (Jvm.Cond.lays "DiveChairsModel" "DiveChairsModel" "nearSum" "I") ∈ zGW := zt6 37 (by decide +kernel) rfl
theorem zw_1098 : (Jvm.Cond.lays "DiveChairsModel" "DiveChairsModel" "nearMany" "I") ∈ zGW := zt6 39 (by decide +kernel) rfl
theorem zw_1099 : (Jvm.Cond.laysFinal "DiveChairsModel" "DiveChairsModel" "saved" "[I") ∈ zGW := zt6 41 (by decide +kernel) rfl
theorem zw_1100 : (Jvm.Cond.superclass "DiveChairsModel" "java/lang/Object") ∈ zGW := zt6 43 (by decide +kernel) rfl
theorem zw_1101 : (Jvm.Cond.arrayClass Jvm.ClassFile.FieldType.boolean) ∈ zGW := zt6 44 (by decide +kernel) rfl
theorem zw_1102 : (Jvm.Cond.methodLink "DiveChairsLaw" (168 : Nat) ({ cls := "DiveChairsModel", name := "thrown", desc := "()I" } : Jvm.MethodName)) ∈ zGW := zt6 45 (by decide +kernel) rfl
theorem zw_1103 : (Jvm.Cond.instanceMethod ({ cls := "DiveChairsModel", name := "thrown", desc := "()I" } : Jvm.MethodName)) ∈ zGW := zt6 46 (by decide +kernel) rfl
theorem zw_1104 : (Jvm.Cond.selects "DiveChairsModel" ({ cls := "DiveChairsModel", name := "thrown", desc := "()I" } : Jvm.MethodName) ({ cls := "DiveChairsModel", name := "thrown", desc := "()I" } : Jvm.MethodName)) ∈ zGW := zt6 47 (by decide +kernel) rfl
theorem zw_1105 : (Jvm.Cond.code ({ cls := "DiveChairsModel", name := "thrown", desc := "()I" } : Jvm.MethodName) prog_14_method_2_code (1 : Nat) (Option.some Jvm.ClassFile.FieldType.int)) ∈ zGW := zt6 48 (by decide +kernel) rfl
theorem zw_1106 : (Jvm.Cond.methodLink "DiveChairsLaw" (25 : Nat) ({ cls := "DiveChairsModel", name := "diver", desc := "(II)I" } : Jvm.MethodName)) ∈ zGW := zt6 49 (by decide +kernel) rfl
theorem zw_1107 : (Jvm.Cond.instanceMethod ({ cls := "DiveChairsModel", name := "diver", desc := "(II)I" } : Jvm.MethodName)) ∈ zGW := zt6 50 (by decide +kernel) rfl
theorem zw_1108 : (Jvm.Cond.selects "DiveChairsModel" ({ cls := "DiveChairsModel", name := "diver", desc := "(II)I" } : Jvm.MethodName) ({ cls := "DiveChairsModel", name := "diver", desc := "(II)I" } : Jvm.MethodName)) ∈ zGW := zt6 51 (by decide +kernel) rfl
theorem zw_1109 : (Jvm.Cond.code ({ cls := "DiveChairsModel", name := "diver", desc := "(II)I" } : Jvm.MethodName) prog_14_method_12_code (3 : Nat) (Option.some Jvm.ClassFile.FieldType.int)) ∈ zGW := zt6 52 (by decide +kernel) rfl
theorem zw_1110 : (Jvm.Cond.constantLong "DiveChairsModel" (73 : Nat) (5 : Int64)) ∈ zGW := zt6 53 (by decide +kernel) rfl
theorem zw_1111 : (Jvm.Cond.methodLink "DiveChairsModel" (69 : Nat) ({ cls := "DiveChairsModel", name := "isIn", desc := "(JJJ)Z" } : Jvm.MethodName)) ∈ zGW := zt6 54 (by decide +kernel) rfl
theorem zw_1112 : (Jvm.Cond.static ({ cls := "DiveChairsModel", name := "isIn", desc := "(JJJ)Z" } : Jvm.MethodName)) ∈ zGW := zt6 55 (by decide +kernel) rfl
theorem zw_1113 : (Jvm.Cond.code ({ cls := "DiveChairsModel", name := "isIn", desc := "(JJJ)Z" } : Jvm.MethodName) prog_14_method_3_code (6 : Nat) (Option.some Jvm.ClassFile.FieldType.boolean)) ∈ zGW := zt6 56 (by decide +kernel) rfl
theorem zw_1114 : (Jvm.Cond.constantLong "DiveChairsModel" (79 : Nat) (9 : Int64)) ∈ zGW := zt6 57 (by decide +kernel) rfl
theorem zw_1115 : (Jvm.Cond.methodLink "DiveChairsLaw" (29 : Nat) ({ cls := "DiveChairsModel", name := "judge", desc := "(II)I" } : Jvm.MethodName)) ∈ zGW := zt6 58 (by decide +kernel) rfl
theorem zw_1116 : (Jvm.Cond.instanceMethod ({ cls := "DiveChairsModel", name := "judge", desc := "(II)I" } : Jvm.MethodName)) ∈ zGW := zt6 59 (by decide +kernel) rfl
theorem zw_1117 : (Jvm.Cond.selects "DiveChairsModel" ({ cls := "DiveChairsModel", name := "judge", desc := "(II)I" } : Jvm.MethodName) ({ cls := "DiveChairsModel", name := "judge", desc := "(II)I" } : Jvm.MethodName)) ∈ zGW := zt6 60 (by decide +kernel) rfl
theorem zw_1118 : (Jvm.Cond.code ({ cls := "DiveChairsModel", name := "judge", desc := "(II)I" } : Jvm.MethodName) prog_14_method_13_code (4 : Nat) (Option.some Jvm.ClassFile.FieldType.int)) ∈ zGW := zt6 61 (by decide +kernel) rfl
theorem zw_1119 : (Jvm.Cond.constantLong "DiveChairsModel" (77 : Nat) (7 : Int64)) ∈ zGW := zt6 62 (by decide +kernel) rfl
theorem zw_1120 : (Jvm.Cond.constantLong "DiveChairsModel" (81 : Nat) (599 : Int64)) ∈ zGW := zt6 63 (by decide +kernel) rfl
theorem zw_1121 : (Jvm.Cond.methodLink "DiveChairsLaw" (33 : Nat) ({ cls := "DiveChairsModel", name := "year", desc := "(II)I" } : Jvm.MethodName)) ∈ zGW := zt6 64 (by decide +kernel) rfl
theorem zw_1122 : (Jvm.Cond.instanceMethod ({ cls := "DiveChairsModel", name := "year", desc := "(II)I" } : Jvm.MethodName)) ∈ zGW := zt6 65 (by decide +kernel) rfl
theorem zw_1123 : (Jvm.Cond.selects "DiveChairsModel" ({ cls := "DiveChairsModel", name := "year", desc := "(II)I" } : Jvm.MethodName) ({ cls := "DiveChairsModel", name := "year", desc := "(II)I" } : Jvm.MethodName)) ∈ zGW := zt6 66 (by decide +kernel) rfl
theorem zw_1124 : (Jvm.Cond.code ({ cls := "DiveChairsModel", name := "year", desc := "(II)I" } : Jvm.MethodName) prog_14_method_14_code (3 : Nat) (Option.some Jvm.ClassFile.FieldType.int)) ∈ zGW := zt6 67 (by decide +kernel) rfl
theorem zw_1125 : (Jvm.Cond.methodLink "DiveChairsModel" (83 : Nat) ({ cls := "DiveChairsModel", name := "isHall", desc := "(I)Z" } : Jvm.MethodName)) ∈ zGW := zt6 68 (by decide +kernel) rfl
theorem zw_1126 : (Jvm.Cond.static ({ cls := "DiveChairsModel", name := "isHall", desc := "(I)Z" } : Jvm.MethodName)) ∈ zGW := zt6 69 (by decide +kernel) rfl
theorem zw_1127 : (Jvm.Cond.code ({ cls := "DiveChairsModel", name := "isHall", desc := "(I)Z" } : Jvm.MethodName) prog_14_method_7_code (1 : Nat) (Option.some Jvm.ClassFile.FieldType.boolean)) ∈ zGW := zt6 70 (by decide +kernel) rfl
theorem zw_1128 : (Jvm.Cond.constantLong "DiveChairsModel" (87 : Nat) (40 : Int64)) ∈ zGW := zt6 71 (by decide +kernel) rfl
theorem zw_1129 : (Jvm.Cond.methodLink "DiveChairsModel" (89 : Nat) ({ cls := "DiveChairsModel", name := "becomes", desc := "(II)I" } : Jvm.MethodName)) ∈ zGW := zt6 72 (by decide +kernel) rfl
theorem zw_1130 : (Jvm.Cond.instanceMethod ({ cls := "DiveChairsModel", name := "becomes", desc := "(II)I" } : Jvm.MethodName)) ∈ zGW := zt6 74 (by decide +kernel) rfl
theorem zw_1131 : (Jvm.Cond.code ({ cls := "DiveChairsModel", name := "becomes", desc := "(II)I" } : Jvm.MethodName) prog_14_method_11_code (4 : Nat) (Option.some Jvm.ClassFile.FieldType.int)) ∈ zGW := zt6 75 (by decide +kernel) rfl
theorem zw_1132 : (Jvm.Cond.methodLink "DiveChairsLaw" (38 : Nat) ({ cls := "DiveChairsModel", name := "chair", desc := "(III)I" } : Jvm.MethodName)) ∈ zGW := zt6 76 (by decide +kernel) rfl
theorem zw_1133 : (Jvm.Cond.instanceMethod ({ cls := "DiveChairsModel", name := "chair", desc := "(III)I" } : Jvm.MethodName)) ∈ zGW := zt6 77 (by decide +kernel) rfl
theorem zw_1134 : (Jvm.Cond.selects "DiveChairsModel" ({ cls := "DiveChairsModel", name := "chair", desc := "(III)I" } : Jvm.MethodName) ({ cls := "DiveChairsModel", name := "chair", desc := "(III)I" } : Jvm.MethodName)) ∈ zGW := zt6 78 (by decide +kernel) rfl
theorem zw_1135 : (Jvm.Cond.code ({ cls := "DiveChairsModel", name := "chair", desc := "(III)I" } : Jvm.MethodName) prog_14_method_16_code (5 : Nat) (Option.some Jvm.ClassFile.FieldType.int)) ∈ zGW := zt6 79 (by decide +kernel) rfl
theorem zw_1136 : (Jvm.Cond.methodLink "DiveChairsModel" (93 : Nat) ({ cls := "DiveChairsModel", name := "isChair", desc := "(I)Z" } : Jvm.MethodName)) ∈ zGW := zt6 80 (by decide +kernel) rfl
theorem zw_1137 : (Jvm.Cond.static ({ cls := "DiveChairsModel", name := "isChair", desc := "(I)Z" } : Jvm.MethodName)) ∈ zGW := zt6 81 (by decide +kernel) rfl
theorem zw_1138 : (Jvm.Cond.code ({ cls := "DiveChairsModel", name := "isChair", desc := "(I)Z" } : Jvm.MethodName) prog_14_method_8_code (1 : Nat) (Option.some Jvm.ClassFile.FieldType.boolean)) ∈ zGW := zt6 82 (by decide +kernel) rfl
theorem zw_1139 : (Jvm.Cond.constantLong "DiveChairsModel" (75 : Nat) (6 : Int64)) ∈ zGW := zt6 83 (by decide +kernel) rfl
theorem zw_1140 : (Jvm.Cond.methodLink "DiveChairsModel" (96 : Nat) ({ cls := "DiveChairsModel", name := "isJudge", desc := "(I)Z" } : Jvm.MethodName)) ∈ zGW := zt6 84 (by decide +kernel) rfl
theorem zw_1141 : (Jvm.Cond.instanceMethod ({ cls := "DiveChairsModel", name := "isJudge", desc := "(I)Z" } : Jvm.MethodName)) ∈ zGW := zt6 86 (by decide +kernel) rfl
theorem zw_1142 : (Jvm.Cond.code ({ cls := "DiveChairsModel", name := "isJudge", desc := "(I)Z" } : Jvm.MethodName) prog_14_method_5_code (2 : Nat) (Option.some Jvm.ClassFile.FieldType.boolean)) ∈ zGW := zt6 87 (by decide +kernel) rfl
theorem zw_1143 : (Jvm.Cond.methodLink "DiveChairsModel" (99 : Nat) ({ cls := "DiveChairsModel", name := "onChair", desc := "(II)I" } : Jvm.MethodName)) ∈ zGW := zt6 88 (by decide +kernel) rfl
theorem zw_1144 : (Jvm.Cond.instanceMethod ({ cls := "DiveChairsModel", name := "onChair", desc := "(II)I" } : Jvm.MethodName)) ∈ zGW := zt6 90 (by decide +kernel) rfl
theorem zw_1145 : (Jvm.Cond.code ({ cls := "DiveChairsModel", name := "onChair", desc := "(II)I" } : Jvm.MethodName) prog_14_method_15_code (3 : Nat) (Option.some Jvm.ClassFile.FieldType.int)) ∈ zGW := zt6 91 (by decide +kernel) rfl
theorem zw_1146 : (Jvm.Cond.methodLink "DiveChairsLaw" (43 : Nat) ({ cls := "DiveChairsModel", name := "dive", desc := "(IIII)I" } : Jvm.MethodName)) ∈ zGW := zt6 92 (by decide +kernel) rfl
theorem zw_1147 : (Jvm.Cond.instanceMethod ({ cls := "DiveChairsModel", name := "dive", desc := "(IIII)I" } : Jvm.MethodName)) ∈ zGW := zt6 93 (by decide +kernel) rfl
theorem zw_1148 : (Jvm.Cond.selects "DiveChairsModel" ({ cls := "DiveChairsModel", name := "dive", desc := "(IIII)I" } : Jvm.MethodName) ({ cls := "DiveChairsModel", name := "dive", desc := "(IIII)I" } : Jvm.MethodName)) ∈ zGW := zt6 94 (by decide +kernel) rfl
theorem zw_1149 : (Jvm.Cond.code ({ cls := "DiveChairsModel", name := "dive", desc := "(IIII)I" } : Jvm.MethodName) prog_14_method_17_code (7 : Nat) (Option.some Jvm.ClassFile.FieldType.int)) ∈ zGW := zt6 95 (by decide +kernel) rfl
theorem zw_1150 : (Jvm.Cond.methodLink "DiveChairsModel" (102 : Nat) ({ cls := "DiveChairsModel", name := "isDiver", desc := "(I)Z" } : Jvm.MethodName)) ∈ zGW := zt6 96 (by decide +kernel) rfl
theorem zw_1151 : (Jvm.Cond.instanceMethod ({ cls := "DiveChairsModel", name := "isDiver", desc := "(I)Z" } : Jvm.MethodName)) ∈ zGW := zt6 98 (by decide +kernel) rfl
theorem zw_1152 : (Jvm.Cond.code ({ cls := "DiveChairsModel", name := "isDiver", desc := "(I)Z" } : Jvm.MethodName) prog_14_method_4_code (2 : Nat) (Option.some Jvm.ClassFile.FieldType.boolean)) ∈ zGW := zt6 99 (by decide +kernel) rfl
theorem zw_1153 : (Jvm.Cond.constantLong "DiveChairsModel" (105 : Nat) (63 : Int64)) ∈ zGW := zt6 100 (by decide +kernel) rfl
theorem zw_1154 : (Jvm.Cond.constantLong "DiveChairsModel" (107 : Nat) (1000 : Int64)) ∈ zGW := zt6 101 (by decide +kernel) rfl
theorem zw_1155 : (Jvm.Cond.constantLong "DiveChairsModel" (109 : Nat) (4099 : Int64)) ∈ zGW := zt6 102 (by decide +kernel) rfl
theorem zw_1156 : (Jvm.Cond.methodLink "DiveChairsLaw" (47 : Nat) ({ cls := "DiveChairsModel", name := "of", desc := "(II)I" } : Jvm.MethodName)) ∈ zGW := zt6 103 (by decide +kernel) rfl
theorem zw_1157 : (Jvm.Cond.instanceMethod ({ cls := "DiveChairsModel", name := "of", desc := "(II)I" } : Jvm.MethodName)) ∈ zGW := zt6 104 (by decide +kernel) rfl
theorem zw_1158 : (Jvm.Cond.selects "DiveChairsModel" ({ cls := "DiveChairsModel", name := "of", desc := "(II)I" } : Jvm.MethodName) ({ cls := "DiveChairsModel", name := "of", desc := "(II)I" } : Jvm.MethodName)) ∈ zGW := zt6 105 (by decide +kernel) rfl
theorem zw_1159 : (Jvm.Cond.code ({ cls := "DiveChairsModel", name := "of", desc := "(II)I" } : Jvm.MethodName) prog_14_method_20_code (3 : Nat) (Option.some Jvm.ClassFile.FieldType.int)) ∈ zGW := zt6 106 (by decide +kernel) rfl
theorem zw_1160 : (Jvm.Cond.methodLink "DiveChairsModel" (114 : Nat) ({ cls := "DiveChairsModel", name := "isDive", desc := "(I)Z" } : Jvm.MethodName)) ∈ zGW := zt6 107 (by decide +kernel) rfl
theorem zw_1161 : (Jvm.Cond.instanceMethod ({ cls := "DiveChairsModel", name := "isDive", desc := "(I)Z" } : Jvm.MethodName)) ∈ zGW := zt6 109 (by decide +kernel) rfl
theorem zw_1162 : (Jvm.Cond.code ({ cls := "DiveChairsModel", name := "isDive", desc := "(I)Z" } : Jvm.MethodName) prog_14_method_6_code (2 : Nat) (Option.some Jvm.ClassFile.FieldType.boolean)) ∈ zGW := zt6 110 (by decide +kernel) rfl
theorem zw_1163 : (Jvm.Cond.methodLink "DiveChairsModel" (111 : Nat) ({ cls := "DiveChairsModel", name := "get", desc := "(II)I" } : Jvm.MethodName)) ∈ zGW := zt6 111 (by decide +kernel) rfl
theorem zw_1164 : (Jvm.Cond.instanceMethod ({ cls := "DiveChairsModel", name := "get", desc := "(II)I" } : Jvm.MethodName)) ∈ zGW := zt6 113 (by decide +kernel) rfl
theorem zw_1165 : (Jvm.Cond.code ({ cls := "DiveChairsModel", name := "get", desc := "(II)I" } : Jvm.MethodName) prog_14_method_10_code (3 : Nat) (Option.some Jvm.ClassFile.FieldType.int)) ∈ zGW := zt6 114 (by decide +kernel) rfl
theorem zw_1166 : (Jvm.Cond.methodLink "DiveChairsModel" (117 : Nat) ({ cls := "DiveChairsModel", name := "worth", desc := "(I)I" } : Jvm.MethodName)) ∈ zGW := zt6 115 (by decide +kernel) rfl
theorem zw_1167 : (Jvm.Cond.instanceMethod ({ cls := "DiveChairsModel", name := "worth", desc := "(I)I" } : Jvm.MethodName)) ∈ zGW := zt6 117 (by decide +kernel) rfl
theorem zw_1168 : (Jvm.Cond.code ({ cls := "DiveChairsModel", name := "worth", desc := "(I)I" } : Jvm.MethodName) prog_14_method_18_code (4 : Nat) (Option.some Jvm.ClassFile.FieldType.int)) ∈ zGW := zt6 118 (by decide +kernel) rfl
theorem zw_1169 : (Jvm.Cond.methodLink "DiveChairsModel" (121 : Nat) ({ cls := "DiveChairsModel", name := "marksOf", desc := "(I)I" } : Jvm.MethodName)) ∈ zGW := zt6 119 (by decide +kernel) rfl
theorem zw_1170 : (Jvm.Cond.instanceMethod ({ cls := "DiveChairsModel", name := "marksOf", desc := "(I)I" } : Jvm.MethodName)) ∈ zGW := zt6 121 (by decide +kernel) rfl
theorem zw_1171 : (Jvm.Cond.code ({ cls := "DiveChairsModel", name := "marksOf", desc := "(I)I" } : Jvm.MethodName) prog_14_method_19_code (4 : Nat) (Option.some Jvm.ClassFile.FieldType.int)) ∈ zGW := zt6 122 (by decide +kernel) rfl
theorem zw_1172 : (Jvm.Cond.methodLink "DiveChairsLaw" (51 : Nat) ({ cls := "DiveChairsModel", name := "seen", desc := "(III)I" } : Jvm.MethodName)) ∈ zGW := zt6 123 (by decide +kernel) rfl
theorem zw_1173 : (Jvm.Cond.instanceMethod ({ cls := "DiveChairsModel", name := "seen", desc := "(III)I" } : Jvm.MethodName)) ∈ zGW := zt6 124 (by decide +kernel) rfl
theorem zw_1174 : (Jvm.Cond.selects "DiveChairsModel" ({ cls := "DiveChairsModel", name := "seen", desc := "(III)I" } : Jvm.MethodName) ({ cls := "DiveChairsModel", name := "seen", desc := "(III)I" } : Jvm.MethodName)) ∈ zGW := zt6 125 (by decide +kernel) rfl
theorem zw_1175 : (Jvm.Cond.code ({ cls := "DiveChairsModel", name := "seen", desc := "(III)I" } : Jvm.MethodName) prog_14_method_22_code (4 : Nat) (Option.some Jvm.ClassFile.FieldType.int)) ∈ zGW := zt6 126 (by decide +kernel) rfl
theorem zw_1176 : (Jvm.Cond.methodLink "DiveChairsModel" (124 : Nat) ({ cls := "DiveChairsModel", name := "isSeen", desc := "(III)Z" } : Jvm.MethodName)) ∈ zGW := zt6 127 (by decide +kernel) rfl
theorem zw_1177 : (Jvm.Cond.static ({ cls := "DiveChairsModel", name := "isSeen", desc := "(III)Z" } : Jvm.MethodName)) ∈ zGW := zt6 128 (by decide +kernel) rfl
theorem zw_1178 : (Jvm.Cond.code ({ cls := "DiveChairsModel", name := "isSeen", desc := "(III)Z" } : Jvm.MethodName) prog_14_method_21_code (3 : Nat) (Option.some Jvm.ClassFile.FieldType.boolean)) ∈ zGW := zt6 129 (by decide +kernel) rfl
theorem zw_1179 : (Jvm.Cond.methodLink "DiveChairsLaw" (55 : Nat) ({ cls := "DiveChairsModel", name := "would", desc := "(II)I" } : Jvm.MethodName)) ∈ zGW := zt6 130 (by decide +kernel) rfl
theorem zw_1180 : (Jvm.Cond.instanceMethod ({ cls := "DiveChairsModel", name := "would", desc := "(II)I" } : Jvm.MethodName)) ∈ zGW := zt6 131 (by decide +kernel) rfl
theorem zw_1181 : (Jvm.Cond.selects "DiveChairsModel" ({ cls := "DiveChairsModel", name := "would", desc := "(II)I" } : Jvm.MethodName) ({ cls := "DiveChairsModel", name := "would", desc := "(II)I" } : Jvm.MethodName)) ∈ zGW := zt6 132 (by decide +kernel) rfl
theorem zw_1182 : (Jvm.Cond.code ({ cls := "DiveChairsModel", name := "would", desc := "(II)I" } : Jvm.MethodName) prog_14_method_29_code (3 : Nat) (Option.some Jvm.ClassFile.FieldType.int)) ∈ zGW := zt6 133 (by decide +kernel) rfl
theorem zw_1183 : (Jvm.Cond.methodLink "DiveChairsModel" (131 : Nat) ({ cls := "DiveChairsModel", name := "wouldOf", desc := "(II)I" } : Jvm.MethodName)) ∈ zGW := zt6 134 (by decide +kernel) rfl
theorem zw_1184 : (Jvm.Cond.instanceMethod ({ cls := "DiveChairsModel", name := "wouldOf", desc := "(II)I" } : Jvm.MethodName)) ∈ zGW := zt6 136 (by decide +kernel) rfl
theorem zw_1185 : (Jvm.Cond.code ({ cls := "DiveChairsModel", name := "wouldOf", desc := "(II)I" } : Jvm.MethodName) prog_14_method_28_code (8 : Nat) (Option.some Jvm.ClassFile.FieldType.int)) ∈ zGW := zt6 137 (by decide +kernel) rfl
theorem zw_1186 : (Jvm.Cond.methodLink "DiveChairsModel" (138 : Nat) ({ cls := "DiveChairsModel", name := "lessOff", desc := "(IIZ)I" } : Jvm.MethodName)) ∈ zGW := zt6 138 (by decide +kernel) rfl
theorem zw_1187 : (Jvm.Cond.instanceMethod ({ cls := "DiveChairsModel", name := "lessOff", desc := "(IIZ)I" } : Jvm.MethodName)) ∈ zGW := zt6 140 (by decide +kernel) rfl
theorem zw_1188 : (Jvm.Cond.code ({ cls := "DiveChairsModel", name := "lessOff", desc := "(IIZ)I" } : Jvm.MethodName) prog_14_method_23_code (6 : Nat) (Option.some Jvm.ClassFile.FieldType.int)) ∈ zGW := zt6 141 (by decide +kernel) rfl
theorem zw_1189 : (Jvm.Cond.methodLink "DiveChairsModel" (142 : Nat) ({ cls := "DiveChairsModel", name := "held", desc := "(I)I" } : Jvm.MethodName)) ∈ zGW := zt6 142 (by decide +kernel) rfl
theorem zw_1190 : (Jvm.Cond.static ({ cls := "DiveChairsModel", name := "held", desc := "(I)I" } : Jvm.MethodName)) ∈ zGW := zt6 143 (by decide +kernel) rfl
theorem zw_1191 : (Jvm.Cond.code ({ cls := "DiveChairsModel", name := "held", desc := "(I)I" } : Jvm.MethodName) prog_14_method_25_code (1 : Nat) (Option.some Jvm.ClassFile.FieldType.int)) ∈ zGW := zt6 144 (by decide +kernel) rfl
theorem zw_1192 : (Jvm.Cond.methodLink "DiveChairsModel" (145 : Nat) ({ cls := "DiveChairsModel", name := "aheadOf", desc := "(I)I" } : Jvm.MethodName)) ∈ zGW := zt6 145 (by decide +kernel) rfl
theorem zw_1193 : (Jvm.Cond.instanceMethod ({ cls := "DiveChairsModel", name := "aheadOf", desc := "(I)I" } : Jvm.MethodName)) ∈ zGW := zt6 147 (by decide +kernel) rfl
theorem zw_1194 : (Jvm.Cond.code ({ cls := "DiveChairsModel", name := "aheadOf", desc := "(I)I" } : Jvm.MethodName) prog_14_method_24_code (3 : Nat) (Option.some Jvm.ClassFile.FieldType.int)) ∈ zGW := zt6 148 (by decide +kernel) rfl
theorem zw_1195 : (Jvm.Cond.methodLink "DiveChairsModel" (148 : Nat) ({ cls := "DiveChairsModel", name := "middleWould", desc := "(I)I" } : Jvm.MethodName)) ∈ zGW := zt6 149 (by decide +kernel) rfl
theorem zw_1196 : (Jvm.Cond.instanceMethod ({ cls := "DiveChairsModel", name := "middleWould", desc := "(I)I" } : Jvm.MethodName)) ∈ zGW := zt6 151 (by decide +kernel) rfl
theorem zw_1197 : (Jvm.Cond.code ({ cls := "DiveChairsModel", name := "middleWould", desc := "(I)I" } : Jvm.MethodName) prog_14_method_27_code (4 : Nat) (Option.some Jvm.ClassFile.FieldType.int)) ∈ zGW := zt6 152 (by decide +kernel) rfl
theorem zw_1198 : (Jvm.Cond.methodLink "DiveChairsModel" (134 : Nat) ({ cls := "DiveChairsModel", name := "comes", desc := "(I)V" } : Jvm.MethodName)) ∈ zGW := zt6 153 (by decide +kernel) rfl
theorem zw_1199 : (Jvm.Cond.instanceMethod ({ cls := "DiveChairsModel", name := "comes", desc := "(I)V" } : Jvm.MethodName)) ∈ zGW := zt6 155 (by decide +kernel) rfl
theorem zw_1200 : (Jvm.Cond.code ({ cls := "DiveChairsModel", name := "comes", desc := "(I)V" } : Jvm.MethodName) prog_14_method_26_code (3 : Nat) (Option.none : Option Jvm.ClassFile.FieldType)) ∈ zGW := zt6 156 (by decide +kernel) rfl
theorem zw_1201 : (Jvm.Cond.methodLink "DiveChairsLaw" (60 : Nat) ({ cls := "DiveChairsModel", name := "markAll", desc := "(I)I" } : Jvm.MethodName)) ∈ zGW := zt6 157 (by decide +kernel) rfl
theorem zw_1202 : (Jvm.Cond.instanceMethod ({ cls := "DiveChairsModel", name := "markAll", desc := "(I)I" } : Jvm.MethodName)) ∈ zGW := zt6 158 (by decide +kernel) rfl
theorem zw_1203 : (Jvm.Cond.selects "DiveChairsModel" ({ cls := "DiveChairsModel", name := "markAll", desc := "(I)I" } : Jvm.MethodName) ({ cls := "DiveChairsModel", name := "markAll", desc := "(I)I" } : Jvm.MethodName)) ∈ zGW := zt6 159 (by decide +kernel) rfl
theorem zw_1204 : (Jvm.Cond.code ({ cls := "DiveChairsModel", name := "markAll", desc := "(I)I" } : Jvm.MethodName) prog_14_method_31_code (4 : Nat) (Option.some Jvm.ClassFile.FieldType.int)) ∈ zGW := zt6 160 (by decide +kernel) rfl
theorem zw_1205 : (Jvm.Cond.methodLink "DiveChairsModel" (151 : Nat) ({ cls := "DiveChairsModel", name := "marksAs", desc := "(I)V" } : Jvm.MethodName)) ∈ zGW := zt6 161 (by decide +kernel) rfl
theorem zw_1206 : (Jvm.Cond.instanceMethod ({ cls := "DiveChairsModel", name := "marksAs", desc := "(I)V" } : Jvm.MethodName)) ∈ zGW := zt6 163 (by decide +kernel) rfl
theorem zw_1207 : (Jvm.Cond.code ({ cls := "DiveChairsModel", name := "marksAs", desc := "(I)V" } : Jvm.MethodName) prog_14_method_30_code (4 : Nat) (Option.none : Option Jvm.ClassFile.FieldType)) ∈ zGW := zt6 164 (by decide +kernel) rfl
theorem zw_1208 : (Jvm.Cond.methodLink "DiveChairsLaw" (64 : Nat) ({ cls := "DiveChairsModel", name := "marks", desc := "(II)I" } : Jvm.MethodName)) ∈ zGW := zt6 165 (by decide +kernel) rfl
theorem zw_1209 : (Jvm.Cond.instanceMethod ({ cls := "DiveChairsModel", name := "marks", desc := "(II)I" } : Jvm.MethodName)) ∈ zGW := zt6 166 (by decide +kernel) rfl
theorem zw_1210 : (Jvm.Cond.selects "DiveChairsModel" ({ cls := "DiveChairsModel", name := "marks", desc := "(II)I" } : Jvm.MethodName) ({ cls := "DiveChairsModel", name := "marks", desc := "(II)I" } : Jvm.MethodName)) ∈ zGW := zt6 167 (by decide +kernel) rfl
theorem zw_1211 : (Jvm.Cond.code ({ cls := "DiveChairsModel", name := "marks", desc := "(II)I" } : Jvm.MethodName) prog_14_method_33_code (6 : Nat) (Option.some Jvm.ClassFile.FieldType.int)) ∈ zGW := zt6 168 (by decide +kernel) rfl
theorem zw_1212 : (Jvm.Cond.methodLink "DiveChairsModel" (157 : Nat) ({ cls := "DiveChairsModel", name := "wrongRow", desc := "(II)I" } : Jvm.MethodName)) ∈ zGW := zt6 169 (by decide +kernel) rfl
theorem zw_1213 : (Jvm.Cond.instanceMethod ({ cls := "DiveChairsModel", name := "wrongRow", desc := "(II)I" } : Jvm.MethodName)) ∈ zGW := zt6 171 (by decide +kernel) rfl
theorem zw_1214 : (Jvm.Cond.code ({ cls := "DiveChairsModel", name := "wrongRow", desc := "(II)I" } : Jvm.MethodName) prog_14_method_32_code (3 : Nat) (Option.some Jvm.ClassFile.FieldType.int)) ∈ zGW := zt6 172 (by decide +kernel) rfl
theorem zw_1215 : (Jvm.Cond.methodLink "DiveChairsModel" (154 : Nat) ({ cls := "DiveChairsModel", name := "isShelf", desc := "(I)Z" } : Jvm.MethodName)) ∈ zGW := zt6 173 (by decide +kernel) rfl
theorem zw_1216 : (Jvm.Cond.static ({ cls := "DiveChairsModel", name := "isShelf", desc := "(I)Z" } : Jvm.MethodName)) ∈ zGW := zt6 174 (by decide +kernel) rfl
theorem zw_1217 : (Jvm.Cond.code ({ cls := "DiveChairsModel", name := "isShelf", desc := "(I)Z" } : Jvm.MethodName) prog_14_method_9_code (1 : Nat) (Option.some Jvm.ClassFile.FieldType.boolean)) ∈ zGW := zt6 175 (by decide +kernel) rfl
theorem zw_1218 : (Jvm.Cond.constantLong "DiveChairsModel" (160 : Nat) (20 : Int64)) ∈ zGW := zt6 176 (by decide +kernel) rfl
theorem zw_1219 : (Jvm.Cond.methodLink "DiveChairsLaw" (68 : Nat) ({ cls := "DiveChairsModel", name := "mark", desc := "(II)I" } : Jvm.MethodName)) ∈ zGW := zt6 177 (by decide +kernel) rfl
theorem zw_1220 : (Jvm.Cond.instanceMethod ({ cls := "DiveChairsModel", name := "mark", desc := "(II)I" } : Jvm.MethodName)) ∈ zGW := zt6 178 (by decide +kernel) rfl
theorem zw_1221 : (Jvm.Cond.selects "DiveChairsModel" ({ cls := "DiveChairsModel", name := "mark", desc := "(II)I" } : Jvm.MethodName) ({ cls := "DiveChairsModel", name := "mark", desc := "(II)I" } : Jvm.MethodName)) ∈ zGW := zt6 179 (by decide +kernel) rfl
theorem zw_1222 : (Jvm.Cond.code ({ cls := "DiveChairsModel", name := "mark", desc := "(II)I" } : Jvm.MethodName) prog_14_method_35_code (3 : Nat) (Option.some Jvm.ClassFile.FieldType.int)) ∈ zGW := zt6 180 (by decide +kernel) rfl
theorem zw_1223 : (Jvm.Cond.methodLink "DiveChairsModel" (162 : Nat) ({ cls := "DiveChairsModel", name := "markOf", desc := "(II)I" } : Jvm.MethodName)) ∈ zGW := zt6 181 (by decide +kernel) rfl
theorem zw_1224 : (Jvm.Cond.instanceMethod ({ cls := "DiveChairsModel", name := "markOf", desc := "(II)I" } : Jvm.MethodName)) ∈ zGW := zt6 183 (by decide +kernel) rfl
theorem zw_1225 : (Jvm.Cond.code ({ cls := "DiveChairsModel", name := "markOf", desc := "(II)I" } : Jvm.MethodName) prog_14_method_34_code (3 : Nat) (Option.some Jvm.ClassFile.FieldType.int)) ∈ zGW := zt6 184 (by decide +kernel) rfl
theorem zw_1226 : (Jvm.Cond.methodLink "DiveChairsLaw" (72 : Nat) ({ cls := "DiveChairsModel", name := "rule", desc := "(I)I" } : Jvm.MethodName)) ∈ zGW := zt6 185 (by decide +kernel) rfl
theorem zw_1227 : (Jvm.Cond.instanceMethod ({ cls := "DiveChairsModel", name := "rule", desc := "(I)I" } : Jvm.MethodName)) ∈ zGW := zt6 186 (by decide +kernel) rfl
theorem zw_1228 : (Jvm.Cond.selects "DiveChairsModel" ({ cls := "DiveChairsModel", name := "rule", desc := "(I)I" } : Jvm.MethodName) ({ cls := "DiveChairsModel", name := "rule", desc := "(I)I" } : Jvm.MethodName)) ∈ zGW := zt6 187 (by decide +kernel) rfl
theorem zw_1229 : (Jvm.Cond.code ({ cls := "DiveChairsModel", name := "rule", desc := "(I)I" } : Jvm.MethodName) prog_14_method_45_code (7 : Nat) (Option.some Jvm.ClassFile.FieldType.int)) ∈ zGW := zt6 188 (by decide +kernel) rfl
theorem zw_1230 : (Jvm.Cond.methodLink "DiveChairsModel" (219 : Nat) ({ cls := "DiveChairsModel", name := "begins", desc := "(I)V" } : Jvm.MethodName)) ∈ zGW := zt6 189 (by decide +kernel) rfl
theorem zw_1231 : (Jvm.Cond.instanceMethod ({ cls := "DiveChairsModel", name := "begins", desc := "(I)V" } : Jvm.MethodName)) ∈ zGW := zt6 191 (by decide +kernel) rfl
theorem zw_1232 : (Jvm.Cond.code ({ cls := "DiveChairsModel", name := "begins", desc := "(I)V" } : Jvm.MethodName) prog_14_method_44_code (2 : Nat) (Option.none : Option Jvm.ClassFile.FieldType)) ∈ zGW := zt6 192 (by decide +kernel) rfl
theorem zw_1233 : (Jvm.Cond.methodLink "DiveChairsModel" (222 : Nat) ({ cls := "DiveChairsModel", name := "readsStatement", desc := "()Z" } : Jvm.MethodName)) ∈ zGW := zt6 193 (by decide +kernel) rfl
theorem zw_1234 : (Jvm.Cond.instanceMethod ({ cls := "DiveChairsModel", name := "readsStatement", desc := "()Z" } : Jvm.MethodName)) ∈ zGW := zt6 195 (by decide +kernel) rfl
theorem zw_1235 : (Jvm.Cond.code ({ cls := "DiveChairsModel", name := "readsStatement", desc := "()Z" } : Jvm.MethodName) prog_14_method_43_code (2 : Nat) (Option.some Jvm.ClassFile.FieldType.boolean)) ∈ zGW := zt6 196 (by decide +kernel) rfl
theorem zw_1236 : (Jvm.Cond.methodLink "DiveChairsModel" (174 : Nat) ({ cls := "DiveChairsModel", name := "sign", desc := "()I" } : Jvm.MethodName)) ∈ zGW := zt6 197 (by decide +kernel) rfl
theorem zw_1237 : (Jvm.Cond.instanceMethod ({ cls := "DiveChairsModel", name := "sign", desc := "()I" } : Jvm.MethodName)) ∈ zGW := zt6 199 (by decide +kernel) rfl
theorem zw_1238 : (Jvm.Cond.code ({ cls := "DiveChairsModel", name := "sign", desc := "()I" } : Jvm.MethodName) prog_14_method_36_code (1 : Nat) (Option.some Jvm.ClassFile.FieldType.int)) ∈ zGW := zt6 200 (by decide +kernel) rfl
theorem zw_1239 : (Jvm.Cond.methodLink "DiveChairsModel" (198 : Nat) ({ cls := "DiveChairsModel", name := "readsSum", desc := "()Z" } : Jvm.MethodName)) ∈ zGW := zt6 201 (by decide +kernel) rfl
theorem zw_1240 : (Jvm.Cond.instanceMethod ({ cls := "DiveChairsModel", name := "readsSum", desc := "()Z" } : Jvm.MethodName)) ∈ zGW := zt6 203 (by decide +kernel) rfl
theorem zw_1241 : (Jvm.Cond.code ({ cls := "DiveChairsModel", name := "readsSum", desc := "()Z" } : Jvm.MethodName) prog_14_method_40_code (1 : Nat) (Option.some Jvm.ClassFile.FieldType.boolean)) ∈ zGW := zt6 204 (by decide +kernel) rfl
theorem zw_1242 : (Jvm.Cond.methodLink "DiveChairsModel" (185 : Nat) ({ cls := "DiveChairsModel", name := "readsProduct", desc := "()Z" } : Jvm.MethodName)) ∈ zGW := zt6 205 (by decide +kernel) rfl
theorem zw_1243 : (Jvm.Cond.instanceMethod ({ cls := "DiveChairsModel", name := "readsProduct", desc := "()Z" } : Jvm.MethodName)) ∈ zGW := zt6 207 (by decide +kernel) rfl
theorem zw_1244 : (Jvm.Cond.code ({ cls := "DiveChairsModel", name := "readsProduct", desc := "()Z" } : Jvm.MethodName) prog_14_method_41_code (1 : Nat) (Option.some Jvm.ClassFile.FieldType.boolean)) ∈ zGW := zt6 208 (by decide +kernel) rfl
theorem zw_1245 : (Jvm.Cond.methodLink "DiveChairsModel" (192 : Nat) ({ cls := "DiveChairsModel", name := "readsAtom", desc := "()Z" } : Jvm.MethodName)) ∈ zGW := zt6 209 (by decide +kernel) rfl
theorem zw_1246 : (Jvm.Cond.instanceMethod ({ cls := "DiveChairsModel", name := "readsAtom", desc := "()Z" } : Jvm.MethodName)) ∈ zGW := zt6 211 (by decide +kernel) rfl
theorem zw_1247 : (Jvm.Cond.code ({ cls := "DiveChairsModel", name := "readsAtom", desc := "()Z" } : Jvm.MethodName) prog_14_method_42_code (2 : Nat) (Option.some Jvm.ClassFile.FieldType.boolean)) ∈ zGW := zt6 212 (by decide +kernel) rfl
theorem zw_1248 : (Jvm.Cond.methodLink "DiveChairsModel" (189 : Nat) ({ cls := "DiveChairsModel", name := "takes", desc := "(I)Z" } : Jvm.MethodName)) ∈ zGW := zt6 213 (by decide +kernel) rfl
theorem zw_1249 : (Jvm.Cond.instanceMethod ({ cls := "DiveChairsModel", name := "takes", desc := "(I)Z" } : Jvm.MethodName)) ∈ zGW := zt6 215 (by decide +kernel) rfl
theorem zw_1250 : (Jvm.Cond.code ({ cls := "DiveChairsModel", name := "takes", desc := "(I)Z" } : Jvm.MethodName) prog_14_method_37_code (2 : Nat) (Option.some Jvm.ClassFile.FieldType.boolean)) ∈ zGW := zt6 216 (by decide +kernel) rfl
theorem zw_1251 : (Jvm.Cond.methodLink "DiveChairsModel" (201 : Nat) ({ cls := "DiveChairsModel", name := "isField", desc := "(I)Z" } : Jvm.MethodName)) ∈ zGW := zt6 217 (by decide +kernel) rfl
theorem zw_1252 : (Jvm.Cond.static ({ cls := "DiveChairsModel", name := "isField", desc := "(I)Z" } : Jvm.MethodName)) ∈ zGW := zt6 218 (by decide +kernel) rfl
theorem zw_1253 : (Jvm.Cond.code ({ cls := "DiveChairsModel", name := "isField", desc := "(I)Z" } : Jvm.MethodName) prog_14_method_39_code (1 : Nat) (Option.some Jvm.ClassFile.FieldType.boolean)) ∈ zGW := zt6 219 (by decide +kernel) rfl
theorem zw_1254 : (Jvm.Cond.methodLink "DiveChairsModel" (204 : Nat) ({ cls := "DiveChairsModel", name := "readsNumber", desc := "()Z" } : Jvm.MethodName)) ∈ zGW := zt6 220 (by decide +kernel) rfl
theorem zw_1255 : (Jvm.Cond.instanceMethod ({ cls := "DiveChairsModel", name := "readsNumber", desc := "()Z" } : Jvm.MethodName)) ∈ zGW := zt6 222 (by decide +kernel) rfl
theorem zw_1256 : (Jvm.Cond.code ({ cls := "DiveChairsModel", name := "readsNumber", desc := "()Z" } : Jvm.MethodName) prog_14_method_38_code (2 : Nat) (Option.some Jvm.ClassFile.FieldType.boolean)) ∈ zGW := zt6 223 (by decide +kernel) rfl
theorem zw_1257 : (Jvm.Cond.constantLong "DiveChairsModel" (178 : Nat) (48 : Int64)) ∈ zGW := zt6 224 (by decide +kernel) rfl
theorem zw_1258 : (Jvm.Cond.constantLong "DiveChairsModel" (180 : Nat) (57 : Int64)) ∈ zGW := zt6 225 (by decide +kernel) rfl
theorem zw_1259 : (Jvm.Cond.methodLink "DiveChairsLaw" (76 : Nat) ({ cls := "DiveChairsModel", name := "counts", desc := "(I)I" } : Jvm.MethodName)) ∈ zGW := zt6 226 (by decide +kernel) rfl
theorem zw_1260 : (Jvm.Cond.instanceMethod ({ cls := "DiveChairsModel", name := "counts", desc := "(I)I" } : Jvm.MethodName)) ∈ zGW := zt6 227 (by decide +kernel) rfl
theorem zw_1261 : (Jvm.Cond.selects "DiveChairsModel" ({ cls := "DiveChairsModel", name := "counts", desc := "(I)I" } : Jvm.MethodName) ({ cls := "DiveChairsModel", name := "counts", desc := "(I)I" } : Jvm.MethodName)) ∈ zGW := zt6 228 (by decide +kernel) rfl
theorem zw_1262 : (Jvm.Cond.code ({ cls := "DiveChairsModel", name := "counts", desc := "(I)I" } : Jvm.MethodName) prog_14_method_54_code (2 : Nat) (Option.some Jvm.ClassFile.FieldType.int)) ∈ zGW := zt6 229 (by decide +kernel) rfl
theorem zw_1263 : (Jvm.Cond.constant "DiveChairsModel" (277 : Nat) (-1000000001 : Int32)) ∈ zGW := zt6 230 (by decide +kernel) rfl
theorem zw_1264 : (Jvm.Cond.methodLink "DiveChairsModel" (271 : Nat) ({ cls := "DiveChairsModel", name := "asTold", desc := "()V" } : Jvm.MethodName)) ∈ zGW := zt6 231 (by decide +kernel) rfl
theorem zw_1265 : (Jvm.Cond.instanceMethod ({ cls := "DiveChairsModel", name := "asTold", desc := "()V" } : Jvm.MethodName)) ∈ zGW := zt6 233 (by decide +kernel) rfl
theorem zw_1266 : (Jvm.Cond.code ({ cls := "DiveChairsModel", name := "asTold", desc := "()V" } : Jvm.MethodName) prog_14_method_49_code (1 : Nat) (Option.none : Option Jvm.ClassFile.FieldType)) ∈ zGW := zt6 234 (by decide +kernel) rfl
theorem zw_1267 : (Jvm.Cond.methodLink "DiveChairsModel" (278 : Nat) ({ cls := "DiveChairsModel", name := "countsNow", desc := "(I)I" } : Jvm.MethodName)) ∈ zGW := zt6 235 (by decide +kernel) rfl
theorem zw_1268 : (Jvm.Cond.instanceMethod ({ cls := "DiveChairsModel", name := "countsNow", desc := "(I)I" } : Jvm.MethodName)) ∈ zGW := zt6 237 (by decide +kernel) rfl
theorem zw_1269 : (Jvm.Cond.code ({ cls := "DiveChairsModel", name := "countsNow", desc := "(I)I" } : Jvm.MethodName) prog_14_method_53_code (3 : Nat) (Option.some Jvm.ClassFile.FieldType.int)) ∈ zGW := zt6 238 (by decide +kernel) rfl
theorem zw_1270 : (Jvm.Cond.methodLink "DiveChairsModel" (274 : Nat) ({ cls := "DiveChairsModel", name := "gathers", desc := "(I)V" } : Jvm.MethodName)) ∈ zGW := zt6 239 (by decide +kernel) rfl
theorem zw_1271 : (Jvm.Cond.instanceMethod ({ cls := "DiveChairsModel", name := "gathers", desc := "(I)V" } : Jvm.MethodName)) ∈ zGW := zt7 1 (by decide +kernel) rfl
theorem zw_1272 : (Jvm.Cond.code ({ cls := "DiveChairsModel", name := "gathers", desc := "(I)V" } : Jvm.MethodName) prog_14_method_51_code (5 : Nat) (Option.none : Option Jvm.ClassFile.FieldType)) ∈ zGW := zt7 2 (by decide +kernel) rfl
theorem zw_1273 : (Jvm.Cond.methodLink "DiveChairsModel" (265 : Nat) ({ cls := "DiveChairsModel", name := "leanIn", desc := "(II)I" } : Jvm.MethodName)) ∈ zGW := zt7 3 (by decide +kernel) rfl
theorem zw_1274 : (Jvm.Cond.instanceMethod ({ cls := "DiveChairsModel", name := "leanIn", desc := "(II)I" } : Jvm.MethodName)) ∈ zGW := zt7 5 (by decide +kernel) rfl
theorem zw_1275 : (Jvm.Cond.code ({ cls := "DiveChairsModel", name := "leanIn", desc := "(II)I" } : Jvm.MethodName) prog_14_method_50_code (5 : Nat) (Option.some Jvm.ClassFile.FieldType.int)) ∈ zGW := zt7 6 (by decide +kernel) rfl
theorem zw_1276 : (Jvm.Cond.methodLink "DiveChairsModel" (231 : Nat) ({ cls := "DiveChairsModel", name := "sumOf", desc := "()I" } : Jvm.MethodName)) ∈ zGW := zt7 7 (by decide +kernel) rfl
theorem zw_1277 : (Jvm.Cond.instanceMethod ({ cls := "DiveChairsModel", name := "sumOf", desc := "()I" } : Jvm.MethodName)) ∈ zGW := zt7 9 (by decide +kernel) rfl
theorem zw_1278 : (Jvm.Cond.code ({ cls := "DiveChairsModel", name := "sumOf", desc := "()I" } : Jvm.MethodName) prog_14_method_46_code (4 : Nat) (Option.some Jvm.ClassFile.FieldType.int)) ∈ zGW := zt7 10 (by decide +kernel) rfl
theorem zw_1279 : (Jvm.Cond.methodLink "DiveChairsModel" (225 : Nat) ({ cls := "DiveChairsModel", name := "product", desc := "()I" } : Jvm.MethodName)) ∈ zGW := zt7 11 (by decide +kernel) rfl
theorem zw_1280 : (Jvm.Cond.instanceMethod ({ cls := "DiveChairsModel", name := "product", desc := "()I" } : Jvm.MethodName)) ∈ zGW := zt7 13 (by decide +kernel) rfl
theorem zw_1281 : (Jvm.Cond.code ({ cls := "DiveChairsModel", name := "product", desc := "()I" } : Jvm.MethodName) prog_14_method_47_code (4 : Nat) (Option.some Jvm.ClassFile.FieldType.int)) ∈ zGW := zt7 14 (by decide +kernel) rfl
theorem zw_1282 : (Jvm.Cond.methodLink "DiveChairsModel" (228 : Nat) ({ cls := "DiveChairsModel", name := "atom", desc := "()I" } : Jvm.MethodName)) ∈ zGW := zt7 15 (by decide +kernel) rfl
theorem zw_1283 : (Jvm.Cond.instanceMethod ({ cls := "DiveChairsModel", name := "atom", desc := "()I" } : Jvm.MethodName)) ∈ zGW := zt7 17 (by decide +kernel) rfl
theorem zw_1284 : (Jvm.Cond.code ({ cls := "DiveChairsModel", name := "atom", desc := "()I" } : Jvm.MethodName) prog_14_method_48_code (4 : Nat) (Option.some Jvm.ClassFile.FieldType.int)) ∈ zGW := zt7 18 (by decide +kernel) rfl
theorem zw_1285 : (Jvm.Cond.methodLink "DiveChairsLaw" (80 : Nat) ({ cls := "DiveChairsModel", name := "total", desc := "(II)J" } : Jvm.MethodName)) ∈ zGW := zt7 19 (by decide +kernel) rfl
theorem zw_1286 : (Jvm.Cond.instanceMethod ({ cls := "DiveChairsModel", name := "total", desc := "(II)J" } : Jvm.MethodName)) ∈ zGW := zt7 20 (by decide +kernel) rfl
theorem zw_1287 : (Jvm.Cond.selects "DiveChairsModel" ({ cls := "DiveChairsModel", name := "total", desc := "(II)J" } : Jvm.MethodName) ({ cls := "DiveChairsModel", name := "total", desc := "(II)J" } : Jvm.MethodName)) ∈ zGW := zt7 21 (by decide +kernel) rfl
theorem zw_1288 : (Jvm.Cond.code ({ cls := "DiveChairsModel", name := "total", desc := "(II)J" } : Jvm.MethodName) prog_14_method_57_code (3 : Nat) (Option.some Jvm.ClassFile.FieldType.long)) ∈ zGW := zt7 22 (by decide +kernel) rfl
theorem zw_1289 : (Jvm.Cond.methodLink "DiveChairsModel" (281 : Nat) ({ cls := "DiveChairsModel", name := "dives", desc := "(II)Z" } : Jvm.MethodName)) ∈ zGW := zt7 23 (by decide +kernel) rfl
theorem zw_1290 : (Jvm.Cond.instanceMethod ({ cls := "DiveChairsModel", name := "dives", desc := "(II)Z" } : Jvm.MethodName)) ∈ zGW := zt7 25 (by decide +kernel) rfl
theorem zw_1291 : (Jvm.Cond.code ({ cls := "DiveChairsModel", name := "dives", desc := "(II)Z" } : Jvm.MethodName) prog_14_method_55_code (4 : Nat) (Option.some Jvm.ClassFile.FieldType.boolean)) ∈ zGW := zt7 26 (by decide +kernel) rfl
theorem zw_1292 : (Jvm.Cond.constantLong "DiveChairsModel" (285 : Nat) (-4611686018427387904 : Int64)) ∈ zGW := zt7 27 (by decide +kernel) rfl
theorem zw_1293 : (Jvm.Cond.methodLink "DiveChairsModel" (287 : Nat) ({ cls := "DiveChairsModel", name := "totalNow", desc := "(II)J" } : Jvm.MethodName)) ∈ zGW := zt7 28 (by decide +kernel) rfl
theorem zw_1294 : (Jvm.Cond.instanceMethod ({ cls := "DiveChairsModel", name := "totalNow", desc := "(II)J" } : Jvm.MethodName)) ∈ zGW := zt7 30 (by decide +kernel) rfl
theorem zw_1295 : (Jvm.Cond.code ({ cls := "DiveChairsModel", name := "totalNow", desc := "(II)J" } : Jvm.MethodName) prog_14_method_56_code (6 : Nat) (Option.some Jvm.ClassFile.FieldType.long)) ∈ zGW := zt7 31 (by decide +kernel) rfl
theorem zw_1296 : (Jvm.Cond.methodLink "DiveChairsLaw" (84 : Nat) ({ cls := "DiveChairsModel", name := "place", desc := "(II)I" } : Jvm.MethodName)) ∈ zGW := zt7 32 (by decide +kernel) rfl
theorem zw_1297 : (Jvm.Cond.instanceMethod ({ cls := "DiveChairsModel", name := "place", desc := "(II)I" } : Jvm.MethodName)) ∈ zGW := zt7 33 (by decide +kernel) rfl
theorem zw_1298 : (Jvm.Cond.selects "DiveChairsModel" ({ cls := "DiveChairsModel", name := "place", desc := "(II)I" } : Jvm.MethodName) ({ cls := "DiveChairsModel", name := "place", desc := "(II)I" } : Jvm.MethodName)) ∈ zGW := zt7 34 (by decide +kernel) rfl
theorem zw_1299 : (Jvm.Cond.code ({ cls := "DiveChairsModel", name := "place", desc := "(II)I" } : Jvm.MethodName) prog_14_method_59_code (3 : Nat) (Option.some Jvm.ClassFile.FieldType.int)) ∈ zGW := zt7 35 (by decide +kernel) rfl
theorem zw_1300 : (Jvm.Cond.methodLink "DiveChairsModel" (291 : Nat) ({ cls := "DiveChairsModel", name := "placeNow", desc := "(II)I" } : Jvm.MethodName)) ∈ zGW := zt7 36 (by decide +kernel) rfl
theorem zw_1301 : (Jvm.Cond.instanceMethod ({ cls := "DiveChairsModel", name := "placeNow", desc := "(II)I" } : Jvm.MethodName)) ∈ zGW := zt7 38 (by decide +kernel) rfl
theorem zw_1302 : (Jvm.Cond.code ({ cls := "DiveChairsModel", name := "placeNow", desc := "(II)I" } : Jvm.MethodName) prog_14_method_58_code (7 : Nat) (Option.some Jvm.ClassFile.FieldType.int)) ∈ zGW := zt7 39 (by decide +kernel) rfl
theorem zw_1303 : (Jvm.Cond.methodLink "DiveChairsLaw" (88 : Nat) ({ cls := "DiveChairsModel", name := "won", desc := "(I)I" } : Jvm.MethodName)) ∈ zGW := zt7 40 (by decide +kernel) rfl
theorem zw_1304 : (Jvm.Cond.instanceMethod ({ cls := "DiveChairsModel", name := "won", desc := "(I)I" } : Jvm.MethodName)) ∈ zGW := zt7 41 (by decide +kernel) rfl
theorem zw_1305 : (Jvm.Cond.selects "DiveChairsModel" ({ cls := "DiveChairsModel", name := "won", desc := "(I)I" } : Jvm.MethodName) ({ cls := "DiveChairsModel", name := "won", desc := "(I)I" } : Jvm.MethodName)) ∈ zGW := zt7 42 (by decide +kernel) rfl
theorem zw_1306 : (Jvm.Cond.code ({ cls := "DiveChairsModel", name := "won", desc := "(I)I" } : Jvm.MethodName) prog_14_method_61_code (2 : Nat) (Option.some Jvm.ClassFile.FieldType.int)) ∈ zGW := zt7 43 (by decide +kernel) rfl
theorem zw_1307 : (Jvm.Cond.methodLink "DiveChairsModel" (294 : Nat) ({ cls := "DiveChairsModel", name := "wonNow", desc := "(I)I" } : Jvm.MethodName)) ∈ zGW := zt7 44 (by decide +kernel) rfl
theorem zw_1308 : (Jvm.Cond.instanceMethod ({ cls := "DiveChairsModel", name := "wonNow", desc := "(I)I" } : Jvm.MethodName)) ∈ zGW := zt7 46 (by decide +kernel) rfl
theorem zw_1309 : (Jvm.Cond.code ({ cls := "DiveChairsModel", name := "wonNow", desc := "(I)I" } : Jvm.MethodName) prog_14_method_60_code (8 : Nat) (Option.some Jvm.ClassFile.FieldType.int)) ∈ zGW := zt7 47 (by decide +kernel) rfl
theorem zw_1310 : (Jvm.Cond.methodLink "DiveChairsLaw" (92 : Nat) ({ cls := "DiveChairsModel", name := "wonIf", desc := "(III)I" } : Jvm.MethodName)) ∈ zGW := zt7 48 (by decide +kernel) rfl
theorem zw_1311 : (Jvm.Cond.instanceMethod ({ cls := "DiveChairsModel", name := "wonIf", desc := "(III)I" } : Jvm.MethodName)) ∈ zGW := zt7 49 (by decide +kernel) rfl
theorem zw_1312 : (Jvm.Cond.selects "DiveChairsModel" ({ cls := "DiveChairsModel", name := "wonIf", desc := "(III)I" } : Jvm.MethodName) ({ cls := "DiveChairsModel", name := "wonIf", desc := "(III)I" } : Jvm.MethodName)) ∈ zGW := zt7 50 (by decide +kernel) rfl
theorem zw_1313 : (Jvm.Cond.code ({ cls := "DiveChairsModel", name := "wonIf", desc := "(III)I" } : Jvm.MethodName) prog_14_method_62_code (5 : Nat) (Option.some Jvm.ClassFile.FieldType.int)) ∈ zGW := zt7 51 (by decide +kernel) rfl
theorem zw_1314 : (Jvm.Cond.constantLong "DiveChairsModel" (297 : Nat) (2 : Int64)) ∈ zGW := zt7 52 (by decide +kernel) rfl
theorem zw_1315 : (Jvm.Cond.constantLong "DiveChairsModel" (299 : Nat) (33 : Int64)) ∈ zGW := zt7 53 (by decide +kernel) rfl
theorem zw_1316 : (Jvm.Cond.methodLink "DiveChairsLaw" (96 : Nat) ({ cls := "DiveChairsModel", name := "moved", desc := "(IIII)I" } : Jvm.MethodName)) ∈ zGW := zt7 54 (by decide +kernel) rfl
theorem zw_1317 : (Jvm.Cond.instanceMethod ({ cls := "DiveChairsModel", name := "moved", desc := "(IIII)I" } : Jvm.MethodName)) ∈ zGW := zt7 55 (by decide +kernel) rfl
theorem zw_1318 : (Jvm.Cond.selects "DiveChairsModel" ({ cls := "DiveChairsModel", name := "moved", desc := "(IIII)I" } : Jvm.MethodName) ({ cls := "DiveChairsModel", name := "moved", desc := "(IIII)I" } : Jvm.MethodName)) ∈ zGW := zt7 56 (by decide +kernel) rfl
theorem zw_1319 : (Jvm.Cond.code ({ cls := "DiveChairsModel", name := "moved", desc := "(IIII)I" } : Jvm.MethodName) prog_14_method_64_code (9 : Nat) (Option.some Jvm.ClassFile.FieldType.int)) ∈ zGW := zt7 57 (by decide +kernel) rfl
theorem zw_1320 : (Jvm.Cond.constantLong "DiveChairsModel" (301 : Nat) (3 : Int64)) ∈ zGW := zt7 58 (by decide +kernel) rfl
theorem zw_1321 : (Jvm.Cond.methodLink "DiveChairsModel" (303 : Nat) ({ cls := "DiveChairsModel", name := "bits", desc := "(I)I" } : Jvm.MethodName)) ∈ zGW := zt7 59 (by decide +kernel) rfl
theorem zw_1322 : (Jvm.Cond.static ({ cls := "DiveChairsModel", name := "bits", desc := "(I)I" } : Jvm.MethodName)) ∈ zGW := zt7 60 (by decide +kernel) rfl
theorem zw_1323 : (Jvm.Cond.code ({ cls := "DiveChairsModel", name := "bits", desc := "(I)I" } : Jvm.MethodName) prog_14_method_63_code (3 : Nat) (Option.some Jvm.ClassFile.FieldType.int)) ∈ zGW := zt7 61 (by decide +kernel) rfl
theorem zw_1324 : (Jvm.Cond.methodLink "DiveChairsLaw" (100 : Nat) ({ cls := "DiveChairsModel", name := "lean", desc := "(III)I" } : Jvm.MethodName)) ∈ zGW := zt7 62 (by decide +kernel) rfl
theorem zw_1325 : (Jvm.Cond.instanceMethod ({ cls := "DiveChairsModel", name := "lean", desc := "(III)I" } : Jvm.MethodName)) ∈ zGW := zt7 63 (by decide +kernel) rfl
theorem zw_1326 : (Jvm.Cond.selects "DiveChairsModel" ({ cls := "DiveChairsModel", name := "lean", desc := "(III)I" } : Jvm.MethodName) ({ cls := "DiveChairsModel", name := "lean", desc := "(III)I" } : Jvm.MethodName)) ∈ zGW := zt7 64 (by decide +kernel) rfl
theorem zw_1327 : (Jvm.Cond.code ({ cls := "DiveChairsModel", name := "lean", desc := "(III)I" } : Jvm.MethodName) prog_14_method_66_code (4 : Nat) (Option.some Jvm.ClassFile.FieldType.int)) ∈ zGW := zt7 65 (by decide +kernel) rfl
theorem zw_1328 : (Jvm.Cond.methodLink "DiveChairsModel" (321 : Nat) ({ cls := "DiveChairsModel", name := "findLean", desc := "(II)V" } : Jvm.MethodName)) ∈ zGW := zt7 66 (by decide +kernel) rfl
theorem zw_1329 : (Jvm.Cond.instanceMethod ({ cls := "DiveChairsModel", name := "findLean", desc := "(II)V" } : Jvm.MethodName)) ∈ zGW := zt7 68 (by decide +kernel) rfl
theorem zw_1330 : (Jvm.Cond.code ({ cls := "DiveChairsModel", name := "findLean", desc := "(II)V" } : Jvm.MethodName) prog_14_method_65_code (7 : Nat) (Option.none : Option Jvm.ClassFile.FieldType)) ∈ zGW := zt7 69 (by decide +kernel) rfl
theorem zw_1331 : (Jvm.Cond.methodLink "DiveChairsModel" (312 : Nat) ({ cls := "DiveChairsModel", name := "middleOf", desc := "(I)I" } : Jvm.MethodName)) ∈ zGW := zt7 70 (by decide +kernel) rfl
theorem zw_1332 : (Jvm.Cond.instanceMethod ({ cls := "DiveChairsModel", name := "middleOf", desc := "(I)I" } : Jvm.MethodName)) ∈ zGW := zt7 72 (by decide +kernel) rfl
theorem zw_1333 : (Jvm.Cond.code ({ cls := "DiveChairsModel", name := "middleOf", desc := "(I)I" } : Jvm.MethodName) prog_14_method_52_code (2 : Nat) (Option.some Jvm.ClassFile.FieldType.int)) ∈ zGW := zt7 73 (by decide +kernel) rfl
theorem zw_1334 : (Jvm.Cond.constant "DiveChairsModel" (325 : Nat) (-1000000004 : Int32)) ∈ zGW := zt7 74 (by decide +kernel) rfl
theorem zw_1335 : (Jvm.Cond.methodLink "DiveChairsLaw" (105 : Nat) ({ cls := "DiveChairsModel", name := "pairs", desc := "()I" } : Jvm.MethodName)) ∈ zGW := zt7 75 (by decide +kernel) rfl
theorem zw_1336 : (Jvm.Cond.instanceMethod ({ cls := "DiveChairsModel", name := "pairs", desc := "()I" } : Jvm.MethodName)) ∈ zGW := zt7 76 (by decide +kernel) rfl
theorem zw_1337 : (Jvm.Cond.selects "DiveChairsModel" ({ cls := "DiveChairsModel", name := "pairs", desc := "()I" } : Jvm.MethodName) ({ cls := "DiveChairsModel", name := "pairs", desc := "()I" } : Jvm.MethodName)) ∈ zGW := zt7 77 (by decide +kernel) rfl
theorem zw_1338 : (Jvm.Cond.code ({ cls := "DiveChairsModel", name := "pairs", desc := "()I" } : Jvm.MethodName) prog_14_method_70_code (1 : Nat) (Option.some Jvm.ClassFile.FieldType.int)) ∈ zGW := zt7 78 (by decide +kernel) rfl
theorem zw_1339 : (Jvm.Cond.methodLink "DiveChairsModel" (329 : Nat) ({ cls := "DiveChairsModel", name := "findSums", desc := "()V" } : Jvm.MethodName)) ∈ zGW := zt7 79 (by decide +kernel) rfl
theorem zw_1340 : (Jvm.Cond.instanceMethod ({ cls := "DiveChairsModel", name := "findSums", desc := "()V" } : Jvm.MethodName)) ∈ zGW := zt7 81 (by decide +kernel) rfl
theorem zw_1341 : (Jvm.Cond.code ({ cls := "DiveChairsModel", name := "findSums", desc := "()V" } : Jvm.MethodName) prog_14_method_67_code (3 : Nat) (Option.none : Option Jvm.ClassFile.FieldType)) ∈ zGW := zt7 82 (by decide +kernel) rfl
theorem zw_1342 : (Jvm.Cond.methodLink "DiveChairsModel" (326 : Nat) ({ cls := "DiveChairsModel", name := "sits", desc := "(II)Z" } : Jvm.MethodName)) ∈ zGW := zt7 83 (by decide +kernel) rfl
theorem zw_1343 : (Jvm.Cond.instanceMethod ({ cls := "DiveChairsModel", name := "sits", desc := "(II)Z" } : Jvm.MethodName)) ∈ zGW := zt7 85 (by decide +kernel) rfl
theorem zw_1344 : (Jvm.Cond.code ({ cls := "DiveChairsModel", name := "sits", desc := "(II)Z" } : Jvm.MethodName) prog_14_method_68_code (7 : Nat) (Option.some Jvm.ClassFile.FieldType.boolean)) ∈ zGW := zt7 86 (by decide +kernel) rfl
theorem zw_1345 : (Jvm.Cond.methodLink "DiveChairsModel" (332 : Nat) ({ cls := "DiveChairsModel", name := "pairsNow", desc := "()I" } : Jvm.MethodName)) ∈ zGW := zt7 87 (by decide +kernel) rfl
theorem zw_1346 : (Jvm.Cond.instanceMethod ({ cls := "DiveChairsModel", name := "pairsNow", desc := "()I" } : Jvm.MethodName)) ∈ zGW := zt7 89 (by decide +kernel) rfl
theorem zw_1347 : (Jvm.Cond.code ({ cls := "DiveChairsModel", name := "pairsNow", desc := "()I" } : Jvm.MethodName) prog_14_method_69_code (4 : Nat) (Option.some Jvm.ClassFile.FieldType.int)) ∈ zGW := zt7 90 (by decide +kernel) rfl
theorem zw_1348 : (Jvm.Cond.methodLink "DiveChairsLaw" (109 : Nat) ({ cls := "DiveChairsModel", name := "pairOdds", desc := "(I)I" } : Jvm.MethodName)) ∈ zGW := zt7 91 (by decide +kernel) rfl
theorem zw_1349 : (Jvm.Cond.instanceMethod ({ cls := "DiveChairsModel", name := "pairOdds", desc := "(I)I" } : Jvm.MethodName)) ∈ zGW := zt7 92 (by decide +kernel) rfl
theorem zw_1350 : (Jvm.Cond.selects "DiveChairsModel" ({ cls := "DiveChairsModel", name := "pairOdds", desc := "(I)I" } : Jvm.MethodName) ({ cls := "DiveChairsModel", name := "pairOdds", desc := "(I)I" } : Jvm.MethodName)) ∈ zGW := zt7 93 (by decide +kernel) rfl
theorem zw_1351 : (Jvm.Cond.code ({ cls := "DiveChairsModel", name := "pairOdds", desc := "(I)I" } : Jvm.MethodName) prog_14_method_72_code (2 : Nat) (Option.some Jvm.ClassFile.FieldType.int)) ∈ zGW := zt7 94 (by decide +kernel) rfl
theorem zw_1352 : (Jvm.Cond.methodLink "DiveChairsModel" (341 : Nat) ({ cls := "DiveChairsModel", name := "deals", desc := "(III)V" } : Jvm.MethodName)) ∈ zGW := zt7 95 (by decide +kernel) rfl
theorem zw_1353 : (Jvm.Cond.instanceMethod ({ cls := "DiveChairsModel", name := "deals", desc := "(III)V" } : Jvm.MethodName)) ∈ zGW := zt7 97 (by decide +kernel) rfl
theorem zw_1354 : (Jvm.Cond.code ({ cls := "DiveChairsModel", name := "deals", desc := "(III)V" } : Jvm.MethodName) prog_14_method_71_code (5 : Nat) (Option.none : Option Jvm.ClassFile.FieldType)) ∈ zGW := zt7 98 (by decide +kernel) rfl
theorem zw_1355 : (Jvm.Cond.methodLink "DiveChairsLaw" (113 : Nat) ({ cls := "DiveChairsModel", name := "order", desc := "(I)I" } : Jvm.MethodName)) ∈ zGW := zt7 99 (by decide +kernel) rfl
theorem zw_1356 : (Jvm.Cond.instanceMethod ({ cls := "DiveChairsModel", name := "order", desc := "(I)I" } : Jvm.MethodName)) ∈ zGW := zt7 100 (by decide +kernel) rfl
theorem zw_1357 : (Jvm.Cond.selects "DiveChairsModel" ({ cls := "DiveChairsModel", name := "order", desc := "(I)I" } : Jvm.MethodName) ({ cls := "DiveChairsModel", name := "order", desc := "(I)I" } : Jvm.MethodName)) ∈ zGW := zt7 101 (by decide +kernel) rfl
theorem zw_1358 : (Jvm.Cond.code ({ cls := "DiveChairsModel", name := "order", desc := "(I)I" } : Jvm.MethodName) prog_14_method_75_code (2 : Nat) (Option.some Jvm.ClassFile.FieldType.int)) ∈ zGW := zt7 102 (by decide +kernel) rfl
theorem zw_1359 : (Jvm.Cond.methodLink "DiveChairsModel" (348 : Nat) ({ cls := "DiveChairsModel", name := "findCounts", desc := "(I)V" } : Jvm.MethodName)) ∈ zGW := zt7 103 (by decide +kernel) rfl
theorem zw_1360 : (Jvm.Cond.instanceMethod ({ cls := "DiveChairsModel", name := "findCounts", desc := "(I)V" } : Jvm.MethodName)) ∈ zGW := zt7 105 (by decide +kernel) rfl
theorem zw_1361 : (Jvm.Cond.code ({ cls := "DiveChairsModel", name := "findCounts", desc := "(I)V" } : Jvm.MethodName) prog_14_method_73_code (3 : Nat) (Option.none : Option Jvm.ClassFile.FieldType)) ∈ zGW := zt7 106 (by decide +kernel) rfl
theorem zw_1362 : (Jvm.Cond.methodLink "DiveChairsModel" (351 : Nat) ({ cls := "DiveChairsModel", name := "orderNow", desc := "()I" } : Jvm.MethodName)) ∈ zGW := zt7 107 (by decide +kernel) rfl
theorem zw_1363 : (Jvm.Cond.instanceMethod ({ cls := "DiveChairsModel", name := "orderNow", desc := "()I" } : Jvm.MethodName)) ∈ zGW := zt7 109 (by decide +kernel) rfl
theorem zw_1364 : (Jvm.Cond.code ({ cls := "DiveChairsModel", name := "orderNow", desc := "()I" } : Jvm.MethodName) prog_14_method_74_code (4 : Nat) (Option.some Jvm.ClassFile.FieldType.int)) ∈ zGW := zt7 110 (by decide +kernel) rfl
theorem zw_1365 : (Jvm.Cond.methodLink "DiveChairsLaw" (117 : Nat) ({ cls := "DiveChairsModel", name := "orderOdds", desc := "(II)I" } : Jvm.MethodName)) ∈ zGW := zt7 111 (by decide +kernel) rfl
theorem zw_1366 : (Jvm.Cond.instanceMethod ({ cls := "DiveChairsModel", name := "orderOdds", desc := "(II)I" } : Jvm.MethodName)) ∈ zGW := zt7 112 (by decide +kernel) rfl
theorem zw_1367 : (Jvm.Cond.selects "DiveChairsModel" ({ cls := "DiveChairsModel", name := "orderOdds", desc := "(II)I" } : Jvm.MethodName) ({ cls := "DiveChairsModel", name := "orderOdds", desc := "(II)I" } : Jvm.MethodName)) ∈ zGW := zt7 113 (by decide +kernel) rfl
theorem zw_1368 : (Jvm.Cond.code ({ cls := "DiveChairsModel", name := "orderOdds", desc := "(II)I" } : Jvm.MethodName) prog_14_method_77_code (3 : Nat) (Option.some Jvm.ClassFile.FieldType.int)) ∈ zGW := zt7 114 (by decide +kernel) rfl
theorem zw_1369 : (Jvm.Cond.methodLink "DiveChairsModel" (354 : Nat) ({ cls := "DiveChairsModel", name := "orders", desc := "(III)V" } : Jvm.MethodName)) ∈ zGW := zt7 115 (by decide +kernel) rfl
theorem zw_1370 : (Jvm.Cond.instanceMethod ({ cls := "DiveChairsModel", name := "orders", desc := "(III)V" } : Jvm.MethodName)) ∈ zGW := zt7 117 (by decide +kernel) rfl
theorem zw_1371 : (Jvm.Cond.code ({ cls := "DiveChairsModel", name := "orders", desc := "(III)V" } : Jvm.MethodName) prog_14_method_76_code (5 : Nat) (Option.none : Option Jvm.ClassFile.FieldType)) ∈ zGW := zt7 118 (by decide +kernel) rfl
theorem zw_1372 : (Jvm.Cond.methodLink "DiveChairsLaw" (121 : Nat) ({ cls := "DiveChairsModel", name := "creep", desc := "(II)I" } : Jvm.MethodName)) ∈ zGW := zt7 119 (by decide +kernel) rfl
theorem zw_1373 : (Jvm.Cond.instanceMethod ({ cls := "DiveChairsModel", name := "creep", desc := "(II)I" } : Jvm.MethodName)) ∈ zGW := zt7 120 (by decide +kernel) rfl
theorem zw_1374 : (Jvm.Cond.selects "DiveChairsModel" ({ cls := "DiveChairsModel", name := "creep", desc := "(II)I" } : Jvm.MethodName) ({ cls := "DiveChairsModel", name := "creep", desc := "(II)I" } : Jvm.MethodName)) ∈ zGW := zt7 121 (by decide +kernel) rfl
theorem zw_1375 : (Jvm.Cond.code ({ cls := "DiveChairsModel", name := "creep", desc := "(II)I" } : Jvm.MethodName) prog_14_method_79_code (8 : Nat) (Option.some Jvm.ClassFile.FieldType.int)) ∈ zGW := zt7 122 (by decide +kernel) rfl
theorem zw_1376 : (Jvm.Cond.methodLink "DiveChairsModel" (357 : Nat) ({ cls := "DiveChairsModel", name := "meanIn", desc := "(II)I" } : Jvm.MethodName)) ∈ zGW := zt7 123 (by decide +kernel) rfl
theorem zw_1377 : (Jvm.Cond.instanceMethod ({ cls := "DiveChairsModel", name := "meanIn", desc := "(II)I" } : Jvm.MethodName)) ∈ zGW := zt7 125 (by decide +kernel) rfl
theorem zw_1378 : (Jvm.Cond.code ({ cls := "DiveChairsModel", name := "meanIn", desc := "(II)I" } : Jvm.MethodName) prog_14_method_78_code (7 : Nat) (Option.some Jvm.ClassFile.FieldType.int)) ∈ zGW := zt7 126 (by decide +kernel) rfl
theorem zw_1379 : (Jvm.Cond.methodLink "DiveChairsLaw" (125 : Nat) ({ cls := "DiveChairsModel", name := "near", desc := "(I)I" } : Jvm.MethodName)) ∈ zGW := zt7 127 (by decide +kernel) rfl
theorem zw_1380 : (Jvm.Cond.instanceMethod ({ cls := "DiveChairsModel", name := "near", desc := "(I)I" } : Jvm.MethodName)) ∈ zGW := zt7 128 (by decide +kernel) rfl
theorem zw_1381 : (Jvm.Cond.selects "DiveChairsModel" ({ cls := "DiveChairsModel", name := "near", desc := "(I)I" } : Jvm.MethodName) ({ cls := "DiveChairsModel", name := "near", desc := "(I)I" } : Jvm.MethodName)) ∈ zGW := zt7 129 (by decide +kernel) rfl
theorem zw_1382 : (Jvm.Cond.code ({ cls := "DiveChairsModel", name := "near", desc := "(I)I" } : Jvm.MethodName) prog_14_method_81_code (2 : Nat) (Option.some Jvm.ClassFile.FieldType.int)) ∈ zGW := zt7 130 (by decide +kernel) rfl
theorem zw_1383 : (Jvm.Cond.methodLink "DiveChairsModel" (366 : Nat) ({ cls := "DiveChairsModel", name := "findNear", desc := "(I)V" } : Jvm.MethodName)) ∈ zGW := zt7 131 (by decide +kernel) rfl
theorem zw_1384 : (Jvm.Cond.instanceMethod ({ cls := "DiveChairsModel", name := "findNear", desc := "(I)V" } : Jvm.MethodName)) ∈ zGW := zt7 133 (by decide +kernel) rfl
theorem zw_1385 : (Jvm.Cond.code ({ cls := "DiveChairsModel", name := "findNear", desc := "(I)V" } : Jvm.MethodName) prog_14_method_80_code (6 : Nat) (Option.none : Option Jvm.ClassFile.FieldType)) ∈ zGW := zt7 134 (by decide +kernel) rfl
theorem zw_1386 : (Jvm.Cond.methodLink "DiveChairsLaw" (129 : Nat) ({ cls := "DiveChairsModel", name := "nearest", desc := "()I" } : Jvm.MethodName)) ∈ zGW := zt7 135 (by decide +kernel) rfl
theorem zw_1387 : (Jvm.Cond.instanceMethod ({ cls := "DiveChairsModel", name := "nearest", desc := "()I" } : Jvm.MethodName)) ∈ zGW := zt7 136 (by decide +kernel) rfl
theorem zw_1388 : (Jvm.Cond.selects "DiveChairsModel" ({ cls := "DiveChairsModel", name := "nearest", desc := "()I" } : Jvm.MethodName) ({ cls := "DiveChairsModel", name := "nearest", desc := "()I" } : Jvm.MethodName)) ∈ zGW := zt7 137 (by decide +kernel) rfl
theorem zw_1389 : (Jvm.Cond.code ({ cls := "DiveChairsModel", name := "nearest", desc := "()I" } : Jvm.MethodName) prog_14_method_82_code (7 : Nat) (Option.some Jvm.ClassFile.FieldType.int)) ∈ zGW := zt7 138 (by decide +kernel) rfl
theorem zw_1390 : (Jvm.Cond.methodLink "DiveChairsLaw" (133 : Nat) ({ cls := "DiveChairsModel", name := "seeing", desc := "(III)I" } : Jvm.MethodName)) ∈ zGW := zt7 139 (by decide +kernel) rfl
theorem zw_1391 : (Jvm.Cond.instanceMethod ({ cls := "DiveChairsModel", name := "seeing", desc := "(III)I" } : Jvm.MethodName)) ∈ zGW := zt7 140 (by decide +kernel) rfl
theorem zw_1392 : (Jvm.Cond.selects "DiveChairsModel" ({ cls := "DiveChairsModel", name := "seeing", desc := "(III)I" } : Jvm.MethodName) ({ cls := "DiveChairsModel", name := "seeing", desc := "(III)I" } : Jvm.MethodName)) ∈ zGW := zt7 141 (by decide +kernel) rfl
theorem zw_1393 : (Jvm.Cond.code ({ cls := "DiveChairsModel", name := "seeing", desc := "(III)I" } : Jvm.MethodName) prog_14_method_83_code (11 : Nat) (Option.some Jvm.ClassFile.FieldType.int)) ∈ zGW := zt7 142 (by decide +kernel) rfl
theorem zw_1394 : (Jvm.Cond.methodLink "DiveChairsLaw" (137 : Nat) ({ cls := "DiveChairsModel", name := "worlds", desc := "(III)I" } : Jvm.MethodName)) ∈ zGW := zt7 143 (by decide +kernel) rfl
theorem zw_1395 : (Jvm.Cond.instanceMethod ({ cls := "DiveChairsModel", name := "worlds", desc := "(III)I" } : Jvm.MethodName)) ∈ zGW := zt7 144 (by decide +kernel) rfl
theorem zw_1396 : (Jvm.Cond.selects "DiveChairsModel" ({ cls := "DiveChairsModel", name := "worlds", desc := "(III)I" } : Jvm.MethodName) ({ cls := "DiveChairsModel", name := "worlds", desc := "(III)I" } : Jvm.MethodName)) ∈ zGW := zt7 145 (by decide +kernel) rfl
theorem zw_1397 : (Jvm.Cond.code ({ cls := "DiveChairsModel", name := "worlds", desc := "(III)I" } : Jvm.MethodName) prog_14_method_86_code (8 : Nat) (Option.some Jvm.ClassFile.FieldType.int)) ∈ zGW := zt7 146 (by decide +kernel) rfl
theorem zw_1398 : (Jvm.Cond.constantLong "DiveChairsModel" (372 : Nat) (30 : Int64)) ∈ zGW := zt7 147 (by decide +kernel) rfl
theorem zw_1399 : (Jvm.Cond.constant "DiveChairsModel" (374 : Nat) (1103515245 : Int32)) ∈ zGW := zt7 148 (by decide +kernel) rfl
theorem zw_1400 : (Jvm.Cond.constant "DiveChairsModel" (375 : Nat) (2147483647 : Int32)) ∈ zGW := zt7 149 (by decide +kernel) rfl
theorem zw_1401 : (Jvm.Cond.constant "DiveChairsModel" (376 : Nat) (65536 : Int32)) ∈ zGW := zt7 150 (by decide +kernel) rfl
theorem zw_1402 : (Jvm.Cond.methodLink "DiveChairsModel" (377 : Nat) ({ cls := "DiveChairsModel", name := "isRight", desc := "(I)Z" } : Jvm.MethodName)) ∈ zGW := zt7 151 (by decide +kernel) rfl
theorem zw_1403 : (Jvm.Cond.instanceMethod ({ cls := "DiveChairsModel", name := "isRight", desc := "(I)Z" } : Jvm.MethodName)) ∈ zGW := zt7 153 (by decide +kernel) rfl
theorem zw_1404 : (Jvm.Cond.code ({ cls := "DiveChairsModel", name := "isRight", desc := "(I)Z" } : Jvm.MethodName) prog_14_method_84_code (6 : Nat) (Option.some Jvm.ClassFile.FieldType.boolean)) ∈ zGW := zt7 154 (by decide +kernel) rfl
theorem zw_1405 : (Jvm.Cond.methodLink "DiveChairsModel" (369 : Nat) ({ cls := "DiveChairsModel", name := "truly", desc := "(II)J" } : Jvm.MethodName)) ∈ zGW := zt7 155 (by decide +kernel) rfl
theorem zw_1406 : (Jvm.Cond.instanceMethod ({ cls := "DiveChairsModel", name := "truly", desc := "(II)J" } : Jvm.MethodName)) ∈ zGW := zt7 157 (by decide +kernel) rfl
theorem zw_1407 : (Jvm.Cond.code ({ cls := "DiveChairsModel", name := "truly", desc := "(II)J" } : Jvm.MethodName) prog_14_method_85_code (6 : Nat) (Option.some Jvm.ClassFile.FieldType.long)) ∈ zGW := zt7 158 (by decide +kernel) rfl
theorem zw_1408 : (Jvm.Cond.methodLink "DiveChairsLaw" (141 : Nat) ({ cls := "DiveChairsModel", name := "image", desc := "()I" } : Jvm.MethodName)) ∈ zGW := zt7 159 (by decide +kernel) rfl
theorem zw_1409 : (Jvm.Cond.instanceMethod ({ cls := "DiveChairsModel", name := "image", desc := "()I" } : Jvm.MethodName)) ∈ zGW := zt7 160 (by decide +kernel) rfl
theorem zw_1410 : (Jvm.Cond.selects "DiveChairsModel" ({ cls := "DiveChairsModel", name := "image", desc := "()I" } : Jvm.MethodName) ({ cls := "DiveChairsModel", name := "image", desc := "()I" } : Jvm.MethodName)) ∈ zGW := zt7 161 (by decide +kernel) rfl
theorem zw_1411 : (Jvm.Cond.code ({ cls := "DiveChairsModel", name := "image", desc := "()I" } : Jvm.MethodName) prog_14_method_87_code (2 : Nat) (Option.some Jvm.ClassFile.FieldType.int)) ∈ zGW := zt7 162 (by decide +kernel) rfl
theorem zw_1412 : (Jvm.Cond.methodLink "DiveChairsLaw" (145 : Nat) ({ cls := "DiveChairsModel", name := "restore", desc := "()I" } : Jvm.MethodName)) ∈ zGW := zt7 163 (by decide +kernel) rfl
theorem zw_1413 : (Jvm.Cond.instanceMethod ({ cls := "DiveChairsModel", name := "restore", desc := "()I" } : Jvm.MethodName)) ∈ zGW := zt7 164 (by decide +kernel) rfl
theorem zw_1414 : (Jvm.Cond.selects "DiveChairsModel" ({ cls := "DiveChairsModel", name := "restore", desc := "()I" } : Jvm.MethodName) ({ cls := "DiveChairsModel", name := "restore", desc := "()I" } : Jvm.MethodName)) ∈ zGW := zt7 165 (by decide +kernel) rfl
theorem zw_1415 : (Jvm.Cond.code ({ cls := "DiveChairsModel", name := "restore", desc := "()I" } : Jvm.MethodName) prog_14_method_88_code (2 : Nat) (Option.some Jvm.ClassFile.FieldType.int)) ∈ zGW := zt7 166 (by decide +kernel) rfl
theorem zw_1416 : (Jvm.Cond.methodLink "DiveChairsLaw" (149 : Nat) ({ cls := "DiveChairsModel", name := "count", desc := "(I)I" } : Jvm.MethodName)) ∈ zGW := zt7 167 (by decide +kernel) rfl
theorem zw_1417 : (Jvm.Cond.instanceMethod ({ cls := "DiveChairsModel", name := "count", desc := "(I)I" } : Jvm.MethodName)) ∈ zGW := zt7 168 (by decide +kernel) rfl
theorem zw_1418 : (Jvm.Cond.selects "DiveChairsModel" ({ cls := "DiveChairsModel", name := "count", desc := "(I)I" } : Jvm.MethodName) ({ cls := "DiveChairsModel", name := "count", desc := "(I)I" } : Jvm.MethodName)) ∈ zGW := zt7 169 (by decide +kernel) rfl
theorem zw_1419 : (Jvm.Cond.code ({ cls := "DiveChairsModel", name := "count", desc := "(I)I" } : Jvm.MethodName) prog_14_method_89_code (5 : Nat) (Option.some Jvm.ClassFile.FieldType.int)) ∈ zGW := zt7 170 (by decide +kernel) rfl
theorem zw_1420 : (Jvm.Cond.constantLong "DiveChairsModel" (383 : Nat) (13 : Int64)) ∈ zGW := zt7 171 (by decide +kernel) rfl
theorem zw_1421 : (Jvm.Cond.methodLink "DiveChairsLaw" (153 : Nat) ({ cls := "DiveChairsModel", name := "keep", desc := "(III)I" } : Jvm.MethodName)) ∈ zGW := zt7 172 (by decide +kernel) rfl
theorem zw_1422 : (Jvm.Cond.instanceMethod ({ cls := "DiveChairsModel", name := "keep", desc := "(III)I" } : Jvm.MethodName)) ∈ zGW := zt7 173 (by decide +kernel) rfl
theorem zw_1423 : (Jvm.Cond.selects "DiveChairsModel" ({ cls := "DiveChairsModel", name := "keep", desc := "(III)I" } : Jvm.MethodName) ({ cls := "DiveChairsModel", name := "keep", desc := "(III)I" } : Jvm.MethodName)) ∈ zGW := zt7 174 (by decide +kernel) rfl
theorem zw_1424 : (Jvm.Cond.code ({ cls := "DiveChairsModel", name := "keep", desc := "(III)I" } : Jvm.MethodName) prog_14_method_91_code (5 : Nat) (Option.some Jvm.ClassFile.FieldType.int)) ∈ zGW := zt7 175 (by decide +kernel) rfl
theorem zw_1425 : (Jvm.Cond.methodLink "DiveChairsModel" (385 : Nat) ({ cls := "DiveChairsModel", name := "weightOf", desc := "(I)I" } : Jvm.MethodName)) ∈ zGW := zt7 176 (by decide +kernel) rfl
theorem zw_1426 : (Jvm.Cond.instanceMethod ({ cls := "DiveChairsModel", name := "weightOf", desc := "(I)I" } : Jvm.MethodName)) ∈ zGW := zt7 178 (by decide +kernel) rfl
theorem zw_1427 : (Jvm.Cond.code ({ cls := "DiveChairsModel", name := "weightOf", desc := "(I)I" } : Jvm.MethodName) prog_14_method_90_code (4 : Nat) (Option.some Jvm.ClassFile.FieldType.int)) ∈ zGW := zt7 179 (by decide +kernel) rfl
theorem zw_1428 : (Jvm.Cond.methodLink "DiveChairsLaw" (157 : Nat) ({ cls := "DiveChairsModel", name := "row", desc := "(III)I" } : Jvm.MethodName)) ∈ zGW := zt7 180 (by decide +kernel) rfl
theorem zw_1429 : (Jvm.Cond.instanceMethod ({ cls := "DiveChairsModel", name := "row", desc := "(III)I" } : Jvm.MethodName)) ∈ zGW := zt7 181 (by decide +kernel) rfl
theorem zw_1430 : (Jvm.Cond.selects "DiveChairsModel" ({ cls := "DiveChairsModel", name := "row", desc := "(III)I" } : Jvm.MethodName) ({ cls := "DiveChairsModel", name := "row", desc := "(III)I" } : Jvm.MethodName)) ∈ zGW := zt7 182 (by decide +kernel) rfl
theorem zw_1431 : (Jvm.Cond.code ({ cls := "DiveChairsModel", name := "row", desc := "(III)I" } : Jvm.MethodName) prog_14_method_92_code (5 : Nat) (Option.some Jvm.ClassFile.FieldType.int)) ∈ zGW := zt7 183 (by decide +kernel) rfl
theorem zw_1432 : (Jvm.Cond.methodLink "DiveChairsLaw" (161 : Nat) ({ cls := "DiveChairsModel", name := "put", desc := "(III)I" } : Jvm.MethodName)) ∈ zGW := zt7 184 (by decide +kernel) rfl
theorem zw_1433 : (Jvm.Cond.instanceMethod ({ cls := "DiveChairsModel", name := "put", desc := "(III)I" } : Jvm.MethodName)) ∈ zGW := zt7 185 (by decide +kernel) rfl
theorem zw_1434 : (Jvm.Cond.selects "DiveChairsModel" ({ cls := "DiveChairsModel", name := "put", desc := "(III)I" } : Jvm.MethodName) ({ cls := "DiveChairsModel", name := "put", desc := "(III)I" } : Jvm.MethodName)) ∈ zGW := zt7 186 (by decide +kernel) rfl
theorem zw_1435 : (Jvm.Cond.code ({ cls := "DiveChairsModel", name := "put", desc := "(III)I" } : Jvm.MethodName) prog_14_method_93_code (5 : Nat) (Option.some Jvm.ClassFile.FieldType.int)) ∈ zGW := zt7 187 (by decide +kernel) rfl
theorem zw_1436 : (Jvm.Cond.methodLink "DiveChairsLaw" (167 : Nat) ({ cls := "DiveChairsModel", name := "element", desc := "(II)J" } : Jvm.MethodName)) ∈ zGW := zt7 188 (by decide +kernel) rfl
theorem zw_1437 : (Jvm.Cond.instanceMethod ({ cls := "DiveChairsModel", name := "element", desc := "(II)J" } : Jvm.MethodName)) ∈ zGW := zt7 189 (by decide +kernel) rfl
theorem zw_1438 : (Jvm.Cond.selects "DiveChairsModel" ({ cls := "DiveChairsModel", name := "element", desc := "(II)J" } : Jvm.MethodName) ({ cls := "DiveChairsModel", name := "element", desc := "(II)J" } : Jvm.MethodName)) ∈ zGW := zt7 190 (by decide +kernel) rfl
theorem zw_1439 : (Jvm.Cond.code ({ cls := "DiveChairsModel", name := "element", desc := "(II)J" } : Jvm.MethodName) prog_14_method_94_code (3 : Nat) (Option.some Jvm.ClassFile.FieldType.long)) ∈ zGW := zt7 191 (by decide +kernel) rfl
theorem zw_1440 : (Jvm.Cond.methodLink "DiveChairsLaw" (175 : Nat) ({ cls := "DiveChairsModel", name := "copy", desc := "(IIIII)I" } : Jvm.MethodName)) ∈ zGW := zt7 192 (by decide +kernel) rfl
theorem zw_1441 : (Jvm.Cond.instanceMethod ({ cls := "DiveChairsModel", name := "copy", desc := "(IIIII)I" } : Jvm.MethodName)) ∈ zGW := zt7 193 (by decide +kernel) rfl
theorem zw_1442 : (Jvm.Cond.selects "DiveChairsModel" ({ cls := "DiveChairsModel", name := "copy", desc := "(IIIII)I" } : Jvm.MethodName) ({ cls := "DiveChairsModel", name := "copy", desc := "(IIIII)I" } : Jvm.MethodName)) ∈ zGW := zt7 194 (by decide +kernel) rfl
theorem zw_1443 : (Jvm.Cond.code ({ cls := "DiveChairsModel", name := "copy", desc := "(IIIII)I" } : Jvm.MethodName) prog_14_method_95_code (8 : Nat) (Option.some Jvm.ClassFile.FieldType.int)) ∈ zGW := zt7 195 (by decide +kernel) rfl
theorem zw_1444 : (Jvm.Cond.methodLink "DiveChairsLaw" (179 : Nat) ({ cls := "DiveChairsModel", name := "weight", desc := "(I)I" } : Jvm.MethodName)) ∈ zGW := zt7 196 (by decide +kernel) rfl
theorem zw_1445 : (Jvm.Cond.instanceMethod ({ cls := "DiveChairsModel", name := "weight", desc := "(I)I" } : Jvm.MethodName)) ∈ zGW := zt7 197 (by decide +kernel) rfl
theorem zw_1446 : (Jvm.Cond.selects "DiveChairsModel" ({ cls := "DiveChairsModel", name := "weight", desc := "(I)I" } : Jvm.MethodName) ({ cls := "DiveChairsModel", name := "weight", desc := "(I)I" } : Jvm.MethodName)) ∈ zGW := zt7 198 (by decide +kernel) rfl
theorem zw_1447 : (Jvm.Cond.code ({ cls := "DiveChairsModel", name := "weight", desc := "(I)I" } : Jvm.MethodName) prog_14_method_97_code (3 : Nat) (Option.some Jvm.ClassFile.FieldType.int)) ∈ zGW := zt7 199 (by decide +kernel) rfl
theorem zw_1448 : (Jvm.Cond.methodLink "DiveChairsModel" (388 : Nat) ({ cls := "DiveChairsModel", name := "wrongKept", desc := "(I)I" } : Jvm.MethodName)) ∈ zGW := zt7 200 (by decide +kernel) rfl
theorem zw_1449 : (Jvm.Cond.instanceMethod ({ cls := "DiveChairsModel", name := "wrongKept", desc := "(I)I" } : Jvm.MethodName)) ∈ zGW := zt7 202 (by decide +kernel) rfl
theorem zw_1450 : (Jvm.Cond.code ({ cls := "DiveChairsModel", name := "wrongKept", desc := "(I)I" } : Jvm.MethodName) prog_14_method_96_code (2 : Nat) (Option.some Jvm.ClassFile.FieldType.int)) ∈ zGW := zt7 203 (by decide +kernel) rfl
theorem zw_1451 : (Jvm.Cond.methodLink "DiveChairsLaw" (183 : Nat) ({ cls := "DiveChairsModel", name := "toss", desc := "(I)I" } : Jvm.MethodName)) ∈ zGW := zt7 204 (by decide +kernel) rfl
theorem zw_1452 : (Jvm.Cond.instanceMethod ({ cls := "DiveChairsModel", name := "toss", desc := "(I)I" } : Jvm.MethodName)) ∈ zGW := zt7 205 (by decide +kernel) rfl
theorem zw_1453 : (Jvm.Cond.selects "DiveChairsModel" ({ cls := "DiveChairsModel", name := "toss", desc := "(I)I" } : Jvm.MethodName) ({ cls := "DiveChairsModel", name := "toss", desc := "(I)I" } : Jvm.MethodName)) ∈ zGW := zt7 206 (by decide +kernel) rfl
theorem zw_1454 : (Jvm.Cond.code ({ cls := "DiveChairsModel", name := "toss", desc := "(I)I" } : Jvm.MethodName) prog_14_method_98_code (3 : Nat) (Option.some Jvm.ClassFile.FieldType.int)) ∈ zGW := zt7 207 (by decide +kernel) rfl
theorem zw_1455 : (Jvm.Cond.sameMethod "DiveChairs$Dealing" "DiveChairs$Dealing" "asItStands" "()I") ∈ zGW := zt7 208 (by decide +kernel) rfl
theorem zw_1456 : (Jvm.Cond.selects "DiveChairs$LandDealing" ({ cls := "DiveChairs$Dealing", name := "asItStands", desc := "()I" } : Jvm.MethodName) ({ cls := "DiveChairs$Dealing", name := "asItStands", desc := "()I" } : Jvm.MethodName)) ∈ zGW := zt7 209 (by decide +kernel) rfl
theorem zw_1457 : (Jvm.Cond.selects "DiveChairs$OrderDealing" ({ cls := "DiveChairs$Dealing", name := "asItStands", desc := "()I" } : Jvm.MethodName) ({ cls := "DiveChairs$Dealing", name := "asItStands", desc := "()I" } : Jvm.MethodName)) ∈ zGW := zt7 210 (by decide +kernel) rfl
theorem zw_1458 : (Jvm.Cond.sameMethod "DiveChairs$Dealing" "DiveChairs$Dealing" "waysFrom" "(III)I") ∈ zGW := zt7 211 (by decide +kernel) rfl
theorem zw_1459 : (Jvm.Cond.sameMethod "DiveChairs$Dealing" "DiveChairs$Dealing" "gainAt" "(I)I") ∈ zGW := zt7 212 (by decide +kernel) rfl
theorem zw_1460 : (Jvm.Cond.sameMethod "java/lang/Throwable" "java/lang/Throwable" "fillInStackTrace" "(I)Ljava/lang/Throwable;") ∈ zGW := zt7 213 (by decide +kernel) rfl
theorem zw_1461 : Cond.selects "DiveChairs$State" ⟨"DiveChairs$State", "gatherOthers", "(ILDiveChairs$Dive;)V"⟩ ⟨"DiveChairs$State", "gatherOthers", "(ILDiveChairs$Dive;)V"⟩ ∈ zGW := zp1 (q := (⟨"DiveChairs$State", "gatherOthers", "(ILDiveChairs$Dive;)V"⟩, 12)) 0 (by decide +kernel)
theorem zw_1462 : Cond.selects "DiveChairs$State" ⟨"DiveChairs$State", "markOf", "(LDiveChairs$Judge;ILDiveChairs$Dive;I)I"⟩ ⟨"DiveChairs$State", "markOf", "(LDiveChairs$Judge;ILDiveChairs$Dive;I)I"⟩ ∈ zGW := zp1 (q := (⟨"DiveChairs$State", "markOf", "(LDiveChairs$Judge;ILDiveChairs$Dive;I)I"⟩, 12)) 1 (by decide +kernel)
theorem zw_1463 : Cond.selects "DiveChairs$State" ⟨"DiveChairs$State", "drawnBy", "(ILDiveChairs$Dive;)I"⟩ ⟨"DiveChairs$State", "drawnBy", "(ILDiveChairs$Dive;)I"⟩ ∈ zGW := zp1 (q := (⟨"DiveChairs$State", "drawnBy", "(ILDiveChairs$Dive;)I"⟩, 12)) 2 (by decide +kernel)
theorem zw_1464 : Cond.selects "DiveChairs" ⟨"DiveChairs", "shelfAt", "(I)LDiveChairs$Shelf;"⟩ ⟨"DiveChairs", "shelfAt", "(I)LDiveChairs$Shelf;"⟩ ∈ zGW := zp1 (q := (⟨"DiveChairs", "shelfAt", "(I)LDiveChairs$Shelf;"⟩, 9)) 3 (by decide +kernel)
theorem zw_1465 : Cond.selects "DiveChairs$RuleReader" ⟨"DiveChairs$RuleReader", "readStatement", "()V"⟩ ⟨"DiveChairs$RuleReader", "readStatement", "()V"⟩ ∈ zGW := zp1 (q := (⟨"DiveChairs$RuleReader", "readStatement", "()V"⟩, 6)) 4 (by decide +kernel)
theorem zw_1466 : Cond.selects "DiveChairs$RuleReader" ⟨"DiveChairs$RuleReader", "next", "()I"⟩ ⟨"DiveChairs$RuleReader", "next", "()I"⟩ ∈ zGW := zp1 (q := (⟨"DiveChairs$RuleReader", "next", "()I"⟩, 6)) 5 (by decide +kernel)
theorem zw_1467 : Cond.selects "DiveChairs$RuleReader" ⟨"DiveChairs$RuleReader", "readOff", "(I)V"⟩ ⟨"DiveChairs$RuleReader", "readOff", "(I)V"⟩ ∈ zGW := zp1 (q := (⟨"DiveChairs$RuleReader", "readOff", "(I)V"⟩, 6)) 6 (by decide +kernel)
theorem zw_1468 : Cond.selects "DiveChairs$RuleReader" ⟨"DiveChairs$RuleReader", "readNumber", "()I"⟩ ⟨"DiveChairs$RuleReader", "readNumber", "()I"⟩ ∈ zGW := zp1 (q := (⟨"DiveChairs$RuleReader", "readNumber", "()I"⟩, 6)) 7 (by decide +kernel)
theorem zw_1469 : Cond.selects "DiveChairs$RuleReader" ⟨"DiveChairs$RuleReader", "isAtDigit", "()Z"⟩ ⟨"DiveChairs$RuleReader", "isAtDigit", "()Z"⟩ ∈ zGW := zp1 (q := (⟨"DiveChairs$RuleReader", "isAtDigit", "()Z"⟩, 6)) 8 (by decide +kernel)
theorem zw_1470 : Cond.selects "DiveChairs$RuleReader" ⟨"DiveChairs$RuleReader", "expect", "(I)V"⟩ ⟨"DiveChairs$RuleReader", "expect", "(I)V"⟩ ∈ zGW := zp1 (q := (⟨"DiveChairs$RuleReader", "expect", "(I)V"⟩, 6)) 9 (by decide +kernel)
theorem zw_1471 : Cond.selects "DiveChairs$RuleReader" ⟨"DiveChairs$RuleReader", "wrongAt", "(I)V"⟩ ⟨"DiveChairs$RuleReader", "wrongAt", "(I)V"⟩ ∈ zGW := zp1 (q := (⟨"DiveChairs$RuleReader", "wrongAt", "(I)V"⟩, 6)) 10 (by decide +kernel)
theorem zw_1472 : Cond.selects "DiveChairs$RuleReader" ⟨"DiveChairs$RuleReader", "readDropped", "(I)V"⟩ ⟨"DiveChairs$RuleReader", "readDropped", "(I)V"⟩ ∈ zGW := zp1 (q := (⟨"DiveChairs$RuleReader", "readDropped", "(I)V"⟩, 6)) 11 (by decide +kernel)
theorem zw_1473 : Cond.selects "DiveChairs$RuleReader" ⟨"DiveChairs$RuleReader", "readSum", "(I)V"⟩ ⟨"DiveChairs$RuleReader", "readSum", "(I)V"⟩ ∈ zGW := zp1 (q := (⟨"DiveChairs$RuleReader", "readSum", "(I)V"⟩, 6)) 12 (by decide +kernel)
theorem zw_1474 : Cond.selects "DiveChairs$RuleReader" ⟨"DiveChairs$RuleReader", "readProduct", "(I)V"⟩ ⟨"DiveChairs$RuleReader", "readProduct", "(I)V"⟩ ∈ zGW := zp1 (q := (⟨"DiveChairs$RuleReader", "readProduct", "(I)V"⟩, 6)) 13 (by decide +kernel)
theorem zw_1475 : Cond.selects "DiveChairs$RuleReader" ⟨"DiveChairs$RuleReader", "readAtom", "(I)V"⟩ ⟨"DiveChairs$RuleReader", "readAtom", "(I)V"⟩ ∈ zGW := zp1 (q := (⟨"DiveChairs$RuleReader", "readAtom", "(I)V"⟩, 6)) 14 (by decide +kernel)
theorem zw_1476 : Cond.selects "DiveChairs$RuleReader" ⟨"DiveChairs$RuleReader", "readBrackets", "(III)V"⟩ ⟨"DiveChairs$RuleReader", "readBrackets", "(III)V"⟩ ∈ zGW := zp1 (q := (⟨"DiveChairs$RuleReader", "readBrackets", "(III)V"⟩, 6)) 15 (by decide +kernel)
theorem zw_1477 : Cond.selects "DiveChairs$Rule" ⟨"DiveChairs$Rule", "fieldOf", "(ILDiveChairs$Panel;LDiveChairs$Dive;)I"⟩ ⟨"DiveChairs$Rule", "fieldOf", "(ILDiveChairs$Panel;LDiveChairs$Dive;)I"⟩ ∈ zGW := zp2 (q := (⟨"DiveChairs$Rule", "fieldOf", "(ILDiveChairs$Panel;LDiveChairs$Dive;)I"⟩, 6)) 0 (by decide +kernel)
theorem zw_1478 : Cond.selects "DiveChairs" ⟨"DiveChairs", "placeMovedBy", "(III)I"⟩ ⟨"DiveChairs", "placeMovedBy", "(III)I"⟩ ∈ zGW := zp2 (q := (⟨"DiveChairs", "placeMovedBy", "(III)I"⟩, 9)) 1 (by decide +kernel)
theorem zw_1479 : Cond.selects "DiveChairs$LandDealing" ⟨"DiveChairs$LandDealing", "addLeans", "(LDiveChairs$Dive;II)V"⟩ ⟨"DiveChairs$LandDealing", "addLeans", "(LDiveChairs$Dive;II)V"⟩ ∈ zGW := zp2 (q := (⟨"DiveChairs$LandDealing", "addLeans", "(LDiveChairs$Dive;II)V"⟩, 6)) 2 (by decide +kernel)
theorem zw_1480 : Cond.selects "DiveChairs$LandDealing" ⟨"DiveChairs$LandDealing", "leansTo", "(II)Z"⟩ ⟨"DiveChairs$LandDealing", "leansTo", "(II)Z"⟩ ∈ zGW := zp2 (q := (⟨"DiveChairs$LandDealing", "leansTo", "(II)Z"⟩, 6)) 3 (by decide +kernel)
theorem zw_1481 : Cond.selects "java/lang/Throwable" ⟨"java/lang/Throwable", "fillInStackTrace", "(I)Ljava/lang/Throwable;"⟩ ⟨"java/lang/Throwable", "fillInStackTrace", "(I)Ljava/lang/Throwable;"⟩ ∈ zGW := zp2 (q := (⟨"java/lang/Throwable", "fillInStackTrace", "(I)Ljava/lang/Throwable;"⟩, 6)) 4 (by decide +kernel)
theorem zw_1482 : Cond.selects "DiveChairsModel" ⟨"DiveChairsModel", "becomes", "(II)I"⟩ ⟨"DiveChairsModel", "becomes", "(II)I"⟩ ∈ zGW := zp2 (q := (⟨"DiveChairsModel", "becomes", "(II)I"⟩, 50)) 5 (by decide +kernel)
theorem zw_1483 : Cond.selects "DiveChairsModel" ⟨"DiveChairsModel", "isJudge", "(I)Z"⟩ ⟨"DiveChairsModel", "isJudge", "(I)Z"⟩ ∈ zGW := zp2 (q := (⟨"DiveChairsModel", "isJudge", "(I)Z"⟩, 50)) 6 (by decide +kernel)
theorem zw_1484 : Cond.selects "DiveChairsModel" ⟨"DiveChairsModel", "onChair", "(II)I"⟩ ⟨"DiveChairsModel", "onChair", "(II)I"⟩ ∈ zGW := zp2 (q := (⟨"DiveChairsModel", "onChair", "(II)I"⟩, 50)) 7 (by decide +kernel)
theorem zw_1485 : Cond.selects "DiveChairsModel" ⟨"DiveChairsModel", "isDiver", "(I)Z"⟩ ⟨"DiveChairsModel", "isDiver", "(I)Z"⟩ ∈ zGW := zp2 (q := (⟨"DiveChairsModel", "isDiver", "(I)Z"⟩, 50)) 8 (by decide +kernel)
theorem zw_1486 : Cond.selects "DiveChairsModel" ⟨"DiveChairsModel", "isDive", "(I)Z"⟩ ⟨"DiveChairsModel", "isDive", "(I)Z"⟩ ∈ zGW := zp2 (q := (⟨"DiveChairsModel", "isDive", "(I)Z"⟩, 50)) 9 (by decide +kernel)
theorem zw_1487 : Cond.selects "DiveChairsModel" ⟨"DiveChairsModel", "get", "(II)I"⟩ ⟨"DiveChairsModel", "get", "(II)I"⟩ ∈ zGW := zp2 (q := (⟨"DiveChairsModel", "get", "(II)I"⟩, 50)) 10 (by decide +kernel)
theorem zw_1488 : Cond.selects "DiveChairsModel" ⟨"DiveChairsModel", "worth", "(I)I"⟩ ⟨"DiveChairsModel", "worth", "(I)I"⟩ ∈ zGW := zp2 (q := (⟨"DiveChairsModel", "worth", "(I)I"⟩, 50)) 11 (by decide +kernel)
theorem zw_1489 : Cond.selects "DiveChairsModel" ⟨"DiveChairsModel", "marksOf", "(I)I"⟩ ⟨"DiveChairsModel", "marksOf", "(I)I"⟩ ∈ zGW := zp2 (q := (⟨"DiveChairsModel", "marksOf", "(I)I"⟩, 50)) 12 (by decide +kernel)
theorem zw_1490 : Cond.selects "DiveChairsModel" ⟨"DiveChairsModel", "wouldOf", "(II)I"⟩ ⟨"DiveChairsModel", "wouldOf", "(II)I"⟩ ∈ zGW := zp2 (q := (⟨"DiveChairsModel", "wouldOf", "(II)I"⟩, 50)) 13 (by decide +kernel)
theorem zw_1491 : Cond.selects "DiveChairsModel" ⟨"DiveChairsModel", "lessOff", "(IIZ)I"⟩ ⟨"DiveChairsModel", "lessOff", "(IIZ)I"⟩ ∈ zGW := zp2 (q := (⟨"DiveChairsModel", "lessOff", "(IIZ)I"⟩, 50)) 14 (by decide +kernel)
theorem zw_1492 : Cond.selects "DiveChairsModel" ⟨"DiveChairsModel", "aheadOf", "(I)I"⟩ ⟨"DiveChairsModel", "aheadOf", "(I)I"⟩ ∈ zGW := zp2 (q := (⟨"DiveChairsModel", "aheadOf", "(I)I"⟩, 50)) 15 (by decide +kernel)
theorem zw_1493 : Cond.selects "DiveChairsModel" ⟨"DiveChairsModel", "middleWould", "(I)I"⟩ ⟨"DiveChairsModel", "middleWould", "(I)I"⟩ ∈ zGW := zp3 (q := (⟨"DiveChairsModel", "middleWould", "(I)I"⟩, 50)) 0 (by decide +kernel)
theorem zw_1494 : Cond.selects "DiveChairsModel" ⟨"DiveChairsModel", "comes", "(I)V"⟩ ⟨"DiveChairsModel", "comes", "(I)V"⟩ ∈ zGW := zp3 (q := (⟨"DiveChairsModel", "comes", "(I)V"⟩, 50)) 1 (by decide +kernel)
theorem zw_1495 : Cond.selects "DiveChairsModel" ⟨"DiveChairsModel", "marksAs", "(I)V"⟩ ⟨"DiveChairsModel", "marksAs", "(I)V"⟩ ∈ zGW := zp3 (q := (⟨"DiveChairsModel", "marksAs", "(I)V"⟩, 50)) 2 (by decide +kernel)
theorem zw_1496 : Cond.selects "DiveChairsModel" ⟨"DiveChairsModel", "wrongRow", "(II)I"⟩ ⟨"DiveChairsModel", "wrongRow", "(II)I"⟩ ∈ zGW := zp3 (q := (⟨"DiveChairsModel", "wrongRow", "(II)I"⟩, 50)) 3 (by decide +kernel)
theorem zw_1497 : Cond.selects "DiveChairsModel" ⟨"DiveChairsModel", "markOf", "(II)I"⟩ ⟨"DiveChairsModel", "markOf", "(II)I"⟩ ∈ zGW := zp3 (q := (⟨"DiveChairsModel", "markOf", "(II)I"⟩, 50)) 4 (by decide +kernel)
theorem zw_1498 : Cond.selects "DiveChairsModel" ⟨"DiveChairsModel", "begins", "(I)V"⟩ ⟨"DiveChairsModel", "begins", "(I)V"⟩ ∈ zGW := zp3 (q := (⟨"DiveChairsModel", "begins", "(I)V"⟩, 50)) 5 (by decide +kernel)
theorem zw_1499 : Cond.selects "DiveChairsModel" ⟨"DiveChairsModel", "readsStatement", "()Z"⟩ ⟨"DiveChairsModel", "readsStatement", "()Z"⟩ ∈ zGW := zp3 (q := (⟨"DiveChairsModel", "readsStatement", "()Z"⟩, 50)) 6 (by decide +kernel)
theorem zw_1500 : Cond.selects "DiveChairsModel" ⟨"DiveChairsModel", "sign", "()I"⟩ ⟨"DiveChairsModel", "sign", "()I"⟩ ∈ zGW := zp3 (q := (⟨"DiveChairsModel", "sign", "()I"⟩, 50)) 7 (by decide +kernel)
theorem zw_1501 : Cond.selects "DiveChairsModel" ⟨"DiveChairsModel", "readsSum", "()Z"⟩ ⟨"DiveChairsModel", "readsSum", "()Z"⟩ ∈ zGW := zp3 (q := (⟨"DiveChairsModel", "readsSum", "()Z"⟩, 50)) 8 (by decide +kernel)
theorem zw_1502 : Cond.selects "DiveChairsModel" ⟨"DiveChairsModel", "readsProduct", "()Z"⟩ ⟨"DiveChairsModel", "readsProduct", "()Z"⟩ ∈ zGW := zp3 (q := (⟨"DiveChairsModel", "readsProduct", "()Z"⟩, 50)) 9 (by decide +kernel)
theorem zw_1503 : Cond.selects "DiveChairsModel" ⟨"DiveChairsModel", "readsAtom", "()Z"⟩ ⟨"DiveChairsModel", "readsAtom", "()Z"⟩ ∈ zGW := zp3 (q := (⟨"DiveChairsModel", "readsAtom", "()Z"⟩, 50)) 10 (by decide +kernel)
theorem zw_1504 : Cond.selects "DiveChairsModel" ⟨"DiveChairsModel", "takes", "(I)Z"⟩ ⟨"DiveChairsModel", "takes", "(I)Z"⟩ ∈ zGW := zp3 (q := (⟨"DiveChairsModel", "takes", "(I)Z"⟩, 50)) 11 (by decide +kernel)
theorem zw_1505 : Cond.selects "DiveChairsModel" ⟨"DiveChairsModel", "readsNumber", "()Z"⟩ ⟨"DiveChairsModel", "readsNumber", "()Z"⟩ ∈ zGW := zp3 (q := (⟨"DiveChairsModel", "readsNumber", "()Z"⟩, 50)) 12 (by decide +kernel)
theorem zw_1506 : Cond.selects "DiveChairsModel" ⟨"DiveChairsModel", "asTold", "()V"⟩ ⟨"DiveChairsModel", "asTold", "()V"⟩ ∈ zGW := zp3 (q := (⟨"DiveChairsModel", "asTold", "()V"⟩, 50)) 13 (by decide +kernel)
theorem zw_1507 : Cond.selects "DiveChairsModel" ⟨"DiveChairsModel", "countsNow", "(I)I"⟩ ⟨"DiveChairsModel", "countsNow", "(I)I"⟩ ∈ zGW := zp3 (q := (⟨"DiveChairsModel", "countsNow", "(I)I"⟩, 50)) 14 (by decide +kernel)
theorem zw_1508 : Cond.selects "DiveChairsModel" ⟨"DiveChairsModel", "gathers", "(I)V"⟩ ⟨"DiveChairsModel", "gathers", "(I)V"⟩ ∈ zGW := zp3 (q := (⟨"DiveChairsModel", "gathers", "(I)V"⟩, 50)) 15 (by decide +kernel)
theorem zw_1509 : Cond.selects "DiveChairsModel" ⟨"DiveChairsModel", "leanIn", "(II)I"⟩ ⟨"DiveChairsModel", "leanIn", "(II)I"⟩ ∈ zGW := zp4 (q := (⟨"DiveChairsModel", "leanIn", "(II)I"⟩, 50)) 0 (by decide +kernel)
theorem zw_1510 : Cond.selects "DiveChairsModel" ⟨"DiveChairsModel", "sumOf", "()I"⟩ ⟨"DiveChairsModel", "sumOf", "()I"⟩ ∈ zGW := zp4 (q := (⟨"DiveChairsModel", "sumOf", "()I"⟩, 50)) 1 (by decide +kernel)
theorem zw_1511 : Cond.selects "DiveChairsModel" ⟨"DiveChairsModel", "product", "()I"⟩ ⟨"DiveChairsModel", "product", "()I"⟩ ∈ zGW := zp4 (q := (⟨"DiveChairsModel", "product", "()I"⟩, 50)) 2 (by decide +kernel)
theorem zw_1512 : Cond.selects "DiveChairsModel" ⟨"DiveChairsModel", "atom", "()I"⟩ ⟨"DiveChairsModel", "atom", "()I"⟩ ∈ zGW := zp4 (q := (⟨"DiveChairsModel", "atom", "()I"⟩, 50)) 3 (by decide +kernel)
theorem zw_1513 : Cond.selects "DiveChairsModel" ⟨"DiveChairsModel", "dives", "(II)Z"⟩ ⟨"DiveChairsModel", "dives", "(II)Z"⟩ ∈ zGW := zp4 (q := (⟨"DiveChairsModel", "dives", "(II)Z"⟩, 50)) 4 (by decide +kernel)
theorem zw_1514 : Cond.selects "DiveChairsModel" ⟨"DiveChairsModel", "totalNow", "(II)J"⟩ ⟨"DiveChairsModel", "totalNow", "(II)J"⟩ ∈ zGW := zp4 (q := (⟨"DiveChairsModel", "totalNow", "(II)J"⟩, 50)) 5 (by decide +kernel)
theorem zw_1515 : Cond.selects "DiveChairsModel" ⟨"DiveChairsModel", "placeNow", "(II)I"⟩ ⟨"DiveChairsModel", "placeNow", "(II)I"⟩ ∈ zGW := zp4 (q := (⟨"DiveChairsModel", "placeNow", "(II)I"⟩, 50)) 6 (by decide +kernel)
theorem zw_1516 : Cond.selects "DiveChairsModel" ⟨"DiveChairsModel", "wonNow", "(I)I"⟩ ⟨"DiveChairsModel", "wonNow", "(I)I"⟩ ∈ zGW := zp4 (q := (⟨"DiveChairsModel", "wonNow", "(I)I"⟩, 50)) 7 (by decide +kernel)
theorem zw_1517 : Cond.selects "DiveChairsModel" ⟨"DiveChairsModel", "findLean", "(II)V"⟩ ⟨"DiveChairsModel", "findLean", "(II)V"⟩ ∈ zGW := zp4 (q := (⟨"DiveChairsModel", "findLean", "(II)V"⟩, 50)) 8 (by decide +kernel)
theorem zw_1518 : Cond.selects "DiveChairsModel" ⟨"DiveChairsModel", "middleOf", "(I)I"⟩ ⟨"DiveChairsModel", "middleOf", "(I)I"⟩ ∈ zGW := zp4 (q := (⟨"DiveChairsModel", "middleOf", "(I)I"⟩, 50)) 9 (by decide +kernel)
theorem zw_1519 : Cond.selects "DiveChairsModel" ⟨"DiveChairsModel", "findSums", "()V"⟩ ⟨"DiveChairsModel", "findSums", "()V"⟩ ∈ zGW := zp4 (q := (⟨"DiveChairsModel", "findSums", "()V"⟩, 50)) 10 (by decide +kernel)
theorem zw_1520 : Cond.selects "DiveChairsModel" ⟨"DiveChairsModel", "sits", "(II)Z"⟩ ⟨"DiveChairsModel", "sits", "(II)Z"⟩ ∈ zGW := zp4 (q := (⟨"DiveChairsModel", "sits", "(II)Z"⟩, 50)) 11 (by decide +kernel)
theorem zw_1521 : Cond.selects "DiveChairsModel" ⟨"DiveChairsModel", "pairsNow", "()I"⟩ ⟨"DiveChairsModel", "pairsNow", "()I"⟩ ∈ zGW := zp4 (q := (⟨"DiveChairsModel", "pairsNow", "()I"⟩, 50)) 12 (by decide +kernel)
theorem zw_1522 : Cond.selects "DiveChairsModel" ⟨"DiveChairsModel", "deals", "(III)V"⟩ ⟨"DiveChairsModel", "deals", "(III)V"⟩ ∈ zGW := zp4 (q := (⟨"DiveChairsModel", "deals", "(III)V"⟩, 50)) 13 (by decide +kernel)
theorem zw_1523 : Cond.selects "DiveChairsModel" ⟨"DiveChairsModel", "findCounts", "(I)V"⟩ ⟨"DiveChairsModel", "findCounts", "(I)V"⟩ ∈ zGW := zp4 (q := (⟨"DiveChairsModel", "findCounts", "(I)V"⟩, 50)) 14 (by decide +kernel)
theorem zw_1524 : Cond.selects "DiveChairsModel" ⟨"DiveChairsModel", "orderNow", "()I"⟩ ⟨"DiveChairsModel", "orderNow", "()I"⟩ ∈ zGW := zp4 (q := (⟨"DiveChairsModel", "orderNow", "()I"⟩, 50)) 15 (by decide +kernel)
theorem zw_1525 : Cond.selects "DiveChairsModel" ⟨"DiveChairsModel", "orders", "(III)V"⟩ ⟨"DiveChairsModel", "orders", "(III)V"⟩ ∈ zGW := zp5 (q := (⟨"DiveChairsModel", "orders", "(III)V"⟩, 50)) 0 (by decide +kernel)
theorem zw_1526 : Cond.selects "DiveChairsModel" ⟨"DiveChairsModel", "meanIn", "(II)I"⟩ ⟨"DiveChairsModel", "meanIn", "(II)I"⟩ ∈ zGW := zp5 (q := (⟨"DiveChairsModel", "meanIn", "(II)I"⟩, 50)) 1 (by decide +kernel)
theorem zw_1527 : Cond.selects "DiveChairsModel" ⟨"DiveChairsModel", "findNear", "(I)V"⟩ ⟨"DiveChairsModel", "findNear", "(I)V"⟩ ∈ zGW := zp5 (q := (⟨"DiveChairsModel", "findNear", "(I)V"⟩, 50)) 2 (by decide +kernel)
theorem zw_1528 : Cond.selects "DiveChairsModel" ⟨"DiveChairsModel", "isRight", "(I)Z"⟩ ⟨"DiveChairsModel", "isRight", "(I)Z"⟩ ∈ zGW := zp5 (q := (⟨"DiveChairsModel", "isRight", "(I)Z"⟩, 50)) 3 (by decide +kernel)
theorem zw_1529 : Cond.selects "DiveChairsModel" ⟨"DiveChairsModel", "truly", "(II)J"⟩ ⟨"DiveChairsModel", "truly", "(II)J"⟩ ∈ zGW := zp5 (q := (⟨"DiveChairsModel", "truly", "(II)J"⟩, 50)) 4 (by decide +kernel)
theorem zw_1530 : Cond.selects "DiveChairsModel" ⟨"DiveChairsModel", "weightOf", "(I)I"⟩ ⟨"DiveChairsModel", "weightOf", "(I)I"⟩ ∈ zGW := zp5 (q := (⟨"DiveChairsModel", "weightOf", "(I)I"⟩, 50)) 5 (by decide +kernel)
theorem zw_1531 : Cond.selects "DiveChairsModel" ⟨"DiveChairsModel", "wrongKept", "(I)I"⟩ ⟨"DiveChairsModel", "wrongKept", "(I)I"⟩ ∈ zGW := zp5 (q := (⟨"DiveChairsModel", "wrongKept", "(I)I"⟩, 50)) 6 (by decide +kernel)
def zNM : List (String × Nat × MethodName × String) := [("DiveChairs$State", 49, ⟨"DiveChairs$Panel", "<init>", "()V"⟩, "DiveChairs"), ("DiveChairs$State", 54, ⟨"DiveChairs$Dive", "<init>", "()V"⟩, "DiveChairs"), ("DiveChairs", 30, ⟨"DiveChairs$RuleReader", "<init>", "()V"⟩, "DiveChairs"), ("DiveChairs", 37, ⟨"DiveChairs$OrderDealing", "<init>", "()V"⟩, "DiveChairs"), ("DiveChairs$OrderDealing", 3, ⟨"DiveChairs$Dealing", "<init>", "()V"⟩, "DiveChairs"), ("DiveChairs", 44, ⟨"DiveChairs$LandDealing", "<init>", "()V"⟩, "DiveChairs"), ("DiveChairs$LandDealing", 3, ⟨"DiveChairs$Dealing", "<init>", "()V"⟩, "DiveChairs"), ("DiveChairs", 51, ⟨"DiveChairs$Tally", "<init>", "()V"⟩, "DiveChairs"), ("DiveChairs", 56, ⟨"DiveChairs$Shelf", "<init>", "()V"⟩, "DiveChairs"), ("DiveChairs$State", 78, ⟨"DiveChairs", "within", "(II)Z"⟩, "DiveChairs"), ("DiveChairs$Dive", 44, ⟨"DiveChairs", "within", "(II)Z"⟩, "DiveChairs"), ("DiveChairs$State", 157, ⟨"DiveChairs", "partsSeen", "(II)I"⟩, "DiveChairs"), ("DiveChairs$Shelf", 37, ⟨"DiveChairs", "within", "(II)Z"⟩, "DiveChairs"), ("DiveChairs$RuleReader", 78, ⟨"DiveChairs", "within", "(II)Z"⟩, "DiveChairs"), ("DiveChairs$State", 194, ⟨"DiveChairs", "holds", "(II)Z"⟩, "DiveChairs"), ("DiveChairs$LandDealing", 77, ⟨"DiveChairs", "within", "(II)Z"⟩, "DiveChairs"), ("DiveChairs$OrderDealing", 33, ⟨"DiveChairs", "within", "(II)Z"⟩, "DiveChairs"), ("DiveChairs$Dealing", 34, ⟨"DiveChairs", "within", "(II)Z"⟩, "DiveChairs"), ("DiveChairs$Dealing", 38, ⟨"DiveChairs", "holds", "(II)Z"⟩, "DiveChairs")]
def zDc : List MethodName := [⟨"DiveChairs$Dealing", "asItStands", "()I"⟩, ⟨"DiveChairs$Dealing", "between", "(IIII)I"⟩, ⟨"DiveChairs$Dealing", "waysAsGood", "()I"⟩, ⟨"DiveChairs$Dealing", "allWays", "()I"⟩]
def zAO : List String := ["DiveChairs$Judge", "DiveChairs$Dive", "DiveChairs$Shelf"]
theorem zNM_in : ∀ w ∈ zNM, Cond.methodLinkNest w.1 w.2.1 w.2.2.1 w.2.2.2 ∈ lw_tbl := List.forall_mem_cons.mpr ⟨zx_73, List.forall_mem_cons.mpr ⟨zx_86, List.forall_mem_cons.mpr ⟨zx_164, List.forall_mem_cons.mpr ⟨zx_186, List.forall_mem_cons.mpr ⟨zx_189, List.forall_mem_cons.mpr ⟨zx_209, List.forall_mem_cons.mpr ⟨zx_212, List.forall_mem_cons.mpr ⟨zx_225, List.forall_mem_cons.mpr ⟨zx_246, List.forall_mem_cons.mpr ⟨zx_297, List.forall_mem_cons.mpr ⟨zx_357, List.forall_mem_cons.mpr ⟨zx_407, List.forall_mem_cons.mpr ⟨zx_467, List.forall_mem_cons.mpr ⟨zx_511, List.forall_mem_cons.mpr ⟨zx_602, List.forall_mem_cons.mpr ⟨zx_702, List.forall_mem_cons.mpr ⟨zx_721, List.forall_mem_cons.mpr ⟨zx_736, List.forall_mem_cons.mpr ⟨zx_737, fun _ h => absurd h List.not_mem_nil⟩⟩⟩⟩⟩⟩⟩⟩⟩⟩⟩⟩⟩⟩⟩⟩⟩⟩⟩
theorem zDc_in : ∀ w ∈ zDc, Cond.declares w ∈ lw_tbl := List.forall_mem_cons.mpr ⟨zx_705, List.forall_mem_cons.mpr ⟨zx_710, List.forall_mem_cons.mpr ⟨zx_728, List.forall_mem_cons.mpr ⟨zx_743, fun _ h => absurd h List.not_mem_nil⟩⟩⟩⟩
theorem zAO_in : ∀ w ∈ zAO, Cond.arrayOver (.object w) ∈ lw_tbl := List.forall_mem_cons.mpr ⟨zx_68, List.forall_mem_cons.mpr ⟨zx_70, List.forall_mem_cons.mpr ⟨zx_161, fun _ h => absurd h List.not_mem_nil⟩⟩⟩
