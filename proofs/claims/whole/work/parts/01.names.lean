/-! names: classes, fields, methods (by gen/names.py) -/
/-- the words of the tables that a call carries on -/
def tb : List Cond := lw_tbl.filter goodWord
theorem tb_good : ∀ w ∈ tb, goodWord w = true := fun w h => (List.mem_filter.mp h).2
theorem tb_of {w : Cond} (h : w ∈ lw_tbl) (g : goodWord w = true) : w ∈ tb := List.mem_filter.mpr ⟨h, g⟩
theorem tb_in {w : Cond} (h : w ∈ tb) : w ∈ lw_tbl := (List.mem_filter.mp h).1
theorem tw_0 : (Jvm.Cond.initialized "BinnedReadsLaw") ∈ tb := tb_of (List.mem_append_right _ (List.mem_of_getElem? (i := 0) (by decide +kernel))) (by decide +kernel)
theorem tw_1 : (Jvm.Cond.initialized "BinnedReads") ∈ tb := tb_of (List.mem_append_right _ (List.mem_of_getElem? (i := 1) (by decide +kernel))) (by decide +kernel)
theorem tw_2 : (Jvm.Cond.initialized "BinnedReads$Draft") ∈ tb := tb_of (List.mem_append_right _ (List.mem_of_getElem? (i := 2) (by decide +kernel))) (by decide +kernel)
theorem tw_3 : (Jvm.Cond.initialized "BinnedReads$Stream") ∈ tb := tb_of (List.mem_append_right _ (List.mem_of_getElem? (i := 3) (by decide +kernel))) (by decide +kernel)
theorem tw_4 : (Jvm.Cond.initialized "BinnedReads$Index") ∈ tb := tb_of (List.mem_append_right _ (List.mem_of_getElem? (i := 4) (by decide +kernel))) (by decide +kernel)
theorem tw_5 : (Jvm.Cond.initialized "BinnedReads$Disk") ∈ tb := tb_of (List.mem_append_right _ (List.mem_of_getElem? (i := 5) (by decide +kernel))) (by decide +kernel)
theorem tw_6 : (Jvm.Cond.initialized "BinnedReads$Finding") ∈ tb := tb_of (List.mem_append_right _ (List.mem_of_getElem? (i := 6) (by decide +kernel))) (by decide +kernel)
theorem tw_7 : (Jvm.Cond.initialized "BinnedReadsModel") ∈ tb := tb_of (List.mem_append_right _ (List.mem_of_getElem? (i := 7) (by decide +kernel))) (by decide +kernel)
theorem tw_8 : (Jvm.Cond.initialized "java/lang/Math") ∈ tb := tb_of (List.mem_append_right _ (List.mem_of_getElem? (i := 8) (by decide +kernel))) (by decide +kernel)
theorem tw_9 : (Jvm.Cond.classLink "BinnedReadsLaw" (7 : Nat) "BinnedReads") ∈ tb := tb_of (List.mem_append_right _ (List.mem_of_getElem? (i := 9) (by decide +kernel))) (by decide +kernel)
theorem tw_10 : (Jvm.Cond.instantiable "BinnedReads" (5 : Nat)) ∈ tb := tb_of (List.mem_append_right _ (List.mem_of_getElem? (i := 10) (by decide +kernel))) (by decide +kernel)
theorem tw_11 : (Jvm.Cond.methodLink "BinnedReadsLaw" (9 : Nat) ({ cls := "BinnedReads", name := "<init>", desc := "()V" } : Jvm.MethodName)) ∈ tb := tb_of (List.mem_append_right _ (List.mem_of_getElem? (i := 11) (by decide +kernel))) (by decide +kernel)
theorem tw_12 : (Jvm.Cond.instanceMethod ({ cls := "BinnedReads", name := "<init>", desc := "()V" } : Jvm.MethodName)) ∈ tb := tb_of (List.mem_append_right _ (List.mem_of_getElem? (i := 12) (by decide +kernel))) (by decide +kernel)
theorem tw_13 : (Jvm.Cond.code ({ cls := "BinnedReads", name := "<init>", desc := "()V" } : Jvm.MethodName) prog_1_method_1_code (1 : Nat) (Option.none : Option Jvm.ClassFile.FieldType)) ∈ tb := tb_of (List.mem_append_right _ (List.mem_of_getElem? (i := 13) (by decide +kernel))) (by decide +kernel)
theorem tw_14 : (Jvm.Cond.methodLink "BinnedReads" (3 : Nat) ({ cls := "java/lang/Object", name := "<init>", desc := "()V" } : Jvm.MethodName)) ∈ tb := tb_of (List.mem_append_right _ (List.mem_of_getElem? (i := 14) (by decide +kernel))) (by decide +kernel)
theorem tw_15 : (Jvm.Cond.instanceMethod ({ cls := "java/lang/Object", name := "<init>", desc := "()V" } : Jvm.MethodName)) ∈ tb := tb_of (List.mem_append_right _ (List.mem_of_getElem? (i := 15) (by decide +kernel))) (by decide +kernel)
theorem tw_16 : (Jvm.Cond.code ({ cls := "java/lang/Object", name := "<init>", desc := "()V" } : Jvm.MethodName) object_method_1_code (1 : Nat) (Option.none : Option Jvm.ClassFile.FieldType)) ∈ tb := tb_of (List.mem_append_right _ (List.mem_of_getElem? (i := 16) (by decide +kernel))) (by decide +kernel)
theorem tw_17 : (Jvm.Cond.classLink "BinnedReads" (9 : Nat) "BinnedReads$Draft") ∈ tb := tb_of (List.mem_append_right _ (List.mem_of_getElem? (i := 17) (by decide +kernel))) (by decide +kernel)
theorem tw_18 : (Jvm.Cond.instantiable "BinnedReads$Draft" (4 : Nat)) ∈ tb := tb_of (List.mem_append_right _ (List.mem_of_getElem? (i := 18) (by decide +kernel))) (by decide +kernel)
theorem tw_19 : (Jvm.Cond.methodLinkNest "BinnedReads" (11 : Nat) ({ cls := "BinnedReads$Draft", name := "<init>", desc := "()V" } : Jvm.MethodName) "BinnedReads") ∈ lw_tbl := List.mem_append_right _ (List.mem_of_getElem? (i := 19) (by decide +kernel))
theorem tw_20 : (Jvm.Cond.instanceMethod ({ cls := "BinnedReads$Draft", name := "<init>", desc := "()V" } : Jvm.MethodName)) ∈ tb := tb_of (List.mem_append_right _ (List.mem_of_getElem? (i := 20) (by decide +kernel))) (by decide +kernel)
theorem tw_21 : (Jvm.Cond.code ({ cls := "BinnedReads$Draft", name := "<init>", desc := "()V" } : Jvm.MethodName) prog_3_method_1_code (1 : Nat) (Option.none : Option Jvm.ClassFile.FieldType)) ∈ tb := tb_of (List.mem_append_right _ (List.mem_of_getElem? (i := 21) (by decide +kernel))) (by decide +kernel)
theorem tw_22 : (Jvm.Cond.methodLink "BinnedReads$Draft" (3 : Nat) ({ cls := "java/lang/Object", name := "<init>", desc := "()V" } : Jvm.MethodName)) ∈ tb := tb_of (List.mem_append_right _ (List.mem_of_getElem? (i := 22) (by decide +kernel))) (by decide +kernel)
theorem tw_23 : (Jvm.Cond.fieldLink "BinnedReads$Draft" (9 : Nat) "BinnedReads$Draft" "ops" "[I") ∈ tb := tb_of (List.mem_append_right _ (List.mem_of_getElem? (i := 23) (by decide +kernel))) (by decide +kernel)
theorem tw_24 : (Jvm.Cond.fieldLink "BinnedReads$Stream" (31 : Nat) "BinnedReads$Draft" "ops" "[I") ∈ tb := tb_of (List.mem_append_right _ (List.mem_of_getElem? (i := 24) (by decide +kernel))) (by decide +kernel)
theorem tw_25 : (Jvm.Cond.fieldLink "BinnedReads$Draft" (15 : Nat) "BinnedReads$Draft" "bases" "[I") ∈ tb := tb_of (List.mem_append_right _ (List.mem_of_getElem? (i := 25) (by decide +kernel))) (by decide +kernel)
theorem tw_26 : (Jvm.Cond.fieldLink "BinnedReads$Draft" (18 : Nat) "BinnedReads$Draft" "opCount" "I") ∈ tb := tb_of (List.mem_append_right _ (List.mem_of_getElem? (i := 26) (by decide +kernel))) (by decide +kernel)
theorem tw_27 : (Jvm.Cond.fieldLink "BinnedReads$Stream" (23 : Nat) "BinnedReads$Draft" "opCount" "I") ∈ tb := tb_of (List.mem_append_right _ (List.mem_of_getElem? (i := 27) (by decide +kernel))) (by decide +kernel)
theorem tw_28 : (Jvm.Cond.fieldLink "BinnedReads$Draft" (22 : Nat) "BinnedReads$Draft" "baseCount" "I") ∈ tb := tb_of (List.mem_append_right _ (List.mem_of_getElem? (i := 28) (by decide +kernel))) (by decide +kernel)
theorem tw_29 : (Jvm.Cond.fieldLink "BinnedReads$Stream" (28 : Nat) "BinnedReads$Draft" "baseCount" "I") ∈ tb := tb_of (List.mem_append_right _ (List.mem_of_getElem? (i := 29) (by decide +kernel))) (by decide +kernel)
theorem tw_39 : (Jvm.Cond.arrayClass Jvm.ClassFile.FieldType.int) ∈ tb := tb_of (List.mem_append_right _ (List.mem_of_getElem? (i := 39) (by decide +kernel))) (by decide +kernel)
theorem tw_40 : (Jvm.Cond.classLink "BinnedReads" (16 : Nat) "BinnedReads$Stream") ∈ tb := tb_of (List.mem_append_right _ (List.mem_of_getElem? (i := 40) (by decide +kernel))) (by decide +kernel)
theorem tw_41 : (Jvm.Cond.instantiable "BinnedReads$Stream" (2 : Nat)) ∈ tb := tb_of (List.mem_append_right _ (List.mem_of_getElem? (i := 41) (by decide +kernel))) (by decide +kernel)
theorem tw_42 : (Jvm.Cond.methodLinkNest "BinnedReads" (18 : Nat) ({ cls := "BinnedReads$Stream", name := "<init>", desc := "()V" } : Jvm.MethodName) "BinnedReads") ∈ lw_tbl := List.mem_append_right _ (List.mem_of_getElem? (i := 42) (by decide +kernel))
theorem tw_43 : (Jvm.Cond.instanceMethod ({ cls := "BinnedReads$Stream", name := "<init>", desc := "()V" } : Jvm.MethodName)) ∈ tb := tb_of (List.mem_append_right _ (List.mem_of_getElem? (i := 43) (by decide +kernel))) (by decide +kernel)
theorem tw_44 : (Jvm.Cond.code ({ cls := "BinnedReads$Stream", name := "<init>", desc := "()V" } : Jvm.MethodName) prog_6_method_1_code (1 : Nat) (Option.none : Option Jvm.ClassFile.FieldType)) ∈ tb := tb_of (List.mem_append_right _ (List.mem_of_getElem? (i := 44) (by decide +kernel))) (by decide +kernel)
theorem tw_45 : (Jvm.Cond.methodLink "BinnedReads$Stream" (3 : Nat) ({ cls := "java/lang/Object", name := "<init>", desc := "()V" } : Jvm.MethodName)) ∈ tb := tb_of (List.mem_append_right _ (List.mem_of_getElem? (i := 45) (by decide +kernel))) (by decide +kernel)
theorem tw_46 : (Jvm.Cond.fieldLink "BinnedReads$Stream" (9 : Nat) "BinnedReads$Stream" "bytes" "[I") ∈ tb := tb_of (List.mem_append_right _ (List.mem_of_getElem? (i := 46) (by decide +kernel))) (by decide +kernel)
theorem tw_47 : (Jvm.Cond.fieldLink "BinnedReads$Disk" (62 : Nat) "BinnedReads$Stream" "bytes" "[I") ∈ tb := tb_of (List.mem_append_right _ (List.mem_of_getElem? (i := 47) (by decide +kernel))) (by decide +kernel)
theorem tw_48 : (Jvm.Cond.fieldLink "BinnedReads$Stream" (15 : Nat) "BinnedReads$Stream" "length" "I") ∈ tb := tb_of (List.mem_append_right _ (List.mem_of_getElem? (i := 48) (by decide +kernel))) (by decide +kernel)
theorem tw_49 : (Jvm.Cond.fieldLink "BinnedReads$Disk" (28 : Nat) "BinnedReads$Stream" "length" "I") ∈ tb := tb_of (List.mem_append_right _ (List.mem_of_getElem? (i := 49) (by decide +kernel))) (by decide +kernel)
theorem tw_50 : (Jvm.Cond.fieldLink "BinnedReads" (79 : Nat) "BinnedReads$Stream" "length" "I") ∈ tb := tb_of (List.mem_append_right _ (List.mem_of_getElem? (i := 50) (by decide +kernel))) (by decide +kernel)
theorem tw_56 : (Jvm.Cond.classLink "BinnedReads" (23 : Nat) "BinnedReads$Index") ∈ tb := tb_of (List.mem_append_right _ (List.mem_of_getElem? (i := 56) (by decide +kernel))) (by decide +kernel)
theorem tw_57 : (Jvm.Cond.instantiable "BinnedReads$Index" (8 : Nat)) ∈ tb := tb_of (List.mem_append_right _ (List.mem_of_getElem? (i := 57) (by decide +kernel))) (by decide +kernel)
theorem tw_58 : (Jvm.Cond.methodLinkNest "BinnedReads" (25 : Nat) ({ cls := "BinnedReads$Index", name := "<init>", desc := "()V" } : Jvm.MethodName) "BinnedReads") ∈ lw_tbl := List.mem_append_right _ (List.mem_of_getElem? (i := 58) (by decide +kernel))
theorem tw_59 : (Jvm.Cond.instanceMethod ({ cls := "BinnedReads$Index", name := "<init>", desc := "()V" } : Jvm.MethodName)) ∈ tb := tb_of (List.mem_append_right _ (List.mem_of_getElem? (i := 59) (by decide +kernel))) (by decide +kernel)
theorem tw_60 : (Jvm.Cond.code ({ cls := "BinnedReads$Index", name := "<init>", desc := "()V" } : Jvm.MethodName) prog_5_method_1_code (1 : Nat) (Option.none : Option Jvm.ClassFile.FieldType)) ∈ tb := tb_of (List.mem_append_right _ (List.mem_of_getElem? (i := 60) (by decide +kernel))) (by decide +kernel)
theorem tw_61 : (Jvm.Cond.methodLink "BinnedReads$Index" (3 : Nat) ({ cls := "java/lang/Object", name := "<init>", desc := "()V" } : Jvm.MethodName)) ∈ tb := tb_of (List.mem_append_right _ (List.mem_of_getElem? (i := 61) (by decide +kernel))) (by decide +kernel)
theorem tw_62 : (Jvm.Cond.fieldLink "BinnedReads$Index" (9 : Nat) "BinnedReads$Index" "references" "[I") ∈ tb := tb_of (List.mem_append_right _ (List.mem_of_getElem? (i := 62) (by decide +kernel))) (by decide +kernel)
theorem tw_63 : (Jvm.Cond.fieldLink "BinnedReads$Index" (15 : Nat) "BinnedReads$Index" "positions" "[I") ∈ tb := tb_of (List.mem_append_right _ (List.mem_of_getElem? (i := 63) (by decide +kernel))) (by decide +kernel)
theorem tw_64 : (Jvm.Cond.fieldLink "BinnedReads$Index" (18 : Nat) "BinnedReads$Index" "ends" "[I") ∈ tb := tb_of (List.mem_append_right _ (List.mem_of_getElem? (i := 64) (by decide +kernel))) (by decide +kernel)
theorem tw_65 : (Jvm.Cond.fieldLink "BinnedReads$Index" (21 : Nat) "BinnedReads$Index" "bins" "[I") ∈ tb := tb_of (List.mem_append_right _ (List.mem_of_getElem? (i := 65) (by decide +kernel))) (by decide +kernel)
theorem tw_66 : (Jvm.Cond.fieldLink "BinnedReads$Index" (24 : Nat) "BinnedReads$Index" "starts" "[I") ∈ tb := tb_of (List.mem_append_right _ (List.mem_of_getElem? (i := 66) (by decide +kernel))) (by decide +kernel)
theorem tw_67 : (Jvm.Cond.fieldLink "BinnedReads" (142 : Nat) "BinnedReads$Index" "starts" "[I") ∈ tb := tb_of (List.mem_append_right _ (List.mem_of_getElem? (i := 67) (by decide +kernel))) (by decide +kernel)
theorem tw_68 : (Jvm.Cond.fieldLink "BinnedReads$Index" (30 : Nat) "BinnedReads$Index" "count" "I") ∈ tb := tb_of (List.mem_append_right _ (List.mem_of_getElem? (i := 68) (by decide +kernel))) (by decide +kernel)
theorem tw_69 : (Jvm.Cond.fieldLink "BinnedReads" (115 : Nat) "BinnedReads$Index" "count" "I") ∈ tb := tb_of (List.mem_append_right _ (List.mem_of_getElem? (i := 69) (by decide +kernel))) (by decide +kernel)
theorem tw_70 : (Jvm.Cond.fieldLink "BinnedReads$Index" (27 : Nat) "BinnedReads$Index" "chosen" "[I") ∈ tb := tb_of (List.mem_append_right _ (List.mem_of_getElem? (i := 70) (by decide +kernel))) (by decide +kernel)
theorem tw_71 : (Jvm.Cond.fieldLink "BinnedReads" (135 : Nat) "BinnedReads$Index" "chosen" "[I") ∈ tb := tb_of (List.mem_append_right _ (List.mem_of_getElem? (i := 71) (by decide +kernel))) (by decide +kernel)
theorem tw_72 : (Jvm.Cond.fieldLink "BinnedReads$Index" (34 : Nat) "BinnedReads$Index" "chosenCount" "I") ∈ tb := tb_of (List.mem_append_right _ (List.mem_of_getElem? (i := 72) (by decide +kernel))) (by decide +kernel)
theorem tw_73 : (Jvm.Cond.fieldLink "BinnedReads" (129 : Nat) "BinnedReads$Index" "chosenCount" "I") ∈ tb := tb_of (List.mem_append_right _ (List.mem_of_getElem? (i := 73) (by decide +kernel))) (by decide +kernel)
theorem tw_91 : (Jvm.Cond.classLink "BinnedReads" (30 : Nat) "BinnedReads$Disk") ∈ tb := tb_of (List.mem_append_right _ (List.mem_of_getElem? (i := 91) (by decide +kernel))) (by decide +kernel)
theorem tw_92 : (Jvm.Cond.instantiable "BinnedReads$Disk" (5 : Nat)) ∈ tb := tb_of (List.mem_append_right _ (List.mem_of_getElem? (i := 92) (by decide +kernel))) (by decide +kernel)
theorem tw_93 : (Jvm.Cond.methodLinkNest "BinnedReads" (32 : Nat) ({ cls := "BinnedReads$Disk", name := "<init>", desc := "()V" } : Jvm.MethodName) "BinnedReads") ∈ lw_tbl := List.mem_append_right _ (List.mem_of_getElem? (i := 93) (by decide +kernel))
theorem tw_94 : (Jvm.Cond.instanceMethod ({ cls := "BinnedReads$Disk", name := "<init>", desc := "()V" } : Jvm.MethodName)) ∈ tb := tb_of (List.mem_append_right _ (List.mem_of_getElem? (i := 94) (by decide +kernel))) (by decide +kernel)
theorem tw_95 : (Jvm.Cond.code ({ cls := "BinnedReads$Disk", name := "<init>", desc := "()V" } : Jvm.MethodName) prog_2_method_1_code (1 : Nat) (Option.none : Option Jvm.ClassFile.FieldType)) ∈ tb := tb_of (List.mem_append_right _ (List.mem_of_getElem? (i := 95) (by decide +kernel))) (by decide +kernel)
theorem tw_96 : (Jvm.Cond.methodLink "BinnedReads$Disk" (3 : Nat) ({ cls := "java/lang/Object", name := "<init>", desc := "()V" } : Jvm.MethodName)) ∈ tb := tb_of (List.mem_append_right _ (List.mem_of_getElem? (i := 96) (by decide +kernel))) (by decide +kernel)
theorem tw_97 : (Jvm.Cond.fieldLink "BinnedReads$Disk" (9 : Nat) "BinnedReads$Disk" "bytes" "[I") ∈ tb := tb_of (List.mem_append_right _ (List.mem_of_getElem? (i := 97) (by decide +kernel))) (by decide +kernel)
theorem tw_98 : (Jvm.Cond.fieldLink "BinnedReads$Disk" (15 : Nat) "BinnedReads$Disk" "blockStarts" "[I") ∈ tb := tb_of (List.mem_append_right _ (List.mem_of_getElem? (i := 98) (by decide +kernel))) (by decide +kernel)
theorem tw_99 : (Jvm.Cond.fieldLink "BinnedReads$Disk" (22 : Nat) "BinnedReads$Disk" "size" "I") ∈ tb := tb_of (List.mem_append_right _ (List.mem_of_getElem? (i := 99) (by decide +kernel))) (by decide +kernel)
theorem tw_100 : (Jvm.Cond.fieldLink "BinnedReads" (95 : Nat) "BinnedReads$Disk" "size" "I") ∈ tb := tb_of (List.mem_append_right _ (List.mem_of_getElem? (i := 100) (by decide +kernel))) (by decide +kernel)
theorem tw_101 : (Jvm.Cond.fieldLink "BinnedReads$Disk" (25 : Nat) "BinnedReads$Disk" "blockCount" "I") ∈ tb := tb_of (List.mem_append_right _ (List.mem_of_getElem? (i := 101) (by decide +kernel))) (by decide +kernel)
theorem tw_102 : (Jvm.Cond.fieldLink "BinnedReads" (109 : Nat) "BinnedReads$Disk" "blockCount" "I") ∈ tb := tb_of (List.mem_append_right _ (List.mem_of_getElem? (i := 102) (by decide +kernel))) (by decide +kernel)
theorem tw_103 : (Jvm.Cond.fieldLink "BinnedReads$Disk" (18 : Nat) "BinnedReads$Disk" "turned" "I") ∈ tb := tb_of (List.mem_append_right _ (List.mem_of_getElem? (i := 103) (by decide +kernel))) (by decide +kernel)
theorem tw_115 : (Jvm.Cond.classLink "BinnedReads" (37 : Nat) "BinnedReads$Finding") ∈ tb := tb_of (List.mem_append_right _ (List.mem_of_getElem? (i := 115) (by decide +kernel))) (by decide +kernel)
theorem tw_116 : (Jvm.Cond.instantiable "BinnedReads$Finding" (4 : Nat)) ∈ tb := tb_of (List.mem_append_right _ (List.mem_of_getElem? (i := 116) (by decide +kernel))) (by decide +kernel)
theorem tw_117 : (Jvm.Cond.methodLinkNest "BinnedReads" (39 : Nat) ({ cls := "BinnedReads$Finding", name := "<init>", desc := "()V" } : Jvm.MethodName) "BinnedReads") ∈ lw_tbl := List.mem_append_right _ (List.mem_of_getElem? (i := 117) (by decide +kernel))
theorem tw_118 : (Jvm.Cond.instanceMethod ({ cls := "BinnedReads$Finding", name := "<init>", desc := "()V" } : Jvm.MethodName)) ∈ tb := tb_of (List.mem_append_right _ (List.mem_of_getElem? (i := 118) (by decide +kernel))) (by decide +kernel)
theorem tw_119 : (Jvm.Cond.code ({ cls := "BinnedReads$Finding", name := "<init>", desc := "()V" } : Jvm.MethodName) prog_4_method_1_code (1 : Nat) (Option.none : Option Jvm.ClassFile.FieldType)) ∈ tb := tb_of (List.mem_append_right _ (List.mem_of_getElem? (i := 119) (by decide +kernel))) (by decide +kernel)
theorem tw_120 : (Jvm.Cond.methodLink "BinnedReads$Finding" (3 : Nat) ({ cls := "java/lang/Object", name := "<init>", desc := "()V" } : Jvm.MethodName)) ∈ tb := tb_of (List.mem_append_right _ (List.mem_of_getElem? (i := 120) (by decide +kernel))) (by decide +kernel)
theorem tw_121 : (Jvm.Cond.classLink "BinnedReads$Finding" (9 : Nat) "[[I") ∈ tb := tb_of (List.mem_append_right _ (List.mem_of_getElem? (i := 121) (by decide +kernel))) (by decide +kernel)
theorem tw_122 : (Jvm.Cond.arrayOver (Jvm.ClassFile.FieldType.array Jvm.ClassFile.FieldType.int)) ∈ lw_tbl := List.mem_append_right _ (List.mem_of_getElem? (i := 122) (by decide +kernel))
theorem tw_123 : (Jvm.Cond.fieldLink "BinnedReads$Finding" (11 : Nat) "BinnedReads$Finding" "rows" "[[I") ∈ tb := tb_of (List.mem_append_right _ (List.mem_of_getElem? (i := 123) (by decide +kernel))) (by decide +kernel)
theorem tw_124 : (Jvm.Cond.fieldLink "BinnedReads" (158 : Nat) "BinnedReads$Finding" "rows" "[[I") ∈ tb := tb_of (List.mem_append_right _ (List.mem_of_getElem? (i := 124) (by decide +kernel))) (by decide +kernel)
theorem tw_125 : (Jvm.Cond.fieldLink "BinnedReads$Finding" (16 : Nat) "BinnedReads$Finding" "offsets" "[I") ∈ tb := tb_of (List.mem_append_right _ (List.mem_of_getElem? (i := 125) (by decide +kernel))) (by decide +kernel)
theorem tw_126 : (Jvm.Cond.fieldLink "BinnedReads" (152 : Nat) "BinnedReads$Finding" "offsets" "[I") ∈ tb := tb_of (List.mem_append_right _ (List.mem_of_getElem? (i := 126) (by decide +kernel))) (by decide +kernel)
theorem tw_127 : (Jvm.Cond.fieldLink "BinnedReads$Finding" (20 : Nat) "BinnedReads$Finding" "count" "I") ∈ tb := tb_of (List.mem_append_right _ (List.mem_of_getElem? (i := 127) (by decide +kernel))) (by decide +kernel)
theorem tw_128 : (Jvm.Cond.fieldLink "BinnedReads" (148 : Nat) "BinnedReads$Finding" "count" "I") ∈ tb := tb_of (List.mem_append_right _ (List.mem_of_getElem? (i := 128) (by decide +kernel))) (by decide +kernel)
theorem tw_129 : (Jvm.Cond.fieldLink "BinnedReads$Finding" (24 : Nat) "BinnedReads$Finding" "lookedAt" "I") ∈ tb := tb_of (List.mem_append_right _ (List.mem_of_getElem? (i := 129) (by decide +kernel))) (by decide +kernel)
theorem tw_130 : (Jvm.Cond.fieldLink "BinnedReads" (132 : Nat) "BinnedReads$Finding" "lookedAt" "I") ∈ tb := tb_of (List.mem_append_right _ (List.mem_of_getElem? (i := 130) (by decide +kernel))) (by decide +kernel)
theorem tw_140 : (Jvm.Cond.fieldLink "BinnedReads" (12 : Nat) "BinnedReads" "draft" "LBinnedReads$Draft;") ∈ tb := tb_of (List.mem_append_right _ (List.mem_of_getElem? (i := 140) (by decide +kernel))) (by decide +kernel)
theorem tw_141 : (Jvm.Cond.fieldLink "BinnedReads" (19 : Nat) "BinnedReads" "stream" "LBinnedReads$Stream;") ∈ tb := tb_of (List.mem_append_right _ (List.mem_of_getElem? (i := 141) (by decide +kernel))) (by decide +kernel)
theorem tw_142 : (Jvm.Cond.fieldLink "BinnedReads" (26 : Nat) "BinnedReads" "index" "LBinnedReads$Index;") ∈ tb := tb_of (List.mem_append_right _ (List.mem_of_getElem? (i := 142) (by decide +kernel))) (by decide +kernel)
theorem tw_143 : (Jvm.Cond.fieldLink "BinnedReads" (33 : Nat) "BinnedReads" "disk" "LBinnedReads$Disk;") ∈ tb := tb_of (List.mem_append_right _ (List.mem_of_getElem? (i := 143) (by decide +kernel))) (by decide +kernel)
theorem tw_144 : (Jvm.Cond.fieldLink "BinnedReads" (40 : Nat) "BinnedReads" "finding" "LBinnedReads$Finding;") ∈ tb := tb_of (List.mem_append_right _ (List.mem_of_getElem? (i := 144) (by decide +kernel))) (by decide +kernel)
theorem tw_156 : (Jvm.Cond.methodLink "BinnedReadsLaw" (13 : Nat) ({ cls := "BinnedReads", name := "op", desc := "(II)Z" } : Jvm.MethodName)) ∈ tb := tb_of (List.mem_append_right _ (List.mem_of_getElem? (i := 156) (by decide +kernel))) (by decide +kernel)
theorem tw_157 : (Jvm.Cond.instanceMethod ({ cls := "BinnedReads", name := "op", desc := "(II)Z" } : Jvm.MethodName)) ∈ tb := tb_of (List.mem_append_right _ (List.mem_of_getElem? (i := 157) (by decide +kernel))) (by decide +kernel)
theorem tw_158 : (Jvm.Cond.selects "BinnedReads" ({ cls := "BinnedReads", name := "op", desc := "(II)Z" } : Jvm.MethodName) ({ cls := "BinnedReads", name := "op", desc := "(II)Z" } : Jvm.MethodName)) ∈ tb := tb_of (List.mem_append_right _ (List.mem_of_getElem? (i := 158) (by decide +kernel))) (by decide +kernel)
theorem tw_159 : (Jvm.Cond.code ({ cls := "BinnedReads", name := "op", desc := "(II)Z" } : Jvm.MethodName) prog_1_method_2_code (3 : Nat) (Option.some Jvm.ClassFile.FieldType.boolean)) ∈ tb := tb_of (List.mem_append_right _ (List.mem_of_getElem? (i := 159) (by decide +kernel))) (by decide +kernel)
theorem tw_160 : (Jvm.Cond.methodLink "BinnedReads" (44 : Nat) ({ cls := "BinnedReads$Draft", name := "appendOp", desc := "(II)Z" } : Jvm.MethodName)) ∈ tb := tb_of (List.mem_append_right _ (List.mem_of_getElem? (i := 160) (by decide +kernel))) (by decide +kernel)
theorem tw_161 : (Jvm.Cond.instanceMethod ({ cls := "BinnedReads$Draft", name := "appendOp", desc := "(II)Z" } : Jvm.MethodName)) ∈ tb := tb_of (List.mem_append_right _ (List.mem_of_getElem? (i := 161) (by decide +kernel))) (by decide +kernel)
theorem tw_162 : (Jvm.Cond.selects "BinnedReads$Draft" ({ cls := "BinnedReads$Draft", name := "appendOp", desc := "(II)Z" } : Jvm.MethodName) ({ cls := "BinnedReads$Draft", name := "appendOp", desc := "(II)Z" } : Jvm.MethodName)) ∈ tb := tb_of (List.mem_append_right _ (List.mem_of_getElem? (i := 162) (by decide +kernel))) (by decide +kernel)
theorem tw_163 : (Jvm.Cond.code ({ cls := "BinnedReads$Draft", name := "appendOp", desc := "(II)Z" } : Jvm.MethodName) prog_3_method_2_code (3 : Nat) (Option.some Jvm.ClassFile.FieldType.boolean)) ∈ tb := tb_of (List.mem_append_right _ (List.mem_of_getElem? (i := 163) (by decide +kernel))) (by decide +kernel)
theorem tw_164 : (Jvm.Cond.methodLink "BinnedReadsLaw" (18 : Nat) ({ cls := "BinnedReads", name := "base", desc := "(I)Z" } : Jvm.MethodName)) ∈ tb := tb_of (List.mem_append_right _ (List.mem_of_getElem? (i := 164) (by decide +kernel))) (by decide +kernel)
theorem tw_165 : (Jvm.Cond.instanceMethod ({ cls := "BinnedReads", name := "base", desc := "(I)Z" } : Jvm.MethodName)) ∈ tb := tb_of (List.mem_append_right _ (List.mem_of_getElem? (i := 165) (by decide +kernel))) (by decide +kernel)
theorem tw_166 : (Jvm.Cond.selects "BinnedReads" ({ cls := "BinnedReads", name := "base", desc := "(I)Z" } : Jvm.MethodName) ({ cls := "BinnedReads", name := "base", desc := "(I)Z" } : Jvm.MethodName)) ∈ tb := tb_of (List.mem_append_right _ (List.mem_of_getElem? (i := 166) (by decide +kernel))) (by decide +kernel)
theorem tw_167 : (Jvm.Cond.code ({ cls := "BinnedReads", name := "base", desc := "(I)Z" } : Jvm.MethodName) prog_1_method_3_code (2 : Nat) (Option.some Jvm.ClassFile.FieldType.boolean)) ∈ tb := tb_of (List.mem_append_right _ (List.mem_of_getElem? (i := 167) (by decide +kernel))) (by decide +kernel)
theorem tw_168 : (Jvm.Cond.methodLink "BinnedReads" (48 : Nat) ({ cls := "BinnedReads$Draft", name := "appendBase", desc := "(I)Z" } : Jvm.MethodName)) ∈ tb := tb_of (List.mem_append_right _ (List.mem_of_getElem? (i := 168) (by decide +kernel))) (by decide +kernel)
theorem tw_169 : (Jvm.Cond.instanceMethod ({ cls := "BinnedReads$Draft", name := "appendBase", desc := "(I)Z" } : Jvm.MethodName)) ∈ tb := tb_of (List.mem_append_right _ (List.mem_of_getElem? (i := 169) (by decide +kernel))) (by decide +kernel)
theorem tw_170 : (Jvm.Cond.selects "BinnedReads$Draft" ({ cls := "BinnedReads$Draft", name := "appendBase", desc := "(I)Z" } : Jvm.MethodName) ({ cls := "BinnedReads$Draft", name := "appendBase", desc := "(I)Z" } : Jvm.MethodName)) ∈ tb := tb_of (List.mem_append_right _ (List.mem_of_getElem? (i := 170) (by decide +kernel))) (by decide +kernel)
theorem tw_171 : (Jvm.Cond.code ({ cls := "BinnedReads$Draft", name := "appendBase", desc := "(I)Z" } : Jvm.MethodName) prog_3_method_3_code (2 : Nat) (Option.some Jvm.ClassFile.FieldType.boolean)) ∈ tb := tb_of (List.mem_append_right _ (List.mem_of_getElem? (i := 171) (by decide +kernel))) (by decide +kernel)
theorem tw_172 : (Jvm.Cond.methodLink "BinnedReadsLaw" (23 : Nat) ({ cls := "BinnedReads", name := "scrap", desc := "()V" } : Jvm.MethodName)) ∈ tb := tb_of (List.mem_append_right _ (List.mem_of_getElem? (i := 172) (by decide +kernel))) (by decide +kernel)
theorem tw_173 : (Jvm.Cond.instanceMethod ({ cls := "BinnedReads", name := "scrap", desc := "()V" } : Jvm.MethodName)) ∈ tb := tb_of (List.mem_append_right _ (List.mem_of_getElem? (i := 173) (by decide +kernel))) (by decide +kernel)
theorem tw_174 : (Jvm.Cond.selects "BinnedReads" ({ cls := "BinnedReads", name := "scrap", desc := "()V" } : Jvm.MethodName) ({ cls := "BinnedReads", name := "scrap", desc := "()V" } : Jvm.MethodName)) ∈ tb := tb_of (List.mem_append_right _ (List.mem_of_getElem? (i := 174) (by decide +kernel))) (by decide +kernel)
theorem tw_175 : (Jvm.Cond.code ({ cls := "BinnedReads", name := "scrap", desc := "()V" } : Jvm.MethodName) prog_1_method_4_code (1 : Nat) (Option.none : Option Jvm.ClassFile.FieldType)) ∈ tb := tb_of (List.mem_append_right _ (List.mem_of_getElem? (i := 175) (by decide +kernel))) (by decide +kernel)
theorem tw_176 : (Jvm.Cond.methodLink "BinnedReads" (52 : Nat) ({ cls := "BinnedReads$Draft", name := "empty", desc := "()V" } : Jvm.MethodName)) ∈ tb := tb_of (List.mem_append_right _ (List.mem_of_getElem? (i := 176) (by decide +kernel))) (by decide +kernel)
theorem tw_177 : (Jvm.Cond.instanceMethod ({ cls := "BinnedReads$Draft", name := "empty", desc := "()V" } : Jvm.MethodName)) ∈ tb := tb_of (List.mem_append_right _ (List.mem_of_getElem? (i := 177) (by decide +kernel))) (by decide +kernel)
theorem tw_178 : (Jvm.Cond.selects "BinnedReads$Draft" ({ cls := "BinnedReads$Draft", name := "empty", desc := "()V" } : Jvm.MethodName) ({ cls := "BinnedReads$Draft", name := "empty", desc := "()V" } : Jvm.MethodName)) ∈ tb := tb_of (List.mem_append_right _ (List.mem_of_getElem? (i := 178) (by decide +kernel))) (by decide +kernel)
theorem tw_179 : (Jvm.Cond.code ({ cls := "BinnedReads$Draft", name := "empty", desc := "()V" } : Jvm.MethodName) prog_3_method_4_code (1 : Nat) (Option.none : Option Jvm.ClassFile.FieldType)) ∈ tb := tb_of (List.mem_append_right _ (List.mem_of_getElem? (i := 179) (by decide +kernel))) (by decide +kernel)
theorem tw_180 : (Jvm.Cond.methodLink "BinnedReadsLaw" (27 : Nat) ({ cls := "BinnedReads", name := "add", desc := "(II)I" } : Jvm.MethodName)) ∈ tb := tb_of (List.mem_append_right _ (List.mem_of_getElem? (i := 180) (by decide +kernel))) (by decide +kernel)
theorem tw_181 : (Jvm.Cond.instanceMethod ({ cls := "BinnedReads", name := "add", desc := "(II)I" } : Jvm.MethodName)) ∈ tb := tb_of (List.mem_append_right _ (List.mem_of_getElem? (i := 181) (by decide +kernel))) (by decide +kernel)
theorem tw_182 : (Jvm.Cond.selects "BinnedReads" ({ cls := "BinnedReads", name := "add", desc := "(II)I" } : Jvm.MethodName) ({ cls := "BinnedReads", name := "add", desc := "(II)I" } : Jvm.MethodName)) ∈ tb := tb_of (List.mem_append_right _ (List.mem_of_getElem? (i := 182) (by decide +kernel))) (by decide +kernel)
theorem tw_183 : (Jvm.Cond.code ({ cls := "BinnedReads", name := "add", desc := "(II)I" } : Jvm.MethodName) prog_1_method_5_code (6 : Nat) (Option.some Jvm.ClassFile.FieldType.int)) ∈ tb := tb_of (List.mem_append_right _ (List.mem_of_getElem? (i := 183) (by decide +kernel))) (by decide +kernel)
theorem tw_184 : (Jvm.Cond.methodLink "BinnedReads" (55 : Nat) ({ cls := "BinnedReads$Disk", name := "isWritten", desc := "()Z" } : Jvm.MethodName)) ∈ tb := tb_of (List.mem_append_right _ (List.mem_of_getElem? (i := 184) (by decide +kernel))) (by decide +kernel)
theorem tw_185 : (Jvm.Cond.instanceMethod ({ cls := "BinnedReads$Disk", name := "isWritten", desc := "()Z" } : Jvm.MethodName)) ∈ tb := tb_of (List.mem_append_right _ (List.mem_of_getElem? (i := 185) (by decide +kernel))) (by decide +kernel)
theorem tw_186 : (Jvm.Cond.selects "BinnedReads$Disk" ({ cls := "BinnedReads$Disk", name := "isWritten", desc := "()Z" } : Jvm.MethodName) ({ cls := "BinnedReads$Disk", name := "isWritten", desc := "()Z" } : Jvm.MethodName)) ∈ tb := tb_of (List.mem_append_right _ (List.mem_of_getElem? (i := 186) (by decide +kernel))) (by decide +kernel)
theorem tw_187 : (Jvm.Cond.code ({ cls := "BinnedReads$Disk", name := "isWritten", desc := "()Z" } : Jvm.MethodName) prog_2_method_3_code (1 : Nat) (Option.some Jvm.ClassFile.FieldType.boolean)) ∈ tb := tb_of (List.mem_append_right _ (List.mem_of_getElem? (i := 187) (by decide +kernel))) (by decide +kernel)
theorem tw_188 : (Jvm.Cond.methodLink "BinnedReads" (59 : Nat) ({ cls := "BinnedReads$Index", name := "isFull", desc := "()Z" } : Jvm.MethodName)) ∈ tb := tb_of (List.mem_append_right _ (List.mem_of_getElem? (i := 188) (by decide +kernel))) (by decide +kernel)
theorem tw_189 : (Jvm.Cond.instanceMethod ({ cls := "BinnedReads$Index", name := "isFull", desc := "()Z" } : Jvm.MethodName)) ∈ tb := tb_of (List.mem_append_right _ (List.mem_of_getElem? (i := 189) (by decide +kernel))) (by decide +kernel)
theorem tw_190 : (Jvm.Cond.selects "BinnedReads$Index" ({ cls := "BinnedReads$Index", name := "isFull", desc := "()Z" } : Jvm.MethodName) ({ cls := "BinnedReads$Index", name := "isFull", desc := "()Z" } : Jvm.MethodName)) ∈ tb := tb_of (List.mem_append_right _ (List.mem_of_getElem? (i := 190) (by decide +kernel))) (by decide +kernel)
theorem tw_191 : (Jvm.Cond.code ({ cls := "BinnedReads$Index", name := "isFull", desc := "()Z" } : Jvm.MethodName) prog_5_method_3_code (1 : Nat) (Option.some Jvm.ClassFile.FieldType.boolean)) ∈ tb := tb_of (List.mem_append_right _ (List.mem_of_getElem? (i := 191) (by decide +kernel))) (by decide +kernel)
theorem tw_192 : (Jvm.Cond.methodLink "BinnedReads" (62 : Nat) ({ cls := "BinnedReads$Draft", name := "isRead", desc := "()Z" } : Jvm.MethodName)) ∈ tb := tb_of (List.mem_append_right _ (List.mem_of_getElem? (i := 192) (by decide +kernel))) (by decide +kernel)
theorem tw_193 : (Jvm.Cond.instanceMethod ({ cls := "BinnedReads$Draft", name := "isRead", desc := "()Z" } : Jvm.MethodName)) ∈ tb := tb_of (List.mem_append_right _ (List.mem_of_getElem? (i := 193) (by decide +kernel))) (by decide +kernel)
theorem tw_194 : (Jvm.Cond.selects "BinnedReads$Draft" ({ cls := "BinnedReads$Draft", name := "isRead", desc := "()Z" } : Jvm.MethodName) ({ cls := "BinnedReads$Draft", name := "isRead", desc := "()Z" } : Jvm.MethodName)) ∈ tb := tb_of (List.mem_append_right _ (List.mem_of_getElem? (i := 194) (by decide +kernel))) (by decide +kernel)
theorem tw_195 : (Jvm.Cond.code ({ cls := "BinnedReads$Draft", name := "isRead", desc := "()Z" } : Jvm.MethodName) prog_3_method_7_code (1 : Nat) (Option.some Jvm.ClassFile.FieldType.boolean)) ∈ tb := tb_of (List.mem_append_right _ (List.mem_of_getElem? (i := 195) (by decide +kernel))) (by decide +kernel)
theorem tw_196 : (Jvm.Cond.methodLink "BinnedReads$Draft" (36 : Nat) ({ cls := "BinnedReads$Draft", name := "span", desc := "()I" } : Jvm.MethodName)) ∈ tb := tb_of (List.mem_append_right _ (List.mem_of_getElem? (i := 196) (by decide +kernel))) (by decide +kernel)
theorem tw_197 : (Jvm.Cond.instanceMethod ({ cls := "BinnedReads$Draft", name := "span", desc := "()I" } : Jvm.MethodName)) ∈ tb := tb_of (List.mem_append_right _ (List.mem_of_getElem? (i := 197) (by decide +kernel))) (by decide +kernel)
theorem tw_198 : (Jvm.Cond.selects "BinnedReads$Draft" ({ cls := "BinnedReads$Draft", name := "span", desc := "()I" } : Jvm.MethodName) ({ cls := "BinnedReads$Draft", name := "span", desc := "()I" } : Jvm.MethodName)) ∈ tb := tb_of (List.mem_append_right _ (List.mem_of_getElem? (i := 198) (by decide +kernel))) (by decide +kernel)
theorem tw_199 : (Jvm.Cond.code ({ cls := "BinnedReads$Draft", name := "span", desc := "()I" } : Jvm.MethodName) prog_3_method_5_code (1 : Nat) (Option.some Jvm.ClassFile.FieldType.int)) ∈ tb := tb_of (List.mem_append_right _ (List.mem_of_getElem? (i := 199) (by decide +kernel))) (by decide +kernel)
theorem tw_200 : (Jvm.Cond.methodLinkNest "BinnedReads$Draft" (25 : Nat) ({ cls := "BinnedReads", name := "spanOf", desc := "([III)I" } : Jvm.MethodName) "BinnedReads") ∈ lw_tbl := List.mem_append_right _ (List.mem_of_getElem? (i := 200) (by decide +kernel))
theorem tw_201 : (Jvm.Cond.static ({ cls := "BinnedReads", name := "spanOf", desc := "([III)I" } : Jvm.MethodName)) ∈ tb := tb_of (List.mem_append_right _ (List.mem_of_getElem? (i := 201) (by decide +kernel))) (by decide +kernel)
theorem tw_202 : (Jvm.Cond.code ({ cls := "BinnedReads", name := "spanOf", desc := "([III)I" } : Jvm.MethodName) prog_1_method_23_code (6 : Nat) (Option.some Jvm.ClassFile.FieldType.int)) ∈ tb := tb_of (List.mem_append_right _ (List.mem_of_getElem? (i := 202) (by decide +kernel))) (by decide +kernel)
theorem tw_203 : (Jvm.Cond.methodLink "BinnedReads" (179 : Nat) ({ cls := "BinnedReads", name := "kindOf", desc := "(I)I" } : Jvm.MethodName)) ∈ tb := tb_of (List.mem_append_right _ (List.mem_of_getElem? (i := 203) (by decide +kernel))) (by decide +kernel)
theorem tw_204 : (Jvm.Cond.static ({ cls := "BinnedReads", name := "kindOf", desc := "(I)I" } : Jvm.MethodName)) ∈ tb := tb_of (List.mem_append_right _ (List.mem_of_getElem? (i := 204) (by decide +kernel))) (by decide +kernel)
theorem tw_205 : (Jvm.Cond.code ({ cls := "BinnedReads", name := "kindOf", desc := "(I)I" } : Jvm.MethodName) prog_1_method_21_code (1 : Nat) (Option.some Jvm.ClassFile.FieldType.int)) ∈ tb := tb_of (List.mem_append_right _ (List.mem_of_getElem? (i := 205) (by decide +kernel))) (by decide +kernel)
theorem tw_206 : (Jvm.Cond.methodLink "BinnedReads" (182 : Nat) ({ cls := "BinnedReads", name := "lengthOf", desc := "(I)I" } : Jvm.MethodName)) ∈ tb := tb_of (List.mem_append_right _ (List.mem_of_getElem? (i := 206) (by decide +kernel))) (by decide +kernel)
theorem tw_207 : (Jvm.Cond.static ({ cls := "BinnedReads", name := "lengthOf", desc := "(I)I" } : Jvm.MethodName)) ∈ tb := tb_of (List.mem_append_right _ (List.mem_of_getElem? (i := 207) (by decide +kernel))) (by decide +kernel)
theorem tw_208 : (Jvm.Cond.code ({ cls := "BinnedReads", name := "lengthOf", desc := "(I)I" } : Jvm.MethodName) prog_1_method_22_code (1 : Nat) (Option.some Jvm.ClassFile.FieldType.int)) ∈ tb := tb_of (List.mem_append_right _ (List.mem_of_getElem? (i := 208) (by decide +kernel))) (by decide +kernel)
theorem tw_209 : (Jvm.Cond.methodLink "BinnedReads$Draft" (40 : Nat) ({ cls := "BinnedReads$Draft", name := "width", desc := "()I" } : Jvm.MethodName)) ∈ tb := tb_of (List.mem_append_right _ (List.mem_of_getElem? (i := 209) (by decide +kernel))) (by decide +kernel)
theorem tw_210 : (Jvm.Cond.instanceMethod ({ cls := "BinnedReads$Draft", name := "width", desc := "()I" } : Jvm.MethodName)) ∈ tb := tb_of (List.mem_append_right _ (List.mem_of_getElem? (i := 210) (by decide +kernel))) (by decide +kernel)
theorem tw_211 : (Jvm.Cond.selects "BinnedReads$Draft" ({ cls := "BinnedReads$Draft", name := "width", desc := "()I" } : Jvm.MethodName) ({ cls := "BinnedReads$Draft", name := "width", desc := "()I" } : Jvm.MethodName)) ∈ tb := tb_of (List.mem_append_right _ (List.mem_of_getElem? (i := 211) (by decide +kernel))) (by decide +kernel)
theorem tw_212 : (Jvm.Cond.code ({ cls := "BinnedReads$Draft", name := "width", desc := "()I" } : Jvm.MethodName) prog_3_method_6_code (3 : Nat) (Option.some Jvm.ClassFile.FieldType.int)) ∈ tb := tb_of (List.mem_append_right _ (List.mem_of_getElem? (i := 212) (by decide +kernel))) (by decide +kernel)
theorem tw_213 : (Jvm.Cond.methodLinkNest "BinnedReads$Draft" (29 : Nat) ({ cls := "BinnedReads", name := "kindOf", desc := "(I)I" } : Jvm.MethodName) "BinnedReads") ∈ lw_tbl := List.mem_append_right _ (List.mem_of_getElem? (i := 213) (by decide +kernel))
theorem tw_214 : (Jvm.Cond.methodLinkNest "BinnedReads$Draft" (33 : Nat) ({ cls := "BinnedReads", name := "lengthOf", desc := "(I)I" } : Jvm.MethodName) "BinnedReads") ∈ lw_tbl := List.mem_append_right _ (List.mem_of_getElem? (i := 214) (by decide +kernel))
theorem tw_215 : (Jvm.Cond.methodLink "BinnedReads" (65 : Nat) ({ cls := "BinnedReads", name := "isReference", desc := "(I)Z" } : Jvm.MethodName)) ∈ tb := tb_of (List.mem_append_right _ (List.mem_of_getElem? (i := 215) (by decide +kernel))) (by decide +kernel)
theorem tw_216 : (Jvm.Cond.static ({ cls := "BinnedReads", name := "isReference", desc := "(I)Z" } : Jvm.MethodName)) ∈ tb := tb_of (List.mem_append_right _ (List.mem_of_getElem? (i := 216) (by decide +kernel))) (by decide +kernel)
theorem tw_217 : (Jvm.Cond.code ({ cls := "BinnedReads", name := "isReference", desc := "(I)Z" } : Jvm.MethodName) prog_1_method_17_code (1 : Nat) (Option.some Jvm.ClassFile.FieldType.boolean)) ∈ tb := tb_of (List.mem_append_right _ (List.mem_of_getElem? (i := 217) (by decide +kernel))) (by decide +kernel)
theorem tw_218 : (Jvm.Cond.methodLink "BinnedReads" (68 : Nat) ({ cls := "BinnedReads$Draft", name := "span", desc := "()I" } : Jvm.MethodName)) ∈ tb := tb_of (List.mem_append_right _ (List.mem_of_getElem? (i := 218) (by decide +kernel))) (by decide +kernel)
theorem tw_219 : (Jvm.Cond.methodLink "BinnedReads" (72 : Nat) ({ cls := "BinnedReads$Index", name := "endsBehind", desc := "(II)Z" } : Jvm.MethodName)) ∈ tb := tb_of (List.mem_append_right _ (List.mem_of_getElem? (i := 219) (by decide +kernel))) (by decide +kernel)
theorem tw_220 : (Jvm.Cond.instanceMethod ({ cls := "BinnedReads$Index", name := "endsBehind", desc := "(II)Z" } : Jvm.MethodName)) ∈ tb := tb_of (List.mem_append_right _ (List.mem_of_getElem? (i := 220) (by decide +kernel))) (by decide +kernel)
theorem tw_221 : (Jvm.Cond.selects "BinnedReads$Index" ({ cls := "BinnedReads$Index", name := "endsBehind", desc := "(II)Z" } : Jvm.MethodName) ({ cls := "BinnedReads$Index", name := "endsBehind", desc := "(II)Z" } : Jvm.MethodName)) ∈ tb := tb_of (List.mem_append_right _ (List.mem_of_getElem? (i := 221) (by decide +kernel))) (by decide +kernel)
theorem tw_222 : (Jvm.Cond.code ({ cls := "BinnedReads$Index", name := "endsBehind", desc := "(II)Z" } : Jvm.MethodName) prog_5_method_4_code (4 : Nat) (Option.some Jvm.ClassFile.FieldType.boolean)) ∈ tb := tb_of (List.mem_append_right _ (List.mem_of_getElem? (i := 222) (by decide +kernel))) (by decide +kernel)
theorem tw_223 : (Jvm.Cond.methodLink "BinnedReads" (75 : Nat) ({ cls := "BinnedReads", name := "binOf", desc := "(II)I" } : Jvm.MethodName)) ∈ tb := tb_of (List.mem_append_right _ (List.mem_of_getElem? (i := 223) (by decide +kernel))) (by decide +kernel)
theorem tw_224 : (Jvm.Cond.static ({ cls := "BinnedReads", name := "binOf", desc := "(II)I" } : Jvm.MethodName)) ∈ tb := tb_of (List.mem_append_right _ (List.mem_of_getElem? (i := 224) (by decide +kernel))) (by decide +kernel)
theorem tw_225 : (Jvm.Cond.code ({ cls := "BinnedReads", name := "binOf", desc := "(II)I" } : Jvm.MethodName) prog_1_method_19_code (3 : Nat) (Option.some Jvm.ClassFile.FieldType.int)) ∈ tb := tb_of (List.mem_append_right _ (List.mem_of_getElem? (i := 225) (by decide +kernel))) (by decide +kernel)
theorem tw_226 : (Jvm.Cond.methodLink "BinnedReads" (83 : Nat) ({ cls := "BinnedReads$Index", name := "append", desc := "(IIIII)I" } : Jvm.MethodName)) ∈ tb := tb_of (List.mem_append_right _ (List.mem_of_getElem? (i := 226) (by decide +kernel))) (by decide +kernel)
theorem tw_227 : (Jvm.Cond.instanceMethod ({ cls := "BinnedReads$Index", name := "append", desc := "(IIIII)I" } : Jvm.MethodName)) ∈ tb := tb_of (List.mem_append_right _ (List.mem_of_getElem? (i := 227) (by decide +kernel))) (by decide +kernel)
theorem tw_228 : (Jvm.Cond.selects "BinnedReads$Index" ({ cls := "BinnedReads$Index", name := "append", desc := "(IIIII)I" } : Jvm.MethodName) ({ cls := "BinnedReads$Index", name := "append", desc := "(IIIII)I" } : Jvm.MethodName)) ∈ tb := tb_of (List.mem_append_right _ (List.mem_of_getElem? (i := 228) (by decide +kernel))) (by decide +kernel)
theorem tw_229 : (Jvm.Cond.code ({ cls := "BinnedReads$Index", name := "append", desc := "(IIIII)I" } : Jvm.MethodName) prog_5_method_5_code (6 : Nat) (Option.some Jvm.ClassFile.FieldType.int)) ∈ tb := tb_of (List.mem_append_right _ (List.mem_of_getElem? (i := 229) (by decide +kernel))) (by decide +kernel)
theorem tw_230 : (Jvm.Cond.methodLink "BinnedReads$Index" (37 : Nat) ({ cls := "BinnedReads$Index", name := "isFull", desc := "()Z" } : Jvm.MethodName)) ∈ tb := tb_of (List.mem_append_right _ (List.mem_of_getElem? (i := 230) (by decide +kernel))) (by decide +kernel)
theorem tw_231 : (Jvm.Cond.methodLink "BinnedReads" (87 : Nat) ({ cls := "BinnedReads$Stream", name := "appendRow", desc := "(LBinnedReads$Draft;III)V" } : Jvm.MethodName)) ∈ tb := tb_of (List.mem_append_right _ (List.mem_of_getElem? (i := 231) (by decide +kernel))) (by decide +kernel)
theorem tw_232 : (Jvm.Cond.instanceMethod ({ cls := "BinnedReads$Stream", name := "appendRow", desc := "(LBinnedReads$Draft;III)V" } : Jvm.MethodName)) ∈ tb := tb_of (List.mem_append_right _ (List.mem_of_getElem? (i := 232) (by decide +kernel))) (by decide +kernel)
theorem tw_233 : (Jvm.Cond.selects "BinnedReads$Stream" ({ cls := "BinnedReads$Stream", name := "appendRow", desc := "(LBinnedReads$Draft;III)V" } : Jvm.MethodName) ({ cls := "BinnedReads$Stream", name := "appendRow", desc := "(LBinnedReads$Draft;III)V" } : Jvm.MethodName)) ∈ tb := tb_of (List.mem_append_right _ (List.mem_of_getElem? (i := 233) (by decide +kernel))) (by decide +kernel)
theorem tw_234 : (Jvm.Cond.code ({ cls := "BinnedReads$Stream", name := "appendRow", desc := "(LBinnedReads$Draft;III)V" } : Jvm.MethodName) prog_6_method_3_code (7 : Nat) (Option.none : Option Jvm.ClassFile.FieldType)) ∈ tb := tb_of (List.mem_append_right _ (List.mem_of_getElem? (i := 234) (by decide +kernel))) (by decide +kernel)
theorem tw_235 : (Jvm.Cond.methodLink "BinnedReads$Stream" (19 : Nat) ({ cls := "BinnedReads$Stream", name := "appendByte", desc := "(I)V" } : Jvm.MethodName)) ∈ tb := tb_of (List.mem_append_right _ (List.mem_of_getElem? (i := 235) (by decide +kernel))) (by decide +kernel)
theorem tw_237 : (Jvm.Cond.instanceMethod ({ cls := "BinnedReads$Stream", name := "appendByte", desc := "(I)V" } : Jvm.MethodName)) ∈ tb := tb_of (List.mem_append_right _ (List.mem_of_getElem? (i := 237) (by decide +kernel))) (by decide +kernel)
theorem tw_238 : (Jvm.Cond.code ({ cls := "BinnedReads$Stream", name := "appendByte", desc := "(I)V" } : Jvm.MethodName) prog_6_method_5_code (2 : Nat) (Option.none : Option Jvm.ClassFile.FieldType)) ∈ tb := tb_of (List.mem_append_right _ (List.mem_of_getElem? (i := 238) (by decide +kernel))) (by decide +kernel)
theorem tw_239 : (Jvm.Cond.methodLink "BinnedReads$Stream" (34 : Nat) ({ cls := "BinnedReads$Draft", name := "basePair", desc := "(I)I" } : Jvm.MethodName)) ∈ tb := tb_of (List.mem_append_right _ (List.mem_of_getElem? (i := 239) (by decide +kernel))) (by decide +kernel)
theorem tw_240 : (Jvm.Cond.instanceMethod ({ cls := "BinnedReads$Draft", name := "basePair", desc := "(I)I" } : Jvm.MethodName)) ∈ tb := tb_of (List.mem_append_right _ (List.mem_of_getElem? (i := 240) (by decide +kernel))) (by decide +kernel)
theorem tw_241 : (Jvm.Cond.selects "BinnedReads$Draft" ({ cls := "BinnedReads$Draft", name := "basePair", desc := "(I)I" } : Jvm.MethodName) ({ cls := "BinnedReads$Draft", name := "basePair", desc := "(I)I" } : Jvm.MethodName)) ∈ tb := tb_of (List.mem_append_right _ (List.mem_of_getElem? (i := 241) (by decide +kernel))) (by decide +kernel)
theorem tw_242 : (Jvm.Cond.code ({ cls := "BinnedReads$Draft", name := "basePair", desc := "(I)I" } : Jvm.MethodName) prog_3_method_8_code (3 : Nat) (Option.some Jvm.ClassFile.FieldType.int)) ∈ tb := tb_of (List.mem_append_right _ (List.mem_of_getElem? (i := 242) (by decide +kernel))) (by decide +kernel)
theorem tw_243 : (Jvm.Cond.methodLink "BinnedReadsLaw" (32 : Nat) ({ cls := "BinnedReads", name := "finish", desc := "()I" } : Jvm.MethodName)) ∈ tb := tb_of (List.mem_append_right _ (List.mem_of_getElem? (i := 243) (by decide +kernel))) (by decide +kernel)
theorem tw_244 : (Jvm.Cond.instanceMethod ({ cls := "BinnedReads", name := "finish", desc := "()I" } : Jvm.MethodName)) ∈ tb := tb_of (List.mem_append_right _ (List.mem_of_getElem? (i := 244) (by decide +kernel))) (by decide +kernel)
theorem tw_245 : (Jvm.Cond.selects "BinnedReads" ({ cls := "BinnedReads", name := "finish", desc := "()I" } : Jvm.MethodName) ({ cls := "BinnedReads", name := "finish", desc := "()I" } : Jvm.MethodName)) ∈ tb := tb_of (List.mem_append_right _ (List.mem_of_getElem? (i := 245) (by decide +kernel))) (by decide +kernel)
theorem tw_246 : (Jvm.Cond.code ({ cls := "BinnedReads", name := "finish", desc := "()I" } : Jvm.MethodName) prog_1_method_6_code (1 : Nat) (Option.some Jvm.ClassFile.FieldType.int)) ∈ tb := tb_of (List.mem_append_right _ (List.mem_of_getElem? (i := 246) (by decide +kernel))) (by decide +kernel)
theorem tw_247 : (Jvm.Cond.methodLink "BinnedReads" (91 : Nat) ({ cls := "BinnedReads$Disk", name := "write", desc := "(LBinnedReads$Stream;)V" } : Jvm.MethodName)) ∈ tb := tb_of (List.mem_append_right _ (List.mem_of_getElem? (i := 247) (by decide +kernel))) (by decide +kernel)
theorem tw_248 : (Jvm.Cond.instanceMethod ({ cls := "BinnedReads$Disk", name := "write", desc := "(LBinnedReads$Stream;)V" } : Jvm.MethodName)) ∈ tb := tb_of (List.mem_append_right _ (List.mem_of_getElem? (i := 248) (by decide +kernel))) (by decide +kernel)
theorem tw_249 : (Jvm.Cond.selects "BinnedReads$Disk" ({ cls := "BinnedReads$Disk", name := "write", desc := "(LBinnedReads$Stream;)V" } : Jvm.MethodName) ({ cls := "BinnedReads$Disk", name := "write", desc := "(LBinnedReads$Stream;)V" } : Jvm.MethodName)) ∈ tb := tb_of (List.mem_append_right _ (List.mem_of_getElem? (i := 249) (by decide +kernel))) (by decide +kernel)
theorem tw_250 : (Jvm.Cond.code ({ cls := "BinnedReads$Disk", name := "write", desc := "(LBinnedReads$Stream;)V" } : Jvm.MethodName) prog_2_method_4_code (3 : Nat) (Option.none : Option Jvm.ClassFile.FieldType)) ∈ tb := tb_of (List.mem_append_right _ (List.mem_of_getElem? (i := 250) (by decide +kernel))) (by decide +kernel)
theorem tw_251 : (Jvm.Cond.methodLink "BinnedReads$Disk" (33 : Nat) ({ cls := "java/lang/Math", name := "min", desc := "(II)I" } : Jvm.MethodName)) ∈ tb := tb_of (List.mem_append_right _ (List.mem_of_getElem? (i := 251) (by decide +kernel))) (by decide +kernel)
theorem tw_252 : (Jvm.Cond.static ({ cls := "java/lang/Math", name := "min", desc := "(II)I" } : Jvm.MethodName)) ∈ tb := tb_of (List.mem_append_right _ (List.mem_of_getElem? (i := 252) (by decide +kernel))) (by decide +kernel)
theorem tw_253 : (Jvm.Cond.code ({ cls := "java/lang/Math", name := "min", desc := "(II)I" } : Jvm.MethodName) prog_9_method_69_code (2 : Nat) (Option.some Jvm.ClassFile.FieldType.int)) ∈ tb := tb_of (List.mem_append_right _ (List.mem_of_getElem? (i := 253) (by decide +kernel))) (by decide +kernel)
theorem tw_254 : (Jvm.Cond.methodLink "BinnedReads$Disk" (39 : Nat) ({ cls := "BinnedReads$Disk", name := "appendBlock", desc := "(LBinnedReads$Stream;II)V" } : Jvm.MethodName)) ∈ tb := tb_of (List.mem_append_right _ (List.mem_of_getElem? (i := 254) (by decide +kernel))) (by decide +kernel)
theorem tw_256 : (Jvm.Cond.instanceMethod ({ cls := "BinnedReads$Disk", name := "appendBlock", desc := "(LBinnedReads$Stream;II)V" } : Jvm.MethodName)) ∈ tb := tb_of (List.mem_append_right _ (List.mem_of_getElem? (i := 256) (by decide +kernel))) (by decide +kernel)
theorem tw_257 : (Jvm.Cond.code ({ cls := "BinnedReads$Disk", name := "appendBlock", desc := "(LBinnedReads$Stream;II)V" } : Jvm.MethodName) prog_2_method_10_code (6 : Nat) (Option.none : Option Jvm.ClassFile.FieldType)) ∈ tb := tb_of (List.mem_append_right _ (List.mem_of_getElem? (i := 257) (by decide +kernel))) (by decide +kernel)
theorem tw_258 : (Jvm.Cond.methodLink "BinnedReads$Disk" (54 : Nat) ({ cls := "BinnedReads$Disk", name := "appendByte", desc := "(I)V" } : Jvm.MethodName)) ∈ tb := tb_of (List.mem_append_right _ (List.mem_of_getElem? (i := 258) (by decide +kernel))) (by decide +kernel)
theorem tw_260 : (Jvm.Cond.instanceMethod ({ cls := "BinnedReads$Disk", name := "appendByte", desc := "(I)V" } : Jvm.MethodName)) ∈ tb := tb_of (List.mem_append_right _ (List.mem_of_getElem? (i := 260) (by decide +kernel))) (by decide +kernel)
theorem tw_261 : (Jvm.Cond.code ({ cls := "BinnedReads$Disk", name := "appendByte", desc := "(I)V" } : Jvm.MethodName) prog_2_method_12_code (2 : Nat) (Option.none : Option Jvm.ClassFile.FieldType)) ∈ tb := tb_of (List.mem_append_right _ (List.mem_of_getElem? (i := 261) (by decide +kernel))) (by decide +kernel)
theorem tw_262 : (Jvm.Cond.methodLink "BinnedReads$Disk" (58 : Nat) ({ cls := "BinnedReads$Disk", name := "appendNumber", desc := "(II)V" } : Jvm.MethodName)) ∈ tb := tb_of (List.mem_append_right _ (List.mem_of_getElem? (i := 262) (by decide +kernel))) (by decide +kernel)
theorem tw_264 : (Jvm.Cond.instanceMethod ({ cls := "BinnedReads$Disk", name := "appendNumber", desc := "(II)V" } : Jvm.MethodName)) ∈ tb := tb_of (List.mem_append_right _ (List.mem_of_getElem? (i := 264) (by decide +kernel))) (by decide +kernel)
theorem tw_265 : (Jvm.Cond.code ({ cls := "BinnedReads$Disk", name := "appendNumber", desc := "(II)V" } : Jvm.MethodName) prog_2_method_11_code (4 : Nat) (Option.none : Option Jvm.ClassFile.FieldType)) ∈ tb := tb_of (List.mem_append_right _ (List.mem_of_getElem? (i := 265) (by decide +kernel))) (by decide +kernel)
theorem tw_266 : (Jvm.Cond.methodLink "BinnedReads$Disk" (63 : Nat) ({ cls := "BinnedReads$Disk", name := "sumOf", desc := "(II)I" } : Jvm.MethodName)) ∈ tb := tb_of (List.mem_append_right _ (List.mem_of_getElem? (i := 266) (by decide +kernel))) (by decide +kernel)
theorem tw_268 : (Jvm.Cond.instanceMethod ({ cls := "BinnedReads$Disk", name := "sumOf", desc := "(II)I" } : Jvm.MethodName)) ∈ tb := tb_of (List.mem_append_right _ (List.mem_of_getElem? (i := 268) (by decide +kernel))) (by decide +kernel)
theorem tw_269 : (Jvm.Cond.code ({ cls := "BinnedReads$Disk", name := "sumOf", desc := "(II)I" } : Jvm.MethodName) prog_2_method_15_code (6 : Nat) (Option.some Jvm.ClassFile.FieldType.int)) ∈ tb := tb_of (List.mem_append_right _ (List.mem_of_getElem? (i := 269) (by decide +kernel))) (by decide +kernel)
theorem tw_270 : (Jvm.Cond.methodLink "BinnedReads$Disk" (47 : Nat) ({ cls := "BinnedReads$Disk", name := "at", desc := "(I)I" } : Jvm.MethodName)) ∈ tb := tb_of (List.mem_append_right _ (List.mem_of_getElem? (i := 270) (by decide +kernel))) (by decide +kernel)
theorem tw_271 : (Jvm.Cond.instanceMethod ({ cls := "BinnedReads$Disk", name := "at", desc := "(I)I" } : Jvm.MethodName)) ∈ tb := tb_of (List.mem_append_right _ (List.mem_of_getElem? (i := 271) (by decide +kernel))) (by decide +kernel)
theorem tw_272 : (Jvm.Cond.selects "BinnedReads$Disk" ({ cls := "BinnedReads$Disk", name := "at", desc := "(I)I" } : Jvm.MethodName) ({ cls := "BinnedReads$Disk", name := "at", desc := "(I)I" } : Jvm.MethodName)) ∈ tb := tb_of (List.mem_append_right _ (List.mem_of_getElem? (i := 272) (by decide +kernel))) (by decide +kernel)
theorem tw_273 : (Jvm.Cond.code ({ cls := "BinnedReads$Disk", name := "at", desc := "(I)I" } : Jvm.MethodName) prog_2_method_5_code (2 : Nat) (Option.some Jvm.ClassFile.FieldType.int)) ∈ tb := tb_of (List.mem_append_right _ (List.mem_of_getElem? (i := 273) (by decide +kernel))) (by decide +kernel)
theorem tw_274 : (Jvm.Cond.constant "BinnedReads$Disk" (70 : Nat) (-306674912 : Int32)) ∈ tb := tb_of (List.mem_append_right _ (List.mem_of_getElem? (i := 274) (by decide +kernel))) (by decide +kernel)
theorem tw_275 : (Jvm.Cond.methodLink "BinnedReadsLaw" (37 : Nat) ({ cls := "BinnedReads", name := "clear", desc := "()V" } : Jvm.MethodName)) ∈ tb := tb_of (List.mem_append_right _ (List.mem_of_getElem? (i := 275) (by decide +kernel))) (by decide +kernel)
theorem tw_276 : (Jvm.Cond.instanceMethod ({ cls := "BinnedReads", name := "clear", desc := "()V" } : Jvm.MethodName)) ∈ tb := tb_of (List.mem_append_right _ (List.mem_of_getElem? (i := 276) (by decide +kernel))) (by decide +kernel)
theorem tw_277 : (Jvm.Cond.selects "BinnedReads" ({ cls := "BinnedReads", name := "clear", desc := "()V" } : Jvm.MethodName) ({ cls := "BinnedReads", name := "clear", desc := "()V" } : Jvm.MethodName)) ∈ tb := tb_of (List.mem_append_right _ (List.mem_of_getElem? (i := 277) (by decide +kernel))) (by decide +kernel)
theorem tw_278 : (Jvm.Cond.code ({ cls := "BinnedReads", name := "clear", desc := "()V" } : Jvm.MethodName) prog_1_method_7_code (1 : Nat) (Option.none : Option Jvm.ClassFile.FieldType)) ∈ tb := tb_of (List.mem_append_right _ (List.mem_of_getElem? (i := 278) (by decide +kernel))) (by decide +kernel)
theorem tw_279 : (Jvm.Cond.methodLink "BinnedReads" (98 : Nat) ({ cls := "BinnedReads$Stream", name := "empty", desc := "()V" } : Jvm.MethodName)) ∈ tb := tb_of (List.mem_append_right _ (List.mem_of_getElem? (i := 279) (by decide +kernel))) (by decide +kernel)
theorem tw_280 : (Jvm.Cond.instanceMethod ({ cls := "BinnedReads$Stream", name := "empty", desc := "()V" } : Jvm.MethodName)) ∈ tb := tb_of (List.mem_append_right _ (List.mem_of_getElem? (i := 280) (by decide +kernel))) (by decide +kernel)
theorem tw_281 : (Jvm.Cond.selects "BinnedReads$Stream" ({ cls := "BinnedReads$Stream", name := "empty", desc := "()V" } : Jvm.MethodName) ({ cls := "BinnedReads$Stream", name := "empty", desc := "()V" } : Jvm.MethodName)) ∈ tb := tb_of (List.mem_append_right _ (List.mem_of_getElem? (i := 281) (by decide +kernel))) (by decide +kernel)
theorem tw_282 : (Jvm.Cond.code ({ cls := "BinnedReads$Stream", name := "empty", desc := "()V" } : Jvm.MethodName) prog_6_method_2_code (1 : Nat) (Option.none : Option Jvm.ClassFile.FieldType)) ∈ tb := tb_of (List.mem_append_right _ (List.mem_of_getElem? (i := 282) (by decide +kernel))) (by decide +kernel)
theorem tw_283 : (Jvm.Cond.methodLink "BinnedReads" (99 : Nat) ({ cls := "BinnedReads$Index", name := "empty", desc := "()V" } : Jvm.MethodName)) ∈ tb := tb_of (List.mem_append_right _ (List.mem_of_getElem? (i := 283) (by decide +kernel))) (by decide +kernel)
theorem tw_284 : (Jvm.Cond.instanceMethod ({ cls := "BinnedReads$Index", name := "empty", desc := "()V" } : Jvm.MethodName)) ∈ tb := tb_of (List.mem_append_right _ (List.mem_of_getElem? (i := 284) (by decide +kernel))) (by decide +kernel)
theorem tw_285 : (Jvm.Cond.selects "BinnedReads$Index" ({ cls := "BinnedReads$Index", name := "empty", desc := "()V" } : Jvm.MethodName) ({ cls := "BinnedReads$Index", name := "empty", desc := "()V" } : Jvm.MethodName)) ∈ tb := tb_of (List.mem_append_right _ (List.mem_of_getElem? (i := 285) (by decide +kernel))) (by decide +kernel)
theorem tw_286 : (Jvm.Cond.code ({ cls := "BinnedReads$Index", name := "empty", desc := "()V" } : Jvm.MethodName) prog_5_method_2_code (1 : Nat) (Option.none : Option Jvm.ClassFile.FieldType)) ∈ tb := tb_of (List.mem_append_right _ (List.mem_of_getElem? (i := 286) (by decide +kernel))) (by decide +kernel)
theorem tw_287 : (Jvm.Cond.methodLink "BinnedReads" (100 : Nat) ({ cls := "BinnedReads$Disk", name := "empty", desc := "()V" } : Jvm.MethodName)) ∈ tb := tb_of (List.mem_append_right _ (List.mem_of_getElem? (i := 287) (by decide +kernel))) (by decide +kernel)
theorem tw_288 : (Jvm.Cond.instanceMethod ({ cls := "BinnedReads$Disk", name := "empty", desc := "()V" } : Jvm.MethodName)) ∈ tb := tb_of (List.mem_append_right _ (List.mem_of_getElem? (i := 288) (by decide +kernel))) (by decide +kernel)
theorem tw_289 : (Jvm.Cond.selects "BinnedReads$Disk" ({ cls := "BinnedReads$Disk", name := "empty", desc := "()V" } : Jvm.MethodName) ({ cls := "BinnedReads$Disk", name := "empty", desc := "()V" } : Jvm.MethodName)) ∈ tb := tb_of (List.mem_append_right _ (List.mem_of_getElem? (i := 289) (by decide +kernel))) (by decide +kernel)
theorem tw_290 : (Jvm.Cond.code ({ cls := "BinnedReads$Disk", name := "empty", desc := "()V" } : Jvm.MethodName) prog_2_method_2_code (1 : Nat) (Option.none : Option Jvm.ClassFile.FieldType)) ∈ tb := tb_of (List.mem_append_right _ (List.mem_of_getElem? (i := 290) (by decide +kernel))) (by decide +kernel)
theorem tw_291 : (Jvm.Cond.methodLink "BinnedReads" (101 : Nat) ({ cls := "BinnedReads$Finding", name := "empty", desc := "()V" } : Jvm.MethodName)) ∈ tb := tb_of (List.mem_append_right _ (List.mem_of_getElem? (i := 291) (by decide +kernel))) (by decide +kernel)
theorem tw_292 : (Jvm.Cond.instanceMethod ({ cls := "BinnedReads$Finding", name := "empty", desc := "()V" } : Jvm.MethodName)) ∈ tb := tb_of (List.mem_append_right _ (List.mem_of_getElem? (i := 292) (by decide +kernel))) (by decide +kernel)
theorem tw_293 : (Jvm.Cond.selects "BinnedReads$Finding" ({ cls := "BinnedReads$Finding", name := "empty", desc := "()V" } : Jvm.MethodName) ({ cls := "BinnedReads$Finding", name := "empty", desc := "()V" } : Jvm.MethodName)) ∈ tb := tb_of (List.mem_append_right _ (List.mem_of_getElem? (i := 293) (by decide +kernel))) (by decide +kernel)
theorem tw_294 : (Jvm.Cond.code ({ cls := "BinnedReads$Finding", name := "empty", desc := "()V" } : Jvm.MethodName) prog_4_method_2_code (1 : Nat) (Option.none : Option Jvm.ClassFile.FieldType)) ∈ tb := tb_of (List.mem_append_right _ (List.mem_of_getElem? (i := 294) (by decide +kernel))) (by decide +kernel)
theorem tw_295 : (Jvm.Cond.methodLink "BinnedReadsLaw" (41 : Nat) ({ cls := "BinnedReads", name := "turn", desc := "(II)Z" } : Jvm.MethodName)) ∈ tb := tb_of (List.mem_append_right _ (List.mem_of_getElem? (i := 295) (by decide +kernel))) (by decide +kernel)
theorem tw_296 : (Jvm.Cond.instanceMethod ({ cls := "BinnedReads", name := "turn", desc := "(II)Z" } : Jvm.MethodName)) ∈ tb := tb_of (List.mem_append_right _ (List.mem_of_getElem? (i := 296) (by decide +kernel))) (by decide +kernel)
theorem tw_297 : (Jvm.Cond.selects "BinnedReads" ({ cls := "BinnedReads", name := "turn", desc := "(II)Z" } : Jvm.MethodName) ({ cls := "BinnedReads", name := "turn", desc := "(II)Z" } : Jvm.MethodName)) ∈ tb := tb_of (List.mem_append_right _ (List.mem_of_getElem? (i := 297) (by decide +kernel))) (by decide +kernel)
theorem tw_298 : (Jvm.Cond.code ({ cls := "BinnedReads", name := "turn", desc := "(II)Z" } : Jvm.MethodName) prog_1_method_8_code (3 : Nat) (Option.some Jvm.ClassFile.FieldType.boolean)) ∈ tb := tb_of (List.mem_append_right _ (List.mem_of_getElem? (i := 298) (by decide +kernel))) (by decide +kernel)
theorem tw_299 : (Jvm.Cond.methodLink "BinnedReads" (102 : Nat) ({ cls := "BinnedReads$Disk", name := "turnBit", desc := "(II)Z" } : Jvm.MethodName)) ∈ tb := tb_of (List.mem_append_right _ (List.mem_of_getElem? (i := 299) (by decide +kernel))) (by decide +kernel)
theorem tw_300 : (Jvm.Cond.instanceMethod ({ cls := "BinnedReads$Disk", name := "turnBit", desc := "(II)Z" } : Jvm.MethodName)) ∈ tb := tb_of (List.mem_append_right _ (List.mem_of_getElem? (i := 300) (by decide +kernel))) (by decide +kernel)
theorem tw_301 : (Jvm.Cond.selects "BinnedReads$Disk" ({ cls := "BinnedReads$Disk", name := "turnBit", desc := "(II)Z" } : Jvm.MethodName) ({ cls := "BinnedReads$Disk", name := "turnBit", desc := "(II)Z" } : Jvm.MethodName)) ∈ tb := tb_of (List.mem_append_right _ (List.mem_of_getElem? (i := 301) (by decide +kernel))) (by decide +kernel)
theorem tw_302 : (Jvm.Cond.code ({ cls := "BinnedReads$Disk", name := "turnBit", desc := "(II)Z" } : Jvm.MethodName) prog_2_method_6_code (4 : Nat) (Option.some Jvm.ClassFile.FieldType.boolean)) ∈ tb := tb_of (List.mem_append_right _ (List.mem_of_getElem? (i := 302) (by decide +kernel))) (by decide +kernel)
theorem tw_303 : (Jvm.Cond.methodLink "BinnedReadsLaw" (45 : Nat) ({ cls := "BinnedReads", name := "byteAt", desc := "(I)I" } : Jvm.MethodName)) ∈ tb := tb_of (List.mem_append_right _ (List.mem_of_getElem? (i := 303) (by decide +kernel))) (by decide +kernel)
theorem tw_304 : (Jvm.Cond.instanceMethod ({ cls := "BinnedReads", name := "byteAt", desc := "(I)I" } : Jvm.MethodName)) ∈ tb := tb_of (List.mem_append_right _ (List.mem_of_getElem? (i := 304) (by decide +kernel))) (by decide +kernel)
theorem tw_305 : (Jvm.Cond.selects "BinnedReads" ({ cls := "BinnedReads", name := "byteAt", desc := "(I)I" } : Jvm.MethodName) ({ cls := "BinnedReads", name := "byteAt", desc := "(I)I" } : Jvm.MethodName)) ∈ tb := tb_of (List.mem_append_right _ (List.mem_of_getElem? (i := 305) (by decide +kernel))) (by decide +kernel)
theorem tw_306 : (Jvm.Cond.code ({ cls := "BinnedReads", name := "byteAt", desc := "(I)I" } : Jvm.MethodName) prog_1_method_9_code (2 : Nat) (Option.some Jvm.ClassFile.FieldType.int)) ∈ tb := tb_of (List.mem_append_right _ (List.mem_of_getElem? (i := 306) (by decide +kernel))) (by decide +kernel)
theorem tw_307 : (Jvm.Cond.methodLink "BinnedReads" (105 : Nat) ({ cls := "BinnedReads$Disk", name := "at", desc := "(I)I" } : Jvm.MethodName)) ∈ tb := tb_of (List.mem_append_right _ (List.mem_of_getElem? (i := 307) (by decide +kernel))) (by decide +kernel)
theorem tw_308 : (Jvm.Cond.methodLink "BinnedReadsLaw" (50 : Nat) ({ cls := "BinnedReads", name := "check", desc := "()I" } : Jvm.MethodName)) ∈ tb := tb_of (List.mem_append_right _ (List.mem_of_getElem? (i := 308) (by decide +kernel))) (by decide +kernel)
theorem tw_309 : (Jvm.Cond.instanceMethod ({ cls := "BinnedReads", name := "check", desc := "()I" } : Jvm.MethodName)) ∈ tb := tb_of (List.mem_append_right _ (List.mem_of_getElem? (i := 309) (by decide +kernel))) (by decide +kernel)
theorem tw_310 : (Jvm.Cond.selects "BinnedReads" ({ cls := "BinnedReads", name := "check", desc := "()I" } : Jvm.MethodName) ({ cls := "BinnedReads", name := "check", desc := "()I" } : Jvm.MethodName)) ∈ tb := tb_of (List.mem_append_right _ (List.mem_of_getElem? (i := 310) (by decide +kernel))) (by decide +kernel)
theorem tw_311 : (Jvm.Cond.code ({ cls := "BinnedReads", name := "check", desc := "()I" } : Jvm.MethodName) prog_1_method_10_code (1 : Nat) (Option.some Jvm.ClassFile.FieldType.int)) ∈ tb := tb_of (List.mem_append_right _ (List.mem_of_getElem? (i := 311) (by decide +kernel))) (by decide +kernel)
theorem tw_312 : (Jvm.Cond.methodLink "BinnedReads" (112 : Nat) ({ cls := "BinnedReads$Disk", name := "areSound", desc := "(II)Z" } : Jvm.MethodName)) ∈ tb := tb_of (List.mem_append_right _ (List.mem_of_getElem? (i := 312) (by decide +kernel))) (by decide +kernel)
theorem tw_313 : (Jvm.Cond.instanceMethod ({ cls := "BinnedReads$Disk", name := "areSound", desc := "(II)Z" } : Jvm.MethodName)) ∈ tb := tb_of (List.mem_append_right _ (List.mem_of_getElem? (i := 313) (by decide +kernel))) (by decide +kernel)
theorem tw_314 : (Jvm.Cond.selects "BinnedReads$Disk" ({ cls := "BinnedReads$Disk", name := "areSound", desc := "(II)Z" } : Jvm.MethodName) ({ cls := "BinnedReads$Disk", name := "areSound", desc := "(II)Z" } : Jvm.MethodName)) ∈ tb := tb_of (List.mem_append_right _ (List.mem_of_getElem? (i := 314) (by decide +kernel))) (by decide +kernel)
theorem tw_315 : (Jvm.Cond.code ({ cls := "BinnedReads$Disk", name := "areSound", desc := "(II)Z" } : Jvm.MethodName) prog_2_method_7_code (4 : Nat) (Option.some Jvm.ClassFile.FieldType.boolean)) ∈ tb := tb_of (List.mem_append_right _ (List.mem_of_getElem? (i := 315) (by decide +kernel))) (by decide +kernel)
theorem tw_316 : (Jvm.Cond.methodLink "BinnedReads$Disk" (43 : Nat) ({ cls := "BinnedReads$Disk", name := "isSound", desc := "(I)Z" } : Jvm.MethodName)) ∈ tb := tb_of (List.mem_append_right _ (List.mem_of_getElem? (i := 316) (by decide +kernel))) (by decide +kernel)
theorem tw_318 : (Jvm.Cond.instanceMethod ({ cls := "BinnedReads$Disk", name := "isSound", desc := "(I)Z" } : Jvm.MethodName)) ∈ tb := tb_of (List.mem_append_right _ (List.mem_of_getElem? (i := 318) (by decide +kernel))) (by decide +kernel)
theorem tw_319 : (Jvm.Cond.code ({ cls := "BinnedReads$Disk", name := "isSound", desc := "(I)Z" } : Jvm.MethodName) prog_2_method_13_code (5 : Nat) (Option.some Jvm.ClassFile.FieldType.boolean)) ∈ tb := tb_of (List.mem_append_right _ (List.mem_of_getElem? (i := 319) (by decide +kernel))) (by decide +kernel)
theorem tw_320 : (Jvm.Cond.methodLink "BinnedReads$Disk" (66 : Nat) ({ cls := "BinnedReads$Disk", name := "numberAt", desc := "(II)I" } : Jvm.MethodName)) ∈ tb := tb_of (List.mem_append_right _ (List.mem_of_getElem? (i := 320) (by decide +kernel))) (by decide +kernel)
theorem tw_322 : (Jvm.Cond.instanceMethod ({ cls := "BinnedReads$Disk", name := "numberAt", desc := "(II)I" } : Jvm.MethodName)) ∈ tb := tb_of (List.mem_append_right _ (List.mem_of_getElem? (i := 322) (by decide +kernel))) (by decide +kernel)
theorem tw_323 : (Jvm.Cond.code ({ cls := "BinnedReads$Disk", name := "numberAt", desc := "(II)I" } : Jvm.MethodName) prog_2_method_14_code (5 : Nat) (Option.some Jvm.ClassFile.FieldType.int)) ∈ tb := tb_of (List.mem_append_right _ (List.mem_of_getElem? (i := 323) (by decide +kernel))) (by decide +kernel)
theorem tw_324 : (Jvm.Cond.constant "BinnedReads$Disk" (69 : Nat) (65535 : Int32)) ∈ tb := tb_of (List.mem_append_right _ (List.mem_of_getElem? (i := 324) (by decide +kernel))) (by decide +kernel)
theorem tw_325 : (Jvm.Cond.methodLink "BinnedReadsLaw" (54 : Nat) ({ cls := "BinnedReads", name := "query", desc := "(III)I" } : Jvm.MethodName)) ∈ tb := tb_of (List.mem_append_right _ (List.mem_of_getElem? (i := 325) (by decide +kernel))) (by decide +kernel)
theorem tw_326 : (Jvm.Cond.instanceMethod ({ cls := "BinnedReads", name := "query", desc := "(III)I" } : Jvm.MethodName)) ∈ tb := tb_of (List.mem_append_right _ (List.mem_of_getElem? (i := 326) (by decide +kernel))) (by decide +kernel)
theorem tw_327 : (Jvm.Cond.selects "BinnedReads" ({ cls := "BinnedReads", name := "query", desc := "(III)I" } : Jvm.MethodName) ({ cls := "BinnedReads", name := "query", desc := "(III)I" } : Jvm.MethodName)) ∈ tb := tb_of (List.mem_append_right _ (List.mem_of_getElem? (i := 327) (by decide +kernel))) (by decide +kernel)
theorem tw_328 : (Jvm.Cond.code ({ cls := "BinnedReads", name := "query", desc := "(III)I" } : Jvm.MethodName) prog_1_method_11_code (6 : Nat) (Option.some Jvm.ClassFile.FieldType.int)) ∈ tb := tb_of (List.mem_append_right _ (List.mem_of_getElem? (i := 328) (by decide +kernel))) (by decide +kernel)
theorem tw_329 : (Jvm.Cond.methodLink "BinnedReads" (118 : Nat) ({ cls := "BinnedReads", name := "isRegion", desc := "(III)Z" } : Jvm.MethodName)) ∈ tb := tb_of (List.mem_append_right _ (List.mem_of_getElem? (i := 329) (by decide +kernel))) (by decide +kernel)
theorem tw_330 : (Jvm.Cond.static ({ cls := "BinnedReads", name := "isRegion", desc := "(III)Z" } : Jvm.MethodName)) ∈ tb := tb_of (List.mem_append_right _ (List.mem_of_getElem? (i := 330) (by decide +kernel))) (by decide +kernel)
theorem tw_331 : (Jvm.Cond.code ({ cls := "BinnedReads", name := "isRegion", desc := "(III)Z" } : Jvm.MethodName) prog_1_method_18_code (3 : Nat) (Option.some Jvm.ClassFile.FieldType.boolean)) ∈ tb := tb_of (List.mem_append_right _ (List.mem_of_getElem? (i := 331) (by decide +kernel))) (by decide +kernel)
theorem tw_332 : (Jvm.Cond.methodLink "BinnedReads" (122 : Nat) ({ cls := "BinnedReads$Index", name := "choose", desc := "(III)V" } : Jvm.MethodName)) ∈ tb := tb_of (List.mem_append_right _ (List.mem_of_getElem? (i := 332) (by decide +kernel))) (by decide +kernel)
theorem tw_333 : (Jvm.Cond.instanceMethod ({ cls := "BinnedReads$Index", name := "choose", desc := "(III)V" } : Jvm.MethodName)) ∈ tb := tb_of (List.mem_append_right _ (List.mem_of_getElem? (i := 333) (by decide +kernel))) (by decide +kernel)
theorem tw_334 : (Jvm.Cond.selects "BinnedReads$Index" ({ cls := "BinnedReads$Index", name := "choose", desc := "(III)V" } : Jvm.MethodName) ({ cls := "BinnedReads$Index", name := "choose", desc := "(III)V" } : Jvm.MethodName)) ∈ tb := tb_of (List.mem_append_right _ (List.mem_of_getElem? (i := 334) (by decide +kernel))) (by decide +kernel)
theorem tw_335 : (Jvm.Cond.code ({ cls := "BinnedReads$Index", name := "choose", desc := "(III)V" } : Jvm.MethodName) prog_5_method_6_code (6 : Nat) (Option.none : Option Jvm.ClassFile.FieldType)) ∈ tb := tb_of (List.mem_append_right _ (List.mem_of_getElem? (i := 335) (by decide +kernel))) (by decide +kernel)
theorem tw_336 : (Jvm.Cond.methodLink "BinnedReads$Index" (41 : Nat) ({ cls := "BinnedReads$Index", name := "firstEndingAfter", desc := "(II)I" } : Jvm.MethodName)) ∈ tb := tb_of (List.mem_append_right _ (List.mem_of_getElem? (i := 336) (by decide +kernel))) (by decide +kernel)
theorem tw_338 : (Jvm.Cond.instanceMethod ({ cls := "BinnedReads$Index", name := "firstEndingAfter", desc := "(II)I" } : Jvm.MethodName)) ∈ tb := tb_of (List.mem_append_right _ (List.mem_of_getElem? (i := 338) (by decide +kernel))) (by decide +kernel)
theorem tw_339 : (Jvm.Cond.code ({ cls := "BinnedReads$Index", name := "firstEndingAfter", desc := "(II)I" } : Jvm.MethodName) prog_5_method_8_code (4 : Nat) (Option.some Jvm.ClassFile.FieldType.int)) ∈ tb := tb_of (List.mem_append_right _ (List.mem_of_getElem? (i := 339) (by decide +kernel))) (by decide +kernel)
theorem tw_340 : (Jvm.Cond.methodLinkNest "BinnedReads$Index" (45 : Nat) ({ cls := "BinnedReads", name := "binMeets", desc := "(III)Z" } : Jvm.MethodName) "BinnedReads") ∈ lw_tbl := List.mem_append_right _ (List.mem_of_getElem? (i := 340) (by decide +kernel))
theorem tw_341 : (Jvm.Cond.static ({ cls := "BinnedReads", name := "binMeets", desc := "(III)Z" } : Jvm.MethodName)) ∈ tb := tb_of (List.mem_append_right _ (List.mem_of_getElem? (i := 341) (by decide +kernel))) (by decide +kernel)
theorem tw_342 : (Jvm.Cond.code ({ cls := "BinnedReads", name := "binMeets", desc := "(III)Z" } : Jvm.MethodName) prog_1_method_20_code (5 : Nat) (Option.some Jvm.ClassFile.FieldType.boolean)) ∈ tb := tb_of (List.mem_append_right _ (List.mem_of_getElem? (i := 342) (by decide +kernel))) (by decide +kernel)
theorem tw_343 : (Jvm.Cond.methodLink "BinnedReads" (126 : Nat) ({ cls := "BinnedReads", name := "areChosenSound", desc := "()Z" } : Jvm.MethodName)) ∈ tb := tb_of (List.mem_append_right _ (List.mem_of_getElem? (i := 343) (by decide +kernel))) (by decide +kernel)
theorem tw_345 : (Jvm.Cond.instanceMethod ({ cls := "BinnedReads", name := "areChosenSound", desc := "()Z" } : Jvm.MethodName)) ∈ tb := tb_of (List.mem_append_right _ (List.mem_of_getElem? (i := 345) (by decide +kernel))) (by decide +kernel)
theorem tw_346 : (Jvm.Cond.code ({ cls := "BinnedReads", name := "areChosenSound", desc := "()Z" } : Jvm.MethodName) prog_1_method_16_code (6 : Nat) (Option.some Jvm.ClassFile.FieldType.boolean)) ∈ tb := tb_of (List.mem_append_right _ (List.mem_of_getElem? (i := 346) (by decide +kernel))) (by decide +kernel)
theorem tw_347 : (Jvm.Cond.methodLink "BinnedReads" (171 : Nat) ({ cls := "BinnedReads$Stream", name := "rowLength", desc := "(I)I" } : Jvm.MethodName)) ∈ tb := tb_of (List.mem_append_right _ (List.mem_of_getElem? (i := 347) (by decide +kernel))) (by decide +kernel)
theorem tw_348 : (Jvm.Cond.instanceMethod ({ cls := "BinnedReads$Stream", name := "rowLength", desc := "(I)I" } : Jvm.MethodName)) ∈ tb := tb_of (List.mem_append_right _ (List.mem_of_getElem? (i := 348) (by decide +kernel))) (by decide +kernel)
theorem tw_349 : (Jvm.Cond.selects "BinnedReads$Stream" ({ cls := "BinnedReads$Stream", name := "rowLength", desc := "(I)I" } : Jvm.MethodName) ({ cls := "BinnedReads$Stream", name := "rowLength", desc := "(I)I" } : Jvm.MethodName)) ∈ tb := tb_of (List.mem_append_right _ (List.mem_of_getElem? (i := 349) (by decide +kernel))) (by decide +kernel)
theorem tw_350 : (Jvm.Cond.code ({ cls := "BinnedReads$Stream", name := "rowLength", desc := "(I)I" } : Jvm.MethodName) prog_6_method_4_code (2 : Nat) (Option.some Jvm.ClassFile.FieldType.int)) ∈ tb := tb_of (List.mem_append_right _ (List.mem_of_getElem? (i := 350) (by decide +kernel))) (by decide +kernel)
theorem tw_351 : (Jvm.Cond.methodLink "BinnedReads" (174 : Nat) ({ cls := "java/lang/Math", name := "max", desc := "(II)I" } : Jvm.MethodName)) ∈ tb := tb_of (List.mem_append_right _ (List.mem_of_getElem? (i := 351) (by decide +kernel))) (by decide +kernel)
theorem tw_352 : (Jvm.Cond.static ({ cls := "java/lang/Math", name := "max", desc := "(II)I" } : Jvm.MethodName)) ∈ tb := tb_of (List.mem_append_right _ (List.mem_of_getElem? (i := 352) (by decide +kernel))) (by decide +kernel)
theorem tw_353 : (Jvm.Cond.code ({ cls := "java/lang/Math", name := "max", desc := "(II)I" } : Jvm.MethodName) prog_9_method_65_code (2 : Nat) (Option.some Jvm.ClassFile.FieldType.int)) ∈ tb := tb_of (List.mem_append_right _ (List.mem_of_getElem? (i := 353) (by decide +kernel))) (by decide +kernel)
theorem tw_354 : (Jvm.Cond.methodLink "BinnedReads" (139 : Nat) ({ cls := "BinnedReads$Index", name := "overlaps", desc := "(III)Z" } : Jvm.MethodName)) ∈ tb := tb_of (List.mem_append_right _ (List.mem_of_getElem? (i := 354) (by decide +kernel))) (by decide +kernel)
theorem tw_355 : (Jvm.Cond.instanceMethod ({ cls := "BinnedReads$Index", name := "overlaps", desc := "(III)Z" } : Jvm.MethodName)) ∈ tb := tb_of (List.mem_append_right _ (List.mem_of_getElem? (i := 355) (by decide +kernel))) (by decide +kernel)
theorem tw_356 : (Jvm.Cond.selects "BinnedReads$Index" ({ cls := "BinnedReads$Index", name := "overlaps", desc := "(III)Z" } : Jvm.MethodName) ({ cls := "BinnedReads$Index", name := "overlaps", desc := "(III)Z" } : Jvm.MethodName)) ∈ tb := tb_of (List.mem_append_right _ (List.mem_of_getElem? (i := 356) (by decide +kernel))) (by decide +kernel)
theorem tw_357 : (Jvm.Cond.code ({ cls := "BinnedReads$Index", name := "overlaps", desc := "(III)Z" } : Jvm.MethodName) prog_5_method_7_code (4 : Nat) (Option.some Jvm.ClassFile.FieldType.boolean)) ∈ tb := tb_of (List.mem_append_right _ (List.mem_of_getElem? (i := 357) (by decide +kernel))) (by decide +kernel)
theorem tw_358 : (Jvm.Cond.methodLink "BinnedReads" (145 : Nat) ({ cls := "BinnedReads$Finding", name := "append", desc := "(LBinnedReads$Disk;I)V" } : Jvm.MethodName)) ∈ tb := tb_of (List.mem_append_right _ (List.mem_of_getElem? (i := 358) (by decide +kernel))) (by decide +kernel)
theorem tw_359 : (Jvm.Cond.instanceMethod ({ cls := "BinnedReads$Finding", name := "append", desc := "(LBinnedReads$Disk;I)V" } : Jvm.MethodName)) ∈ tb := tb_of (List.mem_append_right _ (List.mem_of_getElem? (i := 359) (by decide +kernel))) (by decide +kernel)
theorem tw_360 : (Jvm.Cond.selects "BinnedReads$Finding" ({ cls := "BinnedReads$Finding", name := "append", desc := "(LBinnedReads$Disk;I)V" } : Jvm.MethodName) ({ cls := "BinnedReads$Finding", name := "append", desc := "(LBinnedReads$Disk;I)V" } : Jvm.MethodName)) ∈ tb := tb_of (List.mem_append_right _ (List.mem_of_getElem? (i := 360) (by decide +kernel))) (by decide +kernel)
theorem tw_361 : (Jvm.Cond.code ({ cls := "BinnedReads$Finding", name := "append", desc := "(LBinnedReads$Disk;I)V" } : Jvm.MethodName) prog_4_method_4_code (6 : Nat) (Option.none : Option Jvm.ClassFile.FieldType)) ∈ tb := tb_of (List.mem_append_right _ (List.mem_of_getElem? (i := 361) (by decide +kernel))) (by decide +kernel)
theorem tw_362 : (Jvm.Cond.methodLink "BinnedReads$Finding" (27 : Nat) ({ cls := "BinnedReads$Disk", name := "streamByte", desc := "(I)I" } : Jvm.MethodName)) ∈ tb := tb_of (List.mem_append_right _ (List.mem_of_getElem? (i := 362) (by decide +kernel))) (by decide +kernel)
theorem tw_363 : (Jvm.Cond.instanceMethod ({ cls := "BinnedReads$Disk", name := "streamByte", desc := "(I)I" } : Jvm.MethodName)) ∈ tb := tb_of (List.mem_append_right _ (List.mem_of_getElem? (i := 363) (by decide +kernel))) (by decide +kernel)
theorem tw_364 : (Jvm.Cond.selects "BinnedReads$Disk" ({ cls := "BinnedReads$Disk", name := "streamByte", desc := "(I)I" } : Jvm.MethodName) ({ cls := "BinnedReads$Disk", name := "streamByte", desc := "(I)I" } : Jvm.MethodName)) ∈ tb := tb_of (List.mem_append_right _ (List.mem_of_getElem? (i := 364) (by decide +kernel))) (by decide +kernel)
theorem tw_365 : (Jvm.Cond.code ({ cls := "BinnedReads$Disk", name := "streamByte", desc := "(I)I" } : Jvm.MethodName) prog_2_method_8_code (3 : Nat) (Option.some Jvm.ClassFile.FieldType.int)) ∈ tb := tb_of (List.mem_append_right _ (List.mem_of_getElem? (i := 365) (by decide +kernel))) (by decide +kernel)
theorem tw_366 : (Jvm.Cond.methodLink "BinnedReads$Disk" (51 : Nat) ({ cls := "java/lang/Math", name := "max", desc := "(II)I" } : Jvm.MethodName)) ∈ tb := tb_of (List.mem_append_right _ (List.mem_of_getElem? (i := 366) (by decide +kernel))) (by decide +kernel)
theorem tw_367 : (Jvm.Cond.methodLink "BinnedReads$Finding" (33 : Nat) ({ cls := "java/lang/Math", name := "min", desc := "(II)I" } : Jvm.MethodName)) ∈ tb := tb_of (List.mem_append_right _ (List.mem_of_getElem? (i := 367) (by decide +kernel))) (by decide +kernel)
theorem tw_368 : (Jvm.Cond.methodLink "BinnedReads$Finding" (39 : Nat) ({ cls := "BinnedReads$Disk", name := "offsetOf", desc := "(I)I" } : Jvm.MethodName)) ∈ tb := tb_of (List.mem_append_right _ (List.mem_of_getElem? (i := 368) (by decide +kernel))) (by decide +kernel)
theorem tw_369 : (Jvm.Cond.instanceMethod ({ cls := "BinnedReads$Disk", name := "offsetOf", desc := "(I)I" } : Jvm.MethodName)) ∈ tb := tb_of (List.mem_append_right _ (List.mem_of_getElem? (i := 369) (by decide +kernel))) (by decide +kernel)
theorem tw_370 : (Jvm.Cond.selects "BinnedReads$Disk" ({ cls := "BinnedReads$Disk", name := "offsetOf", desc := "(I)I" } : Jvm.MethodName) ({ cls := "BinnedReads$Disk", name := "offsetOf", desc := "(I)I" } : Jvm.MethodName)) ∈ tb := tb_of (List.mem_append_right _ (List.mem_of_getElem? (i := 370) (by decide +kernel))) (by decide +kernel)
theorem tw_371 : (Jvm.Cond.code ({ cls := "BinnedReads$Disk", name := "offsetOf", desc := "(I)I" } : Jvm.MethodName) prog_2_method_9_code (3 : Nat) (Option.some Jvm.ClassFile.FieldType.int)) ∈ tb := tb_of (List.mem_append_right _ (List.mem_of_getElem? (i := 371) (by decide +kernel))) (by decide +kernel)
theorem tw_372 : (Jvm.Cond.methodLink "BinnedReadsLaw" (59 : Nat) ({ cls := "BinnedReads", name := "looked", desc := "()I" } : Jvm.MethodName)) ∈ tb := tb_of (List.mem_append_right _ (List.mem_of_getElem? (i := 372) (by decide +kernel))) (by decide +kernel)
theorem tw_373 : (Jvm.Cond.instanceMethod ({ cls := "BinnedReads", name := "looked", desc := "()I" } : Jvm.MethodName)) ∈ tb := tb_of (List.mem_append_right _ (List.mem_of_getElem? (i := 373) (by decide +kernel))) (by decide +kernel)
theorem tw_374 : (Jvm.Cond.selects "BinnedReads" ({ cls := "BinnedReads", name := "looked", desc := "()I" } : Jvm.MethodName) ({ cls := "BinnedReads", name := "looked", desc := "()I" } : Jvm.MethodName)) ∈ tb := tb_of (List.mem_append_right _ (List.mem_of_getElem? (i := 374) (by decide +kernel))) (by decide +kernel)
theorem tw_375 : (Jvm.Cond.code ({ cls := "BinnedReads", name := "looked", desc := "()I" } : Jvm.MethodName) prog_1_method_12_code (1 : Nat) (Option.some Jvm.ClassFile.FieldType.int)) ∈ tb := tb_of (List.mem_append_right _ (List.mem_of_getElem? (i := 375) (by decide +kernel))) (by decide +kernel)
theorem tw_376 : (Jvm.Cond.methodLink "BinnedReadsLaw" (63 : Nat) ({ cls := "BinnedReads", name := "found", desc := "(II)I" } : Jvm.MethodName)) ∈ tb := tb_of (List.mem_append_right _ (List.mem_of_getElem? (i := 376) (by decide +kernel))) (by decide +kernel)
theorem tw_377 : (Jvm.Cond.instanceMethod ({ cls := "BinnedReads", name := "found", desc := "(II)I" } : Jvm.MethodName)) ∈ tb := tb_of (List.mem_append_right _ (List.mem_of_getElem? (i := 377) (by decide +kernel))) (by decide +kernel)
theorem tw_378 : (Jvm.Cond.selects "BinnedReads" ({ cls := "BinnedReads", name := "found", desc := "(II)I" } : Jvm.MethodName) ({ cls := "BinnedReads", name := "found", desc := "(II)I" } : Jvm.MethodName)) ∈ tb := tb_of (List.mem_append_right _ (List.mem_of_getElem? (i := 378) (by decide +kernel))) (by decide +kernel)
theorem tw_379 : (Jvm.Cond.code ({ cls := "BinnedReads", name := "found", desc := "(II)I" } : Jvm.MethodName) prog_1_method_13_code (3 : Nat) (Option.some Jvm.ClassFile.FieldType.int)) ∈ tb := tb_of (List.mem_append_right _ (List.mem_of_getElem? (i := 379) (by decide +kernel))) (by decide +kernel)
theorem tw_380 : (Jvm.Cond.methodLink "BinnedReads" (149 : Nat) ({ cls := "BinnedReads$Finding", name := "has", desc := "(I)Z" } : Jvm.MethodName)) ∈ tb := tb_of (List.mem_append_right _ (List.mem_of_getElem? (i := 380) (by decide +kernel))) (by decide +kernel)
theorem tw_381 : (Jvm.Cond.instanceMethod ({ cls := "BinnedReads$Finding", name := "has", desc := "(I)Z" } : Jvm.MethodName)) ∈ tb := tb_of (List.mem_append_right _ (List.mem_of_getElem? (i := 381) (by decide +kernel))) (by decide +kernel)
theorem tw_382 : (Jvm.Cond.selects "BinnedReads$Finding" ({ cls := "BinnedReads$Finding", name := "has", desc := "(I)Z" } : Jvm.MethodName) ({ cls := "BinnedReads$Finding", name := "has", desc := "(I)Z" } : Jvm.MethodName)) ∈ tb := tb_of (List.mem_append_right _ (List.mem_of_getElem? (i := 382) (by decide +kernel))) (by decide +kernel)
theorem tw_383 : (Jvm.Cond.code ({ cls := "BinnedReads$Finding", name := "has", desc := "(I)Z" } : Jvm.MethodName) prog_4_method_3_code (2 : Nat) (Option.some Jvm.ClassFile.FieldType.boolean)) ∈ tb := tb_of (List.mem_append_right _ (List.mem_of_getElem? (i := 383) (by decide +kernel))) (by decide +kernel)
theorem tw_384 : (Jvm.Cond.methodLink "BinnedReads" (155 : Nat) ({ cls := "BinnedReads$Finding", name := "position", desc := "(I)I" } : Jvm.MethodName)) ∈ tb := tb_of (List.mem_append_right _ (List.mem_of_getElem? (i := 384) (by decide +kernel))) (by decide +kernel)
theorem tw_385 : (Jvm.Cond.instanceMethod ({ cls := "BinnedReads$Finding", name := "position", desc := "(I)I" } : Jvm.MethodName)) ∈ tb := tb_of (List.mem_append_right _ (List.mem_of_getElem? (i := 385) (by decide +kernel))) (by decide +kernel)
theorem tw_386 : (Jvm.Cond.selects "BinnedReads$Finding" ({ cls := "BinnedReads$Finding", name := "position", desc := "(I)I" } : Jvm.MethodName) ({ cls := "BinnedReads$Finding", name := "position", desc := "(I)I" } : Jvm.MethodName)) ∈ tb := tb_of (List.mem_append_right _ (List.mem_of_getElem? (i := 386) (by decide +kernel))) (by decide +kernel)
theorem tw_387 : (Jvm.Cond.code ({ cls := "BinnedReads$Finding", name := "position", desc := "(I)I" } : Jvm.MethodName) prog_4_method_5_code (2 : Nat) (Option.some Jvm.ClassFile.FieldType.int)) ∈ tb := tb_of (List.mem_append_right _ (List.mem_of_getElem? (i := 387) (by decide +kernel))) (by decide +kernel)
theorem tw_388 : (Jvm.Cond.methodLink "BinnedReads" (162 : Nat) ({ cls := "BinnedReads$Finding", name := "end", desc := "(I)I" } : Jvm.MethodName)) ∈ tb := tb_of (List.mem_append_right _ (List.mem_of_getElem? (i := 388) (by decide +kernel))) (by decide +kernel)
theorem tw_389 : (Jvm.Cond.instanceMethod ({ cls := "BinnedReads$Finding", name := "end", desc := "(I)I" } : Jvm.MethodName)) ∈ tb := tb_of (List.mem_append_right _ (List.mem_of_getElem? (i := 389) (by decide +kernel))) (by decide +kernel)
theorem tw_390 : (Jvm.Cond.selects "BinnedReads$Finding" ({ cls := "BinnedReads$Finding", name := "end", desc := "(I)I" } : Jvm.MethodName) ({ cls := "BinnedReads$Finding", name := "end", desc := "(I)I" } : Jvm.MethodName)) ∈ tb := tb_of (List.mem_append_right _ (List.mem_of_getElem? (i := 390) (by decide +kernel))) (by decide +kernel)
theorem tw_391 : (Jvm.Cond.code ({ cls := "BinnedReads$Finding", name := "end", desc := "(I)I" } : Jvm.MethodName) prog_4_method_6_code (2 : Nat) (Option.some Jvm.ClassFile.FieldType.int)) ∈ tb := tb_of (List.mem_append_right _ (List.mem_of_getElem? (i := 391) (by decide +kernel))) (by decide +kernel)
theorem tw_392 : (Jvm.Cond.methodLink "BinnedReads$Finding" (42 : Nat) ({ cls := "BinnedReads$Finding", name := "position", desc := "(I)I" } : Jvm.MethodName)) ∈ tb := tb_of (List.mem_append_right _ (List.mem_of_getElem? (i := 392) (by decide +kernel))) (by decide +kernel)
theorem tw_393 : (Jvm.Cond.methodLink "BinnedReads$Finding" (45 : Nat) ({ cls := "BinnedReads$Finding", name := "opCount", desc := "(I)I" } : Jvm.MethodName)) ∈ tb := tb_of (List.mem_append_right _ (List.mem_of_getElem? (i := 393) (by decide +kernel))) (by decide +kernel)
theorem tw_394 : (Jvm.Cond.instanceMethod ({ cls := "BinnedReads$Finding", name := "opCount", desc := "(I)I" } : Jvm.MethodName)) ∈ tb := tb_of (List.mem_append_right _ (List.mem_of_getElem? (i := 394) (by decide +kernel))) (by decide +kernel)
theorem tw_395 : (Jvm.Cond.selects "BinnedReads$Finding" ({ cls := "BinnedReads$Finding", name := "opCount", desc := "(I)I" } : Jvm.MethodName) ({ cls := "BinnedReads$Finding", name := "opCount", desc := "(I)I" } : Jvm.MethodName)) ∈ tb := tb_of (List.mem_append_right _ (List.mem_of_getElem? (i := 395) (by decide +kernel))) (by decide +kernel)
theorem tw_396 : (Jvm.Cond.code ({ cls := "BinnedReads$Finding", name := "opCount", desc := "(I)I" } : Jvm.MethodName) prog_4_method_7_code (2 : Nat) (Option.some Jvm.ClassFile.FieldType.int)) ∈ tb := tb_of (List.mem_append_right _ (List.mem_of_getElem? (i := 396) (by decide +kernel))) (by decide +kernel)
theorem tw_397 : (Jvm.Cond.methodLinkNest "BinnedReads$Finding" (48 : Nat) ({ cls := "BinnedReads", name := "spanOf", desc := "([III)I" } : Jvm.MethodName) "BinnedReads") ∈ lw_tbl := List.mem_append_right _ (List.mem_of_getElem? (i := 397) (by decide +kernel))
theorem tw_398 : (Jvm.Cond.methodLink "BinnedReads" (165 : Nat) ({ cls := "BinnedReads$Finding", name := "opCount", desc := "(I)I" } : Jvm.MethodName)) ∈ tb := tb_of (List.mem_append_right _ (List.mem_of_getElem? (i := 398) (by decide +kernel))) (by decide +kernel)
theorem tw_399 : (Jvm.Cond.methodLink "BinnedReads" (168 : Nat) ({ cls := "BinnedReads$Finding", name := "baseCount", desc := "(I)I" } : Jvm.MethodName)) ∈ tb := tb_of (List.mem_append_right _ (List.mem_of_getElem? (i := 399) (by decide +kernel))) (by decide +kernel)
theorem tw_400 : (Jvm.Cond.instanceMethod ({ cls := "BinnedReads$Finding", name := "baseCount", desc := "(I)I" } : Jvm.MethodName)) ∈ tb := tb_of (List.mem_append_right _ (List.mem_of_getElem? (i := 400) (by decide +kernel))) (by decide +kernel)
theorem tw_401 : (Jvm.Cond.selects "BinnedReads$Finding" ({ cls := "BinnedReads$Finding", name := "baseCount", desc := "(I)I" } : Jvm.MethodName) ({ cls := "BinnedReads$Finding", name := "baseCount", desc := "(I)I" } : Jvm.MethodName)) ∈ tb := tb_of (List.mem_append_right _ (List.mem_of_getElem? (i := 401) (by decide +kernel))) (by decide +kernel)
theorem tw_402 : (Jvm.Cond.code ({ cls := "BinnedReads$Finding", name := "baseCount", desc := "(I)I" } : Jvm.MethodName) prog_4_method_8_code (2 : Nat) (Option.some Jvm.ClassFile.FieldType.int)) ∈ tb := tb_of (List.mem_append_right _ (List.mem_of_getElem? (i := 402) (by decide +kernel))) (by decide +kernel)
theorem tw_403 : (Jvm.Cond.methodLink "BinnedReadsLaw" (67 : Nat) ({ cls := "BinnedReads", name := "foundOp", desc := "(II)I" } : Jvm.MethodName)) ∈ tb := tb_of (List.mem_append_right _ (List.mem_of_getElem? (i := 403) (by decide +kernel))) (by decide +kernel)
theorem tw_404 : (Jvm.Cond.instanceMethod ({ cls := "BinnedReads", name := "foundOp", desc := "(II)I" } : Jvm.MethodName)) ∈ tb := tb_of (List.mem_append_right _ (List.mem_of_getElem? (i := 404) (by decide +kernel))) (by decide +kernel)
theorem tw_405 : (Jvm.Cond.selects "BinnedReads" ({ cls := "BinnedReads", name := "foundOp", desc := "(II)I" } : Jvm.MethodName) ({ cls := "BinnedReads", name := "foundOp", desc := "(II)I" } : Jvm.MethodName)) ∈ tb := tb_of (List.mem_append_right _ (List.mem_of_getElem? (i := 405) (by decide +kernel))) (by decide +kernel)
theorem tw_406 : (Jvm.Cond.code ({ cls := "BinnedReads", name := "foundOp", desc := "(II)I" } : Jvm.MethodName) prog_1_method_14_code (3 : Nat) (Option.some Jvm.ClassFile.FieldType.int)) ∈ tb := tb_of (List.mem_append_right _ (List.mem_of_getElem? (i := 406) (by decide +kernel))) (by decide +kernel)
theorem tw_407 : (Jvm.Cond.methodLink "BinnedReadsLaw" (71 : Nat) ({ cls := "BinnedReads", name := "foundBase", desc := "(II)I" } : Jvm.MethodName)) ∈ tb := tb_of (List.mem_append_right _ (List.mem_of_getElem? (i := 407) (by decide +kernel))) (by decide +kernel)
theorem tw_408 : (Jvm.Cond.instanceMethod ({ cls := "BinnedReads", name := "foundBase", desc := "(II)I" } : Jvm.MethodName)) ∈ tb := tb_of (List.mem_append_right _ (List.mem_of_getElem? (i := 408) (by decide +kernel))) (by decide +kernel)
theorem tw_409 : (Jvm.Cond.selects "BinnedReads" ({ cls := "BinnedReads", name := "foundBase", desc := "(II)I" } : Jvm.MethodName) ({ cls := "BinnedReads", name := "foundBase", desc := "(II)I" } : Jvm.MethodName)) ∈ tb := tb_of (List.mem_append_right _ (List.mem_of_getElem? (i := 409) (by decide +kernel))) (by decide +kernel)
theorem tw_410 : (Jvm.Cond.code ({ cls := "BinnedReads", name := "foundBase", desc := "(II)I" } : Jvm.MethodName) prog_1_method_15_code (4 : Nat) (Option.some Jvm.ClassFile.FieldType.int)) ∈ tb := tb_of (List.mem_append_right _ (List.mem_of_getElem? (i := 410) (by decide +kernel))) (by decide +kernel)
theorem tw_411 : (Jvm.Cond.classLink "BinnedReadsLaw" (10 : Nat) "BinnedReadsModel") ∈ tb := tb_of (List.mem_append_right _ (List.mem_of_getElem? (i := 411) (by decide +kernel))) (by decide +kernel)
theorem tw_412 : (Jvm.Cond.instantiable "BinnedReadsModel" (23 : Nat)) ∈ tb := tb_of (List.mem_append_right _ (List.mem_of_getElem? (i := 412) (by decide +kernel))) (by decide +kernel)
theorem tw_413 : (Jvm.Cond.methodLink "BinnedReadsLaw" (12 : Nat) ({ cls := "BinnedReadsModel", name := "<init>", desc := "()V" } : Jvm.MethodName)) ∈ tb := tb_of (List.mem_append_right _ (List.mem_of_getElem? (i := 413) (by decide +kernel))) (by decide +kernel)
theorem tw_414 : (Jvm.Cond.instanceMethod ({ cls := "BinnedReadsModel", name := "<init>", desc := "()V" } : Jvm.MethodName)) ∈ tb := tb_of (List.mem_append_right _ (List.mem_of_getElem? (i := 414) (by decide +kernel))) (by decide +kernel)
theorem tw_415 : (Jvm.Cond.code ({ cls := "BinnedReadsModel", name := "<init>", desc := "()V" } : Jvm.MethodName) prog_8_method_1_code (1 : Nat) (Option.none : Option Jvm.ClassFile.FieldType)) ∈ tb := tb_of (List.mem_append_right _ (List.mem_of_getElem? (i := 415) (by decide +kernel))) (by decide +kernel)
theorem tw_416 : (Jvm.Cond.methodLink "BinnedReadsModel" (1 : Nat) ({ cls := "java/lang/Object", name := "<init>", desc := "()V" } : Jvm.MethodName)) ∈ tb := tb_of (List.mem_append_right _ (List.mem_of_getElem? (i := 416) (by decide +kernel))) (by decide +kernel)
theorem tw_417 : (Jvm.Cond.fieldLink "BinnedReadsModel" (60 : Nat) "BinnedReadsModel" "ops" "I") ∈ tb := tb_of (List.mem_append_right _ (List.mem_of_getElem? (i := 417) (by decide +kernel))) (by decide +kernel)
theorem tw_418 : (Jvm.Cond.fieldLink "BinnedReadsModel" (7 : Nat) "BinnedReadsModel" "kinds" "[I") ∈ tb := tb_of (List.mem_append_right _ (List.mem_of_getElem? (i := 418) (by decide +kernel))) (by decide +kernel)
theorem tw_419 : (Jvm.Cond.fieldLink "BinnedReadsModel" (13 : Nat) "BinnedReadsModel" "lengths" "[I") ∈ tb := tb_of (List.mem_append_right _ (List.mem_of_getElem? (i := 419) (by decide +kernel))) (by decide +kernel)
theorem tw_420 : (Jvm.Cond.fieldLink "BinnedReadsModel" (63 : Nat) "BinnedReadsModel" "bases" "I") ∈ tb := tb_of (List.mem_append_right _ (List.mem_of_getElem? (i := 420) (by decide +kernel))) (by decide +kernel)
theorem tw_421 : (Jvm.Cond.fieldLink "BinnedReadsModel" (16 : Nat) "BinnedReadsModel" "codes" "[I") ∈ tb := tb_of (List.mem_append_right _ (List.mem_of_getElem? (i := 421) (by decide +kernel))) (by decide +kernel)
theorem tw_422 : (Jvm.Cond.fieldLink "BinnedReadsModel" (70 : Nat) "BinnedReadsModel" "reads" "I") ∈ tb := tb_of (List.mem_append_right _ (List.mem_of_getElem? (i := 422) (by decide +kernel))) (by decide +kernel)
theorem tw_423 : (Jvm.Cond.fieldLink "BinnedReadsModel" (19 : Nat) "BinnedReadsModel" "reference" "[I") ∈ tb := tb_of (List.mem_append_right _ (List.mem_of_getElem? (i := 423) (by decide +kernel))) (by decide +kernel)
theorem tw_424 : (Jvm.Cond.fieldLink "BinnedReadsModel" (22 : Nat) "BinnedReadsModel" "position" "[I") ∈ tb := tb_of (List.mem_append_right _ (List.mem_of_getElem? (i := 424) (by decide +kernel))) (by decide +kernel)
theorem tw_425 : (Jvm.Cond.fieldLink "BinnedReadsModel" (25 : Nat) "BinnedReadsModel" "ends" "[I") ∈ tb := tb_of (List.mem_append_right _ (List.mem_of_getElem? (i := 425) (by decide +kernel))) (by decide +kernel)
theorem tw_426 : (Jvm.Cond.fieldLink "BinnedReadsModel" (28 : Nat) "BinnedReadsModel" "opCount" "[I") ∈ tb := tb_of (List.mem_append_right _ (List.mem_of_getElem? (i := 426) (by decide +kernel))) (by decide +kernel)
theorem tw_427 : (Jvm.Cond.fieldLink "BinnedReadsModel" (31 : Nat) "BinnedReadsModel" "opBytes" "[I") ∈ tb := tb_of (List.mem_append_right _ (List.mem_of_getElem? (i := 427) (by decide +kernel))) (by decide +kernel)
theorem tw_428 : (Jvm.Cond.fieldLink "BinnedReadsModel" (34 : Nat) "BinnedReadsModel" "baseCount" "[I") ∈ tb := tb_of (List.mem_append_right _ (List.mem_of_getElem? (i := 428) (by decide +kernel))) (by decide +kernel)
theorem tw_429 : (Jvm.Cond.fieldLink "BinnedReadsModel" (37 : Nat) "BinnedReadsModel" "baseCodes" "[I") ∈ tb := tb_of (List.mem_append_right _ (List.mem_of_getElem? (i := 429) (by decide +kernel))) (by decide +kernel)
theorem tw_430 : (Jvm.Cond.fieldLink "BinnedReadsModel" (40 : Nat) "BinnedReadsModel" "begins" "[I") ∈ tb := tb_of (List.mem_append_right _ (List.mem_of_getElem? (i := 430) (by decide +kernel))) (by decide +kernel)
theorem tw_431 : (Jvm.Cond.fieldLink "BinnedReadsModel" (66 : Nat) "BinnedReadsModel" "written" "Z") ∈ tb := tb_of (List.mem_append_right _ (List.mem_of_getElem? (i := 431) (by decide +kernel))) (by decide +kernel)
theorem tw_432 : (Jvm.Cond.fieldLink "BinnedReadsModel" (43 : Nat) "BinnedReadsModel" "stream" "[I") ∈ tb := tb_of (List.mem_append_right _ (List.mem_of_getElem? (i := 432) (by decide +kernel))) (by decide +kernel)
theorem tw_433 : (Jvm.Cond.fieldLink "BinnedReadsModel" (80 : Nat) "BinnedReadsModel" "streamed" "I") ∈ tb := tb_of (List.mem_append_right _ (List.mem_of_getElem? (i := 433) (by decide +kernel))) (by decide +kernel)
theorem tw_434 : (Jvm.Cond.fieldLink "BinnedReadsModel" (46 : Nat) "BinnedReadsModel" "disk" "[I") ∈ tb := tb_of (List.mem_append_right _ (List.mem_of_getElem? (i := 434) (by decide +kernel))) (by decide +kernel)
theorem tw_435 : (Jvm.Cond.fieldLink "BinnedReadsModel" (91 : Nat) "BinnedReadsModel" "size" "I") ∈ tb := tb_of (List.mem_append_right _ (List.mem_of_getElem? (i := 435) (by decide +kernel))) (by decide +kernel)
theorem tw_436 : (Jvm.Cond.fieldLink "BinnedReadsModel" (49 : Nat) "BinnedReadsModel" "turned" "I") ∈ tb := tb_of (List.mem_append_right _ (List.mem_of_getElem? (i := 436) (by decide +kernel))) (by decide +kernel)
theorem tw_437 : (Jvm.Cond.fieldLink "BinnedReadsModel" (105 : Nat) "BinnedReadsModel" "finding" "I") ∈ tb := tb_of (List.mem_append_right _ (List.mem_of_getElem? (i := 437) (by decide +kernel))) (by decide +kernel)
theorem tw_438 : (Jvm.Cond.fieldLink "BinnedReadsModel" (108 : Nat) "BinnedReadsModel" "looks" "I") ∈ tb := tb_of (List.mem_append_right _ (List.mem_of_getElem? (i := 438) (by decide +kernel))) (by decide +kernel)
theorem tw_439 : (Jvm.Cond.fieldLink "BinnedReadsModel" (53 : Nat) "BinnedReadsModel" "finds" "[I") ∈ tb := tb_of (List.mem_append_right _ (List.mem_of_getElem? (i := 439) (by decide +kernel))) (by decide +kernel)
theorem tw_487 : (Jvm.Cond.methodLink "BinnedReadsLaw" (17 : Nat) ({ cls := "BinnedReadsModel", name := "op", desc := "(II)Z" } : Jvm.MethodName)) ∈ tb := tb_of (List.mem_append_right _ (List.mem_of_getElem? (i := 487) (by decide +kernel))) (by decide +kernel)
theorem tw_488 : (Jvm.Cond.instanceMethod ({ cls := "BinnedReadsModel", name := "op", desc := "(II)Z" } : Jvm.MethodName)) ∈ tb := tb_of (List.mem_append_right _ (List.mem_of_getElem? (i := 488) (by decide +kernel))) (by decide +kernel)
theorem tw_489 : (Jvm.Cond.selects "BinnedReadsModel" ({ cls := "BinnedReadsModel", name := "op", desc := "(II)Z" } : Jvm.MethodName) ({ cls := "BinnedReadsModel", name := "op", desc := "(II)Z" } : Jvm.MethodName)) ∈ tb := tb_of (List.mem_append_right _ (List.mem_of_getElem? (i := 489) (by decide +kernel))) (by decide +kernel)
theorem tw_490 : (Jvm.Cond.code ({ cls := "BinnedReadsModel", name := "op", desc := "(II)Z" } : Jvm.MethodName) prog_8_method_3_code (3 : Nat) (Option.some Jvm.ClassFile.FieldType.boolean)) ∈ tb := tb_of (List.mem_append_right _ (List.mem_of_getElem? (i := 490) (by decide +kernel))) (by decide +kernel)
theorem tw_491 : (Jvm.Cond.methodLink "BinnedReadsModel" (56 : Nat) ({ cls := "BinnedReadsModel", name := "within", desc := "(III)Z" } : Jvm.MethodName)) ∈ tb := tb_of (List.mem_append_right _ (List.mem_of_getElem? (i := 491) (by decide +kernel))) (by decide +kernel)
theorem tw_492 : (Jvm.Cond.static ({ cls := "BinnedReadsModel", name := "within", desc := "(III)Z" } : Jvm.MethodName)) ∈ tb := tb_of (List.mem_append_right _ (List.mem_of_getElem? (i := 492) (by decide +kernel))) (by decide +kernel)
theorem tw_493 : (Jvm.Cond.code ({ cls := "BinnedReadsModel", name := "within", desc := "(III)Z" } : Jvm.MethodName) prog_8_method_2_code (3 : Nat) (Option.some Jvm.ClassFile.FieldType.boolean)) ∈ tb := tb_of (List.mem_append_right _ (List.mem_of_getElem? (i := 493) (by decide +kernel))) (by decide +kernel)
theorem tw_494 : (Jvm.Cond.methodLink "BinnedReadsLaw" (22 : Nat) ({ cls := "BinnedReadsModel", name := "base", desc := "(I)Z" } : Jvm.MethodName)) ∈ tb := tb_of (List.mem_append_right _ (List.mem_of_getElem? (i := 494) (by decide +kernel))) (by decide +kernel)
theorem tw_495 : (Jvm.Cond.instanceMethod ({ cls := "BinnedReadsModel", name := "base", desc := "(I)Z" } : Jvm.MethodName)) ∈ tb := tb_of (List.mem_append_right _ (List.mem_of_getElem? (i := 495) (by decide +kernel))) (by decide +kernel)
theorem tw_496 : (Jvm.Cond.selects "BinnedReadsModel" ({ cls := "BinnedReadsModel", name := "base", desc := "(I)Z" } : Jvm.MethodName) ({ cls := "BinnedReadsModel", name := "base", desc := "(I)Z" } : Jvm.MethodName)) ∈ tb := tb_of (List.mem_append_right _ (List.mem_of_getElem? (i := 496) (by decide +kernel))) (by decide +kernel)
theorem tw_497 : (Jvm.Cond.code ({ cls := "BinnedReadsModel", name := "base", desc := "(I)Z" } : Jvm.MethodName) prog_8_method_4_code (2 : Nat) (Option.some Jvm.ClassFile.FieldType.boolean)) ∈ tb := tb_of (List.mem_append_right _ (List.mem_of_getElem? (i := 497) (by decide +kernel))) (by decide +kernel)
theorem tw_498 : (Jvm.Cond.methodLink "BinnedReadsLaw" (26 : Nat) ({ cls := "BinnedReadsModel", name := "scrap", desc := "()V" } : Jvm.MethodName)) ∈ tb := tb_of (List.mem_append_right _ (List.mem_of_getElem? (i := 498) (by decide +kernel))) (by decide +kernel)
theorem tw_499 : (Jvm.Cond.instanceMethod ({ cls := "BinnedReadsModel", name := "scrap", desc := "()V" } : Jvm.MethodName)) ∈ tb := tb_of (List.mem_append_right _ (List.mem_of_getElem? (i := 499) (by decide +kernel))) (by decide +kernel)
theorem tw_500 : (Jvm.Cond.selects "BinnedReadsModel" ({ cls := "BinnedReadsModel", name := "scrap", desc := "()V" } : Jvm.MethodName) ({ cls := "BinnedReadsModel", name := "scrap", desc := "()V" } : Jvm.MethodName)) ∈ tb := tb_of (List.mem_append_right _ (List.mem_of_getElem? (i := 500) (by decide +kernel))) (by decide +kernel)
theorem tw_501 : (Jvm.Cond.code ({ cls := "BinnedReadsModel", name := "scrap", desc := "()V" } : Jvm.MethodName) prog_8_method_5_code (1 : Nat) (Option.none : Option Jvm.ClassFile.FieldType)) ∈ tb := tb_of (List.mem_append_right _ (List.mem_of_getElem? (i := 501) (by decide +kernel))) (by decide +kernel)
theorem tw_502 : (Jvm.Cond.methodLink "BinnedReadsLaw" (31 : Nat) ({ cls := "BinnedReadsModel", name := "add", desc := "(II)I" } : Jvm.MethodName)) ∈ tb := tb_of (List.mem_append_right _ (List.mem_of_getElem? (i := 502) (by decide +kernel))) (by decide +kernel)
theorem tw_503 : (Jvm.Cond.instanceMethod ({ cls := "BinnedReadsModel", name := "add", desc := "(II)I" } : Jvm.MethodName)) ∈ tb := tb_of (List.mem_append_right _ (List.mem_of_getElem? (i := 503) (by decide +kernel))) (by decide +kernel)
theorem tw_504 : (Jvm.Cond.selects "BinnedReadsModel" ({ cls := "BinnedReadsModel", name := "add", desc := "(II)I" } : Jvm.MethodName) ({ cls := "BinnedReadsModel", name := "add", desc := "(II)I" } : Jvm.MethodName)) ∈ tb := tb_of (List.mem_append_right _ (List.mem_of_getElem? (i := 504) (by decide +kernel))) (by decide +kernel)
theorem tw_505 : (Jvm.Cond.code ({ cls := "BinnedReadsModel", name := "add", desc := "(II)I" } : Jvm.MethodName) prog_8_method_7_code (6 : Nat) (Option.some Jvm.ClassFile.FieldType.int)) ∈ tb := tb_of (List.mem_append_right _ (List.mem_of_getElem? (i := 505) (by decide +kernel))) (by decide +kernel)
theorem tw_506 : (Jvm.Cond.methodLink "BinnedReadsModel" (73 : Nat) ({ cls := "BinnedReadsModel", name := "sum", desc := "(III)I" } : Jvm.MethodName)) ∈ tb := tb_of (List.mem_append_right _ (List.mem_of_getElem? (i := 506) (by decide +kernel))) (by decide +kernel)
theorem tw_508 : (Jvm.Cond.instanceMethod ({ cls := "BinnedReadsModel", name := "sum", desc := "(III)I" } : Jvm.MethodName)) ∈ tb := tb_of (List.mem_append_right _ (List.mem_of_getElem? (i := 508) (by decide +kernel))) (by decide +kernel)
theorem tw_509 : (Jvm.Cond.code ({ cls := "BinnedReadsModel", name := "sum", desc := "(III)I" } : Jvm.MethodName) prog_8_method_6_code (6 : Nat) (Option.some Jvm.ClassFile.FieldType.int)) ∈ tb := tb_of (List.mem_append_right _ (List.mem_of_getElem? (i := 509) (by decide +kernel))) (by decide +kernel)
theorem tw_510 : (Jvm.Cond.methodLink "BinnedReadsModel" (77 : Nat) ({ cls := "BinnedReadsModel", name := "scrap", desc := "()V" } : Jvm.MethodName)) ∈ tb := tb_of (List.mem_append_right _ (List.mem_of_getElem? (i := 510) (by decide +kernel))) (by decide +kernel)
theorem tw_511 : (Jvm.Cond.methodLink "BinnedReadsLaw" (36 : Nat) ({ cls := "BinnedReadsModel", name := "finish", desc := "()I" } : Jvm.MethodName)) ∈ tb := tb_of (List.mem_append_right _ (List.mem_of_getElem? (i := 511) (by decide +kernel))) (by decide +kernel)
theorem tw_512 : (Jvm.Cond.instanceMethod ({ cls := "BinnedReadsModel", name := "finish", desc := "()I" } : Jvm.MethodName)) ∈ tb := tb_of (List.mem_append_right _ (List.mem_of_getElem? (i := 512) (by decide +kernel))) (by decide +kernel)
theorem tw_513 : (Jvm.Cond.selects "BinnedReadsModel" ({ cls := "BinnedReadsModel", name := "finish", desc := "()I" } : Jvm.MethodName) ({ cls := "BinnedReadsModel", name := "finish", desc := "()I" } : Jvm.MethodName)) ∈ tb := tb_of (List.mem_append_right _ (List.mem_of_getElem? (i := 513) (by decide +kernel))) (by decide +kernel)
theorem tw_514 : (Jvm.Cond.code ({ cls := "BinnedReadsModel", name := "finish", desc := "()I" } : Jvm.MethodName) prog_8_method_13_code (2 : Nat) (Option.some Jvm.ClassFile.FieldType.int)) ∈ tb := tb_of (List.mem_append_right _ (List.mem_of_getElem? (i := 514) (by decide +kernel))) (by decide +kernel)
theorem tw_515 : (Jvm.Cond.methodLink "BinnedReadsModel" (98 : Nat) ({ cls := "BinnedReadsModel", name := "putRead", desc := "(I)V" } : Jvm.MethodName)) ∈ tb := tb_of (List.mem_append_right _ (List.mem_of_getElem? (i := 515) (by decide +kernel))) (by decide +kernel)
theorem tw_517 : (Jvm.Cond.instanceMethod ({ cls := "BinnedReadsModel", name := "putRead", desc := "(I)V" } : Jvm.MethodName)) ∈ tb := tb_of (List.mem_append_right _ (List.mem_of_getElem? (i := 517) (by decide +kernel))) (by decide +kernel)
theorem tw_518 : (Jvm.Cond.code ({ cls := "BinnedReadsModel", name := "putRead", desc := "(I)V" } : Jvm.MethodName) prog_8_method_10_code (5 : Nat) (Option.none : Option Jvm.ClassFile.FieldType)) ∈ tb := tb_of (List.mem_append_right _ (List.mem_of_getElem? (i := 518) (by decide +kernel))) (by decide +kernel)
theorem tw_519 : (Jvm.Cond.methodLink "BinnedReadsModel" (83 : Nat) ({ cls := "BinnedReadsModel", name := "put", desc := "(I)V" } : Jvm.MethodName)) ∈ tb := tb_of (List.mem_append_right _ (List.mem_of_getElem? (i := 519) (by decide +kernel))) (by decide +kernel)
theorem tw_521 : (Jvm.Cond.instanceMethod ({ cls := "BinnedReadsModel", name := "put", desc := "(I)V" } : Jvm.MethodName)) ∈ tb := tb_of (List.mem_append_right _ (List.mem_of_getElem? (i := 521) (by decide +kernel))) (by decide +kernel)
theorem tw_522 : (Jvm.Cond.code ({ cls := "BinnedReadsModel", name := "put", desc := "(I)V" } : Jvm.MethodName) prog_8_method_9_code (2 : Nat) (Option.none : Option Jvm.ClassFile.FieldType)) ∈ tb := tb_of (List.mem_append_right _ (List.mem_of_getElem? (i := 522) (by decide +kernel))) (by decide +kernel)
theorem tw_523 : (Jvm.Cond.methodLink "BinnedReadsModel" (87 : Nat) ({ cls := "BinnedReadsModel", name := "binOf", desc := "(I)I" } : Jvm.MethodName)) ∈ tb := tb_of (List.mem_append_right _ (List.mem_of_getElem? (i := 523) (by decide +kernel))) (by decide +kernel)
theorem tw_525 : (Jvm.Cond.instanceMethod ({ cls := "BinnedReadsModel", name := "binOf", desc := "(I)I" } : Jvm.MethodName)) ∈ tb := tb_of (List.mem_append_right _ (List.mem_of_getElem? (i := 525) (by decide +kernel))) (by decide +kernel)
theorem tw_526 : (Jvm.Cond.code ({ cls := "BinnedReadsModel", name := "binOf", desc := "(I)I" } : Jvm.MethodName) prog_8_method_8_code (4 : Nat) (Option.some Jvm.ClassFile.FieldType.int)) ∈ tb := tb_of (List.mem_append_right _ (List.mem_of_getElem? (i := 526) (by decide +kernel))) (by decide +kernel)
theorem tw_527 : (Jvm.Cond.methodLink "BinnedReadsModel" (101 : Nat) ({ cls := "BinnedReadsModel", name := "storeBlock", desc := "(II)V" } : Jvm.MethodName)) ∈ tb := tb_of (List.mem_append_right _ (List.mem_of_getElem? (i := 527) (by decide +kernel))) (by decide +kernel)
theorem tw_529 : (Jvm.Cond.instanceMethod ({ cls := "BinnedReadsModel", name := "storeBlock", desc := "(II)V" } : Jvm.MethodName)) ∈ tb := tb_of (List.mem_append_right _ (List.mem_of_getElem? (i := 529) (by decide +kernel))) (by decide +kernel)
theorem tw_530 : (Jvm.Cond.code ({ cls := "BinnedReadsModel", name := "storeBlock", desc := "(II)V" } : Jvm.MethodName) prog_8_method_12_code (7 : Nat) (Option.none : Option Jvm.ClassFile.FieldType)) ∈ tb := tb_of (List.mem_append_right _ (List.mem_of_getElem? (i := 530) (by decide +kernel))) (by decide +kernel)
theorem tw_531 : (Jvm.Cond.methodLink "BinnedReadsModel" (94 : Nat) ({ cls := "BinnedReadsModel", name := "store", desc := "(I)V" } : Jvm.MethodName)) ∈ tb := tb_of (List.mem_append_right _ (List.mem_of_getElem? (i := 531) (by decide +kernel))) (by decide +kernel)
theorem tw_533 : (Jvm.Cond.instanceMethod ({ cls := "BinnedReadsModel", name := "store", desc := "(I)V" } : Jvm.MethodName)) ∈ tb := tb_of (List.mem_append_right _ (List.mem_of_getElem? (i := 533) (by decide +kernel))) (by decide +kernel)
theorem tw_534 : (Jvm.Cond.code ({ cls := "BinnedReadsModel", name := "store", desc := "(I)V" } : Jvm.MethodName) prog_8_method_11_code (2 : Nat) (Option.none : Option Jvm.ClassFile.FieldType)) ∈ tb := tb_of (List.mem_append_right _ (List.mem_of_getElem? (i := 534) (by decide +kernel))) (by decide +kernel)
theorem tw_535 : (Jvm.Cond.constant "BinnedReadsModel" (97 : Nat) (-306674912 : Int32)) ∈ tb := tb_of (List.mem_append_right _ (List.mem_of_getElem? (i := 535) (by decide +kernel))) (by decide +kernel)
theorem tw_536 : (Jvm.Cond.methodLink "BinnedReadsLaw" (40 : Nat) ({ cls := "BinnedReadsModel", name := "clear", desc := "()V" } : Jvm.MethodName)) ∈ tb := tb_of (List.mem_append_right _ (List.mem_of_getElem? (i := 536) (by decide +kernel))) (by decide +kernel)
theorem tw_537 : (Jvm.Cond.instanceMethod ({ cls := "BinnedReadsModel", name := "clear", desc := "()V" } : Jvm.MethodName)) ∈ tb := tb_of (List.mem_append_right _ (List.mem_of_getElem? (i := 537) (by decide +kernel))) (by decide +kernel)
theorem tw_538 : (Jvm.Cond.selects "BinnedReadsModel" ({ cls := "BinnedReadsModel", name := "clear", desc := "()V" } : Jvm.MethodName) ({ cls := "BinnedReadsModel", name := "clear", desc := "()V" } : Jvm.MethodName)) ∈ tb := tb_of (List.mem_append_right _ (List.mem_of_getElem? (i := 538) (by decide +kernel))) (by decide +kernel)
theorem tw_539 : (Jvm.Cond.code ({ cls := "BinnedReadsModel", name := "clear", desc := "()V" } : Jvm.MethodName) prog_8_method_14_code (1 : Nat) (Option.none : Option Jvm.ClassFile.FieldType)) ∈ tb := tb_of (List.mem_append_right _ (List.mem_of_getElem? (i := 539) (by decide +kernel))) (by decide +kernel)
theorem tw_540 : (Jvm.Cond.methodLink "BinnedReadsLaw" (44 : Nat) ({ cls := "BinnedReadsModel", name := "turn", desc := "(II)Z" } : Jvm.MethodName)) ∈ tb := tb_of (List.mem_append_right _ (List.mem_of_getElem? (i := 540) (by decide +kernel))) (by decide +kernel)
theorem tw_541 : (Jvm.Cond.instanceMethod ({ cls := "BinnedReadsModel", name := "turn", desc := "(II)Z" } : Jvm.MethodName)) ∈ tb := tb_of (List.mem_append_right _ (List.mem_of_getElem? (i := 541) (by decide +kernel))) (by decide +kernel)
theorem tw_542 : (Jvm.Cond.selects "BinnedReadsModel" ({ cls := "BinnedReadsModel", name := "turn", desc := "(II)Z" } : Jvm.MethodName) ({ cls := "BinnedReadsModel", name := "turn", desc := "(II)Z" } : Jvm.MethodName)) ∈ tb := tb_of (List.mem_append_right _ (List.mem_of_getElem? (i := 542) (by decide +kernel))) (by decide +kernel)
theorem tw_543 : (Jvm.Cond.code ({ cls := "BinnedReadsModel", name := "turn", desc := "(II)Z" } : Jvm.MethodName) prog_8_method_15_code (3 : Nat) (Option.some Jvm.ClassFile.FieldType.boolean)) ∈ tb := tb_of (List.mem_append_right _ (List.mem_of_getElem? (i := 543) (by decide +kernel))) (by decide +kernel)
theorem tw_544 : (Jvm.Cond.methodLink "BinnedReadsLaw" (49 : Nat) ({ cls := "BinnedReadsModel", name := "byteAt", desc := "(I)I" } : Jvm.MethodName)) ∈ tb := tb_of (List.mem_append_right _ (List.mem_of_getElem? (i := 544) (by decide +kernel))) (by decide +kernel)
theorem tw_545 : (Jvm.Cond.instanceMethod ({ cls := "BinnedReadsModel", name := "byteAt", desc := "(I)I" } : Jvm.MethodName)) ∈ tb := tb_of (List.mem_append_right _ (List.mem_of_getElem? (i := 545) (by decide +kernel))) (by decide +kernel)
theorem tw_546 : (Jvm.Cond.selects "BinnedReadsModel" ({ cls := "BinnedReadsModel", name := "byteAt", desc := "(I)I" } : Jvm.MethodName) ({ cls := "BinnedReadsModel", name := "byteAt", desc := "(I)I" } : Jvm.MethodName)) ∈ tb := tb_of (List.mem_append_right _ (List.mem_of_getElem? (i := 546) (by decide +kernel))) (by decide +kernel)
theorem tw_547 : (Jvm.Cond.code ({ cls := "BinnedReadsModel", name := "byteAt", desc := "(I)I" } : Jvm.MethodName) prog_8_method_16_code (2 : Nat) (Option.some Jvm.ClassFile.FieldType.int)) ∈ tb := tb_of (List.mem_append_right _ (List.mem_of_getElem? (i := 547) (by decide +kernel))) (by decide +kernel)
theorem tw_548 : (Jvm.Cond.methodLink "BinnedReadsLaw" (53 : Nat) ({ cls := "BinnedReadsModel", name := "check", desc := "()I" } : Jvm.MethodName)) ∈ tb := tb_of (List.mem_append_right _ (List.mem_of_getElem? (i := 548) (by decide +kernel))) (by decide +kernel)
theorem tw_549 : (Jvm.Cond.instanceMethod ({ cls := "BinnedReadsModel", name := "check", desc := "()I" } : Jvm.MethodName)) ∈ tb := tb_of (List.mem_append_right _ (List.mem_of_getElem? (i := 549) (by decide +kernel))) (by decide +kernel)
theorem tw_550 : (Jvm.Cond.selects "BinnedReadsModel" ({ cls := "BinnedReadsModel", name := "check", desc := "()I" } : Jvm.MethodName) ({ cls := "BinnedReadsModel", name := "check", desc := "()I" } : Jvm.MethodName)) ∈ tb := tb_of (List.mem_append_right _ (List.mem_of_getElem? (i := 550) (by decide +kernel))) (by decide +kernel)
theorem tw_551 : (Jvm.Cond.code ({ cls := "BinnedReadsModel", name := "check", desc := "()I" } : Jvm.MethodName) prog_8_method_17_code (1 : Nat) (Option.some Jvm.ClassFile.FieldType.int)) ∈ tb := tb_of (List.mem_append_right _ (List.mem_of_getElem? (i := 551) (by decide +kernel))) (by decide +kernel)
theorem tw_552 : (Jvm.Cond.methodLink "BinnedReadsLaw" (58 : Nat) ({ cls := "BinnedReadsModel", name := "query", desc := "(III)I" } : Jvm.MethodName)) ∈ tb := tb_of (List.mem_append_right _ (List.mem_of_getElem? (i := 552) (by decide +kernel))) (by decide +kernel)
theorem tw_553 : (Jvm.Cond.instanceMethod ({ cls := "BinnedReadsModel", name := "query", desc := "(III)I" } : Jvm.MethodName)) ∈ tb := tb_of (List.mem_append_right _ (List.mem_of_getElem? (i := 553) (by decide +kernel))) (by decide +kernel)
theorem tw_554 : (Jvm.Cond.selects "BinnedReadsModel" ({ cls := "BinnedReadsModel", name := "query", desc := "(III)I" } : Jvm.MethodName) ({ cls := "BinnedReadsModel", name := "query", desc := "(III)I" } : Jvm.MethodName)) ∈ tb := tb_of (List.mem_append_right _ (List.mem_of_getElem? (i := 554) (by decide +kernel))) (by decide +kernel)
theorem tw_555 : (Jvm.Cond.code ({ cls := "BinnedReadsModel", name := "query", desc := "(III)I" } : Jvm.MethodName) prog_8_method_21_code (8 : Nat) (Option.some Jvm.ClassFile.FieldType.int)) ∈ tb := tb_of (List.mem_append_right _ (List.mem_of_getElem? (i := 555) (by decide +kernel))) (by decide +kernel)
theorem tw_556 : (Jvm.Cond.methodLink "BinnedReadsModel" (111 : Nat) ({ cls := "BinnedReadsModel", name := "firstBehind", desc := "(II)I" } : Jvm.MethodName)) ∈ tb := tb_of (List.mem_append_right _ (List.mem_of_getElem? (i := 556) (by decide +kernel))) (by decide +kernel)
theorem tw_558 : (Jvm.Cond.instanceMethod ({ cls := "BinnedReadsModel", name := "firstBehind", desc := "(II)I" } : Jvm.MethodName)) ∈ tb := tb_of (List.mem_append_right _ (List.mem_of_getElem? (i := 558) (by decide +kernel))) (by decide +kernel)
theorem tw_559 : (Jvm.Cond.code ({ cls := "BinnedReadsModel", name := "firstBehind", desc := "(II)I" } : Jvm.MethodName) prog_8_method_20_code (4 : Nat) (Option.some Jvm.ClassFile.FieldType.int)) ∈ tb := tb_of (List.mem_append_right _ (List.mem_of_getElem? (i := 559) (by decide +kernel))) (by decide +kernel)
theorem tw_560 : (Jvm.Cond.methodLink "BinnedReadsModel" (115 : Nat) ({ cls := "BinnedReadsModel", name := "touches", desc := "(III)Z" } : Jvm.MethodName)) ∈ tb := tb_of (List.mem_append_right _ (List.mem_of_getElem? (i := 560) (by decide +kernel))) (by decide +kernel)
theorem tw_561 : (Jvm.Cond.static ({ cls := "BinnedReadsModel", name := "touches", desc := "(III)Z" } : Jvm.MethodName)) ∈ tb := tb_of (List.mem_append_right _ (List.mem_of_getElem? (i := 561) (by decide +kernel))) (by decide +kernel)
theorem tw_562 : (Jvm.Cond.code ({ cls := "BinnedReadsModel", name := "touches", desc := "(III)Z" } : Jvm.MethodName) prog_8_method_18_code (5 : Nat) (Option.some Jvm.ClassFile.FieldType.boolean)) ∈ tb := tb_of (List.mem_append_right _ (List.mem_of_getElem? (i := 562) (by decide +kernel))) (by decide +kernel)
theorem tw_563 : (Jvm.Cond.methodLink "BinnedReadsModel" (118 : Nat) ({ cls := "BinnedReadsModel", name := "hurt", desc := "(I)Z" } : Jvm.MethodName)) ∈ tb := tb_of (List.mem_append_right _ (List.mem_of_getElem? (i := 563) (by decide +kernel))) (by decide +kernel)
theorem tw_565 : (Jvm.Cond.instanceMethod ({ cls := "BinnedReadsModel", name := "hurt", desc := "(I)Z" } : Jvm.MethodName)) ∈ tb := tb_of (List.mem_append_right _ (List.mem_of_getElem? (i := 565) (by decide +kernel))) (by decide +kernel)
theorem tw_566 : (Jvm.Cond.code ({ cls := "BinnedReadsModel", name := "hurt", desc := "(I)Z" } : Jvm.MethodName) prog_8_method_19_code (3 : Nat) (Option.some Jvm.ClassFile.FieldType.boolean)) ∈ tb := tb_of (List.mem_append_right _ (List.mem_of_getElem? (i := 566) (by decide +kernel))) (by decide +kernel)
theorem tw_567 : (Jvm.Cond.methodLink "BinnedReadsLaw" (62 : Nat) ({ cls := "BinnedReadsModel", name := "looked", desc := "()I" } : Jvm.MethodName)) ∈ tb := tb_of (List.mem_append_right _ (List.mem_of_getElem? (i := 567) (by decide +kernel))) (by decide +kernel)
theorem tw_568 : (Jvm.Cond.instanceMethod ({ cls := "BinnedReadsModel", name := "looked", desc := "()I" } : Jvm.MethodName)) ∈ tb := tb_of (List.mem_append_right _ (List.mem_of_getElem? (i := 568) (by decide +kernel))) (by decide +kernel)
theorem tw_569 : (Jvm.Cond.selects "BinnedReadsModel" ({ cls := "BinnedReadsModel", name := "looked", desc := "()I" } : Jvm.MethodName) ({ cls := "BinnedReadsModel", name := "looked", desc := "()I" } : Jvm.MethodName)) ∈ tb := tb_of (List.mem_append_right _ (List.mem_of_getElem? (i := 569) (by decide +kernel))) (by decide +kernel)
theorem tw_570 : (Jvm.Cond.code ({ cls := "BinnedReadsModel", name := "looked", desc := "()I" } : Jvm.MethodName) prog_8_method_22_code (1 : Nat) (Option.some Jvm.ClassFile.FieldType.int)) ∈ tb := tb_of (List.mem_append_right _ (List.mem_of_getElem? (i := 570) (by decide +kernel))) (by decide +kernel)
theorem tw_571 : (Jvm.Cond.methodLink "BinnedReadsLaw" (66 : Nat) ({ cls := "BinnedReadsModel", name := "found", desc := "(II)I" } : Jvm.MethodName)) ∈ tb := tb_of (List.mem_append_right _ (List.mem_of_getElem? (i := 571) (by decide +kernel))) (by decide +kernel)
theorem tw_572 : (Jvm.Cond.instanceMethod ({ cls := "BinnedReadsModel", name := "found", desc := "(II)I" } : Jvm.MethodName)) ∈ tb := tb_of (List.mem_append_right _ (List.mem_of_getElem? (i := 572) (by decide +kernel))) (by decide +kernel)
theorem tw_573 : (Jvm.Cond.selects "BinnedReadsModel" ({ cls := "BinnedReadsModel", name := "found", desc := "(II)I" } : Jvm.MethodName) ({ cls := "BinnedReadsModel", name := "found", desc := "(II)I" } : Jvm.MethodName)) ∈ tb := tb_of (List.mem_append_right _ (List.mem_of_getElem? (i := 573) (by decide +kernel))) (by decide +kernel)
theorem tw_574 : (Jvm.Cond.code ({ cls := "BinnedReadsModel", name := "found", desc := "(II)I" } : Jvm.MethodName) prog_8_method_23_code (4 : Nat) (Option.some Jvm.ClassFile.FieldType.int)) ∈ tb := tb_of (List.mem_append_right _ (List.mem_of_getElem? (i := 574) (by decide +kernel))) (by decide +kernel)
theorem tw_575 : (Jvm.Cond.methodLink "BinnedReadsLaw" (70 : Nat) ({ cls := "BinnedReadsModel", name := "foundOp", desc := "(II)I" } : Jvm.MethodName)) ∈ tb := tb_of (List.mem_append_right _ (List.mem_of_getElem? (i := 575) (by decide +kernel))) (by decide +kernel)
theorem tw_576 : (Jvm.Cond.instanceMethod ({ cls := "BinnedReadsModel", name := "foundOp", desc := "(II)I" } : Jvm.MethodName)) ∈ tb := tb_of (List.mem_append_right _ (List.mem_of_getElem? (i := 576) (by decide +kernel))) (by decide +kernel)
theorem tw_577 : (Jvm.Cond.selects "BinnedReadsModel" ({ cls := "BinnedReadsModel", name := "foundOp", desc := "(II)I" } : Jvm.MethodName) ({ cls := "BinnedReadsModel", name := "foundOp", desc := "(II)I" } : Jvm.MethodName)) ∈ tb := tb_of (List.mem_append_right _ (List.mem_of_getElem? (i := 577) (by decide +kernel))) (by decide +kernel)
theorem tw_578 : (Jvm.Cond.code ({ cls := "BinnedReadsModel", name := "foundOp", desc := "(II)I" } : Jvm.MethodName) prog_8_method_24_code (3 : Nat) (Option.some Jvm.ClassFile.FieldType.int)) ∈ tb := tb_of (List.mem_append_right _ (List.mem_of_getElem? (i := 578) (by decide +kernel))) (by decide +kernel)
theorem tw_579 : (Jvm.Cond.methodLink "BinnedReadsLaw" (74 : Nat) ({ cls := "BinnedReadsModel", name := "foundBase", desc := "(II)I" } : Jvm.MethodName)) ∈ tb := tb_of (List.mem_append_right _ (List.mem_of_getElem? (i := 579) (by decide +kernel))) (by decide +kernel)
theorem tw_580 : (Jvm.Cond.instanceMethod ({ cls := "BinnedReadsModel", name := "foundBase", desc := "(II)I" } : Jvm.MethodName)) ∈ tb := tb_of (List.mem_append_right _ (List.mem_of_getElem? (i := 580) (by decide +kernel))) (by decide +kernel)
theorem tw_581 : (Jvm.Cond.selects "BinnedReadsModel" ({ cls := "BinnedReadsModel", name := "foundBase", desc := "(II)I" } : Jvm.MethodName) ({ cls := "BinnedReadsModel", name := "foundBase", desc := "(II)I" } : Jvm.MethodName)) ∈ tb := tb_of (List.mem_append_right _ (List.mem_of_getElem? (i := 581) (by decide +kernel))) (by decide +kernel)
theorem tw_582 : (Jvm.Cond.code ({ cls := "BinnedReadsModel", name := "foundBase", desc := "(II)I" } : Jvm.MethodName) prog_8_method_25_code (3 : Nat) (Option.some Jvm.ClassFile.FieldType.int)) ∈ tb := tb_of (List.mem_append_right _ (List.mem_of_getElem? (i := 582) (by decide +kernel))) (by decide +kernel)
theorem ts_0 : Cond.selects "BinnedReads$Stream" ⟨"BinnedReads$Stream", "appendByte", "(I)V"⟩ ⟨"BinnedReads$Stream", "appendByte", "(I)V"⟩ ∈ tb := tb_of (List.mem_append_left _ (List.mem_of_getElem? (i := 0) (by decide +kernel))) (by decide +kernel)
theorem ts_1 : Cond.selects "BinnedReads$Disk" ⟨"BinnedReads$Disk", "appendBlock", "(LBinnedReads$Stream;II)V"⟩ ⟨"BinnedReads$Disk", "appendBlock", "(LBinnedReads$Stream;II)V"⟩ ∈ tb := tb_of (List.mem_append_left _ (List.mem_of_getElem? (i := 1) (by decide +kernel))) (by decide +kernel)
theorem ts_2 : Cond.selects "BinnedReads$Disk" ⟨"BinnedReads$Disk", "appendByte", "(I)V"⟩ ⟨"BinnedReads$Disk", "appendByte", "(I)V"⟩ ∈ tb := tb_of (List.mem_append_left _ (List.mem_of_getElem? (i := 2) (by decide +kernel))) (by decide +kernel)
theorem ts_3 : Cond.selects "BinnedReads$Disk" ⟨"BinnedReads$Disk", "appendNumber", "(II)V"⟩ ⟨"BinnedReads$Disk", "appendNumber", "(II)V"⟩ ∈ tb := tb_of (List.mem_append_left _ (List.mem_of_getElem? (i := 3) (by decide +kernel))) (by decide +kernel)
theorem ts_4 : Cond.selects "BinnedReads$Disk" ⟨"BinnedReads$Disk", "sumOf", "(II)I"⟩ ⟨"BinnedReads$Disk", "sumOf", "(II)I"⟩ ∈ tb := tb_of (List.mem_append_left _ (List.mem_of_getElem? (i := 4) (by decide +kernel))) (by decide +kernel)
theorem ts_5 : Cond.selects "BinnedReads$Disk" ⟨"BinnedReads$Disk", "isSound", "(I)Z"⟩ ⟨"BinnedReads$Disk", "isSound", "(I)Z"⟩ ∈ tb := tb_of (List.mem_append_left _ (List.mem_of_getElem? (i := 5) (by decide +kernel))) (by decide +kernel)
theorem ts_6 : Cond.selects "BinnedReads$Disk" ⟨"BinnedReads$Disk", "numberAt", "(II)I"⟩ ⟨"BinnedReads$Disk", "numberAt", "(II)I"⟩ ∈ tb := tb_of (List.mem_append_left _ (List.mem_of_getElem? (i := 6) (by decide +kernel))) (by decide +kernel)
theorem ts_7 : Cond.selects "BinnedReads$Index" ⟨"BinnedReads$Index", "firstEndingAfter", "(II)I"⟩ ⟨"BinnedReads$Index", "firstEndingAfter", "(II)I"⟩ ∈ tb := tb_of (List.mem_append_left _ (List.mem_of_getElem? (i := 7) (by decide +kernel))) (by decide +kernel)
theorem ts_8 : Cond.selects "BinnedReads" ⟨"BinnedReads", "areChosenSound", "()Z"⟩ ⟨"BinnedReads", "areChosenSound", "()Z"⟩ ∈ tb := tb_of (List.mem_append_left _ (List.mem_of_getElem? (i := 8) (by decide +kernel))) (by decide +kernel)
theorem ts_9 : Cond.selects "BinnedReadsModel" ⟨"BinnedReadsModel", "sum", "(III)I"⟩ ⟨"BinnedReadsModel", "sum", "(III)I"⟩ ∈ tb := tb_of (List.mem_append_left _ (List.mem_of_getElem? (i := 9) (by decide +kernel))) (by decide +kernel)
theorem ts_10 : Cond.selects "BinnedReadsModel" ⟨"BinnedReadsModel", "putRead", "(I)V"⟩ ⟨"BinnedReadsModel", "putRead", "(I)V"⟩ ∈ tb := tb_of (List.mem_append_left _ (List.mem_of_getElem? (i := 10) (by decide +kernel))) (by decide +kernel)
theorem ts_11 : Cond.selects "BinnedReadsModel" ⟨"BinnedReadsModel", "put", "(I)V"⟩ ⟨"BinnedReadsModel", "put", "(I)V"⟩ ∈ tb := tb_of (List.mem_append_left _ (List.mem_of_getElem? (i := 11) (by decide +kernel))) (by decide +kernel)
theorem ts_12 : Cond.selects "BinnedReadsModel" ⟨"BinnedReadsModel", "binOf", "(I)I"⟩ ⟨"BinnedReadsModel", "binOf", "(I)I"⟩ ∈ tb := tb_of (List.mem_append_left _ (List.mem_of_getElem? (i := 12) (by decide +kernel))) (by decide +kernel)
theorem ts_13 : Cond.selects "BinnedReadsModel" ⟨"BinnedReadsModel", "storeBlock", "(II)V"⟩ ⟨"BinnedReadsModel", "storeBlock", "(II)V"⟩ ∈ tb := tb_of (List.mem_append_left _ (List.mem_of_getElem? (i := 13) (by decide +kernel))) (by decide +kernel)
theorem ts_14 : Cond.selects "BinnedReadsModel" ⟨"BinnedReadsModel", "store", "(I)V"⟩ ⟨"BinnedReadsModel", "store", "(I)V"⟩ ∈ tb := tb_of (List.mem_append_left _ (List.mem_of_getElem? (i := 14) (by decide +kernel))) (by decide +kernel)
theorem ts_15 : Cond.selects "BinnedReadsModel" ⟨"BinnedReadsModel", "firstBehind", "(II)I"⟩ ⟨"BinnedReadsModel", "firstBehind", "(II)I"⟩ ∈ tb := tb_of (List.mem_append_left _ (List.mem_of_getElem? (i := 15) (by decide +kernel))) (by decide +kernel)
theorem ts_16 : Cond.selects "BinnedReadsModel" ⟨"BinnedReadsModel", "hurt", "(I)Z"⟩ ⟨"BinnedReadsModel", "hurt", "(I)Z"⟩ ∈ tb := tb_of (List.mem_append_left _ (List.mem_of_getElem? (i := 16) (by decide +kernel))) (by decide +kernel)
abbrev R_Disk : String := "BinnedReads$Disk"
def F_Disk : u_T := fun k => match k with
  | 0 => ("BinnedReads$Disk", "bytes", "[I", true)
  | 1 => ("BinnedReads$Disk", "blockStarts", "[I", true)
  | 2 => ("BinnedReads$Disk", "size", "I", false)
  | 3 => ("BinnedReads$Disk", "blockCount", "I", false)
  | _ => ("BinnedReads$Disk", "turned", "I", false)
def t_Disk : Nat → FieldType := fun k => match k with
  | 0 => .array .int
  | 1 => .array .int
  | 2 => .int
  | 3 => .int
  | _ => .int
theorem n_Disk : ∀ a, a < 5 → ∀ b, b < 5 → a ≠ b → (F_Disk a).2.1 ≠ (F_Disk b).2.1 := by decide +kernel
theorem to_Disk : ∀ k, k < 5 → parseFieldDescriptor (F_Disk k).2.2.1 = some (t_Disk k) := by decide +kernel
set_option maxRecDepth 100000 in
theorem in_Disk : ∀ w ∈ u_ws R_Disk F_Disk 5, w ∈ tb := by decide +kernel
abbrev R_Draft : String := "BinnedReads$Draft"
def F_Draft : u_T := fun k => match k with
  | 0 => ("BinnedReads$Draft", "ops", "[I", true)
  | 1 => ("BinnedReads$Draft", "bases", "[I", true)
  | 2 => ("BinnedReads$Draft", "opCount", "I", false)
  | _ => ("BinnedReads$Draft", "baseCount", "I", false)
def t_Draft : Nat → FieldType := fun k => match k with
  | 0 => .array .int
  | 1 => .array .int
  | 2 => .int
  | _ => .int
theorem n_Draft : ∀ a, a < 4 → ∀ b, b < 4 → a ≠ b → (F_Draft a).2.1 ≠ (F_Draft b).2.1 := by decide +kernel
theorem to_Draft : ∀ k, k < 4 → parseFieldDescriptor (F_Draft k).2.2.1 = some (t_Draft k) := by decide +kernel
set_option maxRecDepth 100000 in
theorem in_Draft : ∀ w ∈ u_ws R_Draft F_Draft 4, w ∈ tb := by decide +kernel
abbrev R_Find : String := "BinnedReads$Finding"
def F_Find : u_T := fun k => match k with
  | 0 => ("BinnedReads$Finding", "rows", "[[I", true)
  | 1 => ("BinnedReads$Finding", "offsets", "[I", true)
  | 2 => ("BinnedReads$Finding", "count", "I", false)
  | _ => ("BinnedReads$Finding", "lookedAt", "I", false)
def t_Find : Nat → FieldType := fun k => match k with
  | 0 => .array (.array .int)
  | 1 => .array .int
  | 2 => .int
  | _ => .int
theorem n_Find : ∀ a, a < 4 → ∀ b, b < 4 → a ≠ b → (F_Find a).2.1 ≠ (F_Find b).2.1 := by decide +kernel
theorem to_Find : ∀ k, k < 4 → parseFieldDescriptor (F_Find k).2.2.1 = some (t_Find k) := by decide +kernel
set_option maxRecDepth 100000 in
theorem in_Find : ∀ w ∈ u_ws R_Find F_Find 4, w ∈ tb := by decide +kernel
abbrev R_Indx : String := "BinnedReads$Index"
def F_Indx : u_T := fun k => match k with
  | 0 => ("BinnedReads$Index", "references", "[I", true)
  | 1 => ("BinnedReads$Index", "positions", "[I", true)
  | 2 => ("BinnedReads$Index", "ends", "[I", true)
  | 3 => ("BinnedReads$Index", "bins", "[I", true)
  | 4 => ("BinnedReads$Index", "starts", "[I", true)
  | 5 => ("BinnedReads$Index", "count", "I", false)
  | 6 => ("BinnedReads$Index", "chosen", "[I", true)
  | _ => ("BinnedReads$Index", "chosenCount", "I", false)
def t_Indx : Nat → FieldType := fun k => match k with
  | 0 => .array .int
  | 1 => .array .int
  | 2 => .array .int
  | 3 => .array .int
  | 4 => .array .int
  | 5 => .int
  | 6 => .array .int
  | _ => .int
theorem n_Indx : ∀ a, a < 8 → ∀ b, b < 8 → a ≠ b → (F_Indx a).2.1 ≠ (F_Indx b).2.1 := by decide +kernel
theorem to_Indx : ∀ k, k < 8 → parseFieldDescriptor (F_Indx k).2.2.1 = some (t_Indx k) := by decide +kernel
set_option maxRecDepth 100000 in
theorem in_Indx : ∀ w ∈ u_ws R_Indx F_Indx 8, w ∈ tb := by decide +kernel
abbrev R_Strm : String := "BinnedReads$Stream"
def F_Strm : u_T := fun k => match k with
  | 0 => ("BinnedReads$Stream", "bytes", "[I", true)
  | _ => ("BinnedReads$Stream", "length", "I", false)
def t_Strm : Nat → FieldType := fun k => match k with
  | 0 => .array .int
  | _ => .int
theorem n_Strm : ∀ a, a < 2 → ∀ b, b < 2 → a ≠ b → (F_Strm a).2.1 ≠ (F_Strm b).2.1 := by decide +kernel
theorem to_Strm : ∀ k, k < 2 → parseFieldDescriptor (F_Strm k).2.2.1 = some (t_Strm k) := by decide +kernel
set_option maxRecDepth 100000 in
theorem in_Strm : ∀ w ∈ u_ws R_Strm F_Strm 2, w ∈ tb := by decide +kernel
abbrev R_BR : String := "BinnedReads"
def F_BR : u_T := fun k => match k with
  | 0 => ("BinnedReads", "draft", "LBinnedReads$Draft;", true)
  | 1 => ("BinnedReads", "stream", "LBinnedReads$Stream;", true)
  | 2 => ("BinnedReads", "index", "LBinnedReads$Index;", true)
  | 3 => ("BinnedReads", "disk", "LBinnedReads$Disk;", true)
  | _ => ("BinnedReads", "finding", "LBinnedReads$Finding;", true)
def t_BR : Nat → FieldType := fun k => match k with
  | 0 => .object "BinnedReads$Draft"
  | 1 => .object "BinnedReads$Stream"
  | 2 => .object "BinnedReads$Index"
  | 3 => .object "BinnedReads$Disk"
  | _ => .object "BinnedReads$Finding"
theorem n_BR : ∀ a, a < 5 → ∀ b, b < 5 → a ≠ b → (F_BR a).2.1 ≠ (F_BR b).2.1 := by decide +kernel
theorem to_BR : ∀ k, k < 5 → parseFieldDescriptor (F_BR k).2.2.1 = some (t_BR k) := by decide +kernel
set_option maxRecDepth 100000 in
theorem in_BR : ∀ w ∈ u_ws R_BR F_BR 5, w ∈ tb := by decide +kernel
abbrev R_Mod : String := "BinnedReadsModel"
def F_Mod : u_T := fun k => match k with
  | 0 => ("BinnedReadsModel", "ops", "I", false)
  | 1 => ("BinnedReadsModel", "kinds", "[I", true)
  | 2 => ("BinnedReadsModel", "lengths", "[I", true)
  | 3 => ("BinnedReadsModel", "bases", "I", false)
  | 4 => ("BinnedReadsModel", "codes", "[I", true)
  | 5 => ("BinnedReadsModel", "reads", "I", false)
  | 6 => ("BinnedReadsModel", "reference", "[I", true)
  | 7 => ("BinnedReadsModel", "position", "[I", true)
  | 8 => ("BinnedReadsModel", "ends", "[I", true)
  | 9 => ("BinnedReadsModel", "opCount", "[I", true)
  | 10 => ("BinnedReadsModel", "opBytes", "[I", true)
  | 11 => ("BinnedReadsModel", "baseCount", "[I", true)
  | 12 => ("BinnedReadsModel", "baseCodes", "[I", true)
  | 13 => ("BinnedReadsModel", "begins", "[I", true)
  | 14 => ("BinnedReadsModel", "written", "Z", false)
  | 15 => ("BinnedReadsModel", "stream", "[I", true)
  | 16 => ("BinnedReadsModel", "streamed", "I", false)
  | 17 => ("BinnedReadsModel", "disk", "[I", true)
  | 18 => ("BinnedReadsModel", "size", "I", false)
  | 19 => ("BinnedReadsModel", "turned", "I", false)
  | 20 => ("BinnedReadsModel", "finding", "I", false)
  | 21 => ("BinnedReadsModel", "looks", "I", false)
  | _ => ("BinnedReadsModel", "finds", "[I", true)
def t_Mod : Nat → FieldType := fun k => match k with
  | 0 => .int
  | 1 => .array .int
  | 2 => .array .int
  | 3 => .int
  | 4 => .array .int
  | 5 => .int
  | 6 => .array .int
  | 7 => .array .int
  | 8 => .array .int
  | 9 => .array .int
  | 10 => .array .int
  | 11 => .array .int
  | 12 => .array .int
  | 13 => .array .int
  | 14 => .boolean
  | 15 => .array .int
  | 16 => .int
  | 17 => .array .int
  | 18 => .int
  | 19 => .int
  | 20 => .int
  | 21 => .int
  | _ => .array .int
theorem n_Mod : ∀ a, a < 23 → ∀ b, b < 23 → a ≠ b → (F_Mod a).2.1 ≠ (F_Mod b).2.1 := by decide +kernel
theorem to_Mod : ∀ k, k < 23 → parseFieldDescriptor (F_Mod k).2.2.1 = some (t_Mod k) := by decide +kernel
set_option maxRecDepth 100000 in
theorem in_Mod : ∀ w ∈ u_ws R_Mod F_Mod 23, w ∈ tb := by decide +kernel
abbrev classes : List vw_C := [(R_Disk, F_Disk, 5), (R_Draft, F_Draft, 4), (R_Find, F_Find, 4), (R_Indx, F_Indx, 8), (R_Strm, F_Strm, 2), (R_BR, F_BR, 5), (R_Mod, F_Mod, 23)]
abbrev R_Law : String := "BinnedReadsLaw"
abbrev b_Disk_init : ByteArray := prog_2_method_1_code
abbrev y_Disk_init : MethodName := ⟨"BinnedReads$Disk", "<init>", "()V"⟩
abbrev w_Disk_init : List Cond := Cond.code y_Disk_init b_Disk_init 1 none :: tb
abbrev b_Disk_empty : ByteArray := prog_2_method_2_code
abbrev y_Disk_empty : MethodName := ⟨"BinnedReads$Disk", "empty", "()V"⟩
abbrev w_Disk_empty : List Cond := Cond.code y_Disk_empty b_Disk_empty 1 none :: tb
abbrev b_Disk_isWritten : ByteArray := prog_2_method_3_code
abbrev y_Disk_isWritten : MethodName := ⟨"BinnedReads$Disk", "isWritten", "()Z"⟩
abbrev w_Disk_isWritten : List Cond := Cond.code y_Disk_isWritten b_Disk_isWritten 1 (some .boolean) :: tb
abbrev b_Disk_write : ByteArray := prog_2_method_4_code
abbrev y_Disk_write : MethodName := ⟨"BinnedReads$Disk", "write", "(LBinnedReads$Stream;)V"⟩
abbrev w_Disk_write : List Cond := Cond.code y_Disk_write b_Disk_write 3 none :: tb
abbrev b_Disk_at : ByteArray := prog_2_method_5_code
abbrev y_Disk_at : MethodName := ⟨"BinnedReads$Disk", "at", "(I)I"⟩
abbrev w_Disk_at : List Cond := Cond.code y_Disk_at b_Disk_at 2 (some .int) :: tb
abbrev b_Disk_turnBit : ByteArray := prog_2_method_6_code
abbrev y_Disk_turnBit : MethodName := ⟨"BinnedReads$Disk", "turnBit", "(II)Z"⟩
abbrev w_Disk_turnBit : List Cond := Cond.code y_Disk_turnBit b_Disk_turnBit 4 (some .boolean) :: tb
abbrev b_Disk_areSound : ByteArray := prog_2_method_7_code
abbrev y_Disk_areSound : MethodName := ⟨"BinnedReads$Disk", "areSound", "(II)Z"⟩
abbrev w_Disk_areSound : List Cond := Cond.code y_Disk_areSound b_Disk_areSound 4 (some .boolean) :: tb
abbrev b_Disk_streamByte : ByteArray := prog_2_method_8_code
abbrev y_Disk_streamByte : MethodName := ⟨"BinnedReads$Disk", "streamByte", "(I)I"⟩
abbrev w_Disk_streamByte : List Cond := Cond.code y_Disk_streamByte b_Disk_streamByte 3 (some .int) :: tb
abbrev b_Disk_offsetOf : ByteArray := prog_2_method_9_code
abbrev y_Disk_offsetOf : MethodName := ⟨"BinnedReads$Disk", "offsetOf", "(I)I"⟩
abbrev w_Disk_offsetOf : List Cond := Cond.code y_Disk_offsetOf b_Disk_offsetOf 3 (some .int) :: tb
abbrev b_Disk_appendBlock : ByteArray := prog_2_method_10_code
abbrev y_Disk_appendBlock : MethodName := ⟨"BinnedReads$Disk", "appendBlock", "(LBinnedReads$Stream;II)V"⟩
abbrev w_Disk_appendBlock : List Cond := Cond.code y_Disk_appendBlock b_Disk_appendBlock 6 none :: tb
abbrev b_Disk_appendNumber : ByteArray := prog_2_method_11_code
abbrev y_Disk_appendNumber : MethodName := ⟨"BinnedReads$Disk", "appendNumber", "(II)V"⟩
abbrev w_Disk_appendNumber : List Cond := Cond.code y_Disk_appendNumber b_Disk_appendNumber 4 none :: tb
abbrev b_Disk_appendByte : ByteArray := prog_2_method_12_code
abbrev y_Disk_appendByte : MethodName := ⟨"BinnedReads$Disk", "appendByte", "(I)V"⟩
abbrev w_Disk_appendByte : List Cond := Cond.code y_Disk_appendByte b_Disk_appendByte 2 none :: tb
abbrev b_Disk_isSound : ByteArray := prog_2_method_13_code
abbrev y_Disk_isSound : MethodName := ⟨"BinnedReads$Disk", "isSound", "(I)Z"⟩
abbrev w_Disk_isSound : List Cond := Cond.code y_Disk_isSound b_Disk_isSound 5 (some .boolean) :: tb
abbrev b_Disk_numberAt : ByteArray := prog_2_method_14_code
abbrev y_Disk_numberAt : MethodName := ⟨"BinnedReads$Disk", "numberAt", "(II)I"⟩
abbrev w_Disk_numberAt : List Cond := Cond.code y_Disk_numberAt b_Disk_numberAt 5 (some .int) :: tb
abbrev b_Disk_sumOf : ByteArray := prog_2_method_15_code
abbrev y_Disk_sumOf : MethodName := ⟨"BinnedReads$Disk", "sumOf", "(II)I"⟩
abbrev w_Disk_sumOf : List Cond := Cond.code y_Disk_sumOf b_Disk_sumOf 6 (some .int) :: tb
abbrev b_Draft_init : ByteArray := prog_3_method_1_code
abbrev y_Draft_init : MethodName := ⟨"BinnedReads$Draft", "<init>", "()V"⟩
abbrev w_Draft_init : List Cond := Cond.code y_Draft_init b_Draft_init 1 none :: tb
abbrev b_Draft_appendOp : ByteArray := prog_3_method_2_code
abbrev y_Draft_appendOp : MethodName := ⟨"BinnedReads$Draft", "appendOp", "(II)Z"⟩
abbrev w_Draft_appendOp : List Cond := Cond.code y_Draft_appendOp b_Draft_appendOp 3 (some .boolean) :: tb
abbrev b_Draft_appendBase : ByteArray := prog_3_method_3_code
abbrev y_Draft_appendBase : MethodName := ⟨"BinnedReads$Draft", "appendBase", "(I)Z"⟩
abbrev w_Draft_appendBase : List Cond := Cond.code y_Draft_appendBase b_Draft_appendBase 2 (some .boolean) :: tb
abbrev b_Draft_empty : ByteArray := prog_3_method_4_code
abbrev y_Draft_empty : MethodName := ⟨"BinnedReads$Draft", "empty", "()V"⟩
abbrev w_Draft_empty : List Cond := Cond.code y_Draft_empty b_Draft_empty 1 none :: tb
abbrev b_Draft_span : ByteArray := prog_3_method_5_code
abbrev y_Draft_span : MethodName := ⟨"BinnedReads$Draft", "span", "()I"⟩
abbrev w_Draft_span : List Cond := Cond.code y_Draft_span b_Draft_span 1 (some .int) :: tb
abbrev b_Draft_width : ByteArray := prog_3_method_6_code
abbrev y_Draft_width : MethodName := ⟨"BinnedReads$Draft", "width", "()I"⟩
abbrev w_Draft_width : List Cond := Cond.code y_Draft_width b_Draft_width 3 (some .int) :: tb
abbrev b_Draft_isRead : ByteArray := prog_3_method_7_code
abbrev y_Draft_isRead : MethodName := ⟨"BinnedReads$Draft", "isRead", "()Z"⟩
abbrev w_Draft_isRead : List Cond := Cond.code y_Draft_isRead b_Draft_isRead 1 (some .boolean) :: tb
abbrev b_Draft_basePair : ByteArray := prog_3_method_8_code
abbrev y_Draft_basePair : MethodName := ⟨"BinnedReads$Draft", "basePair", "(I)I"⟩
abbrev w_Draft_basePair : List Cond := Cond.code y_Draft_basePair b_Draft_basePair 3 (some .int) :: tb
abbrev b_Find_init : ByteArray := prog_4_method_1_code
abbrev y_Find_init : MethodName := ⟨"BinnedReads$Finding", "<init>", "()V"⟩
abbrev w_Find_init : List Cond := Cond.code y_Find_init b_Find_init 1 none :: tb
abbrev b_Find_empty : ByteArray := prog_4_method_2_code
abbrev y_Find_empty : MethodName := ⟨"BinnedReads$Finding", "empty", "()V"⟩
abbrev w_Find_empty : List Cond := Cond.code y_Find_empty b_Find_empty 1 none :: tb
abbrev b_Find_has : ByteArray := prog_4_method_3_code
abbrev y_Find_has : MethodName := ⟨"BinnedReads$Finding", "has", "(I)Z"⟩
abbrev w_Find_has : List Cond := Cond.code y_Find_has b_Find_has 2 (some .boolean) :: tb
abbrev b_Find_append : ByteArray := prog_4_method_4_code
abbrev y_Find_append : MethodName := ⟨"BinnedReads$Finding", "append", "(LBinnedReads$Disk;I)V"⟩
abbrev w_Find_append : List Cond := Cond.code y_Find_append b_Find_append 6 none :: tb
abbrev b_Find_position : ByteArray := prog_4_method_5_code
abbrev y_Find_position : MethodName := ⟨"BinnedReads$Finding", "position", "(I)I"⟩
abbrev w_Find_position : List Cond := Cond.code y_Find_position b_Find_position 2 (some .int) :: tb
abbrev b_Find_end : ByteArray := prog_4_method_6_code
abbrev y_Find_end : MethodName := ⟨"BinnedReads$Finding", "end", "(I)I"⟩
abbrev w_Find_end : List Cond := Cond.code y_Find_end b_Find_end 2 (some .int) :: tb
abbrev b_Find_opCount : ByteArray := prog_4_method_7_code
abbrev y_Find_opCount : MethodName := ⟨"BinnedReads$Finding", "opCount", "(I)I"⟩
abbrev w_Find_opCount : List Cond := Cond.code y_Find_opCount b_Find_opCount 2 (some .int) :: tb
abbrev b_Find_baseCount : ByteArray := prog_4_method_8_code
abbrev y_Find_baseCount : MethodName := ⟨"BinnedReads$Finding", "baseCount", "(I)I"⟩
abbrev w_Find_baseCount : List Cond := Cond.code y_Find_baseCount b_Find_baseCount 2 (some .int) :: tb
abbrev b_Indx_init : ByteArray := prog_5_method_1_code
abbrev y_Indx_init : MethodName := ⟨"BinnedReads$Index", "<init>", "()V"⟩
abbrev w_Indx_init : List Cond := Cond.code y_Indx_init b_Indx_init 1 none :: tb
abbrev b_Indx_empty : ByteArray := prog_5_method_2_code
abbrev y_Indx_empty : MethodName := ⟨"BinnedReads$Index", "empty", "()V"⟩
abbrev w_Indx_empty : List Cond := Cond.code y_Indx_empty b_Indx_empty 1 none :: tb
abbrev b_Indx_isFull : ByteArray := prog_5_method_3_code
abbrev y_Indx_isFull : MethodName := ⟨"BinnedReads$Index", "isFull", "()Z"⟩
abbrev w_Indx_isFull : List Cond := Cond.code y_Indx_isFull b_Indx_isFull 1 (some .boolean) :: tb
abbrev b_Indx_endsBehind : ByteArray := prog_5_method_4_code
abbrev y_Indx_endsBehind : MethodName := ⟨"BinnedReads$Index", "endsBehind", "(II)Z"⟩
abbrev w_Indx_endsBehind : List Cond := Cond.code y_Indx_endsBehind b_Indx_endsBehind 4 (some .boolean) :: tb
abbrev b_Indx_append : ByteArray := prog_5_method_5_code
abbrev y_Indx_append : MethodName := ⟨"BinnedReads$Index", "append", "(IIIII)I"⟩
abbrev w_Indx_append : List Cond := Cond.code y_Indx_append b_Indx_append 6 (some .int) :: tb
abbrev b_Indx_choose : ByteArray := prog_5_method_6_code
abbrev y_Indx_choose : MethodName := ⟨"BinnedReads$Index", "choose", "(III)V"⟩
abbrev w_Indx_choose : List Cond := Cond.code y_Indx_choose b_Indx_choose 6 none :: tb
abbrev b_Indx_overlaps : ByteArray := prog_5_method_7_code
abbrev y_Indx_overlaps : MethodName := ⟨"BinnedReads$Index", "overlaps", "(III)Z"⟩
abbrev w_Indx_overlaps : List Cond := Cond.code y_Indx_overlaps b_Indx_overlaps 4 (some .boolean) :: tb
abbrev b_Indx_firstEndingAfter : ByteArray := prog_5_method_8_code
abbrev y_Indx_firstEndingAfter : MethodName := ⟨"BinnedReads$Index", "firstEndingAfter", "(II)I"⟩
abbrev w_Indx_firstEndingAfter : List Cond := Cond.code y_Indx_firstEndingAfter b_Indx_firstEndingAfter 4 (some .int) :: tb
abbrev b_Strm_init : ByteArray := prog_6_method_1_code
abbrev y_Strm_init : MethodName := ⟨"BinnedReads$Stream", "<init>", "()V"⟩
abbrev w_Strm_init : List Cond := Cond.code y_Strm_init b_Strm_init 1 none :: tb
abbrev b_Strm_empty : ByteArray := prog_6_method_2_code
abbrev y_Strm_empty : MethodName := ⟨"BinnedReads$Stream", "empty", "()V"⟩
abbrev w_Strm_empty : List Cond := Cond.code y_Strm_empty b_Strm_empty 1 none :: tb
abbrev b_Strm_appendRow : ByteArray := prog_6_method_3_code
abbrev y_Strm_appendRow : MethodName := ⟨"BinnedReads$Stream", "appendRow", "(LBinnedReads$Draft;III)V"⟩
abbrev w_Strm_appendRow : List Cond := Cond.code y_Strm_appendRow b_Strm_appendRow 7 none :: tb
abbrev b_Strm_rowLength : ByteArray := prog_6_method_4_code
abbrev y_Strm_rowLength : MethodName := ⟨"BinnedReads$Stream", "rowLength", "(I)I"⟩
abbrev w_Strm_rowLength : List Cond := Cond.code y_Strm_rowLength b_Strm_rowLength 2 (some .int) :: tb
abbrev b_Strm_appendByte : ByteArray := prog_6_method_5_code
abbrev y_Strm_appendByte : MethodName := ⟨"BinnedReads$Stream", "appendByte", "(I)V"⟩
abbrev w_Strm_appendByte : List Cond := Cond.code y_Strm_appendByte b_Strm_appendByte 2 none :: tb
abbrev b_BR_init : ByteArray := prog_1_method_1_code
abbrev y_BR_init : MethodName := ⟨"BinnedReads", "<init>", "()V"⟩
abbrev w_BR_init : List Cond := Cond.code y_BR_init b_BR_init 1 none :: tb
abbrev b_BR_op : ByteArray := prog_1_method_2_code
abbrev y_BR_op : MethodName := ⟨"BinnedReads", "op", "(II)Z"⟩
abbrev w_BR_op : List Cond := Cond.code y_BR_op b_BR_op 3 (some .boolean) :: tb
abbrev b_BR_base : ByteArray := prog_1_method_3_code
abbrev y_BR_base : MethodName := ⟨"BinnedReads", "base", "(I)Z"⟩
abbrev w_BR_base : List Cond := Cond.code y_BR_base b_BR_base 2 (some .boolean) :: tb
abbrev b_BR_scrap : ByteArray := prog_1_method_4_code
abbrev y_BR_scrap : MethodName := ⟨"BinnedReads", "scrap", "()V"⟩
abbrev w_BR_scrap : List Cond := Cond.code y_BR_scrap b_BR_scrap 1 none :: tb
abbrev b_BR_add : ByteArray := prog_1_method_5_code
abbrev y_BR_add : MethodName := ⟨"BinnedReads", "add", "(II)I"⟩
abbrev w_BR_add : List Cond := Cond.code y_BR_add b_BR_add 6 (some .int) :: tb
abbrev b_BR_finish : ByteArray := prog_1_method_6_code
abbrev y_BR_finish : MethodName := ⟨"BinnedReads", "finish", "()I"⟩
abbrev w_BR_finish : List Cond := Cond.code y_BR_finish b_BR_finish 1 (some .int) :: tb
abbrev b_BR_clear : ByteArray := prog_1_method_7_code
abbrev y_BR_clear : MethodName := ⟨"BinnedReads", "clear", "()V"⟩
abbrev w_BR_clear : List Cond := Cond.code y_BR_clear b_BR_clear 1 none :: tb
abbrev b_BR_turn : ByteArray := prog_1_method_8_code
abbrev y_BR_turn : MethodName := ⟨"BinnedReads", "turn", "(II)Z"⟩
abbrev w_BR_turn : List Cond := Cond.code y_BR_turn b_BR_turn 3 (some .boolean) :: tb
abbrev b_BR_byteAt : ByteArray := prog_1_method_9_code
abbrev y_BR_byteAt : MethodName := ⟨"BinnedReads", "byteAt", "(I)I"⟩
abbrev w_BR_byteAt : List Cond := Cond.code y_BR_byteAt b_BR_byteAt 2 (some .int) :: tb
abbrev b_BR_check : ByteArray := prog_1_method_10_code
abbrev y_BR_check : MethodName := ⟨"BinnedReads", "check", "()I"⟩
abbrev w_BR_check : List Cond := Cond.code y_BR_check b_BR_check 1 (some .int) :: tb
abbrev b_BR_query : ByteArray := prog_1_method_11_code
abbrev y_BR_query : MethodName := ⟨"BinnedReads", "query", "(III)I"⟩
abbrev w_BR_query : List Cond := Cond.code y_BR_query b_BR_query 6 (some .int) :: tb
abbrev b_BR_looked : ByteArray := prog_1_method_12_code
abbrev y_BR_looked : MethodName := ⟨"BinnedReads", "looked", "()I"⟩
abbrev w_BR_looked : List Cond := Cond.code y_BR_looked b_BR_looked 1 (some .int) :: tb
abbrev b_BR_found : ByteArray := prog_1_method_13_code
abbrev y_BR_found : MethodName := ⟨"BinnedReads", "found", "(II)I"⟩
abbrev w_BR_found : List Cond := Cond.code y_BR_found b_BR_found 3 (some .int) :: tb
abbrev b_BR_foundOp : ByteArray := prog_1_method_14_code
abbrev y_BR_foundOp : MethodName := ⟨"BinnedReads", "foundOp", "(II)I"⟩
abbrev w_BR_foundOp : List Cond := Cond.code y_BR_foundOp b_BR_foundOp 3 (some .int) :: tb
abbrev b_BR_foundBase : ByteArray := prog_1_method_15_code
abbrev y_BR_foundBase : MethodName := ⟨"BinnedReads", "foundBase", "(II)I"⟩
abbrev w_BR_foundBase : List Cond := Cond.code y_BR_foundBase b_BR_foundBase 4 (some .int) :: tb
abbrev b_BR_areChosenSound : ByteArray := prog_1_method_16_code
abbrev y_BR_areChosenSound : MethodName := ⟨"BinnedReads", "areChosenSound", "()Z"⟩
abbrev w_BR_areChosenSound : List Cond := Cond.code y_BR_areChosenSound b_BR_areChosenSound 6 (some .boolean) :: tb
abbrev b_BR_isReference : ByteArray := prog_1_method_17_code
abbrev y_BR_isReference : MethodName := ⟨"BinnedReads", "isReference", "(I)Z"⟩
abbrev w_BR_isReference : List Cond := Cond.code y_BR_isReference b_BR_isReference 1 (some .boolean) :: tb
abbrev b_BR_isRegion : ByteArray := prog_1_method_18_code
abbrev y_BR_isRegion : MethodName := ⟨"BinnedReads", "isRegion", "(III)Z"⟩
abbrev w_BR_isRegion : List Cond := Cond.code y_BR_isRegion b_BR_isRegion 3 (some .boolean) :: tb
abbrev b_BR_binOf : ByteArray := prog_1_method_19_code
abbrev y_BR_binOf : MethodName := ⟨"BinnedReads", "binOf", "(II)I"⟩
abbrev w_BR_binOf : List Cond := Cond.code y_BR_binOf b_BR_binOf 3 (some .int) :: tb
abbrev b_BR_binMeets : ByteArray := prog_1_method_20_code
abbrev y_BR_binMeets : MethodName := ⟨"BinnedReads", "binMeets", "(III)Z"⟩
abbrev w_BR_binMeets : List Cond := Cond.code y_BR_binMeets b_BR_binMeets 5 (some .boolean) :: tb
abbrev b_BR_kindOf : ByteArray := prog_1_method_21_code
abbrev y_BR_kindOf : MethodName := ⟨"BinnedReads", "kindOf", "(I)I"⟩
abbrev w_BR_kindOf : List Cond := Cond.code y_BR_kindOf b_BR_kindOf 1 (some .int) :: tb
abbrev b_BR_lengthOf : ByteArray := prog_1_method_22_code
abbrev y_BR_lengthOf : MethodName := ⟨"BinnedReads", "lengthOf", "(I)I"⟩
abbrev w_BR_lengthOf : List Cond := Cond.code y_BR_lengthOf b_BR_lengthOf 1 (some .int) :: tb
abbrev b_BR_spanOf : ByteArray := prog_1_method_23_code
abbrev y_BR_spanOf : MethodName := ⟨"BinnedReads", "spanOf", "([III)I"⟩
abbrev w_BR_spanOf : List Cond := Cond.code y_BR_spanOf b_BR_spanOf 6 (some .int) :: tb
abbrev b_Mod_init : ByteArray := prog_8_method_1_code
abbrev y_Mod_init : MethodName := ⟨"BinnedReadsModel", "<init>", "()V"⟩
abbrev w_Mod_init : List Cond := Cond.code y_Mod_init b_Mod_init 1 none :: tb
abbrev b_Mod_within : ByteArray := prog_8_method_2_code
abbrev y_Mod_within : MethodName := ⟨"BinnedReadsModel", "within", "(III)Z"⟩
abbrev w_Mod_within : List Cond := Cond.code y_Mod_within b_Mod_within 3 (some .boolean) :: tb
abbrev b_Mod_op : ByteArray := prog_8_method_3_code
abbrev y_Mod_op : MethodName := ⟨"BinnedReadsModel", "op", "(II)Z"⟩
abbrev w_Mod_op : List Cond := Cond.code y_Mod_op b_Mod_op 3 (some .boolean) :: tb
abbrev b_Mod_base : ByteArray := prog_8_method_4_code
abbrev y_Mod_base : MethodName := ⟨"BinnedReadsModel", "base", "(I)Z"⟩
abbrev w_Mod_base : List Cond := Cond.code y_Mod_base b_Mod_base 2 (some .boolean) :: tb
abbrev b_Mod_scrap : ByteArray := prog_8_method_5_code
abbrev y_Mod_scrap : MethodName := ⟨"BinnedReadsModel", "scrap", "()V"⟩
abbrev w_Mod_scrap : List Cond := Cond.code y_Mod_scrap b_Mod_scrap 1 none :: tb
abbrev b_Mod_sum : ByteArray := prog_8_method_6_code
abbrev y_Mod_sum : MethodName := ⟨"BinnedReadsModel", "sum", "(III)I"⟩
abbrev w_Mod_sum : List Cond := Cond.code y_Mod_sum b_Mod_sum 6 (some .int) :: tb
abbrev b_Mod_add : ByteArray := prog_8_method_7_code
abbrev y_Mod_add : MethodName := ⟨"BinnedReadsModel", "add", "(II)I"⟩
abbrev w_Mod_add : List Cond := Cond.code y_Mod_add b_Mod_add 6 (some .int) :: tb
abbrev b_Mod_binOf : ByteArray := prog_8_method_8_code
abbrev y_Mod_binOf : MethodName := ⟨"BinnedReadsModel", "binOf", "(I)I"⟩
abbrev w_Mod_binOf : List Cond := Cond.code y_Mod_binOf b_Mod_binOf 4 (some .int) :: tb
abbrev b_Mod_put : ByteArray := prog_8_method_9_code
abbrev y_Mod_put : MethodName := ⟨"BinnedReadsModel", "put", "(I)V"⟩
abbrev w_Mod_put : List Cond := Cond.code y_Mod_put b_Mod_put 2 none :: tb
abbrev b_Mod_putRead : ByteArray := prog_8_method_10_code
abbrev y_Mod_putRead : MethodName := ⟨"BinnedReadsModel", "putRead", "(I)V"⟩
abbrev w_Mod_putRead : List Cond := Cond.code y_Mod_putRead b_Mod_putRead 5 none :: tb
abbrev b_Mod_store : ByteArray := prog_8_method_11_code
abbrev y_Mod_store : MethodName := ⟨"BinnedReadsModel", "store", "(I)V"⟩
abbrev w_Mod_store : List Cond := Cond.code y_Mod_store b_Mod_store 2 none :: tb
abbrev b_Mod_storeBlock : ByteArray := prog_8_method_12_code
abbrev y_Mod_storeBlock : MethodName := ⟨"BinnedReadsModel", "storeBlock", "(II)V"⟩
abbrev w_Mod_storeBlock : List Cond := Cond.code y_Mod_storeBlock b_Mod_storeBlock 7 none :: tb
abbrev b_Mod_finish : ByteArray := prog_8_method_13_code
abbrev y_Mod_finish : MethodName := ⟨"BinnedReadsModel", "finish", "()I"⟩
abbrev w_Mod_finish : List Cond := Cond.code y_Mod_finish b_Mod_finish 2 (some .int) :: tb
abbrev b_Mod_clear : ByteArray := prog_8_method_14_code
abbrev y_Mod_clear : MethodName := ⟨"BinnedReadsModel", "clear", "()V"⟩
abbrev w_Mod_clear : List Cond := Cond.code y_Mod_clear b_Mod_clear 1 none :: tb
abbrev b_Mod_turn : ByteArray := prog_8_method_15_code
abbrev y_Mod_turn : MethodName := ⟨"BinnedReadsModel", "turn", "(II)Z"⟩
abbrev w_Mod_turn : List Cond := Cond.code y_Mod_turn b_Mod_turn 3 (some .boolean) :: tb
abbrev b_Mod_byteAt : ByteArray := prog_8_method_16_code
abbrev y_Mod_byteAt : MethodName := ⟨"BinnedReadsModel", "byteAt", "(I)I"⟩
abbrev w_Mod_byteAt : List Cond := Cond.code y_Mod_byteAt b_Mod_byteAt 2 (some .int) :: tb
abbrev b_Mod_check : ByteArray := prog_8_method_17_code
abbrev y_Mod_check : MethodName := ⟨"BinnedReadsModel", "check", "()I"⟩
abbrev w_Mod_check : List Cond := Cond.code y_Mod_check b_Mod_check 1 (some .int) :: tb
abbrev b_Mod_touches : ByteArray := prog_8_method_18_code
abbrev y_Mod_touches : MethodName := ⟨"BinnedReadsModel", "touches", "(III)Z"⟩
abbrev w_Mod_touches : List Cond := Cond.code y_Mod_touches b_Mod_touches 5 (some .boolean) :: tb
abbrev b_Mod_hurt : ByteArray := prog_8_method_19_code
abbrev y_Mod_hurt : MethodName := ⟨"BinnedReadsModel", "hurt", "(I)Z"⟩
abbrev w_Mod_hurt : List Cond := Cond.code y_Mod_hurt b_Mod_hurt 3 (some .boolean) :: tb
abbrev b_Mod_firstBehind : ByteArray := prog_8_method_20_code
abbrev y_Mod_firstBehind : MethodName := ⟨"BinnedReadsModel", "firstBehind", "(II)I"⟩
abbrev w_Mod_firstBehind : List Cond := Cond.code y_Mod_firstBehind b_Mod_firstBehind 4 (some .int) :: tb
abbrev b_Mod_query : ByteArray := prog_8_method_21_code
abbrev y_Mod_query : MethodName := ⟨"BinnedReadsModel", "query", "(III)I"⟩
abbrev w_Mod_query : List Cond := Cond.code y_Mod_query b_Mod_query 8 (some .int) :: tb
abbrev b_Mod_looked : ByteArray := prog_8_method_22_code
abbrev y_Mod_looked : MethodName := ⟨"BinnedReadsModel", "looked", "()I"⟩
abbrev w_Mod_looked : List Cond := Cond.code y_Mod_looked b_Mod_looked 1 (some .int) :: tb
abbrev b_Mod_found : ByteArray := prog_8_method_23_code
abbrev y_Mod_found : MethodName := ⟨"BinnedReadsModel", "found", "(II)I"⟩
abbrev w_Mod_found : List Cond := Cond.code y_Mod_found b_Mod_found 4 (some .int) :: tb
abbrev b_Mod_foundOp : ByteArray := prog_8_method_24_code
abbrev y_Mod_foundOp : MethodName := ⟨"BinnedReadsModel", "foundOp", "(II)I"⟩
abbrev w_Mod_foundOp : List Cond := Cond.code y_Mod_foundOp b_Mod_foundOp 3 (some .int) :: tb
abbrev b_Mod_foundBase : ByteArray := prog_8_method_25_code
abbrev y_Mod_foundBase : MethodName := ⟨"BinnedReadsModel", "foundBase", "(II)I"⟩
abbrev w_Mod_foundBase : List Cond := Cond.code y_Mod_foundBase b_Mod_foundBase 3 (some .int) :: tb
abbrev b_Law_law : ByteArray := code
abbrev y_Law_law : MethodName := ⟨"BinnedReadsLaw", "law", "([I)Z"⟩
